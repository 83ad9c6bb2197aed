abbrev rm9_set : Room := { frames := 1, cells := 0, slots := 0, locals := 22 }
def s9_set_139 (n : Nat) (x1 : Int32) (x3 : Int32) (q0 : Nat) (M : Mem) : Option Res := if inB x1 (alen q0) then ilet (M q0 x1.toNatClampNeg) (fun v7 => if inB x1 (alen q0) then mlet (mset M q0 x1.toNatClampNeg x3) (fun M8 => some (v7, M8)) else none) else none
set_option maxRecDepth 100000 in
set_option maxHeartbeats 4000000 in
theorem b9_set_139 {w : WE} {g : GT} (C : CT w g RX9 cX9_set rm9_set 7) (RT : RTi w g cX9_set .int) (n : Nat) (x1 : Int32) (x3 : Int32) (q0 : Nat) (hq0 : typ q0 = 11) (M : Mem) : J w g (s9_set_139 n x1 x3 q0 M) M 139 [(1, .int x1), (3, .int x3)] [.ref (wa w q0)] := by
  rw [s9_set_139]
  refine J_astore (lv' := [(5, .ref (wa w q0)), (1, .int x1), (3, .int x3)]) C dX9_set_139 (by decide) rfl ?_
  refine J_aload C dX9_set_141 0 rfl ?_
  refine J_iload_n C dX9_set_143 rfl 1 rfl ?_
  refine J_aload_ C hq0 dX9_set_144 ?_
  refine J_ilet (fun v7 => ?_)
  refine J_istore (lv' := [(6, .int v7), (5, .ref (wa w q0)), (1, .int x1), (3, .int x3)]) C dX9_set_145 (by decide) rfl ?_
  refine J_aload C dX9_set_147 1 rfl ?_
  refine J_iload_n C dX9_set_149 rfl 2 rfl ?_
  refine J_iload_n C dX9_set_150 rfl 3 rfl ?_
  refine J_iastore C hq0 dX9_set_151 ?_
  refine J_mlet (fun M8 => ?_)
  refine J_iload C dX9_set_152 0 rfl ?_
  exact J_iret C RT rfl dX9_set_154
def s9_set_62 (n : Nat) (o0 : Nat) (x1 : Int32) (x2 : Int32) (x3 : Int32) (t0 : Int32) (M : Mem) : Option Res := if t0 = 0 then (if x2 = 0 then (s9_set_139 n x1 x3 (link o0 6) M) else (if x2 = (1 : Int32) then (s9_set_139 n x1 x3 (link o0 7) M) else (if x2 = (2 : Int32) then (s9_set_139 n x1 x3 (link o0 8) M) else (if x2 = (3 : Int32) then (s9_set_139 n x1 x3 (link o0 9) M) else (if x2 = (4 : Int32) then (s9_set_139 n x1 x3 (link o0 10) M) else (s9_set_139 n x1 x3 (link o0 5) M)))))) else (cb (s9_no o0 t0 M) (fun r10 M9 => some (r10, M9)))
set_option maxRecDepth 100000 in
set_option maxHeartbeats 4000000 in
theorem b9_set_62 {w : WE} {g : GT} (C : CT w g RX9 cX9_set rm9_set 7) (RT : RTi w g cX9_set .int) (n : Nat) (o0 : Nat) (h0 : typ o0 = 9) (x1 : Int32) (x2 : Int32) (x3 : Int32) (t0 : Int32) (M : Mem) : J w g (s9_set_62 n o0 x1 x2 x3 t0 M) M 62 [(0, .ref (wa w o0)), (1, .int x1), (2, .int x2), (3, .int x3)] [.int t0] := by
  rw [s9_set_62]
  refine J_istore (lv' := [(4, .int t0), (0, .ref (wa w o0)), (1, .int x1), (2, .int x2), (3, .int x3)]) C dX9_set_62 (by decide) rfl ?_
  refine J_iload C dX9_set_64 0 rfl ?_
  refine J_if_eq (tgt := 76) C dX9_set_66 (by decide) (fun _ => ?_) (fun _ => ?_)
  · refine J_iload_n C dX9_set_76 rfl 3 rfl ?_
    refine J_if_ne (tgt := 87) C dX9_set_77 (by decide) (fun _ => ?_) (fun _ => ?_)
    · refine J_iload_n C dX9_set_87 rfl 3 rfl ?_
      refine J_iconst C dX9_set_88 kci_1 ?_
      refine J_icmp_ne (tgt := 99) C dX9_set_89 (by decide) (fun _ => ?_) (fun _ => ?_)
      · refine J_iload_n C dX9_set_99 rfl 3 rfl ?_
        refine J_iconst C dX9_set_100 kci_2 ?_
        refine J_icmp_ne (tgt := 111) C dX9_set_101 (by decide) (fun _ => ?_) (fun _ => ?_)
        · refine J_iload_n C dX9_set_111 rfl 3 rfl ?_
          refine J_iconst C dX9_set_112 kci_3 ?_
          refine J_icmp_ne (tgt := 123) C dX9_set_113 (by decide) (fun _ => ?_) (fun _ => ?_)
          · refine J_iload_n C dX9_set_123 rfl 3 rfl ?_
            refine J_iconst C dX9_set_124 kci_4 ?_
            refine J_icmp_ne (tgt := 135) C dX9_set_125 (by decide) (fun _ => ?_) (fun _ => ?_)
            · refine J_aload_n C dX9_set_135 rfl 1 rfl ?_
              refine J_getr C fk9_5 W4_182 h0 dX9_set_136 ?_
              refine J_lv [2, 4] rfl ?_
              exact b9_set_139 C RT n x1 x3 (link o0 5) (tl_9_5 h0) M
            · refine J_aload_n C dX9_set_128 rfl 1 rfl ?_
              refine J_getr C fk9_10 W4_187 h0 dX9_set_129 ?_
              refine J_goto (tgt := 139) C dX9_set_132 (by decide) ?_
              refine J_lv [2, 4] rfl ?_
              exact b9_set_139 C RT n x1 x3 (link o0 10) (tl_9_10 h0) M
          · refine J_aload_n C dX9_set_116 rfl 1 rfl ?_
            refine J_getr C fk9_9 W4_186 h0 dX9_set_117 ?_
            refine J_goto (tgt := 139) C dX9_set_120 (by decide) ?_
            refine J_lv [2, 4] rfl ?_
            exact b9_set_139 C RT n x1 x3 (link o0 9) (tl_9_9 h0) M
        · refine J_aload_n C dX9_set_104 rfl 1 rfl ?_
          refine J_getr C fk9_8 W4_185 h0 dX9_set_105 ?_
          refine J_goto (tgt := 139) C dX9_set_108 (by decide) ?_
          refine J_lv [2, 4] rfl ?_
          exact b9_set_139 C RT n x1 x3 (link o0 8) (tl_9_8 h0) M
      · refine J_aload_n C dX9_set_92 rfl 1 rfl ?_
        refine J_getr C fk9_7 W4_184 h0 dX9_set_93 ?_
        refine J_goto (tgt := 139) C dX9_set_96 (by decide) ?_
        refine J_lv [2, 4] rfl ?_
        exact b9_set_139 C RT n x1 x3 (link o0 7) (tl_9_7 h0) M
    · refine J_aload_n C dX9_set_80 rfl 1 rfl ?_
      refine J_getr C fk9_6 W4_183 h0 dX9_set_81 ?_
      refine J_goto (tgt := 139) C dX9_set_84 (by decide) ?_
      refine J_lv [2, 4] rfl ?_
      exact b9_set_139 C RT n x1 x3 (link o0 6) (tl_9_6 h0) M
  · refine J_aload_n C dX9_set_69 rfl 1 rfl ?_
    refine J_iload C dX9_set_70 0 rfl ?_
    refine J_cvi (As := [.int t0]) C (c9_no (gl g) w o0 h0 t0 M) (gd_v W5_78 W5_80 WP_26 W1_10 W5_81) rfl (by decide) (hdX9_no) h0 (by decide) (cl_9) rfl (Nat.le_of_ble_eq_true rfl) dX9_set_72 rfl (fun r10 M9 => ?_)
    exact J_iret C RT rfl dX9_set_75
def s9_set_59 (n : Nat) (o0 : Nat) (x1 : Int32) (x2 : Int32) (x3 : Int32) (t0 : Int32) (t1 : Int32) (t2 : Int32) (M : Mem) : Option Res := cb (s9_bound t2 t1 t0 M) (fun r6 M5 => s9_set_62 n o0 x1 x2 x3 r6 M5)
set_option maxRecDepth 100000 in
set_option maxHeartbeats 4000000 in
theorem b9_set_59 {w : WE} {g : GT} (C : CT w g RX9 cX9_set rm9_set 7) (RT : RTi w g cX9_set .int) (n : Nat) (o0 : Nat) (h0 : typ o0 = 9) (x1 : Int32) (x2 : Int32) (x3 : Int32) (t0 : Int32) (t1 : Int32) (t2 : Int32) (M : Mem) : J w g (s9_set_59 n o0 x1 x2 x3 t0 t1 t2 M) M 59 [(0, .ref (wa w o0)), (1, .int x1), (2, .int x2), (3, .int x3)] [.int t0, .int t1, .int t2] := by
  rw [s9_set_59]
  refine J_csi (As := [.int t2, .int t1, .int t0]) (dm := 0) C (c9_bound (gl g) w t2 t1 t0 M) (gd_s W5_97 W5_98 W1_10 W5_99) rfl (by decide) (hdX9_bound.2) rfl (Nat.le_of_ble_eq_true rfl) dX9_set_59 rfl (fun r6 M5 => ?_)
  exact b9_set_62 C RT n o0 h0 x1 x2 x3 r6 M5
def s9_set (n : Nat) (o0 : Nat) (x1 : Int32) (x2 : Int32) (x3 : Int32) (M : Mem) : Option Res := cb (s9_isWalker o0 x1 M) (fun r2 M1 => if r2 = 0 then (cb (s9_no o0 (-1 : Int32) M1) (fun r16 M15 => some (r16, M15))) else (cb (s9_isIn x2 (0 : Int32) (5 : Int32) M1) (fun r4 M3 => if r4 = 0 then (cb (s9_no o0 (-2 : Int32) M3) (fun r14 M13 => some (r14, M13))) else (if (2 : Int32) ≤ x2 then (if x2 = (5 : Int32) then (s9_set_59 n o0 x1 x2 x3 (6 : Int32) (0 : Int32) x3 M3) else (s9_set_59 n o0 x1 x2 x3 (9 : Int32) (0 : Int32) x3 M3)) else (cb (s9_bound x3 (1 : Int32) (99 : Int32) M3) (fun r12 M11 => s9_set_62 n o0 x1 x2 x3 r12 M11))))))
set_option maxRecDepth 100000 in
set_option maxHeartbeats 4000000 in
theorem b9_set {w : WE} {g : GT} (C : CT w g RX9 cX9_set rm9_set 7) (RT : RTi w g cX9_set .int) (n : Nat) (o0 : Nat) (h0 : typ o0 = 9) (x1 : Int32) (x2 : Int32) (x3 : Int32) (M : Mem) : J w g (s9_set n o0 x1 x2 x3 M) M 0 [(0, .ref (wa w o0)), (1, .int x1), (2, .int x2), (3, .int x3)] [] := by
  rw [s9_set]
  refine J_aload_n C dX9_set_0 rfl 0 rfl ?_
  refine J_iload_n C dX9_set_1 rfl 1 rfl ?_
  refine J_cvi (As := [.int x1]) C (c9_isWalker (gl g) w o0 h0 x1 M) (gd_v W5_112 W5_114 WP_31 W1_10 W5_115) rfl (by decide) (hdX9_isWalker) h0 (by decide) (cl_9) rfl (Nat.le_of_ble_eq_true rfl) dX9_set_2 rfl (fun r2 M1 => ?_)
  refine J_if_ne (tgt := 14) C dX9_set_5 (by decide) (fun _ => ?_) (fun _ => ?_)
  · refine J_iload_n C dX9_set_14 rfl 2 rfl ?_
    refine J_iconst C dX9_set_15 kci_0 ?_
    refine J_iconst C dX9_set_16 kci_5 ?_
    refine J_csi (As := [.int x2, .int (0 : Int32), .int (5 : Int32)]) (dm := 0) C (c9_isIn (gl g) w x2 (0 : Int32) (5 : Int32) M1) (gd_s W5_94 W5_95 W1_10 W5_96) rfl (by decide) (hdX9_isIn.2) rfl (Nat.le_of_ble_eq_true rfl) dX9_set_17 rfl (fun r4 M3 => ?_)
    refine J_if_ne (tgt := 30) C dX9_set_20 (by decide) (fun _ => ?_) (fun _ => ?_)
    · refine J_iload_n C dX9_set_30 rfl 2 rfl ?_
      refine J_iconst C dX9_set_31 kci_2 ?_
      refine J_icmp_ge (tgt := 45) C dX9_set_32 (by decide) (fun _ => ?_) (fun _ => ?_)
      · refine J_iload_n C dX9_set_45 rfl 3 rfl ?_
        refine J_iconst C dX9_set_46 kci_0 ?_
        refine J_iload_n C dX9_set_47 rfl 2 rfl ?_
        refine J_iconst C dX9_set_48 kci_5 ?_
        refine J_icmp_ne (tgt := 57) C dX9_set_49 (by decide) (fun _ => ?_) (fun _ => ?_)
        · refine J_bipush C dX9_set_57 kcb_9 ?_
          exact b9_set_59 C RT n o0 h0 x1 x2 x3 (9 : Int32) (0 : Int32) x3 M3
        · refine J_bipush C dX9_set_52 kcb_6 ?_
          refine J_goto (tgt := 59) C dX9_set_54 (by decide) ?_
          exact b9_set_59 C RT n o0 h0 x1 x2 x3 (6 : Int32) (0 : Int32) x3 M3
      · refine J_iload_n C dX9_set_35 rfl 3 rfl ?_
        refine J_iconst C dX9_set_36 kci_1 ?_
        refine J_bipush C dX9_set_37 kcb_99 ?_
        refine J_csi (As := [.int x3, .int (1 : Int32), .int (99 : Int32)]) (dm := 0) C (c9_bound (gl g) w x3 (1 : Int32) (99 : Int32) M3) (gd_s W5_97 W5_98 W1_10 W5_99) rfl (by decide) (hdX9_bound.2) rfl (Nat.le_of_ble_eq_true rfl) dX9_set_39 rfl (fun r12 M11 => ?_)
        refine J_goto (tgt := 62) C dX9_set_42 (by decide) ?_
        exact b9_set_62 C RT n o0 h0 x1 x2 x3 r12 M11
    · refine J_aload_n C dX9_set_23 rfl 0 rfl ?_
      refine J_bipush C dX9_set_24 kcb_m2 ?_
      refine J_cvi (As := [.int (-2 : Int32)]) C (c9_no (gl g) w o0 h0 (-2 : Int32) M3) (gd_v W5_78 W5_80 WP_26 W1_10 W5_81) rfl (by decide) (hdX9_no) h0 (by decide) (cl_9) rfl (Nat.le_of_ble_eq_true rfl) dX9_set_26 rfl (fun r14 M13 => ?_)
      exact J_iret C RT rfl dX9_set_29
  · refine J_aload_n C dX9_set_8 rfl 0 rfl ?_
    refine J_iconst C dX9_set_9 kci_m1 ?_
    refine J_cvi (As := [.int (-1 : Int32)]) C (c9_no (gl g) w o0 h0 (-1 : Int32) M1) (gd_v W5_78 W5_80 WP_26 W1_10 W5_81) rfl (by decide) (hdX9_no) h0 (by decide) (cl_9) rfl (Nat.le_of_ble_eq_true rfl) dX9_set_10 rfl (fun r16 M15 => ?_)
    exact J_iret C RT rfl dX9_set_13
theorem c9_set (l : Launch) (w : WE) (n : Nat) (o0 : Nat) (h0 : typ o0 = 9) (x1 : Int32) (x2 : Int32) (x3 : Int32) (M : Mem) : MC l w yX9_set (wz yX9_set cX9_set 7 (some .int)) rm9_set [.ref (wa w o0), .int x1, .int x2, .int x3] (s9_set n o0 x1 x2 x3 M) M :=
  mc_of_J (own := RX9) rfl (by decide) rfl rfl (Nat.le_of_ble_eq_true rfl) (fun _ _ C RT => b9_set C RT n o0 h0 x1 x2 x3 M)
theorem hdX9_set : yX9_set.cls = RX9 ∧ yOK yX9_set 3 := ⟨rfl, by decide, by decide, by decide⟩
abbrev rm9_player : Room := { frames := 1, cells := 0, slots := 0, locals := 22 }
def s9_player (o0 : Nat) (x1 : Int32) (x2 : Int32) (M : Mem) : Option Res := cb (s9_isIn x1 (0 : Int32) (4 : Int32) M) (fun r2 M1 => if r2 = 0 then (cb (s9_no o0 (-1 : Int32) M1) (fun r11 M10 => some (r11, M10))) else (cb (s9_bound x2 (1 : Int32) (99 : Int32) M1) (fun r4 M3 => if r4 = 0 then (ilet (M3 o0 13) (fun v5 => mlet (mset M3 o0 13 x1) (fun M6 => mlet (mset M6 o0 14 x2) (fun M7 => some (v5, M7))))) else (cb (s9_no o0 r4 M3) (fun r9 M8 => some (r9, M8))))))
set_option maxRecDepth 100000 in
set_option maxHeartbeats 4000000 in
theorem b9_player {w : WE} {g : GT} (C : CT w g RX9 cX9_player rm9_player 5) (RT : RTi w g cX9_player .int) (o0 : Nat) (h0 : typ o0 = 9) (x1 : Int32) (x2 : Int32) (M : Mem) : J w g (s9_player o0 x1 x2 M) M 0 [(0, .ref (wa w o0)), (1, .int x1), (2, .int x2)] [] := by
  rw [s9_player]
  refine J_iload_n C dX9_player_0 rfl 1 rfl ?_
  refine J_iconst C dX9_player_1 kci_0 ?_
  refine J_iconst C dX9_player_2 kci_4 ?_
  refine J_csi (As := [.int x1, .int (0 : Int32), .int (4 : Int32)]) (dm := 0) C (c9_isIn (gl g) w x1 (0 : Int32) (4 : Int32) M) (gd_s W5_94 W5_95 W1_10 W5_96) rfl (by decide) (hdX9_isIn.2) rfl (Nat.le_of_ble_eq_true rfl) dX9_player_3 rfl (fun r2 M1 => ?_)
  refine J_if_ne (tgt := 15) C dX9_player_6 (by decide) (fun _ => ?_) (fun _ => ?_)
  · refine J_iload_n C dX9_player_15 rfl 2 rfl ?_
    refine J_iconst C dX9_player_16 kci_1 ?_
    refine J_bipush C dX9_player_17 kcb_99 ?_
    refine J_csi (As := [.int x2, .int (1 : Int32), .int (99 : Int32)]) (dm := 0) C (c9_bound (gl g) w x2 (1 : Int32) (99 : Int32) M1) (gd_s W5_97 W5_98 W1_10 W5_99) rfl (by decide) (hdX9_bound.2) rfl (Nat.le_of_ble_eq_true rfl) dX9_player_19 rfl (fun r4 M3 => ?_)
    refine J_istore_n (lv' := [(3, .int r4), (0, .ref (wa w o0)), (1, .int x1), (2, .int x2)]) C dX9_player_22 rfl (by decide) rfl ?_
    refine J_iload_n C dX9_player_23 rfl 0 rfl ?_
    refine J_if_eq (tgt := 33) C dX9_player_24 (by decide) (fun _ => ?_) (fun _ => ?_)
    · refine J_aload_n C dX9_player_33 rfl 1 rfl ?_
      refine J_geti C fk9_13 W4_190 h0 dX9_player_34 ?_
      refine J_ilet (fun v5 => ?_)
      refine J_istore (lv' := [(4, .int v5), (3, .int r4), (0, .ref (wa w o0)), (1, .int x1), (2, .int x2)]) C dX9_player_37 (by decide) rfl ?_
      refine J_aload_n C dX9_player_39 rfl 2 rfl ?_
      refine J_iload_n C dX9_player_40 rfl 3 rfl ?_
      refine J_puti C fk9_13 W4_190 fp9_13 h0 dX9_player_41 ?_
      refine J_mlet (fun M6 => ?_)
      refine J_aload_n C dX9_player_44 rfl 2 rfl ?_
      refine J_iload_n C dX9_player_45 rfl 4 rfl ?_
      refine J_puti C fk9_14 W4_191 fp9_14 h0 dX9_player_46 ?_
      refine J_mlet (fun M7 => ?_)
      refine J_iload C dX9_player_49 0 rfl ?_
      exact J_iret C RT rfl dX9_player_51
    · refine J_aload_n C dX9_player_27 rfl 1 rfl ?_
      refine J_iload_n C dX9_player_28 rfl 0 rfl ?_
      refine J_cvi (As := [.int r4]) C (c9_no (gl g) w o0 h0 r4 M3) (gd_v W5_78 W5_80 WP_26 W1_10 W5_81) rfl (by decide) (hdX9_no) h0 (by decide) (cl_9) rfl (Nat.le_of_ble_eq_true rfl) dX9_player_29 rfl (fun r9 M8 => ?_)
      exact J_iret C RT rfl dX9_player_32
  · refine J_aload_n C dX9_player_9 rfl 0 rfl ?_
    refine J_iconst C dX9_player_10 kci_m1 ?_
    refine J_cvi (As := [.int (-1 : Int32)]) C (c9_no (gl g) w o0 h0 (-1 : Int32) M1) (gd_v W5_78 W5_80 WP_26 W1_10 W5_81) rfl (by decide) (hdX9_no) h0 (by decide) (cl_9) rfl (Nat.le_of_ble_eq_true rfl) dX9_player_11 rfl (fun r11 M10 => ?_)
    exact J_iret C RT rfl dX9_player_14
theorem c9_player (l : Launch) (w : WE) (o0 : Nat) (h0 : typ o0 = 9) (x1 : Int32) (x2 : Int32) (M : Mem) : MC l w yX9_player (wz yX9_player cX9_player 5 (some .int)) rm9_player [.ref (wa w o0), .int x1, .int x2] (s9_player o0 x1 x2 M) M :=
  mc_of_J (own := RX9) rfl (by decide) rfl rfl (Nat.le_of_ble_eq_true rfl) (fun _ _ C RT => b9_player C RT o0 h0 x1 x2 M)
theorem hdX9_player : yX9_player.cls = RX9 ∧ yOK yX9_player 2 := ⟨rfl, by decide, by decide, by decide⟩
abbrev rm9_form : Room := { frames := 1, cells := 0, slots := 0, locals := 22 }
def s9_form (o0 : Nat) (x1 : Int32) (M : Mem) : Option Res := cb (s9_bound x1 (0 : Int32) (2 : Int32) M) (fun r2 M1 => if r2 = 0 then (ilet (M1 o0 15) (fun v3 => mlet (mset M1 o0 15 x1) (fun M4 => some (v3, M4)))) else (cb (s9_no o0 r2 M1) (fun r6 M5 => some (r6, M5))))
set_option maxRecDepth 100000 in
set_option maxHeartbeats 4000000 in
theorem b9_form {w : WE} {g : GT} (C : CT w g RX9 cX9_form rm9_form 4) (RT : RTi w g cX9_form .int) (o0 : Nat) (h0 : typ o0 = 9) (x1 : Int32) (M : Mem) : J w g (s9_form o0 x1 M) M 0 [(0, .ref (wa w o0)), (1, .int x1)] [] := by
  rw [s9_form]
  refine J_iload_n C dX9_form_0 rfl 1 rfl ?_
  refine J_iconst C dX9_form_1 kci_0 ?_
  refine J_iconst C dX9_form_2 kci_2 ?_
  refine J_csi (As := [.int x1, .int (0 : Int32), .int (2 : Int32)]) (dm := 0) C (c9_bound (gl g) w x1 (0 : Int32) (2 : Int32) M) (gd_s W5_97 W5_98 W1_10 W5_99) rfl (by decide) (hdX9_bound.2) rfl (Nat.le_of_ble_eq_true rfl) dX9_form_3 rfl (fun r2 M1 => ?_)
  refine J_istore_n (lv' := [(2, .int r2), (0, .ref (wa w o0)), (1, .int x1)]) C dX9_form_6 rfl (by decide) rfl ?_
  refine J_iload_n C dX9_form_7 rfl 0 rfl ?_
  refine J_if_eq (tgt := 17) C dX9_form_8 (by decide) (fun _ => ?_) (fun _ => ?_)
  · refine J_aload_n C dX9_form_17 rfl 1 rfl ?_
    refine J_geti C fk9_15 W4_192 h0 dX9_form_18 ?_
    refine J_ilet (fun v3 => ?_)
    refine J_istore_n (lv' := [(3, .int v3), (2, .int r2), (0, .ref (wa w o0)), (1, .int x1)]) C dX9_form_21 rfl (by decide) rfl ?_
    refine J_aload_n C dX9_form_22 rfl 2 rfl ?_
    refine J_iload_n C dX9_form_23 rfl 3 rfl ?_
    refine J_puti C fk9_15 W4_192 fp9_15 h0 dX9_form_24 ?_
    refine J_mlet (fun M4 => ?_)
    refine J_iload_n C dX9_form_27 rfl 0 rfl ?_
    exact J_iret C RT rfl dX9_form_28
  · refine J_aload_n C dX9_form_11 rfl 1 rfl ?_
    refine J_iload_n C dX9_form_12 rfl 0 rfl ?_
    refine J_cvi (As := [.int r2]) C (c9_no (gl g) w o0 h0 r2 M1) (gd_v W5_78 W5_80 WP_26 W1_10 W5_81) rfl (by decide) (hdX9_no) h0 (by decide) (cl_9) rfl (Nat.le_of_ble_eq_true rfl) dX9_form_13 rfl (fun r6 M5 => ?_)
    exact J_iret C RT rfl dX9_form_16
theorem c9_form (l : Launch) (w : WE) (o0 : Nat) (h0 : typ o0 = 9) (x1 : Int32) (M : Mem) : MC l w yX9_form (wz yX9_form cX9_form 4 (some .int)) rm9_form [.ref (wa w o0), .int x1] (s9_form o0 x1 M) M :=
  mc_of_J (own := RX9) rfl (by decide) rfl rfl (Nat.le_of_ble_eq_true rfl) (fun _ _ C RT => b9_form C RT o0 h0 x1 M)
theorem hdX9_form : yX9_form.cls = RX9 ∧ yOK yX9_form 1 := ⟨rfl, by decide, by decide, by decide⟩
abbrev rm9_seed : Room := { frames := 0, cells := 0, slots := 0, locals := 0 }
def s9_seed (o0 : Nat) (x1 : Int32) (M : Mem) : Option Res := ilet (M o0 16) (fun v1 => mlet (mset M o0 16 x1) (fun M2 => some (v1, M2)))
set_option maxRecDepth 100000 in
set_option maxHeartbeats 4000000 in
theorem b9_seed {w : WE} {g : GT} (C : CT w g RX9 cX9_seed rm9_seed 3) (RT : RTi w g cX9_seed .int) (o0 : Nat) (h0 : typ o0 = 9) (x1 : Int32) (M : Mem) : J w g (s9_seed o0 x1 M) M 0 [(0, .ref (wa w o0)), (1, .int x1)] [] := by
  rw [s9_seed]
  refine J_aload_n C dX9_seed_0 rfl 0 rfl ?_
  refine J_geti C fk9_16 W4_193 h0 dX9_seed_1 ?_
  refine J_ilet (fun v1 => ?_)
  refine J_istore_n (lv' := [(2, .int v1), (0, .ref (wa w o0)), (1, .int x1)]) C dX9_seed_4 rfl (by decide) rfl ?_
  refine J_aload_n C dX9_seed_5 rfl 1 rfl ?_
  refine J_iload_n C dX9_seed_6 rfl 2 rfl ?_
  refine J_puti C fk9_16 W4_193 fp9_16 h0 dX9_seed_7 ?_
  refine J_mlet (fun M2 => ?_)
  refine J_iload_n C dX9_seed_10 rfl 0 rfl ?_
  exact J_iret C RT rfl dX9_seed_11
theorem c9_seed (l : Launch) (w : WE) (o0 : Nat) (h0 : typ o0 = 9) (x1 : Int32) (M : Mem) : MC l w yX9_seed (wz yX9_seed cX9_seed 3 (some .int)) rm9_seed [.ref (wa w o0), .int x1] (s9_seed o0 x1 M) M :=
  mc_of_J (own := RX9) rfl (by decide) rfl rfl (Nat.le_of_ble_eq_true rfl) (fun _ _ C RT => b9_seed C RT o0 h0 x1 M)
theorem hdX9_seed : yX9_seed.cls = RX9 ∧ yOK yX9_seed 1 := ⟨rfl, by decide, by decide, by decide⟩
abbrev rm9_of : Room := { frames := 1, cells := 0, slots := 0, locals := 21 }
def s9_of (o0 : Nat) (x1 : Int32) (x2 : Int32) (M : Mem) : Option Res := cb (s9_isWalker o0 x1 M) (fun r2 M1 => if r2 = 0 then (cb (s9_no o0 (-1 : Int32) M1) (fun r6 M5 => some (r6, M5))) else (if x2 = 0 then (if inB x1 (alen (link o0 2)) then some (M1 (link o0 2) x1.toNatClampNeg, M1) else none) else (if x2 = 1 then (if inB x1 (alen (link o0 3)) then some (M1 (link o0 3) x1.toNatClampNeg, M1) else none) else (if x2 = 2 then (if inB x1 (alen (link o0 4)) then some (M1 (link o0 4) x1.toNatClampNeg, M1) else none) else (if x2 = 3 then (if inB x1 (alen (link o0 5)) then some (M1 (link o0 5) x1.toNatClampNeg, M1) else none) else (if x2 = 4 then (if inB x1 (alen (link o0 6)) then some (M1 (link o0 6) x1.toNatClampNeg, M1) else none) else (if x2 = 5 then (if inB x1 (alen (link o0 7)) then some (M1 (link o0 7) x1.toNatClampNeg, M1) else none) else (cb (s9_no o0 (-2 : Int32) M1) (fun r4 M3 => some (r4, M3))))))))))
set_option maxRecDepth 100000 in
set_option maxHeartbeats 4000000 in
theorem b9_of {w : WE} {g : GT} (C : CT w g RX9 cX9_of rm9_of 3) (RT : RTi w g cX9_of .int) (o0 : Nat) (h0 : typ o0 = 9) (x1 : Int32) (x2 : Int32) (M : Mem) : J w g (s9_of o0 x1 x2 M) M 0 [(0, .ref (wa w o0)), (1, .int x1), (2, .int x2)] [] := by
  rw [s9_of]
  refine J_aload_n C dX9_of_0 rfl 0 rfl ?_
  refine J_iload_n C dX9_of_1 rfl 1 rfl ?_
  refine J_cvi (As := [.int x1]) C (c9_isWalker (gl g) w o0 h0 x1 M) (gd_v W5_112 W5_114 WP_31 W1_10 W5_115) rfl (by decide) (hdX9_isWalker) h0 (by decide) (cl_9) rfl (Nat.le_of_ble_eq_true rfl) dX9_of_2 rfl (fun r2 M1 => ?_)
  refine J_if_ne (tgt := 14) C dX9_of_5 (by decide) (fun _ => ?_) (fun _ => ?_)
  · refine J_iload_n C dX9_of_14 rfl 2 rfl ?_
    refine J_ite (fun hc0 => ?_) (fun hc0 => ?_)
    · refine J_tsin (tgt := 52) C dX9_of_15 (by rw [hc0]; decide) (by rw [hc0]; decide) (off := 37) (by rw [hc0]; rfl) (by decide) ?_
      refine J_aload_n C dX9_of_52 rfl 0 rfl ?_
      refine J_getr C fk9_2 W4_179 h0 dX9_of_53 ?_
      refine J_iload_n C dX9_of_56 rfl 1 rfl ?_
      refine J_aload_ C (tl_9_2 h0) dX9_of_57 ?_
      exact J_iret C RT rfl dX9_of_58
    · refine J_ite (fun hc1 => ?_) (fun hc1 => ?_)
      · refine J_tsin (tgt := 59) C dX9_of_15 (by rw [hc1]; decide) (by rw [hc1]; decide) (off := 44) (by rw [hc1]; rfl) (by decide) ?_
        refine J_aload_n C dX9_of_59 rfl 0 rfl ?_
        refine J_getr C fk9_3 W4_180 h0 dX9_of_60 ?_
        refine J_iload_n C dX9_of_63 rfl 1 rfl ?_
        refine J_aload_ C (tl_9_3 h0) dX9_of_64 ?_
        exact J_iret C RT rfl dX9_of_65
      · refine J_ite (fun hc2 => ?_) (fun hc2 => ?_)
        · refine J_tsin (tgt := 66) C dX9_of_15 (by rw [hc2]; decide) (by rw [hc2]; decide) (off := 51) (by rw [hc2]; rfl) (by decide) ?_
          refine J_aload_n C dX9_of_66 rfl 0 rfl ?_
          refine J_getr C fk9_4 W4_181 h0 dX9_of_67 ?_
          refine J_iload_n C dX9_of_70 rfl 1 rfl ?_
          refine J_aload_ C (tl_9_4 h0) dX9_of_71 ?_
          exact J_iret C RT rfl dX9_of_72
        · refine J_ite (fun hc3 => ?_) (fun hc3 => ?_)
          · refine J_tsin (tgt := 73) C dX9_of_15 (by rw [hc3]; decide) (by rw [hc3]; decide) (off := 58) (by rw [hc3]; rfl) (by decide) ?_
            refine J_aload_n C dX9_of_73 rfl 0 rfl ?_
            refine J_getr C fk9_5 W4_182 h0 dX9_of_74 ?_
            refine J_iload_n C dX9_of_77 rfl 1 rfl ?_
            refine J_aload_ C (tl_9_5 h0) dX9_of_78 ?_
            exact J_iret C RT rfl dX9_of_79
          · refine J_ite (fun hc4 => ?_) (fun hc4 => ?_)
            · refine J_tsin (tgt := 80) C dX9_of_15 (by rw [hc4]; decide) (by rw [hc4]; decide) (off := 65) (by rw [hc4]; rfl) (by decide) ?_
              refine J_aload_n C dX9_of_80 rfl 0 rfl ?_
              refine J_getr C fk9_6 W4_183 h0 dX9_of_81 ?_
              refine J_iload_n C dX9_of_84 rfl 1 rfl ?_
              refine J_aload_ C (tl_9_6 h0) dX9_of_85 ?_
              exact J_iret C RT rfl dX9_of_86
            · refine J_ite (fun hc5 => ?_) (fun hc5 => ?_)
              · refine J_tsin (tgt := 87) C dX9_of_15 (by rw [hc5]; decide) (by rw [hc5]; decide) (off := 72) (by rw [hc5]; rfl) (by decide) ?_
                refine J_aload_n C dX9_of_87 rfl 0 rfl ?_
                refine J_getr C fk9_7 W4_184 h0 dX9_of_88 ?_
                refine J_iload_n C dX9_of_91 rfl 1 rfl ?_
                refine J_aload_ C (tl_9_7 h0) dX9_of_92 ?_
                exact J_iret C RT rfl dX9_of_93
              · refine J_tsout (tgt := 94) C dX9_of_15 (by have q0 := lv_neT hc0 (a := 0) rfl; have q1 := lv_neT hc1 (a := 1) rfl; have q2 := lv_neT hc2 (a := 2) rfl; have q3 := lv_neT hc3 (a := 3) rfl; have q4 := lv_neT hc4 (a := 4) rfl; have q5 := lv_neT hc5 (a := 5) rfl; omega) (by decide) ?_
                refine J_aload_n C dX9_of_94 rfl 0 rfl ?_
                refine J_bipush C dX9_of_95 kcb_m2 ?_
                refine J_cvi (As := [.int (-2 : Int32)]) C (c9_no (gl g) w o0 h0 (-2 : Int32) M1) (gd_v W5_78 W5_80 WP_26 W1_10 W5_81) rfl (by decide) (hdX9_no) h0 (by decide) (cl_9) rfl (Nat.le_of_ble_eq_true rfl) dX9_of_97 rfl (fun r4 M3 => ?_)
                exact J_iret C RT rfl dX9_of_100
  · refine J_aload_n C dX9_of_8 rfl 0 rfl ?_
    refine J_iconst C dX9_of_9 kci_m1 ?_
    refine J_cvi (As := [.int (-1 : Int32)]) C (c9_no (gl g) w o0 h0 (-1 : Int32) M1) (gd_v W5_78 W5_80 WP_26 W1_10 W5_81) rfl (by decide) (hdX9_no) h0 (by decide) (cl_9) rfl (Nat.le_of_ble_eq_true rfl) dX9_of_10 rfl (fun r6 M5 => ?_)
    exact J_iret C RT rfl dX9_of_13
theorem c9_of (l : Launch) (w : WE) (o0 : Nat) (h0 : typ o0 = 9) (x1 : Int32) (x2 : Int32) (M : Mem) : MC l w yX9_of (wz yX9_of cX9_of 3 (some .int)) rm9_of [.ref (wa w o0), .int x1, .int x2] (s9_of o0 x1 x2 M) M :=
  mc_of_J (own := RX9) rfl (by decide) rfl rfl (Nat.le_of_ble_eq_true rfl) (fun _ _ C RT => b9_of C RT o0 h0 x1 x2 M)
theorem hdX9_of : yX9_of.cls = RX9 ∧ yOK yX9_of 2 := ⟨rfl, by decide, by decide, by decide⟩
abbrev rm9_has : Room := { frames := 1, cells := 0, slots := 0, locals := 21 }
def s9_has (o0 : Nat) (x1 : Int32) (M : Mem) : Option Res := cb (s9_isPlace o0 x1 M) (fun r2 M1 => if r2 = 0 then (cb (s9_no o0 (-1 : Int32) M1) (fun r4 M3 => some (r4, M3))) else (if inB x1 (alen (link o0 1)) then some (M1 (link o0 1) x1.toNatClampNeg, M1) else none))
set_option maxRecDepth 100000 in
set_option maxHeartbeats 4000000 in
theorem b9_has {w : WE} {g : GT} (C : CT w g RX9 cX9_has rm9_has 2) (RT : RTi w g cX9_has .int) (o0 : Nat) (h0 : typ o0 = 9) (x1 : Int32) (M : Mem) : J w g (s9_has o0 x1 M) M 0 [(0, .ref (wa w o0)), (1, .int x1)] [] := by
  rw [s9_has]
  refine J_aload_n C dX9_has_0 rfl 0 rfl ?_
  refine J_iload_n C dX9_has_1 rfl 1 rfl ?_
  refine J_cvi (As := [.int x1]) C (c9_isPlace (gl g) w o0 h0 x1 M) (gd_v W5_74 W5_76 WP_25 W1_10 W5_77) rfl (by decide) (hdX9_isPlace) h0 (by decide) (cl_9) rfl (Nat.le_of_ble_eq_true rfl) dX9_has_2 rfl (fun r2 M1 => ?_)
  refine J_if_eq (tgt := 17) C dX9_has_5 (by decide) (fun _ => ?_) (fun _ => ?_)
  · refine J_aload_n C dX9_has_17 rfl 0 rfl ?_
    refine J_iconst C dX9_has_18 kci_m1 ?_
    refine J_cvi (As := [.int (-1 : Int32)]) C (c9_no (gl g) w o0 h0 (-1 : Int32) M1) (gd_v W5_78 W5_80 WP_26 W1_10 W5_81) rfl (by decide) (hdX9_no) h0 (by decide) (cl_9) rfl (Nat.le_of_ble_eq_true rfl) dX9_has_19 rfl (fun r4 M3 => ?_)
    exact J_iret C RT rfl dX9_has_22
  · refine J_aload_n C dX9_has_8 rfl 0 rfl ?_
    refine J_getr C fk9_1 W4_178 h0 dX9_has_9 ?_
    refine J_iload_n C dX9_has_12 rfl 1 rfl ?_
    refine J_aload_ C (tl_9_1 h0) dX9_has_13 ?_
    refine J_goto (tgt := 22) C dX9_has_14 (by decide) ?_
    exact J_iret C RT rfl dX9_has_22
theorem c9_has (l : Launch) (w : WE) (o0 : Nat) (h0 : typ o0 = 9) (x1 : Int32) (M : Mem) : MC l w yX9_has (wz yX9_has cX9_has 2 (some .int)) rm9_has [.ref (wa w o0), .int x1] (s9_has o0 x1 M) M :=
  mc_of_J (own := RX9) rfl (by decide) rfl rfl (Nat.le_of_ble_eq_true rfl) (fun _ _ C RT => b9_has C RT o0 h0 x1 M)
theorem hdX9_has : yX9_has.cls = RX9 ∧ yOK yX9_has 1 := ⟨rfl, by decide, by decide, by decide⟩
abbrev rm9_hasteOf : Room := { frames := 1, cells := 0, slots := 0, locals := 23 }
def s9_hasteOf_160 (n : Nat) (x4 : Int32) (M : Mem) : Option Res := if 0 ≤ x4 then (some (x4, M)) else (some ((0 : Int32), M))
set_option maxRecDepth 100000 in
set_option maxHeartbeats 4000000 in
theorem b9_hasteOf_160 {w : WE} {g : GT} (C : CT w g RX9 cX9_hasteOf rm9_hasteOf 5) (RT : RTi w g cX9_hasteOf .int) (n : Nat) (x4 : Int32) (M : Mem) : J w g (s9_hasteOf_160 n x4 M) M 160 [(4, .int x4)] [] := by
  rw [s9_hasteOf_160]
  refine J_iload C dX9_hasteOf_160 0 rfl ?_
  refine J_if_ge (tgt := 169) C dX9_hasteOf_162 (by decide) (fun _ => ?_) (fun _ => ?_)
  · refine J_iload C dX9_hasteOf_169 0 rfl ?_
    exact J_iret C RT rfl dX9_hasteOf_171
  · refine J_iconst C dX9_hasteOf_165 kci_0 ?_
    refine J_goto (tgt := 171) C dX9_hasteOf_166 (by decide) ?_
    exact J_iret C RT rfl dX9_hasteOf_171
def s9_hasteOf (n : Nat) (o0 : Nat) (x1 : Int32) (x2 : Int32) (M : Mem) : Option Res := if inB x1 (alen (link o0 2)) then cb (s9_far n o0 (M (link o0 2) x1.toNatClampNeg) x2 M) (fun r2 M1 => if inB x1 (alen (link o0 6)) then if (M1 (link o0 6) x1.toNatClampNeg) = 0 then none else ilet ((r2 * (100 : Int32)) / (M1 (link o0 6) x1.toNatClampNeg)) (fun v3 => if inB x1 (alen (link o0 5)) then if (M1 (link o0 5) x1.toNatClampNeg) = 1 then (if inB x1 (alen (link o0 9)) then ilet (v3 - (M1 (link o0 9) x1.toNatClampNeg)) (fun v4 => s9_hasteOf_160 n v4 M1) else none) else (if (M1 (link o0 5) x1.toNatClampNeg) = 2 then (if inB x1 (alen (link o0 9)) then ilet (v3 + (M1 (link o0 9) x1.toNatClampNeg)) (fun v5 => s9_hasteOf_160 n v5 M1) else none) else (if (M1 (link o0 5) x1.toNatClampNeg) = 3 then (if inB x1 (alen (link o0 9)) then if inB x1 (alen (link o0 10)) then ilet ((v3 - (M1 (link o0 9) x1.toNatClampNeg)) - ((9 : Int32) - (M1 (link o0 10) x1.toNatClampNeg))) (fun v6 => s9_hasteOf_160 n v6 M1) else none else none) else (if (M1 (link o0 5) x1.toNatClampNeg) = 4 then (ilet ((2 : Int32) * v3) (fun v7 => s9_hasteOf_160 n v7 M1)) else (if (M1 (link o0 5) x1.toNatClampNeg) = 5 then (if inB x1 (alen (link o0 9)) then ilet ((v3 - (M1 (link o0 9) x1.toNatClampNeg)) / (2 : Int32)) (fun v8 => s9_hasteOf_160 n v8 M1) else none) else (if (M1 (link o0 5) x1.toNatClampNeg) = 6 then (if inB x1 (alen (link o0 9)) then if inB x1 (alen (link o0 10)) then ilet ((v3 + (M1 (link o0 9) x1.toNatClampNeg)) + (M1 (link o0 10) x1.toNatClampNeg)) (fun v9 => s9_hasteOf_160 n v9 M1) else none else none) else (s9_hasteOf_160 n v3 M1)))))) else none) else none) else none
set_option maxRecDepth 100000 in
set_option maxHeartbeats 4000000 in
theorem b9_hasteOf {w : WE} {g : GT} (C : CT w g RX9 cX9_hasteOf rm9_hasteOf 5) (RT : RTi w g cX9_hasteOf .int) (n : Nat) (o0 : Nat) (h0 : typ o0 = 9) (x1 : Int32) (x2 : Int32) (M : Mem) : J w g (s9_hasteOf n o0 x1 x2 M) M 0 [(0, .ref (wa w o0)), (1, .int x1), (2, .int x2)] [] := by
  rw [s9_hasteOf]
  refine J_aload_n C dX9_hasteOf_0 rfl 0 rfl ?_
  refine J_aload_n C dX9_hasteOf_1 rfl 0 rfl ?_
  refine J_getr C fk9_2 W4_179 h0 dX9_hasteOf_2 ?_
  refine J_iload_n C dX9_hasteOf_5 rfl 1 rfl ?_
  refine J_aload_ C (tl_9_2 h0) dX9_hasteOf_6 ?_
  refine J_iload_n C dX9_hasteOf_7 rfl 2 rfl ?_
  refine J_cvi (As := [.int (M (link o0 2) x1.toNatClampNeg), .int x2]) C (c9_far (gl g) w n o0 h0 (M (link o0 2) x1.toNatClampNeg) x2 M) (gd_v W5_144 W5_146 WP_33 W1_10 W5_147) rfl (by decide) (hdX9_far) h0 (by decide) (cl_9) rfl (Nat.le_of_ble_eq_true rfl) dX9_hasteOf_8 rfl (fun r2 M1 => ?_)
  refine J_bipush C dX9_hasteOf_11 kcb_100 ?_
  refine J_imul C dX9_hasteOf_13 ?_
  refine J_aload_n C dX9_hasteOf_14 rfl 0 rfl ?_
  refine J_getr C fk9_6 W4_183 h0 dX9_hasteOf_15 ?_
  refine J_iload_n C dX9_hasteOf_18 rfl 1 rfl ?_
  refine J_aload_ C (tl_9_6 h0) dX9_hasteOf_19 ?_
  refine J_idiv C dX9_hasteOf_20 ?_
  refine J_ilet (fun v3 => ?_)
  refine J_istore_n (lv' := [(3, .int v3), (0, .ref (wa w o0)), (1, .int x1), (2, .int x2)]) C dX9_hasteOf_21 rfl (by decide) rfl ?_
  refine J_iload_n C dX9_hasteOf_22 rfl 0 rfl ?_
  refine J_istore (lv' := [(4, .int v3), (3, .int v3), (0, .ref (wa w o0)), (1, .int x1), (2, .int x2)]) C dX9_hasteOf_23 (by decide) rfl ?_
  refine J_aload_n C dX9_hasteOf_25 rfl 2 rfl ?_
  refine J_getr C fk9_5 W4_182 h0 dX9_hasteOf_26 ?_
  refine J_iload_n C dX9_hasteOf_29 rfl 3 rfl ?_
  refine J_aload_ C (tl_9_5 h0) dX9_hasteOf_30 ?_
  refine J_ite (fun hc0 => ?_) (fun hc0 => ?_)
  · refine J_tsin (tgt := 68) C dX9_hasteOf_31 (by rw [hc0]; decide) (by rw [hc0]; decide) (off := 37) (by rw [hc0]; rfl) (by decide) ?_
    refine J_iload_n C dX9_hasteOf_68 rfl 1 rfl ?_
    refine J_aload_n C dX9_hasteOf_69 rfl 2 rfl ?_
    refine J_getr C fk9_9 W4_186 h0 dX9_hasteOf_70 ?_
    refine J_iload_n C dX9_hasteOf_73 rfl 3 rfl ?_
    refine J_aload_ C (tl_9_9 h0) dX9_hasteOf_74 ?_
    refine J_isub C dX9_hasteOf_75 ?_
    refine J_ilet (fun v4 => ?_)
    refine J_istore (lv' := [(4, .int v4), (3, .int v3), (0, .ref (wa w o0)), (1, .int x1), (2, .int x2)]) C dX9_hasteOf_76 (by decide) rfl ?_
    refine J_goto (tgt := 160) C dX9_hasteOf_78 (by decide) ?_
    refine J_lv [0] rfl ?_
    exact b9_hasteOf_160 C RT n v4 M1
  · refine J_ite (fun hc1 => ?_) (fun hc1 => ?_)
    · refine J_tsin (tgt := 81) C dX9_hasteOf_31 (by rw [hc1]; decide) (by rw [hc1]; decide) (off := 50) (by rw [hc1]; rfl) (by decide) ?_
      refine J_iload_n C dX9_hasteOf_81 rfl 1 rfl ?_
      refine J_aload_n C dX9_hasteOf_82 rfl 2 rfl ?_
      refine J_getr C fk9_9 W4_186 h0 dX9_hasteOf_83 ?_
      refine J_iload_n C dX9_hasteOf_86 rfl 3 rfl ?_
      refine J_aload_ C (tl_9_9 h0) dX9_hasteOf_87 ?_
      refine J_iadd C dX9_hasteOf_88 ?_
      refine J_ilet (fun v5 => ?_)
      refine J_istore (lv' := [(4, .int v5), (3, .int v3), (0, .ref (wa w o0)), (1, .int x1), (2, .int x2)]) C dX9_hasteOf_89 (by decide) rfl ?_
      refine J_goto (tgt := 160) C dX9_hasteOf_91 (by decide) ?_
      refine J_lv [0] rfl ?_
      exact b9_hasteOf_160 C RT n v5 M1
    · refine J_ite (fun hc2 => ?_) (fun hc2 => ?_)
      · refine J_tsin (tgt := 94) C dX9_hasteOf_31 (by rw [hc2]; decide) (by rw [hc2]; decide) (off := 63) (by rw [hc2]; rfl) (by decide) ?_
        refine J_iload_n C dX9_hasteOf_94 rfl 1 rfl ?_
        refine J_aload_n C dX9_hasteOf_95 rfl 2 rfl ?_
        refine J_getr C fk9_9 W4_186 h0 dX9_hasteOf_96 ?_
        refine J_iload_n C dX9_hasteOf_99 rfl 3 rfl ?_
        refine J_aload_ C (tl_9_9 h0) dX9_hasteOf_100 ?_
        refine J_isub C dX9_hasteOf_101 ?_
        refine J_bipush C dX9_hasteOf_102 kcb_9 ?_
        refine J_aload_n C dX9_hasteOf_104 rfl 2 rfl ?_
        refine J_getr C fk9_10 W4_187 h0 dX9_hasteOf_105 ?_
        refine J_iload_n C dX9_hasteOf_108 rfl 3 rfl ?_
        refine J_aload_ C (tl_9_10 h0) dX9_hasteOf_109 ?_
        refine J_isub C dX9_hasteOf_110 ?_
        refine J_isub C dX9_hasteOf_111 ?_
        refine J_ilet (fun v6 => ?_)
        refine J_istore (lv' := [(4, .int v6), (3, .int v3), (0, .ref (wa w o0)), (1, .int x1), (2, .int x2)]) C dX9_hasteOf_112 (by decide) rfl ?_
        refine J_goto (tgt := 160) C dX9_hasteOf_114 (by decide) ?_
        refine J_lv [0] rfl ?_
        exact b9_hasteOf_160 C RT n v6 M1
      · refine J_ite (fun hc3 => ?_) (fun hc3 => ?_)
        · refine J_tsin (tgt := 117) C dX9_hasteOf_31 (by rw [hc3]; decide) (by rw [hc3]; decide) (off := 86) (by rw [hc3]; rfl) (by decide) ?_
          refine J_iconst C dX9_hasteOf_117 kci_2 ?_
          refine J_iload_n C dX9_hasteOf_118 rfl 1 rfl ?_
          refine J_imul C dX9_hasteOf_119 ?_
          refine J_ilet (fun v7 => ?_)
          refine J_istore (lv' := [(4, .int v7), (3, .int v3), (0, .ref (wa w o0)), (1, .int x1), (2, .int x2)]) C dX9_hasteOf_120 (by decide) rfl ?_
          refine J_goto (tgt := 160) C dX9_hasteOf_122 (by decide) ?_
          refine J_lv [0] rfl ?_
          exact b9_hasteOf_160 C RT n v7 M1
        · refine J_ite (fun hc4 => ?_) (fun hc4 => ?_)
          · refine J_tsin (tgt := 125) C dX9_hasteOf_31 (by rw [hc4]; decide) (by rw [hc4]; decide) (off := 94) (by rw [hc4]; rfl) (by decide) ?_
            refine J_iload_n C dX9_hasteOf_125 rfl 1 rfl ?_
            refine J_aload_n C dX9_hasteOf_126 rfl 2 rfl ?_
            refine J_getr C fk9_9 W4_186 h0 dX9_hasteOf_127 ?_
            refine J_iload_n C dX9_hasteOf_130 rfl 3 rfl ?_
            refine J_aload_ C (tl_9_9 h0) dX9_hasteOf_131 ?_
            refine J_isub C dX9_hasteOf_132 ?_
            refine J_iconst C dX9_hasteOf_133 kci_2 ?_
            refine J_idiv_c C (by decide) dX9_hasteOf_134 ?_
            refine J_ilet (fun v8 => ?_)
            refine J_istore (lv' := [(4, .int v8), (3, .int v3), (0, .ref (wa w o0)), (1, .int x1), (2, .int x2)]) C dX9_hasteOf_135 (by decide) rfl ?_
            refine J_goto (tgt := 160) C dX9_hasteOf_137 (by decide) ?_
            refine J_lv [0] rfl ?_
            exact b9_hasteOf_160 C RT n v8 M1
          · refine J_ite (fun hc5 => ?_) (fun hc5 => ?_)
            · refine J_tsin (tgt := 140) C dX9_hasteOf_31 (by rw [hc5]; decide) (by rw [hc5]; decide) (off := 109) (by rw [hc5]; rfl) (by decide) ?_
              refine J_iload_n C dX9_hasteOf_140 rfl 1 rfl ?_
              refine J_aload_n C dX9_hasteOf_141 rfl 2 rfl ?_
              refine J_getr C fk9_9 W4_186 h0 dX9_hasteOf_142 ?_
              refine J_iload_n C dX9_hasteOf_145 rfl 3 rfl ?_
              refine J_aload_ C (tl_9_9 h0) dX9_hasteOf_146 ?_
              refine J_iadd C dX9_hasteOf_147 ?_
              refine J_aload_n C dX9_hasteOf_148 rfl 2 rfl ?_
              refine J_getr C fk9_10 W4_187 h0 dX9_hasteOf_149 ?_
              refine J_iload_n C dX9_hasteOf_152 rfl 3 rfl ?_
              refine J_aload_ C (tl_9_10 h0) dX9_hasteOf_153 ?_
              refine J_iadd C dX9_hasteOf_154 ?_
              refine J_ilet (fun v9 => ?_)
              refine J_istore (lv' := [(4, .int v9), (3, .int v3), (0, .ref (wa w o0)), (1, .int x1), (2, .int x2)]) C dX9_hasteOf_155 (by decide) rfl ?_
              refine J_goto (tgt := 160) C dX9_hasteOf_157 (by decide) ?_
              refine J_lv [0] rfl ?_
              exact b9_hasteOf_160 C RT n v9 M1
            · refine J_tsout (tgt := 160) C dX9_hasteOf_31 (by have q0 := lv_neT hc0 (a := 1) rfl; have q1 := lv_neT hc1 (a := 2) rfl; have q2 := lv_neT hc2 (a := 3) rfl; have q3 := lv_neT hc3 (a := 4) rfl; have q4 := lv_neT hc4 (a := 5) rfl; have q5 := lv_neT hc5 (a := 6) rfl; omega) (by decide) ?_
              refine J_lv [0] rfl ?_
              exact b9_hasteOf_160 C RT n v3 M1
theorem c9_hasteOf (l : Launch) (w : WE) (n : Nat) (o0 : Nat) (h0 : typ o0 = 9) (x1 : Int32) (x2 : Int32) (M : Mem) : MC l w yX9_hasteOf (wz yX9_hasteOf cX9_hasteOf 5 (some .int)) rm9_hasteOf [.ref (wa w o0), .int x1, .int x2] (s9_hasteOf n o0 x1 x2 M) M :=
  mc_of_J (own := RX9) rfl (by decide) rfl rfl (Nat.le_of_ble_eq_true rfl) (fun _ _ C RT => b9_hasteOf C RT n o0 h0 x1 x2 M)
theorem hdX9_hasteOf : yX9_hasteOf.cls = RX9 ∧ yOK yX9_hasteOf 2 := ⟨rfl, by decide, by decide, by decide⟩
abbrev rm9_haste : Room := { frames := 2, cells := 0, slots := 0, locals := 47 }
def s9_haste (n : Nat) (o0 : Nat) (x1 : Int32) (x2 : Int32) (M : Mem) : Option Res := cb (s9_isWalker o0 x1 M) (fun r2 M1 => if r2 = 0 then (cb (s9_no o0 (-1 : Int32) M1) (fun r4 M3 => some (r4, M3))) else (cb (s9_isPlace o0 x2 M1) (fun r6 M5 => if r6 = 0 then (cb (s9_no o0 (-1 : Int32) M5) (fun r8 M7 => some (r8, M7))) else (cb (s9_hasteOf n o0 x1 x2 M5) (fun r10 M9 => some (r10, M9))))))
set_option maxRecDepth 100000 in
set_option maxHeartbeats 4000000 in
theorem b9_haste {w : WE} {g : GT} (C : CT w g RX9 cX9_haste rm9_haste 3) (RT : RTi w g cX9_haste .int) (n : Nat) (o0 : Nat) (h0 : typ o0 = 9) (x1 : Int32) (x2 : Int32) (M : Mem) : J w g (s9_haste n o0 x1 x2 M) M 0 [(0, .ref (wa w o0)), (1, .int x1), (2, .int x2)] [] := by
  rw [s9_haste]
  refine J_aload_n C dX9_haste_0 rfl 0 rfl ?_
  refine J_iload_n C dX9_haste_1 rfl 1 rfl ?_
  refine J_cvi (As := [.int x1]) C (c9_isWalker (gl g) w o0 h0 x1 M) (gd_v W5_112 W5_114 WP_31 W1_10 W5_115) rfl (by decide) (hdX9_isWalker) h0 (by decide) (cl_9) rfl (Nat.le_of_ble_eq_true rfl) dX9_haste_2 rfl (fun r2 M1 => ?_)
  refine J_if_eq (tgt := 25) C dX9_haste_5 (by decide) (fun _ => ?_) (fun _ => ?_)
  · refine J_aload_n C dX9_haste_25 rfl 0 rfl ?_
    refine J_iconst C dX9_haste_26 kci_m1 ?_
    refine J_cvi (As := [.int (-1 : Int32)]) C (c9_no (gl g) w o0 h0 (-1 : Int32) M1) (gd_v W5_78 W5_80 WP_26 W1_10 W5_81) rfl (by decide) (hdX9_no) h0 (by decide) (cl_9) rfl (Nat.le_of_ble_eq_true rfl) dX9_haste_27 rfl (fun r4 M3 => ?_)
    exact J_iret C RT rfl dX9_haste_30
  · refine J_aload_n C dX9_haste_8 rfl 0 rfl ?_
    refine J_iload_n C dX9_haste_9 rfl 2 rfl ?_
    refine J_cvi (As := [.int x2]) C (c9_isPlace (gl g) w o0 h0 x2 M1) (gd_v W5_74 W5_76 WP_25 W1_10 W5_77) rfl (by decide) (hdX9_isPlace) h0 (by decide) (cl_9) rfl (Nat.le_of_ble_eq_true rfl) dX9_haste_10 rfl (fun r6 M5 => ?_)
    refine J_if_eq (tgt := 25) C dX9_haste_13 (by decide) (fun _ => ?_) (fun _ => ?_)
    · refine J_aload_n C dX9_haste_25 rfl 0 rfl ?_
      refine J_iconst C dX9_haste_26 kci_m1 ?_
      refine J_cvi (As := [.int (-1 : Int32)]) C (c9_no (gl g) w o0 h0 (-1 : Int32) M5) (gd_v W5_78 W5_80 WP_26 W1_10 W5_81) rfl (by decide) (hdX9_no) h0 (by decide) (cl_9) rfl (Nat.le_of_ble_eq_true rfl) dX9_haste_27 rfl (fun r8 M7 => ?_)
      exact J_iret C RT rfl dX9_haste_30
    · refine J_aload_n C dX9_haste_16 rfl 0 rfl ?_
      refine J_iload_n C dX9_haste_17 rfl 1 rfl ?_
      refine J_iload_n C dX9_haste_18 rfl 2 rfl ?_
      refine J_cvi (As := [.int x1, .int x2]) C (c9_hasteOf (gl g) w n o0 h0 x1 x2 M5) (gd_v W5_140 W5_142 WP_32 W1_10 W5_143) rfl (by decide) (hdX9_hasteOf) h0 (by decide) (cl_9) rfl (Nat.le_of_ble_eq_true rfl) dX9_haste_19 rfl (fun r10 M9 => ?_)
      refine J_goto (tgt := 30) C dX9_haste_22 (by decide) ?_
      exact J_iret C RT rfl dX9_haste_30
theorem c9_haste (l : Launch) (w : WE) (n : Nat) (o0 : Nat) (h0 : typ o0 = 9) (x1 : Int32) (x2 : Int32) (M : Mem) : MC l w yX9_haste (wz yX9_haste cX9_haste 3 (some .int)) rm9_haste [.ref (wa w o0), .int x1, .int x2] (s9_haste n o0 x1 x2 M) M :=
  mc_of_J (own := RX9) rfl (by decide) rfl rfl (Nat.le_of_ble_eq_true rfl) (fun _ _ C RT => b9_haste C RT n o0 h0 x1 x2 M)
theorem hdX9_haste : yX9_haste.cls = RX9 ∧ yOK yX9_haste 2 := ⟨rfl, by decide, by decide, by decide⟩
abbrev rm9_feed : Room := { frames := 1, cells := 0, slots := 0, locals := 22 }
def s9_feed_44 (n : Nat) (o0 : Nat) (x1 : Int32) (y2 : Int64) : Nat → Int32 → Mem → Option Res
  | 0, _, _ => none
  | f + 1, x5, M => if x1 ≤ x5 then (some (M o0 26, M)) else (if inB (M o0 26) (alen (link o0 20)) then mlet (mset M (link o0 20) (M o0 26).toNatClampNeg (((y2 >>> (((8 : Int32) * x5).toInt64 &&& 63)) &&& (255 : Int64)).toInt32)) (fun M3 => mlet (mset M3 o0 26 ((M3 o0 26) + (1 : Int32))) (fun M4 => ilet (x5 + 1) (fun v5 => s9_feed_44 n o0 x1 y2 f v5 M4))) else none)
set_option maxRecDepth 100000 in
set_option maxHeartbeats 4000000 in
theorem b9_feed_44 {w : WE} {g : GT} (C : CT w g RX9 cX9_feed rm9_feed 6) (RT : RTi w g cX9_feed .int) (n : Nat) (o0 : Nat) (h0 : typ o0 = 9) (x1 : Int32) (y2 : Int64) : ∀ (f : Nat) (x5 : Int32) (M : Mem), J w g (s9_feed_44 n o0 x1 y2 f x5 M) M 44 [(0, .ref (wa w o0)), (1, .int x1), (2, .long y2), (5, .int x5)] [] := by
  intro f
  induction f with
  | zero =>
    intro x5 M
    rw [s9_feed_44]
    exact J_none
  | succ f ih =>
    intro x5 M
    rw [s9_feed_44]
    refine J_iload C dX9_feed_44 3 rfl ?_
    refine J_iload_n C dX9_feed_46 rfl 1 rfl ?_
    refine J_icmp_ge (tgt := 87) C dX9_feed_47 (by decide) (fun _ => ?_) (fun _ => ?_)
    · refine J_aload_n C dX9_feed_87 rfl 0 rfl ?_
      refine J_geti C fk9_26 W4_203 h0 dX9_feed_88 ?_
      exact J_iret C RT rfl dX9_feed_91
    · refine J_aload_n C dX9_feed_50 rfl 0 rfl ?_
      refine J_getr C fk9_20 W4_197 h0 dX9_feed_51 ?_
      refine J_aload_n C dX9_feed_54 rfl 0 rfl ?_
      refine J_geti C fk9_26 W4_203 h0 dX9_feed_55 ?_
      refine J_lload_n C dX9_feed_58 rfl 2 rfl ?_
      refine J_bipush C dX9_feed_59 kcb_8 ?_
      refine J_iload C dX9_feed_61 3 rfl ?_
      refine J_imul C dX9_feed_63 ?_
      refine J_lshr C dX9_feed_64 ?_
      refine J_ldc2 C W5_152 dX9_feed_65 ?_
      refine J_land C dX9_feed_68 ?_
      refine J_l2i C dX9_feed_69 ?_
      refine J_iastore C (tl_9_20 h0) dX9_feed_70 ?_
      refine J_mlet (fun M3 => ?_)
      refine J_aload_n C dX9_feed_71 rfl 0 rfl ?_
      refine J_dup C rfl dX9_feed_72 ?_
      refine J_geti C fk9_26 W4_203 h0 dX9_feed_73 ?_
      refine J_iconst C dX9_feed_76 kci_1 ?_
      refine J_iadd C dX9_feed_77 ?_
      refine J_puti C fk9_26 W4_203 fp9_26 h0 dX9_feed_78 ?_
      refine J_mlet (fun M4 => ?_)
      refine J_iinc (lw := fun v5 => [(5, .int v5), (0, .ref (wa w o0)), (1, .int x1), (2, .long y2)]) (X := x5 + 1) C dX9_feed_81 (q := 3) rfl (by rw [kci_1]) (by decide) (fun _ => rfl) (fun v5 => ?_)
      refine J_goto (tgt := 44) C dX9_feed_84 (by decide) ?_
      refine J_lv [1, 2, 3, 0] rfl ?_
      exact ih v5 M4
def s9_feed_29 (n : Nat) (o0 : Nat) (x1 : Int32) (y2 : Int64) (x4 : Int32) (M : Mem) : Option Res := if x4 = 0 then (s9_feed_44 n o0 x1 y2 n (0 : Int32) M) else (cb (s9_no o0 x4 M) (fun r7 M6 => some (r7, M6)))
set_option maxRecDepth 100000 in
set_option maxHeartbeats 4000000 in
theorem b9_feed_29 {w : WE} {g : GT} (C : CT w g RX9 cX9_feed rm9_feed 6) (RT : RTi w g cX9_feed .int) (n : Nat) (o0 : Nat) (h0 : typ o0 = 9) (x1 : Int32) (y2 : Int64) (x4 : Int32) (M : Mem) : J w g (s9_feed_29 n o0 x1 y2 x4 M) M 29 [(0, .ref (wa w o0)), (1, .int x1), (2, .long y2), (4, .int x4)] [] := by
  rw [s9_feed_29]
  refine J_iload C dX9_feed_29 3 rfl ?_
  refine J_if_eq (tgt := 41) C dX9_feed_31 (by decide) (fun _ => ?_) (fun _ => ?_)
  · refine J_iconst C dX9_feed_41 kci_0 ?_
    refine J_istore (lv' := [(5, .int (0 : Int32)), (0, .ref (wa w o0)), (1, .int x1), (2, .long y2), (4, .int x4)]) C dX9_feed_42 (by decide) rfl ?_
    refine J_lv [1, 2, 3, 0] rfl ?_
    exact b9_feed_44 C RT n o0 h0 x1 y2 n (0 : Int32) M
  · refine J_aload_n C dX9_feed_34 rfl 0 rfl ?_
    refine J_iload C dX9_feed_35 3 rfl ?_
    refine J_cvi (As := [.int x4]) C (c9_no (gl g) w o0 h0 x4 M) (gd_v W5_78 W5_80 WP_26 W1_10 W5_81) rfl (by decide) (hdX9_no) h0 (by decide) (cl_9) rfl (Nat.le_of_ble_eq_true rfl) dX9_feed_37 rfl (fun r7 M6 => ?_)
    exact J_iret C RT rfl dX9_feed_40
def s9_feed (n : Nat) (o0 : Nat) (x1 : Int32) (y2 : Int64) (M : Mem) : Option Res := cb (s9_bound x1 (1 : Int32) (8 : Int32) M) (fun r2 M1 => if r2 = 0 then (if ((M1 o0 26) + x1) ≤ (64 : Int32) then (s9_feed_29 n o0 x1 y2 r2 M1) else (s9_feed_29 n o0 x1 y2 (-6 : Int32) M1)) else (s9_feed_29 n o0 x1 y2 r2 M1))
set_option maxRecDepth 100000 in
set_option maxHeartbeats 4000000 in
theorem b9_feed {w : WE} {g : GT} (C : CT w g RX9 cX9_feed rm9_feed 6) (RT : RTi w g cX9_feed .int) (n : Nat) (o0 : Nat) (h0 : typ o0 = 9) (x1 : Int32) (y2 : Int64) (M : Mem) : J w g (s9_feed n o0 x1 y2 M) M 0 [(0, .ref (wa w o0)), (1, .int x1), (2, .long y2)] [] := by
  rw [s9_feed]
  refine J_iload_n C dX9_feed_0 rfl 1 rfl ?_
  refine J_iconst C dX9_feed_1 kci_1 ?_
  refine J_bipush C dX9_feed_2 kcb_8 ?_
  refine J_csi (As := [.int x1, .int (1 : Int32), .int (8 : Int32)]) (dm := 0) C (c9_bound (gl g) w x1 (1 : Int32) (8 : Int32) M) (gd_s W5_97 W5_98 W1_10 W5_99) rfl (by decide) (hdX9_bound.2) rfl (Nat.le_of_ble_eq_true rfl) dX9_feed_4 rfl (fun r2 M1 => ?_)
  refine J_istore (lv' := [(4, .int r2), (0, .ref (wa w o0)), (1, .int x1), (2, .long y2)]) C dX9_feed_7 (by decide) rfl ?_
  refine J_iload C dX9_feed_9 0 rfl ?_
  refine J_if_ne (tgt := 29) C dX9_feed_11 (by decide) (fun _ => ?_) (fun _ => ?_)
  · refine J_lv [1, 2, 3, 0] rfl ?_
    exact b9_feed_29 C RT n o0 h0 x1 y2 r2 M1
  · refine J_aload_n C dX9_feed_14 rfl 1 rfl ?_
    refine J_geti C fk9_26 W4_203 h0 dX9_feed_15 ?_
    refine J_iload_n C dX9_feed_18 rfl 2 rfl ?_
    refine J_iadd C dX9_feed_19 ?_
    refine J_bipush C dX9_feed_20 kcb_64 ?_
    refine J_icmp_le (tgt := 29) C dX9_feed_22 (by decide) (fun _ => ?_) (fun _ => ?_)
    · refine J_lv [1, 2, 3, 0] rfl ?_
      exact b9_feed_29 C RT n o0 h0 x1 y2 r2 M1
    · refine J_bipush C dX9_feed_25 kcb_m6 ?_
      refine J_istore (lv' := [(4, .int (-6 : Int32)), (0, .ref (wa w o0)), (1, .int x1), (2, .long y2)]) C dX9_feed_27 (by decide) rfl ?_
      refine J_lv [1, 2, 3, 0] rfl ?_
      exact b9_feed_29 C RT n o0 h0 x1 y2 (-6 : Int32) M1
theorem c9_feed (l : Launch) (w : WE) (n : Nat) (o0 : Nat) (h0 : typ o0 = 9) (x1 : Int32) (y2 : Int64) (M : Mem) : MC l w yX9_feed (wz yX9_feed cX9_feed 6 (some .int)) rm9_feed [.ref (wa w o0), .int x1, .long y2] (s9_feed n o0 x1 y2 M) M :=
  mc_of_J (own := RX9) rfl (by decide) rfl rfl (Nat.le_of_ble_eq_true rfl) (fun _ _ C RT => b9_feed C RT n o0 h0 x1 y2 M)
theorem hdX9_feed : yX9_feed.cls = RX9 ∧ yOK yX9_feed 2 := ⟨rfl, by decide, by decide, by decide⟩
abbrev rm9_sign : Room := { frames := 0, cells := 0, slots := 0, locals := 0 }
def s9_sign (o0 : Nat) (M : Mem) : Option Res := if (M o0 26) ≤ (M o0 27) then (some ((-1 : Int32), M)) else (if inB (M o0 27) (alen (link o0 20)) then some (M (link o0 20) (M o0 27).toNatClampNeg, M) else none)
set_option maxRecDepth 100000 in
set_option maxHeartbeats 4000000 in
theorem b9_sign {w : WE} {g : GT} (C : CT w g RX9 cX9_sign rm9_sign 1) (RT : RTi w g cX9_sign .int) (o0 : Nat) (h0 : typ o0 = 9) (M : Mem) : J w g (s9_sign o0 M) M 0 [(0, .ref (wa w o0))] [] := by
  rw [s9_sign]
  refine J_aload_n C dX9_sign_0 rfl 0 rfl ?_
  refine J_geti C fk9_27 W4_204 h0 dX9_sign_1 ?_
  refine J_aload_n C dX9_sign_4 rfl 0 rfl ?_
  refine J_geti C fk9_26 W4_203 h0 dX9_sign_5 ?_
  refine J_icmp_ge (tgt := 23) C dX9_sign_8 (by decide) (fun _ => ?_) (fun _ => ?_)
  · refine J_iconst C dX9_sign_23 kci_m1 ?_
    exact J_iret C RT rfl dX9_sign_24
  · refine J_aload_n C dX9_sign_11 rfl 0 rfl ?_
    refine J_getr C fk9_20 W4_197 h0 dX9_sign_12 ?_
    refine J_aload_n C dX9_sign_15 rfl 0 rfl ?_
    refine J_geti C fk9_27 W4_204 h0 dX9_sign_16 ?_
    refine J_aload_ C (tl_9_20 h0) dX9_sign_19 ?_
    refine J_goto (tgt := 24) C dX9_sign_20 (by decide) ?_
    exact J_iret C RT rfl dX9_sign_24
theorem c9_sign (l : Launch) (w : WE) (o0 : Nat) (h0 : typ o0 = 9) (M : Mem) : MC l w yX9_sign (wz yX9_sign cX9_sign 1 (some .int)) rm9_sign [.ref (wa w o0)] (s9_sign o0 M) M :=
  mc_of_J (own := RX9) rfl (by decide) rfl rfl (Nat.le_of_ble_eq_true rfl) (fun _ _ C RT => b9_sign C RT o0 h0 M)
theorem hdX9_sign : yX9_sign.cls = RX9 ∧ yOK yX9_sign 0 := ⟨rfl, by decide, by decide, by decide⟩
abbrev rm9_takes : Room := { frames := 1, cells := 0, slots := 0, locals := 20 }
def s9_takes (o0 : Nat) (x1 : Int32) (M : Mem) : Option Res := cb (s9_sign o0 M) (fun r2 M1 => if r2 = x1 then (mlet (mset M1 o0 27 ((M1 o0 27) + (1 : Int32))) (fun M3 => some ((1 : Int32), M3))) else (some ((0 : Int32), M1)))
set_option maxRecDepth 100000 in
set_option maxHeartbeats 4000000 in
theorem b9_takes {w : WE} {g : GT} (C : CT w g RX9 cX9_takes rm9_takes 2) (RT : RTi w g cX9_takes .boolean) (o0 : Nat) (h0 : typ o0 = 9) (x1 : Int32) (M : Mem) : J w g (s9_takes o0 x1 M) M 0 [(0, .ref (wa w o0)), (1, .int x1)] [] := by
  rw [s9_takes]
  refine J_aload_n C dX9_takes_0 rfl 0 rfl ?_
  refine J_cvi (As := []) C (c9_sign (gl g) w o0 h0 M) (gd_v W5_161 W5_163 WP_35 W1_10 W5_164) rfl (by decide) (hdX9_sign) h0 (by decide) (cl_9) rfl (Nat.le_of_ble_eq_true rfl) dX9_takes_1 rfl (fun r2 M1 => ?_)
  refine J_iload_n C dX9_takes_4 rfl 1 rfl ?_
  refine J_icmp_eq (tgt := 10) C dX9_takes_5 (by decide) (fun _ => ?_) (fun _ => ?_)
  · refine J_aload_n C dX9_takes_10 rfl 0 rfl ?_
    refine J_dup C rfl dX9_takes_11 ?_
    refine J_geti C fk9_27 W4_204 h0 dX9_takes_12 ?_
    refine J_iconst C dX9_takes_15 kci_1 ?_
    refine J_iadd C dX9_takes_16 ?_
    refine J_puti C fk9_27 W4_204 fp9_27 h0 dX9_takes_17 ?_
    refine J_mlet (fun M3 => ?_)
    refine J_iconst C dX9_takes_20 kci_1 ?_
    exact J_iret C RT (by decide) dX9_takes_21
  · refine J_iconst C dX9_takes_8 kci_0 ?_
    exact J_iret C RT (by decide) dX9_takes_9
theorem c9_takes (l : Launch) (w : WE) (o0 : Nat) (h0 : typ o0 = 9) (x1 : Int32) (M : Mem) : MC l w yX9_takes (wz yX9_takes cX9_takes 2 (some .boolean)) rm9_takes [.ref (wa w o0), .int x1] (s9_takes o0 x1 M) M :=
  mc_of_J (own := RX9) rfl (by decide) rfl rfl (Nat.le_of_ble_eq_true rfl) (fun _ _ C RT => b9_takes C RT o0 h0 x1 M)
theorem hdX9_takes : yX9_takes.cls = RX9 ∧ yOK yX9_takes 1 := ⟨rfl, by decide, by decide, by decide⟩
abbrev rm9_number : Room := { frames := 1, cells := 0, slots := 0, locals := 22 }
def s9_number_36 (n : Nat) (o0 : Nat) (x1 : Int32) : Nat → Int32 → Int32 → Mem → Option Res
  | 0, _, _, _ => none
  | f + 1, x2, x3, M => if x1 ≤ x3 then (some (x2, M)) else (if x2 ≤ 0 then (some (x2, M)) else (cb (s9_sign o0 M) (fun r10 M9 => cb (s9_isIn r10 (48 : Int32) (57 : Int32) M9) (fun r12 M11 => if r12 = 0 then (some (x2, M11)) else (cb (s9_sign o0 M11) (fun r14 M13 => ilet ((((10 : Int32) * x2) + r14) - (48 : Int32)) (fun v15 => mlet (mset M13 o0 27 ((M13 o0 27) + (1 : Int32))) (fun M16 => ilet (x3 + 1) (fun v17 => s9_number_36 n o0 x1 f v15 v17 M16)))))))))
set_option maxRecDepth 100000 in
set_option maxHeartbeats 4000000 in
theorem b9_number_36 {w : WE} {g : GT} (C : CT w g RX9 cX9_number rm9_number 4) (RT : RTi w g cX9_number .int) (n : Nat) (o0 : Nat) (h0 : typ o0 = 9) (x1 : Int32) : ∀ (f : Nat) (x2 : Int32) (x3 : Int32) (M : Mem), J w g (s9_number_36 n o0 x1 f x2 x3 M) M 36 [(0, .ref (wa w o0)), (1, .int x1), (2, .int x2), (3, .int x3)] [] := by
  intro f
  induction f with
  | zero =>
    intro x2 x3 M
    rw [s9_number_36]
    exact J_none
  | succ f ih =>
    intro x2 x3 M
    rw [s9_number_36]
    refine J_iload_n C dX9_number_36 rfl 3 rfl ?_
    refine J_iload_n C dX9_number_37 rfl 1 rfl ?_
    refine J_icmp_ge (tgt := 88) C dX9_number_38 (by decide) (fun _ => ?_) (fun _ => ?_)
    · refine J_iload_n C dX9_number_88 rfl 2 rfl ?_
      exact J_iret C RT rfl dX9_number_89
    · refine J_iload_n C dX9_number_41 rfl 2 rfl ?_
      refine J_if_le (tgt := 88) C dX9_number_42 (by decide) (fun _ => ?_) (fun _ => ?_)
      · refine J_iload_n C dX9_number_88 rfl 2 rfl ?_
        exact J_iret C RT rfl dX9_number_89
      · refine J_aload_n C dX9_number_45 rfl 0 rfl ?_
        refine J_cvi (As := []) C (c9_sign (gl g) w o0 h0 M) (gd_v W5_161 W5_163 WP_35 W1_10 W5_164) rfl (by decide) (hdX9_sign) h0 (by decide) (cl_9) rfl (Nat.le_of_ble_eq_true rfl) dX9_number_46 rfl (fun r10 M9 => ?_)
        refine J_bipush C dX9_number_49 kcb_48 ?_
        refine J_bipush C dX9_number_51 kcb_57 ?_
        refine J_csi (As := [.int r10, .int (48 : Int32), .int (57 : Int32)]) (dm := 0) C (c9_isIn (gl g) w r10 (48 : Int32) (57 : Int32) M9) (gd_s W5_94 W5_95 W1_10 W5_96) rfl (by decide) (hdX9_isIn.2) rfl (Nat.le_of_ble_eq_true rfl) dX9_number_53 rfl (fun r12 M11 => ?_)
        refine J_if_eq (tgt := 88) C dX9_number_56 (by decide) (fun _ => ?_) (fun _ => ?_)
        · refine J_iload_n C dX9_number_88 rfl 2 rfl ?_
          exact J_iret C RT rfl dX9_number_89
        · refine J_bipush C dX9_number_59 kcb_10 ?_
          refine J_iload_n C dX9_number_61 rfl 2 rfl ?_
          refine J_imul C dX9_number_62 ?_
          refine J_aload_n C dX9_number_63 rfl 0 rfl ?_
          refine J_cvi (As := []) C (c9_sign (gl g) w o0 h0 M11) (gd_v W5_161 W5_163 WP_35 W1_10 W5_164) rfl (by decide) (hdX9_sign) h0 (by decide) (cl_9) rfl (Nat.le_of_ble_eq_true rfl) dX9_number_64 rfl (fun r14 M13 => ?_)
          refine J_iadd C dX9_number_67 ?_
          refine J_bipush C dX9_number_68 kcb_48 ?_
          refine J_isub C dX9_number_70 ?_
          refine J_ilet (fun v15 => ?_)
          refine J_istore_n (lv' := [(2, .int v15), (0, .ref (wa w o0)), (1, .int x1), (3, .int x3)]) C dX9_number_71 rfl (by decide) rfl ?_
          refine J_aload_n C dX9_number_72 rfl 1 rfl ?_
          refine J_dup C rfl dX9_number_73 ?_
          refine J_geti C fk9_27 W4_204 h0 dX9_number_74 ?_
          refine J_iconst C dX9_number_77 kci_1 ?_
          refine J_iadd C dX9_number_78 ?_
          refine J_puti C fk9_27 W4_204 fp9_27 h0 dX9_number_79 ?_
          refine J_mlet (fun M16 => ?_)
          refine J_iinc (lw := fun v17 => [(3, .int v17), (2, .int v15), (0, .ref (wa w o0)), (1, .int x1)]) (X := x3 + 1) C dX9_number_82 (q := 3) rfl (by rw [kci_1]) (by decide) (fun _ => rfl) (fun v17 => ?_)
          refine J_goto (tgt := 36) C dX9_number_85 (by decide) ?_
          refine J_lv [2, 3, 1, 0] rfl ?_
          exact ih v15 v17 M16
def s9_number (n : Nat) (o0 : Nat) (x1 : Int32) (M : Mem) : Option Res := cb (s9_sign o0 M) (fun r2 M1 => cb (s9_isIn r2 (48 : Int32) (57 : Int32) M1) (fun r4 M3 => if r4 = 0 then (some ((-1 : Int32), M3)) else (cb (s9_sign o0 M3) (fun r6 M5 => ilet (r6 - (48 : Int32)) (fun v7 => mlet (mset M5 o0 27 ((M5 o0 27) + (1 : Int32))) (fun M8 => s9_number_36 n o0 x1 n v7 (1 : Int32) M8))))))
set_option maxRecDepth 100000 in
set_option maxHeartbeats 4000000 in
theorem b9_number {w : WE} {g : GT} (C : CT w g RX9 cX9_number rm9_number 4) (RT : RTi w g cX9_number .int) (n : Nat) (o0 : Nat) (h0 : typ o0 = 9) (x1 : Int32) (M : Mem) : J w g (s9_number n o0 x1 M) M 0 [(0, .ref (wa w o0)), (1, .int x1)] [] := by
  rw [s9_number]
  refine J_aload_n C dX9_number_0 rfl 0 rfl ?_
  refine J_cvi (As := []) C (c9_sign (gl g) w o0 h0 M) (gd_v W5_161 W5_163 WP_35 W1_10 W5_164) rfl (by decide) (hdX9_sign) h0 (by decide) (cl_9) rfl (Nat.le_of_ble_eq_true rfl) dX9_number_1 rfl (fun r2 M1 => ?_)
  refine J_bipush C dX9_number_4 kcb_48 ?_
  refine J_bipush C dX9_number_6 kcb_57 ?_
  refine J_csi (As := [.int r2, .int (48 : Int32), .int (57 : Int32)]) (dm := 0) C (c9_isIn (gl g) w r2 (48 : Int32) (57 : Int32) M1) (gd_s W5_94 W5_95 W1_10 W5_96) rfl (by decide) (hdX9_isIn.2) rfl (Nat.le_of_ble_eq_true rfl) dX9_number_8 rfl (fun r4 M3 => ?_)
  refine J_if_ne (tgt := 16) C dX9_number_11 (by decide) (fun _ => ?_) (fun _ => ?_)
  · refine J_aload_n C dX9_number_16 rfl 0 rfl ?_
    refine J_cvi (As := []) C (c9_sign (gl g) w o0 h0 M3) (gd_v W5_161 W5_163 WP_35 W1_10 W5_164) rfl (by decide) (hdX9_sign) h0 (by decide) (cl_9) rfl (Nat.le_of_ble_eq_true rfl) dX9_number_17 rfl (fun r6 M5 => ?_)
    refine J_bipush C dX9_number_20 kcb_48 ?_
    refine J_isub C dX9_number_22 ?_
    refine J_ilet (fun v7 => ?_)
    refine J_istore_n (lv' := [(2, .int v7), (0, .ref (wa w o0)), (1, .int x1)]) C dX9_number_23 rfl (by decide) rfl ?_
    refine J_aload_n C dX9_number_24 rfl 1 rfl ?_
    refine J_dup C rfl dX9_number_25 ?_
    refine J_geti C fk9_27 W4_204 h0 dX9_number_26 ?_
    refine J_iconst C dX9_number_29 kci_1 ?_
    refine J_iadd C dX9_number_30 ?_
    refine J_puti C fk9_27 W4_204 fp9_27 h0 dX9_number_31 ?_
    refine J_mlet (fun M8 => ?_)
    refine J_iconst C dX9_number_34 kci_1 ?_
    refine J_istore_n (lv' := [(3, .int (1 : Int32)), (2, .int v7), (0, .ref (wa w o0)), (1, .int x1)]) C dX9_number_35 rfl (by decide) rfl ?_
    refine J_lv [2, 3, 1, 0] rfl ?_
    exact b9_number_36 C RT n o0 h0 x1 n v7 (1 : Int32) M8
  · refine J_iconst C dX9_number_14 kci_m1 ?_
    exact J_iret C RT rfl dX9_number_15
theorem c9_number (l : Launch) (w : WE) (n : Nat) (o0 : Nat) (h0 : typ o0 = 9) (x1 : Int32) (M : Mem) : MC l w yX9_number (wz yX9_number cX9_number 4 (some .int)) rm9_number [.ref (wa w o0), .int x1] (s9_number n o0 x1 M) M :=
  mc_of_J (own := RX9) rfl (by decide) rfl rfl (Nat.le_of_ble_eq_true rfl) (fun _ _ C RT => b9_number C RT n o0 h0 x1 M)
theorem hdX9_number : yX9_number.cls = RX9 ∧ yOK yX9_number 1 := ⟨rfl, by decide, by decide, by decide⟩
abbrev rm9_statement : Room := { frames := 2, cells := 0, slots := 0, locals := 45 }
def s9_statement_158 (n : Nat) (o0 : Nat) (x2 : Int32) (M : Mem) : Option Res := cb (s9_takes o0 (44 : Int32) M) (fun r11 M10 => if r11 = 0 then (some ((0 : Int32), M10)) else (cb (s9_number n o0 (3 : Int32) M10) (fun r13 M12 => if inB x2 (alen (link o0 25)) then mlet (mset M12 (link o0 25) x2.toNatClampNeg r13) (fun M14 => if inB x2 (alen (link o0 25)) then if 0 ≤ (M14 (link o0 25) x2.toNatClampNeg) then (cb (s9_takes o0 (59 : Int32) M14) (fun r16 M15 => if bz r16 then some (r16, M15) else none)) else (some ((0 : Int32), M14)) else none) else none)))
set_option maxRecDepth 100000 in
set_option maxHeartbeats 4000000 in
theorem b9_statement_158 {w : WE} {g : GT} (C : CT w g RX9 cX9_statement rm9_statement 3) (RT : RTi w g cX9_statement .boolean) (n : Nat) (o0 : Nat) (h0 : typ o0 = 9) (x2 : Int32) (M : Mem) : J w g (s9_statement_158 n o0 x2 M) M 158 [(0, .ref (wa w o0)), (2, .int x2)] [] := by
  rw [s9_statement_158]
  refine J_aload_n C dX9_statement_158 rfl 0 rfl ?_
  refine J_bipush C dX9_statement_159 kcb_44 ?_
  refine J_cvi (As := [.int (44 : Int32)]) C (c9_takes (gl g) w o0 h0 (44 : Int32) M) (gd_v W5_169 W5_171 WP_37 W1_10 W5_172) rfl (by decide) (hdX9_takes) h0 (by decide) (cl_9) rfl (Nat.le_of_ble_eq_true rfl) dX9_statement_161 rfl (fun r11 M10 => ?_)
  refine J_if_ne (tgt := 169) C dX9_statement_164 (by decide) (fun _ => ?_) (fun _ => ?_)
  · refine J_aload_n C dX9_statement_169 rfl 0 rfl ?_
    refine J_getr C fk9_25 W4_202 h0 dX9_statement_170 ?_
    refine J_iload_n C dX9_statement_173 rfl 1 rfl ?_
    refine J_aload_n C dX9_statement_174 rfl 0 rfl ?_
    refine J_iconst C dX9_statement_175 kci_3 ?_
    refine J_cvi (As := [.int (3 : Int32)]) C (c9_number (gl g) w n o0 h0 (3 : Int32) M10) (gd_v W5_165 W5_167 WP_36 W1_10 W5_168) rfl (by decide) (hdX9_number) h0 (by decide) (cl_9) rfl (Nat.le_of_ble_eq_true rfl) dX9_statement_176 rfl (fun r13 M12 => ?_)
    refine J_iastore C (tl_9_25 h0) dX9_statement_179 ?_
    refine J_mlet (fun M14 => ?_)
    refine J_aload_n C dX9_statement_180 rfl 0 rfl ?_
    refine J_getr C fk9_25 W4_202 h0 dX9_statement_181 ?_
    refine J_iload_n C dX9_statement_184 rfl 1 rfl ?_
    refine J_aload_ C (tl_9_25 h0) dX9_statement_185 ?_
    refine J_if_ge (tgt := 191) C dX9_statement_186 (by decide) (fun _ => ?_) (fun _ => ?_)
    · refine J_aload_n C dX9_statement_191 rfl 0 rfl ?_
      refine J_bipush C dX9_statement_192 kcb_59 ?_
      refine J_cvi (As := [.int (59 : Int32)]) C (c9_takes (gl g) w o0 h0 (59 : Int32) M14) (gd_v W5_169 W5_171 WP_37 W1_10 W5_172) rfl (by decide) (hdX9_takes) h0 (by decide) (cl_9) rfl (Nat.le_of_ble_eq_true rfl) dX9_statement_194 rfl (fun r16 M15 => ?_)
      exact J_zret C RT dX9_statement_197
    · refine J_iconst C dX9_statement_189 kci_0 ?_
      exact J_iret C RT (by decide) dX9_statement_190
  · refine J_iconst C dX9_statement_167 kci_0 ?_
    exact J_iret C RT (by decide) dX9_statement_168
def s9_statement_146 (n : Nat) (o0 : Nat) (x1 : Int32) (x2 : Int32) (M : Mem) : Option Res := if x1 = (119 : Int32) then (s9_statement_158 n o0 x2 M) else (if x1 = (112 : Int32) then (s9_statement_158 n o0 x2 M) else (cb (s9_takes o0 (59 : Int32) M) (fun r18 M17 => if bz r18 then some (r18, M17) else none)))
set_option maxRecDepth 100000 in
set_option maxHeartbeats 4000000 in
theorem b9_statement_146 {w : WE} {g : GT} (C : CT w g RX9 cX9_statement rm9_statement 3) (RT : RTi w g cX9_statement .boolean) (n : Nat) (o0 : Nat) (h0 : typ o0 = 9) (x1 : Int32) (x2 : Int32) (M : Mem) : J w g (s9_statement_146 n o0 x1 x2 M) M 146 [(0, .ref (wa w o0)), (1, .int x1), (2, .int x2)] [] := by
  rw [s9_statement_146]
  refine J_iload_n C dX9_statement_146 rfl 1 rfl ?_
  refine J_bipush C dX9_statement_147 kcb_119 ?_
  refine J_icmp_eq (tgt := 158) C dX9_statement_149 (by decide) (fun _ => ?_) (fun _ => ?_)
  · refine J_lv [0, 2] rfl ?_
    exact b9_statement_158 C RT n o0 h0 x2 M
  · refine J_iload_n C dX9_statement_152 rfl 1 rfl ?_
    refine J_bipush C dX9_statement_153 kcb_112 ?_
    refine J_icmp_ne (tgt := 191) C dX9_statement_155 (by decide) (fun _ => ?_) (fun _ => ?_)
    · refine J_aload_n C dX9_statement_191 rfl 0 rfl ?_
      refine J_bipush C dX9_statement_192 kcb_59 ?_
      refine J_cvi (As := [.int (59 : Int32)]) C (c9_takes (gl g) w o0 h0 (59 : Int32) M) (gd_v W5_169 W5_171 WP_37 W1_10 W5_172) rfl (by decide) (hdX9_takes) h0 (by decide) (cl_9) rfl (Nat.le_of_ble_eq_true rfl) dX9_statement_194 rfl (fun r18 M17 => ?_)
      exact J_zret C RT dX9_statement_197
    · refine J_lv [0, 2] rfl ?_
      exact b9_statement_158 C RT n o0 h0 x2 M
def s9_statement_92 (n : Nat) (o0 : Nat) (x1 : Int32) (x2 : Int32) (t0 : Int32) (q1 : Nat) (t2 : Int32) (q3 : Nat) (M : Mem) : Option Res := cb (s9_number n q1 t0 M) (fun r8 M7 => if inB t2 (alen q3) then mlet (mset M7 q3 t2.toNatClampNeg r8) (fun M9 => if inB x2 (alen (link o0 23)) then if 0 ≤ (M9 (link o0 23) x2.toNatClampNeg) then (if x1 = (119 : Int32) then (cb (s9_takes o0 (44 : Int32) M9) (fun r20 M19 => if r20 = 0 then (some ((0 : Int32), M19)) else (cb (s9_number n o0 (1 : Int32) M19) (fun r22 M21 => if inB x2 (alen (link o0 24)) then mlet (mset M21 (link o0 24) x2.toNatClampNeg r22) (fun M23 => if inB x2 (alen (link o0 24)) then if 0 ≤ (M23 (link o0 24) x2.toNatClampNeg) then (s9_statement_146 n o0 x1 x2 M23) else (some ((0 : Int32), M23)) else none) else none)))) else (s9_statement_146 n o0 x1 x2 M9)) else (some ((0 : Int32), M9)) else none) else none)
set_option maxRecDepth 100000 in
set_option maxHeartbeats 4000000 in
theorem b9_statement_92 {w : WE} {g : GT} (C : CT w g RX9 cX9_statement rm9_statement 3) (RT : RTi w g cX9_statement .boolean) (n : Nat) (o0 : Nat) (h0 : typ o0 = 9) (x1 : Int32) (x2 : Int32) (t0 : Int32) (q1 : Nat) (hq1 : typ q1 = 9) (t2 : Int32) (q3 : Nat) (hq3 : typ q3 = 11) (M : Mem) : J w g (s9_statement_92 n o0 x1 x2 t0 q1 t2 q3 M) M 92 [(0, .ref (wa w o0)), (1, .int x1), (2, .int x2)] [.int t0, .ref (wa w q1), .int t2, .ref (wa w q3)] := by
  rw [s9_statement_92]
  refine J_cvi (As := [.int t0]) C (c9_number (gl g) w n q1 hq1 t0 M) (gd_v W5_165 W5_167 WP_36 W1_10 W5_168) rfl (by decide) (hdX9_number) hq1 (by decide) (cl_9) rfl (Nat.le_of_ble_eq_true rfl) dX9_statement_92 rfl (fun r8 M7 => ?_)
  refine J_iastore C hq3 dX9_statement_95 ?_
  refine J_mlet (fun M9 => ?_)
  refine J_aload_n C dX9_statement_96 rfl 0 rfl ?_
  refine J_getr C fk9_23 W4_200 h0 dX9_statement_97 ?_
  refine J_iload_n C dX9_statement_100 rfl 2 rfl ?_
  refine J_aload_ C (tl_9_23 h0) dX9_statement_101 ?_
  refine J_if_ge (tgt := 107) C dX9_statement_102 (by decide) (fun _ => ?_) (fun _ => ?_)
  · refine J_iload_n C dX9_statement_107 rfl 1 rfl ?_
    refine J_bipush C dX9_statement_108 kcb_119 ?_
    refine J_icmp_ne (tgt := 146) C dX9_statement_110 (by decide) (fun _ => ?_) (fun _ => ?_)
    · exact b9_statement_146 C RT n o0 h0 x1 x2 M9
    · refine J_aload_n C dX9_statement_113 rfl 0 rfl ?_
      refine J_bipush C dX9_statement_114 kcb_44 ?_
      refine J_cvi (As := [.int (44 : Int32)]) C (c9_takes (gl g) w o0 h0 (44 : Int32) M9) (gd_v W5_169 W5_171 WP_37 W1_10 W5_172) rfl (by decide) (hdX9_takes) h0 (by decide) (cl_9) rfl (Nat.le_of_ble_eq_true rfl) dX9_statement_116 rfl (fun r20 M19 => ?_)
      refine J_if_ne (tgt := 124) C dX9_statement_119 (by decide) (fun _ => ?_) (fun _ => ?_)
      · refine J_aload_n C dX9_statement_124 rfl 0 rfl ?_
        refine J_getr C fk9_24 W4_201 h0 dX9_statement_125 ?_
        refine J_iload_n C dX9_statement_128 rfl 2 rfl ?_
        refine J_aload_n C dX9_statement_129 rfl 0 rfl ?_
        refine J_iconst C dX9_statement_130 kci_1 ?_
        refine J_cvi (As := [.int (1 : Int32)]) C (c9_number (gl g) w n o0 h0 (1 : Int32) M19) (gd_v W5_165 W5_167 WP_36 W1_10 W5_168) rfl (by decide) (hdX9_number) h0 (by decide) (cl_9) rfl (Nat.le_of_ble_eq_true rfl) dX9_statement_131 rfl (fun r22 M21 => ?_)
        refine J_iastore C (tl_9_24 h0) dX9_statement_134 ?_
        refine J_mlet (fun M23 => ?_)
        refine J_aload_n C dX9_statement_135 rfl 0 rfl ?_
        refine J_getr C fk9_24 W4_201 h0 dX9_statement_136 ?_
        refine J_iload_n C dX9_statement_139 rfl 2 rfl ?_
        refine J_aload_ C (tl_9_24 h0) dX9_statement_140 ?_
        refine J_if_ge (tgt := 146) C dX9_statement_141 (by decide) (fun _ => ?_) (fun _ => ?_)
        · exact b9_statement_146 C RT n o0 h0 x1 x2 M23
        · refine J_iconst C dX9_statement_144 kci_0 ?_
          exact J_iret C RT (by decide) dX9_statement_145
      · refine J_iconst C dX9_statement_122 kci_0 ?_
        exact J_iret C RT (by decide) dX9_statement_123
  · refine J_iconst C dX9_statement_105 kci_0 ?_
    exact J_iret C RT (by decide) dX9_statement_106
def s9_statement_87 (n : Nat) (o0 : Nat) (x1 : Int32) (x2 : Int32) (q0 : Nat) (t1 : Int32) (q2 : Nat) (M : Mem) : Option Res := s9_statement_92 n o0 x1 x2 (1 : Int32) q0 t1 q2 M
set_option maxRecDepth 100000 in
set_option maxHeartbeats 4000000 in
theorem b9_statement_87 {w : WE} {g : GT} (C : CT w g RX9 cX9_statement rm9_statement 3) (RT : RTi w g cX9_statement .boolean) (n : Nat) (o0 : Nat) (h0 : typ o0 = 9) (x1 : Int32) (x2 : Int32) (q0 : Nat) (hq0 : typ q0 = 9) (t1 : Int32) (q2 : Nat) (hq2 : typ q2 = 11) (M : Mem) : J w g (s9_statement_87 n o0 x1 x2 q0 t1 q2 M) M 87 [(0, .ref (wa w o0)), (1, .int x1), (2, .int x2)] [.ref (wa w q0), .int t1, .ref (wa w q2)] := by
  rw [s9_statement_87]
  refine J_iconst C dX9_statement_87 kci_1 ?_
  refine J_goto (tgt := 92) C dX9_statement_88 (by decide) ?_
  exact b9_statement_92 C RT n o0 h0 x1 x2 (1 : Int32) q0 hq0 t1 q2 hq2 M
def s9_statement_37 (n : Nat) (o0 : Nat) (x1 : Int32) (M : Mem) : Option Res := ilet (M o0 28) (fun v3 => if inB v3 (alen (link o0 21)) then mlet (mset M (link o0 21) v3.toNatClampNeg x1) (fun M4 => if inB v3 (alen (link o0 22)) then mlet (mset M4 (link o0 22) v3.toNatClampNeg (M4 o0 27)) (fun M5 => mlet (mset M5 o0 27 ((M5 o0 27) + (1 : Int32))) (fun M6 => if x1 = (112 : Int32) then (s9_statement_87 n o0 x1 v3 o0 v3 (link o0 23) M6) else (if x1 = (102 : Int32) then (s9_statement_87 n o0 x1 v3 o0 v3 (link o0 23) M6) else (s9_statement_92 n o0 x1 v3 (3 : Int32) o0 v3 (link o0 23) M6)))) else none) else none)
set_option maxRecDepth 100000 in
set_option maxHeartbeats 4000000 in
theorem b9_statement_37 {w : WE} {g : GT} (C : CT w g RX9 cX9_statement rm9_statement 3) (RT : RTi w g cX9_statement .boolean) (n : Nat) (o0 : Nat) (h0 : typ o0 = 9) (x1 : Int32) (M : Mem) : J w g (s9_statement_37 n o0 x1 M) M 37 [(0, .ref (wa w o0)), (1, .int x1)] [] := by
  rw [s9_statement_37]
  refine J_aload_n C dX9_statement_37 rfl 0 rfl ?_
  refine J_geti C fk9_28 W4_205 h0 dX9_statement_38 ?_
  refine J_ilet (fun v3 => ?_)
  refine J_istore_n (lv' := [(2, .int v3), (0, .ref (wa w o0)), (1, .int x1)]) C dX9_statement_41 rfl (by decide) rfl ?_
  refine J_aload_n C dX9_statement_42 rfl 1 rfl ?_
  refine J_getr C fk9_21 W4_198 h0 dX9_statement_43 ?_
  refine J_iload_n C dX9_statement_46 rfl 0 rfl ?_
  refine J_iload_n C dX9_statement_47 rfl 2 rfl ?_
  refine J_iastore C (tl_9_21 h0) dX9_statement_48 ?_
  refine J_mlet (fun M4 => ?_)
  refine J_aload_n C dX9_statement_49 rfl 1 rfl ?_
  refine J_getr C fk9_22 W4_199 h0 dX9_statement_50 ?_
  refine J_iload_n C dX9_statement_53 rfl 0 rfl ?_
  refine J_aload_n C dX9_statement_54 rfl 1 rfl ?_
  refine J_geti C fk9_27 W4_204 h0 dX9_statement_55 ?_
  refine J_iastore C (tl_9_22 h0) dX9_statement_58 ?_
  refine J_mlet (fun M5 => ?_)
  refine J_aload_n C dX9_statement_59 rfl 1 rfl ?_
  refine J_dup C rfl dX9_statement_60 ?_
  refine J_geti C fk9_27 W4_204 h0 dX9_statement_61 ?_
  refine J_iconst C dX9_statement_64 kci_1 ?_
  refine J_iadd C dX9_statement_65 ?_
  refine J_puti C fk9_27 W4_204 fp9_27 h0 dX9_statement_66 ?_
  refine J_mlet (fun M6 => ?_)
  refine J_aload_n C dX9_statement_69 rfl 1 rfl ?_
  refine J_getr C fk9_23 W4_200 h0 dX9_statement_70 ?_
  refine J_iload_n C dX9_statement_73 rfl 0 rfl ?_
  refine J_aload_n C dX9_statement_74 rfl 1 rfl ?_
  refine J_iload_n C dX9_statement_75 rfl 2 rfl ?_
  refine J_bipush C dX9_statement_76 kcb_112 ?_
  refine J_icmp_eq (tgt := 87) C dX9_statement_78 (by decide) (fun _ => ?_) (fun _ => ?_)
  · refine J_lv [1, 2, 0] rfl ?_
    exact b9_statement_87 C RT n o0 h0 x1 v3 o0 h0 v3 (link o0 23) (tl_9_23 h0) M6
  · refine J_iload_n C dX9_statement_81 rfl 2 rfl ?_
    refine J_bipush C dX9_statement_82 kcb_102 ?_
    refine J_icmp_ne (tgt := 91) C dX9_statement_84 (by decide) (fun _ => ?_) (fun _ => ?_)
    · refine J_iconst C dX9_statement_91 kci_3 ?_
      refine J_lv [1, 2, 0] rfl ?_
      exact b9_statement_92 C RT n o0 h0 x1 v3 (3 : Int32) o0 h0 v3 (link o0 23) (tl_9_23 h0) M6
    · refine J_lv [1, 2, 0] rfl ?_
      exact b9_statement_87 C RT n o0 h0 x1 v3 o0 h0 v3 (link o0 23) (tl_9_23 h0) M6
def s9_statement (n : Nat) (o0 : Nat) (M : Mem) : Option Res := cb (s9_sign o0 M) (fun r2 M1 => if r2 = (110 : Int32) then (s9_statement_37 n o0 r2 M1) else (if r2 = (99 : Int32) then (s9_statement_37 n o0 r2 M1) else (if r2 = (119 : Int32) then (s9_statement_37 n o0 r2 M1) else (if r2 = (112 : Int32) then (s9_statement_37 n o0 r2 M1) else (if r2 = (102 : Int32) then (s9_statement_37 n o0 r2 M1) else (some ((0 : Int32), M1)))))))
set_option maxRecDepth 100000 in
set_option maxHeartbeats 4000000 in
theorem b9_statement {w : WE} {g : GT} (C : CT w g RX9 cX9_statement rm9_statement 3) (RT : RTi w g cX9_statement .boolean) (n : Nat) (o0 : Nat) (h0 : typ o0 = 9) (M : Mem) : J w g (s9_statement n o0 M) M 0 [(0, .ref (wa w o0))] [] := by
  rw [s9_statement]
  refine J_aload_n C dX9_statement_0 rfl 0 rfl ?_
  refine J_cvi (As := []) C (c9_sign (gl g) w o0 h0 M) (gd_v W5_161 W5_163 WP_35 W1_10 W5_164) rfl (by decide) (hdX9_sign) h0 (by decide) (cl_9) rfl (Nat.le_of_ble_eq_true rfl) dX9_statement_1 rfl (fun r2 M1 => ?_)
  refine J_istore_n (lv' := [(1, .int r2), (0, .ref (wa w o0))]) C dX9_statement_4 rfl (by decide) rfl ?_
  refine J_iload_n C dX9_statement_5 rfl 0 rfl ?_
  refine J_bipush C dX9_statement_6 kcb_110 ?_
  refine J_icmp_eq (tgt := 37) C dX9_statement_8 (by decide) (fun _ => ?_) (fun _ => ?_)
  · refine J_lv [1, 0] rfl ?_
    exact b9_statement_37 C RT n o0 h0 r2 M1
  · refine J_iload_n C dX9_statement_11 rfl 0 rfl ?_
    refine J_bipush C dX9_statement_12 kcb_99 ?_
    refine J_icmp_eq (tgt := 37) C dX9_statement_14 (by decide) (fun _ => ?_) (fun _ => ?_)
    · refine J_lv [1, 0] rfl ?_
      exact b9_statement_37 C RT n o0 h0 r2 M1
    · refine J_iload_n C dX9_statement_17 rfl 0 rfl ?_
      refine J_bipush C dX9_statement_18 kcb_119 ?_
      refine J_icmp_eq (tgt := 37) C dX9_statement_20 (by decide) (fun _ => ?_) (fun _ => ?_)
      · refine J_lv [1, 0] rfl ?_
        exact b9_statement_37 C RT n o0 h0 r2 M1
      · refine J_iload_n C dX9_statement_23 rfl 0 rfl ?_
        refine J_bipush C dX9_statement_24 kcb_112 ?_
        refine J_icmp_eq (tgt := 37) C dX9_statement_26 (by decide) (fun _ => ?_) (fun _ => ?_)
        · refine J_lv [1, 0] rfl ?_
          exact b9_statement_37 C RT n o0 h0 r2 M1
        · refine J_iload_n C dX9_statement_29 rfl 0 rfl ?_
          refine J_bipush C dX9_statement_30 kcb_102 ?_
          refine J_icmp_eq (tgt := 37) C dX9_statement_32 (by decide) (fun _ => ?_) (fun _ => ?_)
          · refine J_lv [1, 0] rfl ?_
            exact b9_statement_37 C RT n o0 h0 r2 M1
          · refine J_iconst C dX9_statement_35 kci_0 ?_
            exact J_iret C RT (by decide) dX9_statement_36
theorem c9_statement (l : Launch) (w : WE) (n : Nat) (o0 : Nat) (h0 : typ o0 = 9) (M : Mem) : MC l w yX9_statement (wz yX9_statement cX9_statement 3 (some .boolean)) rm9_statement [.ref (wa w o0)] (s9_statement n o0 M) M :=
  mc_of_J (own := RX9) rfl (by decide) rfl rfl (Nat.le_of_ble_eq_true rfl) (fun _ _ C RT => b9_statement C RT n o0 h0 M)
theorem hdX9_statement : yX9_statement.cls = RX9 ∧ yOK yX9_statement 0 := ⟨rfl, by decide, by decide, by decide⟩
