abbrev rm7_hasteOver : Room := { frames := 0, cells := 0, slots := 0, locals := 0 }
def s7_hasteOver_138 (n : Nat) (x3 : Int32) (M : Mem) : Option Res := if 0 ≤ x3 then (some (x3, M)) else (some ((0 : Int32), M))
set_option maxRecDepth 100000 in
set_option maxHeartbeats 4000000 in
theorem b7_hasteOver_138 {w : WE} {g : GT} (C : CT w g RX7 cX7_hasteOver rm7_hasteOver 4) (RT : RTi w g cX7_hasteOver .int) (n : Nat) (x3 : Int32) (M : Mem) : J w g (s7_hasteOver_138 n x3 M) M 138 [(3, .int x3)] [] := by
  rw [s7_hasteOver_138]
  refine J_iload_n C dX7_hasteOver_138 rfl 0 rfl ?_
  refine J_if_ge (tgt := 146) C dX7_hasteOver_139 (by decide) (fun _ => ?_) (fun _ => ?_)
  · refine J_iload_n C dX7_hasteOver_146 rfl 0 rfl ?_
    exact J_iret C RT rfl dX7_hasteOver_147
  · refine J_iconst C dX7_hasteOver_142 kci_0 ?_
    refine J_goto (tgt := 147) C dX7_hasteOver_143 (by decide) ?_
    exact J_iret C RT rfl dX7_hasteOver_147
def s7_hasteOver_20 (n : Nat) (o0 : Nat) (t0 : Int32) (M : Mem) : Option Res := if (M o0 3) = 1 then (ilet (t0 - (M o0 7)) (fun v1 => s7_hasteOver_138 n v1 M)) else (if (M o0 3) = 2 then (ilet (t0 + (M o0 7)) (fun v2 => s7_hasteOver_138 n v2 M)) else (if (M o0 3) = 3 then (ilet ((t0 - (M o0 7)) - ((9 : Int32) - (M o0 8))) (fun v3 => s7_hasteOver_138 n v3 M)) else (if (M o0 3) = 4 then (ilet ((2 : Int32) * t0) (fun v4 => s7_hasteOver_138 n v4 M)) else (if (M o0 3) = 5 then (ilet ((t0 - (M o0 7)) / (2 : Int32)) (fun v5 => s7_hasteOver_138 n v5 M)) else (if (M o0 3) = 6 then (ilet ((t0 + (M o0 7)) + (M o0 8)) (fun v6 => s7_hasteOver_138 n v6 M)) else (s7_hasteOver_138 n t0 M))))))
set_option maxRecDepth 100000 in
set_option maxHeartbeats 4000000 in
theorem b7_hasteOver_20 {w : WE} {g : GT} (C : CT w g RX7 cX7_hasteOver rm7_hasteOver 4) (RT : RTi w g cX7_hasteOver .int) (n : Nat) (o0 : Nat) (h0 : typ o0 = 7) (t0 : Int32) (M : Mem) : J w g (s7_hasteOver_20 n o0 t0 M) M 20 [(0, .ref (wa w o0))] [.int t0] := by
  rw [s7_hasteOver_20]
  refine J_istore_n (lv' := [(2, .int t0), (0, .ref (wa w o0))]) C dX7_hasteOver_20 rfl (by decide) rfl ?_
  refine J_aload_n C dX7_hasteOver_21 rfl 1 rfl ?_
  refine J_geti C fk7_3 W1_130 h0 dX7_hasteOver_22 ?_
  refine J_ite (fun hc0 => ?_) (fun hc0 => ?_)
  · refine J_tsin (tgt := 64) C dX7_hasteOver_25 (by rw [hc0]; decide) (by rw [hc0]; decide) (off := 39) (by rw [hc0]; rfl) (by decide) ?_
    refine J_iload_n C dX7_hasteOver_64 rfl 0 rfl ?_
    refine J_aload_n C dX7_hasteOver_65 rfl 1 rfl ?_
    refine J_geti C fk7_7 W1_141 h0 dX7_hasteOver_66 ?_
    refine J_isub C dX7_hasteOver_69 ?_
    refine J_ilet (fun v1 => ?_)
    refine J_istore_n (lv' := [(3, .int v1), (2, .int t0), (0, .ref (wa w o0))]) C dX7_hasteOver_70 rfl (by decide) rfl ?_
    refine J_goto (tgt := 138) C dX7_hasteOver_71 (by decide) ?_
    refine J_lv [0] rfl ?_
    exact b7_hasteOver_138 C RT n v1 M
  · refine J_ite (fun hc1 => ?_) (fun hc1 => ?_)
    · refine J_tsin (tgt := 74) C dX7_hasteOver_25 (by rw [hc1]; decide) (by rw [hc1]; decide) (off := 49) (by rw [hc1]; rfl) (by decide) ?_
      refine J_iload_n C dX7_hasteOver_74 rfl 0 rfl ?_
      refine J_aload_n C dX7_hasteOver_75 rfl 1 rfl ?_
      refine J_geti C fk7_7 W1_141 h0 dX7_hasteOver_76 ?_
      refine J_iadd C dX7_hasteOver_79 ?_
      refine J_ilet (fun v2 => ?_)
      refine J_istore_n (lv' := [(3, .int v2), (2, .int t0), (0, .ref (wa w o0))]) C dX7_hasteOver_80 rfl (by decide) rfl ?_
      refine J_goto (tgt := 138) C dX7_hasteOver_81 (by decide) ?_
      refine J_lv [0] rfl ?_
      exact b7_hasteOver_138 C RT n v2 M
    · refine J_ite (fun hc2 => ?_) (fun hc2 => ?_)
      · refine J_tsin (tgt := 84) C dX7_hasteOver_25 (by rw [hc2]; decide) (by rw [hc2]; decide) (off := 59) (by rw [hc2]; rfl) (by decide) ?_
        refine J_iload_n C dX7_hasteOver_84 rfl 0 rfl ?_
        refine J_aload_n C dX7_hasteOver_85 rfl 1 rfl ?_
        refine J_geti C fk7_7 W1_141 h0 dX7_hasteOver_86 ?_
        refine J_isub C dX7_hasteOver_89 ?_
        refine J_bipush C dX7_hasteOver_90 kcb_9 ?_
        refine J_aload_n C dX7_hasteOver_92 rfl 1 rfl ?_
        refine J_geti C fk7_8 W1_142 h0 dX7_hasteOver_93 ?_
        refine J_isub C dX7_hasteOver_96 ?_
        refine J_isub C dX7_hasteOver_97 ?_
        refine J_ilet (fun v3 => ?_)
        refine J_istore_n (lv' := [(3, .int v3), (2, .int t0), (0, .ref (wa w o0))]) C dX7_hasteOver_98 rfl (by decide) rfl ?_
        refine J_goto (tgt := 138) C dX7_hasteOver_99 (by decide) ?_
        refine J_lv [0] rfl ?_
        exact b7_hasteOver_138 C RT n v3 M
      · refine J_ite (fun hc3 => ?_) (fun hc3 => ?_)
        · refine J_tsin (tgt := 102) C dX7_hasteOver_25 (by rw [hc3]; decide) (by rw [hc3]; decide) (off := 77) (by rw [hc3]; rfl) (by decide) ?_
          refine J_iconst C dX7_hasteOver_102 kci_2 ?_
          refine J_iload_n C dX7_hasteOver_103 rfl 0 rfl ?_
          refine J_imul C dX7_hasteOver_104 ?_
          refine J_ilet (fun v4 => ?_)
          refine J_istore_n (lv' := [(3, .int v4), (2, .int t0), (0, .ref (wa w o0))]) C dX7_hasteOver_105 rfl (by decide) rfl ?_
          refine J_goto (tgt := 138) C dX7_hasteOver_106 (by decide) ?_
          refine J_lv [0] rfl ?_
          exact b7_hasteOver_138 C RT n v4 M
        · refine J_ite (fun hc4 => ?_) (fun hc4 => ?_)
          · refine J_tsin (tgt := 109) C dX7_hasteOver_25 (by rw [hc4]; decide) (by rw [hc4]; decide) (off := 84) (by rw [hc4]; rfl) (by decide) ?_
            refine J_iload_n C dX7_hasteOver_109 rfl 0 rfl ?_
            refine J_aload_n C dX7_hasteOver_110 rfl 1 rfl ?_
            refine J_geti C fk7_7 W1_141 h0 dX7_hasteOver_111 ?_
            refine J_isub C dX7_hasteOver_114 ?_
            refine J_iconst C dX7_hasteOver_115 kci_2 ?_
            refine J_idiv_c C (by decide) dX7_hasteOver_116 ?_
            refine J_ilet (fun v5 => ?_)
            refine J_istore_n (lv' := [(3, .int v5), (2, .int t0), (0, .ref (wa w o0))]) C dX7_hasteOver_117 rfl (by decide) rfl ?_
            refine J_goto (tgt := 138) C dX7_hasteOver_118 (by decide) ?_
            refine J_lv [0] rfl ?_
            exact b7_hasteOver_138 C RT n v5 M
          · refine J_ite (fun hc5 => ?_) (fun hc5 => ?_)
            · refine J_tsin (tgt := 121) C dX7_hasteOver_25 (by rw [hc5]; decide) (by rw [hc5]; decide) (off := 96) (by rw [hc5]; rfl) (by decide) ?_
              refine J_iload_n C dX7_hasteOver_121 rfl 0 rfl ?_
              refine J_aload_n C dX7_hasteOver_122 rfl 1 rfl ?_
              refine J_geti C fk7_7 W1_141 h0 dX7_hasteOver_123 ?_
              refine J_iadd C dX7_hasteOver_126 ?_
              refine J_aload_n C dX7_hasteOver_127 rfl 1 rfl ?_
              refine J_geti C fk7_8 W1_142 h0 dX7_hasteOver_128 ?_
              refine J_iadd C dX7_hasteOver_131 ?_
              refine J_ilet (fun v6 => ?_)
              refine J_istore_n (lv' := [(3, .int v6), (2, .int t0), (0, .ref (wa w o0))]) C dX7_hasteOver_132 rfl (by decide) rfl ?_
              refine J_goto (tgt := 138) C dX7_hasteOver_133 (by decide) ?_
              refine J_lv [0] rfl ?_
              exact b7_hasteOver_138 C RT n v6 M
            · refine J_tsout (tgt := 136) C dX7_hasteOver_25 (by have q0 := lv_neT hc0 (a := 1) rfl; have q1 := lv_neT hc1 (a := 2) rfl; have q2 := lv_neT hc2 (a := 3) rfl; have q3 := lv_neT hc3 (a := 4) rfl; have q4 := lv_neT hc4 (a := 5) rfl; have q5 := lv_neT hc5 (a := 6) rfl; omega) (by decide) ?_
              refine J_iload_n C dX7_hasteOver_136 rfl 0 rfl ?_
              refine J_istore_n (lv' := [(3, .int t0), (2, .int t0), (0, .ref (wa w o0))]) C dX7_hasteOver_137 rfl (by decide) rfl ?_
              refine J_lv [0] rfl ?_
              exact b7_hasteOver_138 C RT n t0 M
def s7_hasteOver (n : Nat) (o0 : Nat) (x1 : Int32) (M : Mem) : Option Res := if (M o0 4) ≤ 0 then (s7_hasteOver_20 n o0 (0 : Int32) M) else (if (M o0 4) = 0 then none else s7_hasteOver_20 n o0 ((x1 * (100 : Int32)) / (M o0 4)) M)
set_option maxRecDepth 100000 in
set_option maxHeartbeats 4000000 in
theorem b7_hasteOver {w : WE} {g : GT} (C : CT w g RX7 cX7_hasteOver rm7_hasteOver 4) (RT : RTi w g cX7_hasteOver .int) (n : Nat) (o0 : Nat) (h0 : typ o0 = 7) (x1 : Int32) (M : Mem) : J w g (s7_hasteOver n o0 x1 M) M 0 [(0, .ref (wa w o0)), (1, .int x1)] [] := by
  rw [s7_hasteOver]
  refine J_aload_n C dX7_hasteOver_0 rfl 0 rfl ?_
  refine J_geti C fk7_4 W1_132 h0 dX7_hasteOver_1 ?_
  refine J_if_le (tgt := 19) C dX7_hasteOver_4 (by decide) (fun _ => ?_) (fun _ => ?_)
  · refine J_iconst C dX7_hasteOver_19 kci_0 ?_
    refine J_lv [0] rfl ?_
    exact b7_hasteOver_20 C RT n o0 h0 (0 : Int32) M
  · refine J_iload_n C dX7_hasteOver_7 rfl 1 rfl ?_
    refine J_bipush C dX7_hasteOver_8 kcb_100 ?_
    refine J_imul C dX7_hasteOver_10 ?_
    refine J_aload_n C dX7_hasteOver_11 rfl 0 rfl ?_
    refine J_geti C fk7_4 W1_132 h0 dX7_hasteOver_12 ?_
    refine J_idiv C dX7_hasteOver_15 ?_
    refine J_goto (tgt := 20) C dX7_hasteOver_16 (by decide) ?_
    refine J_lv [0] rfl ?_
    exact b7_hasteOver_20 C RT n o0 h0 ((x1 * (100 : Int32)) / (M o0 4)) M
theorem c7_hasteOver (l : Launch) (w : WE) (n : Nat) (o0 : Nat) (h0 : typ o0 = 7) (x1 : Int32) (M : Mem) : MC l w yX7_hasteOver (wz yX7_hasteOver cX7_hasteOver 4 (some .int)) rm7_hasteOver [.ref (wa w o0), .int x1] (s7_hasteOver n o0 x1 M) M :=
  mc_of_J (own := RX7) rfl (by decide) rfl rfl (Nat.le_of_ble_eq_true rfl) (fun _ _ C RT => b7_hasteOver C RT n o0 h0 x1 M)
theorem hdX7_hasteOver : yX7_hasteOver.cls = RX7 ∧ yOK yX7_hasteOver 1 := ⟨rfl, by decide, by decide, by decide⟩
abbrev rm5_measure : Room := { frames := 1, cells := 0, slots := 0, locals := 23 }
def s5_measure_152 (n : Nat) (k75 : Int32 → Mem → Option Res) (k100 : Int32 → Mem → Option Res) (o0 : Nat) (o1 : Nat) (x2 : Int32) (o3 : Nat) (x4 : Int32) (x5 : Int32) (t0 : Int32) (M : Mem) : Option Res := if t0 = 0 then (if inB ((x2 * (11 : Int32)) + x4) (alen (link o0 1)) then mlet (mset M (link o0 1) ((x2 * (11 : Int32)) + x4).toNatClampNeg (2147483647 : Int32)) (fun M10 => ilet (x4 + 1) (fun v11 => k100 v11 M10)) else none) else (cb (s7_hasteOver n o3 x5 M) (fun r13 M12 => if inB ((x2 * (11 : Int32)) + x4) (alen (link o0 1)) then mlet (mset M12 (link o0 1) ((x2 * (11 : Int32)) + x4).toNatClampNeg r13) (fun M14 => ilet (x4 + 1) (fun v15 => k100 v15 M14)) else none))
set_option maxRecDepth 100000 in
set_option maxHeartbeats 4000000 in
theorem b5_measure_152 {w : WE} {g : GT} (C : CT w g RX5 cX5_measure rm5_measure 7) (RT : RTv w g cX5_measure) (n : Nat) (k75 : Int32 → Mem → Option Res) (k100 : Int32 → Mem → Option Res) (o0 : Nat) (h0 : typ o0 = 5) (o1 : Nat) (h1 : typ o1 = 2) (x2 : Int32) (o3 : Nat) (h3 : typ o3 = 7) (x4 : Int32) (x5 : Int32) (t0 : Int32) (hk75 : ∀ (z2 : Int32) (M : Mem), J w g (k75 z2 M) M 75 [(0, .ref (wa w o0)), (1, .ref (wa w o1)), (2, .int z2)] []) (hk100 : ∀ (z4 : Int32) (M : Mem), J w g (k100 z4 M) M 100 [(0, .ref (wa w o0)), (1, .ref (wa w o1)), (2, .int x2), (3, .ref (wa w o3)), (4, .int z4)] []) (M : Mem) : J w g (s5_measure_152 n k75 k100 o0 o1 x2 o3 x4 x5 t0 M) M 152 [(0, .ref (wa w o0)), (1, .ref (wa w o1)), (2, .int x2), (3, .ref (wa w o3)), (4, .int x4), (5, .int x5)] [.int t0] := by
  rw [s5_measure_152]
  refine J_istore (lv' := [(6, .int t0), (0, .ref (wa w o0)), (1, .ref (wa w o1)), (2, .int x2), (3, .ref (wa w o3)), (4, .int x4), (5, .int x5)]) C dX5_measure_152 (by decide) rfl ?_
  refine J_aload_n C dX5_measure_154 rfl 1 rfl ?_
  refine J_getr C fk5_1 W1_98 h0 dX5_measure_155 ?_
  refine J_iload_n C dX5_measure_158 rfl 3 rfl ?_
  refine J_bipush C dX5_measure_159 kcb_11 ?_
  refine J_imul C dX5_measure_161 ?_
  refine J_iload C dX5_measure_162 5 rfl ?_
  refine J_iadd C dX5_measure_164 ?_
  refine J_iload C dX5_measure_165 0 rfl ?_
  refine J_if_eq (tgt := 179) C dX5_measure_167 (by decide) (fun _ => ?_) (fun _ => ?_)
  · refine J_ldc C W3_158 dX5_measure_179 ?_
    refine J_iastore C (tl_5_1 h0) dX5_measure_181 ?_
    refine J_mlet (fun M10 => ?_)
    refine J_iinc (lw := fun v11 => [(4, .int v11), (6, .int t0), (0, .ref (wa w o0)), (1, .ref (wa w o1)), (2, .int x2), (3, .ref (wa w o3)), (5, .int x5)]) (X := x4 + 1) C dX5_measure_182 (q := 5) rfl (by rw [kci_1]) (by decide) (fun _ => rfl) (fun v11 => ?_)
    refine J_goto (tgt := 100) C dX5_measure_185 (by decide) ?_
    refine J_lv [2, 3, 4, 5, 0] rfl ?_
    exact hk100 v11 M10
  · refine J_aload_n C dX5_measure_170 rfl 4 rfl ?_
    refine J_iload C dX5_measure_171 6 rfl ?_
    refine J_cvi (As := [.int x5]) C (c7_hasteOver (gl g) w n o3 h3 x5 M) (gd_v W3_157 W3_94 W3_95 W1_7 W3_96) rfl (by decide) (hdX7_hasteOver) h3 (by decide) (cl_7) rfl (Nat.le_of_ble_eq_true rfl) dX5_measure_173 rfl (fun r13 M12 => ?_)
    refine J_goto (tgt := 181) C dX5_measure_176 (by decide) ?_
    refine J_iastore C (tl_5_1 h0) dX5_measure_181 ?_
    refine J_mlet (fun M14 => ?_)
    refine J_iinc (lw := fun v15 => [(4, .int v15), (6, .int t0), (0, .ref (wa w o0)), (1, .ref (wa w o1)), (2, .int x2), (3, .ref (wa w o3)), (5, .int x5)]) (X := x4 + 1) C dX5_measure_182 (q := 5) rfl (by rw [kci_1]) (by decide) (fun _ => rfl) (fun v15 => ?_)
    refine J_goto (tgt := 100) C dX5_measure_185 (by decide) ?_
    refine J_lv [2, 3, 4, 5, 0] rfl ?_
    exact hk100 v15 M14
def s5_measure_151 (n : Nat) (k75 : Int32 → Mem → Option Res) (k100 : Int32 → Mem → Option Res) (o0 : Nat) (o1 : Nat) (x2 : Int32) (o3 : Nat) (x4 : Int32) (x5 : Int32) (M : Mem) : Option Res := s5_measure_152 n k75 k100 o0 o1 x2 o3 x4 x5 (0 : Int32) M
set_option maxRecDepth 100000 in
set_option maxHeartbeats 4000000 in
theorem b5_measure_151 {w : WE} {g : GT} (C : CT w g RX5 cX5_measure rm5_measure 7) (RT : RTv w g cX5_measure) (n : Nat) (k75 : Int32 → Mem → Option Res) (k100 : Int32 → Mem → Option Res) (o0 : Nat) (h0 : typ o0 = 5) (o1 : Nat) (h1 : typ o1 = 2) (x2 : Int32) (o3 : Nat) (h3 : typ o3 = 7) (x4 : Int32) (x5 : Int32) (hk75 : ∀ (z2 : Int32) (M : Mem), J w g (k75 z2 M) M 75 [(0, .ref (wa w o0)), (1, .ref (wa w o1)), (2, .int z2)] []) (hk100 : ∀ (z4 : Int32) (M : Mem), J w g (k100 z4 M) M 100 [(0, .ref (wa w o0)), (1, .ref (wa w o1)), (2, .int x2), (3, .ref (wa w o3)), (4, .int z4)] []) (M : Mem) : J w g (s5_measure_151 n k75 k100 o0 o1 x2 o3 x4 x5 M) M 151 [(0, .ref (wa w o0)), (1, .ref (wa w o1)), (2, .int x2), (3, .ref (wa w o3)), (4, .int x4), (5, .int x5)] [] := by
  rw [s5_measure_151]
  refine J_iconst C dX5_measure_151 kci_0 ?_
  exact b5_measure_152 C RT n k75 k100 o0 h0 o1 h1 x2 o3 h3 x4 x5 (0 : Int32) hk75 hk100 M
def s5_measure_100 (n : Nat) (k75 : Int32 → Mem → Option Res) (o0 : Nat) (o1 : Nat) (x2 : Int32) (o3 : Nat) : Nat → Int32 → Mem → Option Res
  | 0, _, _ => none
  | f + 1, x4, M => if (M o0 4) ≤ x4 then (ilet (x2 + 1) (fun v5 => k75 v5 M)) else (cb (s4_placeOfChair (link o1 0) x4 M) (fun r7 M6 => cb (s4_far n (link o1 0) (M o3 0) r7 M6) (fun r9 M8 => if (M8 o3 2) = 0 then (s5_measure_151 n k75 (s5_measure_100 n k75 o0 o1 x2 o3 f) o0 o1 x2 o3 x4 r9 M8) else (if (M8 o3 6) < r9 then (s5_measure_151 n k75 (s5_measure_100 n k75 o0 o1 x2 o3 f) o0 o1 x2 o3 x4 r9 M8) else (s5_measure_152 n k75 (s5_measure_100 n k75 o0 o1 x2 o3 f) o0 o1 x2 o3 x4 r9 (1 : Int32) M8)))))
set_option maxRecDepth 100000 in
set_option maxHeartbeats 4000000 in
theorem b5_measure_100 {w : WE} {g : GT} (C : CT w g RX5 cX5_measure rm5_measure 7) (RT : RTv w g cX5_measure) (n : Nat) (k75 : Int32 → Mem → Option Res) (o0 : Nat) (h0 : typ o0 = 5) (o1 : Nat) (h1 : typ o1 = 2) (x2 : Int32) (o3 : Nat) (h3 : typ o3 = 7) (hk75 : ∀ (z2 : Int32) (M : Mem), J w g (k75 z2 M) M 75 [(0, .ref (wa w o0)), (1, .ref (wa w o1)), (2, .int z2)] []) : ∀ (f : Nat) (x4 : Int32) (M : Mem), J w g (s5_measure_100 n k75 o0 o1 x2 o3 f x4 M) M 100 [(0, .ref (wa w o0)), (1, .ref (wa w o1)), (2, .int x2), (3, .ref (wa w o3)), (4, .int x4)] [] := by
  intro f
  induction f with
  | zero =>
    intro x4 M
    rw [s5_measure_100]
    exact J_none
  | succ f ih =>
    intro x4 M
    rw [s5_measure_100]
    refine J_iload C dX5_measure_100 4 rfl ?_
    refine J_aload_n C dX5_measure_102 rfl 0 rfl ?_
    refine J_geti C fk5_4 W1_101 h0 dX5_measure_103 ?_
    refine J_icmp_ge (tgt := 188) C dX5_measure_106 (by decide) (fun _ => ?_) (fun _ => ?_)
    · refine J_iinc (lw := fun v5 => [(2, .int v5), (0, .ref (wa w o0)), (1, .ref (wa w o1)), (3, .ref (wa w o3)), (4, .int x4)]) (X := x2 + 1) C dX5_measure_188 (q := 2) rfl (by rw [kci_1]) (by decide) (fun _ => rfl) (fun v5 => ?_)
      refine J_goto (tgt := 75) C dX5_measure_191 (by decide) ?_
      refine J_lv [1, 2, 0] rfl ?_
      exact hk75 v5 M
    · refine J_aload_n C dX5_measure_109 rfl 1 rfl ?_
      refine J_getr C fk2_0 W1_163 h1 dX5_measure_110 ?_
      refine J_aload_n C dX5_measure_113 rfl 3 rfl ?_
      refine J_geti C fk7_0 W1_121 h3 dX5_measure_114 ?_
      refine J_aload_n C dX5_measure_117 rfl 1 rfl ?_
      refine J_getr C fk2_0 W1_163 h1 dX5_measure_118 ?_
      refine J_iload C dX5_measure_121 4 rfl ?_
      refine J_cvi (As := [.int x4]) C (c4_placeOfChair (gl g) w (link o1 0) (tl_2_0 h1) x4 M) (gd_v W3_152 W3_153 W3_154 W1_4 W3_155) rfl (by decide) (hdX4_placeOfChair) (tl_2_0 h1) (by decide) (cl_4) rfl (Nat.le_of_ble_eq_true rfl) dX5_measure_123 rfl (fun r7 M6 => ?_)
      refine J_cvi (As := [.int (M o3 0), .int r7]) C (c4_far (gl g) w n (link o1 0) (tl_2_0 h1) (M o3 0) r7 M6) (gd_v W3_156 W3_90 W3_91 W1_4 W3_92) rfl (by decide) (hdX4_far) (tl_2_0 h1) (by decide) (cl_4) rfl (Nat.le_of_ble_eq_true rfl) dX5_measure_126 rfl (fun r9 M8 => ?_)
      refine J_istore (lv' := [(5, .int r9), (0, .ref (wa w o0)), (1, .ref (wa w o1)), (2, .int x2), (3, .ref (wa w o3)), (4, .int x4)]) C dX5_measure_129 (by decide) rfl ?_
      refine J_aload_n C dX5_measure_131 rfl 4 rfl ?_
      refine J_geti C fk7_2 W1_129 h3 dX5_measure_132 ?_
      refine J_if_eq (tgt := 151) C dX5_measure_135 (by decide) (fun _ => ?_) (fun _ => ?_)
      · refine J_lv [1, 2, 3, 4, 5, 0] rfl ?_
        exact b5_measure_151 C RT n k75 (s5_measure_100 n k75 o0 o1 x2 o3 f) o0 h0 o1 h1 x2 o3 h3 x4 r9 hk75 ih M8
      · refine J_iload C dX5_measure_138 0 rfl ?_
        refine J_aload_n C dX5_measure_140 rfl 4 rfl ?_
        refine J_geti C fk7_6 W1_139 h3 dX5_measure_141 ?_
        refine J_icmp_gt (tgt := 151) C dX5_measure_144 (by decide) (fun _ => ?_) (fun _ => ?_)
        · refine J_lv [1, 2, 3, 4, 5, 0] rfl ?_
          exact b5_measure_151 C RT n k75 (s5_measure_100 n k75 o0 o1 x2 o3 f) o0 h0 o1 h1 x2 o3 h3 x4 r9 hk75 ih M8
        · refine J_iconst C dX5_measure_147 kci_1 ?_
          refine J_goto (tgt := 152) C dX5_measure_148 (by decide) ?_
          refine J_lv [1, 2, 3, 4, 5, 0] rfl ?_
          exact b5_measure_152 C RT n k75 (s5_measure_100 n k75 o0 o1 x2 o3 f) o0 h0 o1 h1 x2 o3 h3 x4 r9 (1 : Int32) hk75 ih M8
def s5_measure_75 (n : Nat) (o0 : Nat) (o1 : Nat) : Nat → Int32 → Mem → Option Res
  | 0, _, _ => none
  | f + 1, x2, M => if (M o0 3) ≤ x2 then (some (0, M)) else (if inB x2 (alen (link o1 3)) then if inB x2 (alen (link o0 0)) then mlet (mset M (link o0 0) x2.toNatClampNeg (-1 : Int32)) (fun M4 => s5_measure_100 n (s5_measure_75 n o0 o1 f) o0 o1 x2 (link (link o1 3) x2.toNatClampNeg) n (0 : Int32) M4) else none else none)
set_option maxRecDepth 100000 in
set_option maxHeartbeats 4000000 in
theorem b5_measure_75 {w : WE} {g : GT} (C : CT w g RX5 cX5_measure rm5_measure 7) (RT : RTv w g cX5_measure) (n : Nat) (o0 : Nat) (h0 : typ o0 = 5) (o1 : Nat) (h1 : typ o1 = 2) : ∀ (f : Nat) (x2 : Int32) (M : Mem), J w g (s5_measure_75 n o0 o1 f x2 M) M 75 [(0, .ref (wa w o0)), (1, .ref (wa w o1)), (2, .int x2)] [] := by
  intro f
  induction f with
  | zero =>
    intro x2 M
    rw [s5_measure_75]
    exact J_none
  | succ f ih =>
    intro x2 M
    rw [s5_measure_75]
    refine J_iload_n C dX5_measure_75 rfl 2 rfl ?_
    refine J_aload_n C dX5_measure_76 rfl 0 rfl ?_
    refine J_geti C fk5_3 W1_100 h0 dX5_measure_77 ?_
    refine J_icmp_ge (tgt := 194) C dX5_measure_80 (by decide) (fun _ => ?_) (fun _ => ?_)
    · exact J_vret C RT dX5_measure_194
    · refine J_aload_n C dX5_measure_83 rfl 1 rfl ?_
      refine J_getr C fk2_3 W1_175 h1 dX5_measure_84 ?_
      refine J_iload_n C dX5_measure_87 rfl 2 rfl ?_
      refine J_aaload C (tl_2_3 h1) dX5_measure_88 (fun hb3 => ?_)
      refine J_astore_n (lv' := [(3, .ref (wa w (link (link o1 3) x2.toNatClampNeg))), (0, .ref (wa w o0)), (1, .ref (wa w o1)), (2, .int x2)]) C dX5_measure_89 rfl (by decide) rfl ?_
      refine J_aload_n C dX5_measure_90 rfl 1 rfl ?_
      refine J_getr C fk5_0 W1_97 h0 dX5_measure_91 ?_
      refine J_iload_n C dX5_measure_94 rfl 3 rfl ?_
      refine J_iconst C dX5_measure_95 kci_m1 ?_
      refine J_iastore C (tl_5_0 h0) dX5_measure_96 ?_
      refine J_mlet (fun M4 => ?_)
      refine J_iconst C dX5_measure_97 kci_0 ?_
      refine J_istore (lv' := [(4, .int (0 : Int32)), (3, .ref (wa w (link (link o1 3) x2.toNatClampNeg))), (0, .ref (wa w o0)), (1, .ref (wa w o1)), (2, .int x2)]) C dX5_measure_98 (by decide) rfl ?_
      refine J_lv [2, 3, 4, 1, 0] rfl ?_
      exact b5_measure_100 C RT n (s5_measure_75 n o0 o1 f) o0 h0 o1 h1 x2 (link (link o1 3) x2.toNatClampNeg) (t_wk (tl_2_3 h1) hb3) ih n (0 : Int32) M4
def s5_measure_52 (n : Nat) (o0 : Nat) (o1 : Nat) : Nat → Int32 → Mem → Option Res
  | 0, _, _ => none
  | f + 1, x2, M => if (M o0 4) ≤ x2 then (s5_measure_75 n o0 o1 n (0 : Int32) M) else (if inB x2 (alen (link o0 2)) then mlet (mset M (link o0 2) x2.toNatClampNeg (vp_nar .boolean (1 : Int32))) (fun M16 => ilet (x2 + 1) (fun v17 => s5_measure_52 n o0 o1 f v17 M16)) else none)
set_option maxRecDepth 100000 in
set_option maxHeartbeats 4000000 in
theorem b5_measure_52 {w : WE} {g : GT} (C : CT w g RX5 cX5_measure rm5_measure 7) (RT : RTv w g cX5_measure) (n : Nat) (o0 : Nat) (h0 : typ o0 = 5) (o1 : Nat) (h1 : typ o1 = 2) : ∀ (f : Nat) (x2 : Int32) (M : Mem), J w g (s5_measure_52 n o0 o1 f x2 M) M 52 [(0, .ref (wa w o0)), (1, .ref (wa w o1)), (2, .int x2)] [] := by
  intro f
  induction f with
  | zero =>
    intro x2 M
    rw [s5_measure_52]
    exact J_none
  | succ f ih =>
    intro x2 M
    rw [s5_measure_52]
    refine J_iload_n C dX5_measure_52 rfl 2 rfl ?_
    refine J_aload_n C dX5_measure_53 rfl 0 rfl ?_
    refine J_geti C fk5_4 W1_101 h0 dX5_measure_54 ?_
    refine J_icmp_ge (tgt := 73) C dX5_measure_57 (by decide) (fun _ => ?_) (fun _ => ?_)
    · refine J_iconst C dX5_measure_73 kci_0 ?_
      refine J_istore_n (lv' := [(2, .int (0 : Int32)), (0, .ref (wa w o0)), (1, .ref (wa w o1))]) C dX5_measure_74 rfl (by decide) rfl ?_
      refine J_lv [1, 2, 0] rfl ?_
      exact b5_measure_75 C RT n o0 h0 o1 h1 n (0 : Int32) M
    · refine J_aload_n C dX5_measure_60 rfl 0 rfl ?_
      refine J_getr C fk5_2 W1_99 h0 dX5_measure_61 ?_
      refine J_iload_n C dX5_measure_64 rfl 2 rfl ?_
      refine J_iconst C dX5_measure_65 kci_1 ?_
      refine J_zastore C (tl_5_2 h0) dX5_measure_66 ?_
      refine J_mlet (fun M16 => ?_)
      refine J_iinc (lw := fun v17 => [(2, .int v17), (0, .ref (wa w o0)), (1, .ref (wa w o1))]) (X := x2 + 1) C dX5_measure_67 (q := 2) rfl (by rw [kci_1]) (by decide) (fun _ => rfl) (fun v17 => ?_)
      refine J_goto (tgt := 52) C dX5_measure_70 (by decide) ?_
      refine J_lv [1, 2, 0] rfl ?_
      exact ih v17 M16
def s5_measure_19 (n : Nat) (o0 : Nat) (o1 : Nat) (t0 : Int32) (q1 : Nat) (M : Mem) : Option Res := mlet (mset M q1 3 t0) (fun M1 => if (11 : Int32) ≤ (M1 (link o1 0) 1) then (mlet (mset M1 o0 4 (11 : Int32)) (fun M2 => s5_measure_52 n o0 o1 n (0 : Int32) M2)) else (mlet (mset M1 o0 4 (M1 (link o1 0) 1)) (fun M18 => s5_measure_52 n o0 o1 n (0 : Int32) M18)))
set_option maxRecDepth 100000 in
set_option maxHeartbeats 4000000 in
theorem b5_measure_19 {w : WE} {g : GT} (C : CT w g RX5 cX5_measure rm5_measure 7) (RT : RTv w g cX5_measure) (n : Nat) (o0 : Nat) (h0 : typ o0 = 5) (o1 : Nat) (h1 : typ o1 = 2) (t0 : Int32) (q1 : Nat) (hq1 : typ q1 = 5) (M : Mem) : J w g (s5_measure_19 n o0 o1 t0 q1 M) M 19 [(0, .ref (wa w o0)), (1, .ref (wa w o1))] [.int t0, .ref (wa w q1)] := by
  rw [s5_measure_19]
  refine J_puti C fk5_3 W1_100 fp5_3 hq1 dX5_measure_19 ?_
  refine J_mlet (fun M1 => ?_)
  refine J_aload_n C dX5_measure_22 rfl 0 rfl ?_
  refine J_aload_n C dX5_measure_23 rfl 1 rfl ?_
  refine J_getr C fk2_0 W1_163 h1 dX5_measure_24 ?_
  refine J_geti C fk4_1 W1_49 (tl_2_0 h1) dX5_measure_27 ?_
  refine J_bipush C dX5_measure_30 kcb_11 ?_
  refine J_icmp_ge (tgt := 45) C dX5_measure_32 (by decide) (fun _ => ?_) (fun _ => ?_)
  · refine J_bipush C dX5_measure_45 kcb_11 ?_
    refine J_puti C fk5_4 W1_101 fp5_4 h0 dX5_measure_47 ?_
    refine J_mlet (fun M2 => ?_)
    refine J_iconst C dX5_measure_50 kci_0 ?_
    refine J_istore_n (lv' := [(2, .int (0 : Int32)), (0, .ref (wa w o0)), (1, .ref (wa w o1))]) C dX5_measure_51 rfl (by decide) rfl ?_
    refine J_lv [1, 2, 0] rfl ?_
    exact b5_measure_52 C RT n o0 h0 o1 h1 n (0 : Int32) M2
  · refine J_aload_n C dX5_measure_35 rfl 1 rfl ?_
    refine J_getr C fk2_0 W1_163 h1 dX5_measure_36 ?_
    refine J_geti C fk4_1 W1_49 (tl_2_0 h1) dX5_measure_39 ?_
    refine J_goto (tgt := 47) C dX5_measure_42 (by decide) ?_
    refine J_puti C fk5_4 W1_101 fp5_4 h0 dX5_measure_47 ?_
    refine J_mlet (fun M18 => ?_)
    refine J_iconst C dX5_measure_50 kci_0 ?_
    refine J_istore_n (lv' := [(2, .int (0 : Int32)), (0, .ref (wa w o0)), (1, .ref (wa w o1))]) C dX5_measure_51 rfl (by decide) rfl ?_
    refine J_lv [1, 2, 0] rfl ?_
    exact b5_measure_52 C RT n o0 h0 o1 h1 n (0 : Int32) M18
def s5_measure (n : Nat) (o0 : Nat) (o1 : Nat) (M : Mem) : Option Res := if (12 : Int32) ≤ (M o1 5) then (s5_measure_19 n o0 o1 (12 : Int32) o0 M) else (s5_measure_19 n o0 o1 (M o1 5) o0 M)
set_option maxRecDepth 100000 in
set_option maxHeartbeats 4000000 in
theorem b5_measure {w : WE} {g : GT} (C : CT w g RX5 cX5_measure rm5_measure 7) (RT : RTv w g cX5_measure) (n : Nat) (o0 : Nat) (h0 : typ o0 = 5) (o1 : Nat) (h1 : typ o1 = 2) (M : Mem) : J w g (s5_measure n o0 o1 M) M 0 [(0, .ref (wa w o0)), (1, .ref (wa w o1))] [] := by
  rw [s5_measure]
  refine J_aload_n C dX5_measure_0 rfl 0 rfl ?_
  refine J_aload_n C dX5_measure_1 rfl 1 rfl ?_
  refine J_geti C fk2_5 W1_180 h1 dX5_measure_2 ?_
  refine J_bipush C dX5_measure_5 kcb_12 ?_
  refine J_icmp_ge (tgt := 17) C dX5_measure_7 (by decide) (fun _ => ?_) (fun _ => ?_)
  · refine J_bipush C dX5_measure_17 kcb_12 ?_
    exact b5_measure_19 C RT n o0 h0 o1 h1 (12 : Int32) o0 h0 M
  · refine J_aload_n C dX5_measure_10 rfl 1 rfl ?_
    refine J_geti C fk2_5 W1_180 h1 dX5_measure_11 ?_
    refine J_goto (tgt := 19) C dX5_measure_14 (by decide) ?_
    exact b5_measure_19 C RT n o0 h0 o1 h1 (M o1 5) o0 h0 M
theorem c5_measure (l : Launch) (w : WE) (n : Nat) (o0 : Nat) (h0 : typ o0 = 5) (o1 : Nat) (h1 : typ o1 = 2) (M : Mem) : MV l w yX5_measure (wz yX5_measure cX5_measure 7 none) rm5_measure [.ref (wa w o0), .ref (wa w o1)] (s5_measure n o0 o1 M) M :=
  mv_of_J (own := RX5) rfl (by decide) rfl rfl (Nat.le_of_ble_eq_true rfl) (fun _ _ C RT => b5_measure C RT n o0 h0 o1 h1 M)
theorem hdX5_measure : yX5_measure.cls = RX5 ∧ yOK yX5_measure 1 := ⟨rfl, by decide, by decide, by decide⟩
abbrev rm5_seatLeastHaste : Room := { frames := 0, cells := 0, slots := 0, locals := 0 }
def s5_seatLeastHaste_22 (n : Nat) (k10 : Int32 → Int32 → Int32 → Int32 → Mem → Option Res) (o0 : Nat) (x4 : Int32) : Nat → Int32 → Int32 → Int32 → Int32 → Mem → Option Res
  | 0, _, _, _, _, _ => none
  | f + 1, x1, x2, x3, x5, M => if (M o0 4) ≤ x5 then (ilet (x4 + 1) (fun v3 => k10 x1 x2 x3 v3 M)) else (if inB x4 (alen (link o0 0)) then if 0 ≤ (M (link o0 0) x4.toNatClampNeg) then (ilet (x4 + 1) (fun v4 => k10 x1 x2 x3 v4 M)) else (if inB x5 (alen (link o0 2)) then if (M (link o0 2) x5.toNatClampNeg) = 0 then (ilet (x5 + 1) (fun v5 => s5_seatLeastHaste_22 n k10 o0 x4 f x1 x2 x3 v5 M)) else (if inB ((x4 * (11 : Int32)) + x5) (alen (link o0 1)) then if x1 ≤ (M (link o0 1) ((x4 * (11 : Int32)) + x5).toNatClampNeg) then (ilet (x5 + 1) (fun v6 => s5_seatLeastHaste_22 n k10 o0 x4 f x1 x2 x3 v6 M)) else (if inB ((x4 * (11 : Int32)) + x5) (alen (link o0 1)) then ilet (M (link o0 1) ((x4 * (11 : Int32)) + x5).toNatClampNeg) (fun v7 => ilet (x5 + 1) (fun v8 => s5_seatLeastHaste_22 n k10 o0 x4 f v7 x4 x5 v8 M)) else none) else none) else none) else none)
set_option maxRecDepth 100000 in
set_option maxHeartbeats 4000000 in
theorem b5_seatLeastHaste_22 {w : WE} {g : GT} (C : CT w g RX5 cX5_seatLeastHaste rm5_seatLeastHaste 6) (RT : RTi w g cX5_seatLeastHaste .boolean) (n : Nat) (k10 : Int32 → Int32 → Int32 → Int32 → Mem → Option Res) (o0 : Nat) (h0 : typ o0 = 5) (x4 : Int32) (hk10 : ∀ (z1 : Int32) (z2 : Int32) (z3 : Int32) (z4 : Int32) (M : Mem), J w g (k10 z1 z2 z3 z4 M) M 10 [(0, .ref (wa w o0)), (1, .int z1), (2, .int z2), (3, .int z3), (4, .int z4)] []) : ∀ (f : Nat) (x1 : Int32) (x2 : Int32) (x3 : Int32) (x5 : Int32) (M : Mem), J w g (s5_seatLeastHaste_22 n k10 o0 x4 f x1 x2 x3 x5 M) M 22 [(0, .ref (wa w o0)), (1, .int x1), (2, .int x2), (3, .int x3), (4, .int x4), (5, .int x5)] [] := by
  intro f
  induction f with
  | zero =>
    intro x1 x2 x3 x5 M
    rw [s5_seatLeastHaste_22]
    exact J_none
  | succ f ih =>
    intro x1 x2 x3 x5 M
    rw [s5_seatLeastHaste_22]
    refine J_iload C dX5_seatLeastHaste_22 5 rfl ?_
    refine J_aload_n C dX5_seatLeastHaste_24 rfl 0 rfl ?_
    refine J_geti C fk5_4 W1_101 h0 dX5_seatLeastHaste_25 ?_
    refine J_icmp_ge (tgt := 94) C dX5_seatLeastHaste_28 (by decide) (fun _ => ?_) (fun _ => ?_)
    · refine J_iinc (lw := fun v3 => [(4, .int v3), (0, .ref (wa w o0)), (1, .int x1), (2, .int x2), (3, .int x3), (5, .int x5)]) (X := x4 + 1) C dX5_seatLeastHaste_94 (q := 4) rfl (by rw [kci_1]) (by decide) (fun _ => rfl) (fun v3 => ?_)
      refine J_goto (tgt := 10) C dX5_seatLeastHaste_97 (by decide) ?_
      refine J_lv [1, 2, 3, 4, 0] rfl ?_
      exact hk10 x1 x2 x3 v3 M
    · refine J_aload_n C dX5_seatLeastHaste_31 rfl 0 rfl ?_
      refine J_getr C fk5_0 W1_97 h0 dX5_seatLeastHaste_32 ?_
      refine J_iload C dX5_seatLeastHaste_35 4 rfl ?_
      refine J_aload_ C (tl_5_0 h0) dX5_seatLeastHaste_37 ?_
      refine J_if_ge (tgt := 94) C dX5_seatLeastHaste_38 (by decide) (fun _ => ?_) (fun _ => ?_)
      · refine J_iinc (lw := fun v4 => [(4, .int v4), (0, .ref (wa w o0)), (1, .int x1), (2, .int x2), (3, .int x3), (5, .int x5)]) (X := x4 + 1) C dX5_seatLeastHaste_94 (q := 4) rfl (by rw [kci_1]) (by decide) (fun _ => rfl) (fun v4 => ?_)
        refine J_goto (tgt := 10) C dX5_seatLeastHaste_97 (by decide) ?_
        refine J_lv [1, 2, 3, 4, 0] rfl ?_
        exact hk10 x1 x2 x3 v4 M
      · refine J_aload_n C dX5_seatLeastHaste_41 rfl 0 rfl ?_
        refine J_getr C fk5_2 W1_99 h0 dX5_seatLeastHaste_42 ?_
        refine J_iload C dX5_seatLeastHaste_45 5 rfl ?_
        refine J_zaload C (tl_5_2 h0) dX5_seatLeastHaste_47 ?_
        refine J_if_eq (tgt := 88) C dX5_seatLeastHaste_48 (by decide) (fun _ => ?_) (fun _ => ?_)
        · refine J_iinc (lw := fun v5 => [(5, .int v5), (0, .ref (wa w o0)), (1, .int x1), (2, .int x2), (3, .int x3), (4, .int x4)]) (X := x5 + 1) C dX5_seatLeastHaste_88 (q := 5) rfl (by rw [kci_1]) (by decide) (fun _ => rfl) (fun v5 => ?_)
          refine J_goto (tgt := 22) C dX5_seatLeastHaste_91 (by decide) ?_
          refine J_lv [1, 2, 3, 4, 5, 0] rfl ?_
          exact ih x1 x2 x3 v5 M
        · refine J_aload_n C dX5_seatLeastHaste_51 rfl 0 rfl ?_
          refine J_getr C fk5_1 W1_98 h0 dX5_seatLeastHaste_52 ?_
          refine J_iload C dX5_seatLeastHaste_55 4 rfl ?_
          refine J_bipush C dX5_seatLeastHaste_57 kcb_11 ?_
          refine J_imul C dX5_seatLeastHaste_59 ?_
          refine J_iload C dX5_seatLeastHaste_60 5 rfl ?_
          refine J_iadd C dX5_seatLeastHaste_62 ?_
          refine J_aload_ C (tl_5_1 h0) dX5_seatLeastHaste_63 ?_
          refine J_iload_n C dX5_seatLeastHaste_64 rfl 1 rfl ?_
          refine J_icmp_ge (tgt := 88) C dX5_seatLeastHaste_65 (by decide) (fun _ => ?_) (fun _ => ?_)
          · refine J_iinc (lw := fun v6 => [(5, .int v6), (0, .ref (wa w o0)), (1, .int x1), (2, .int x2), (3, .int x3), (4, .int x4)]) (X := x5 + 1) C dX5_seatLeastHaste_88 (q := 5) rfl (by rw [kci_1]) (by decide) (fun _ => rfl) (fun v6 => ?_)
            refine J_goto (tgt := 22) C dX5_seatLeastHaste_91 (by decide) ?_
            refine J_lv [1, 2, 3, 4, 5, 0] rfl ?_
            exact ih x1 x2 x3 v6 M
          · refine J_aload_n C dX5_seatLeastHaste_68 rfl 0 rfl ?_
            refine J_getr C fk5_1 W1_98 h0 dX5_seatLeastHaste_69 ?_
            refine J_iload C dX5_seatLeastHaste_72 4 rfl ?_
            refine J_bipush C dX5_seatLeastHaste_74 kcb_11 ?_
            refine J_imul C dX5_seatLeastHaste_76 ?_
            refine J_iload C dX5_seatLeastHaste_77 5 rfl ?_
            refine J_iadd C dX5_seatLeastHaste_79 ?_
            refine J_aload_ C (tl_5_1 h0) dX5_seatLeastHaste_80 ?_
            refine J_ilet (fun v7 => ?_)
            refine J_istore_n (lv' := [(1, .int v7), (0, .ref (wa w o0)), (2, .int x2), (3, .int x3), (4, .int x4), (5, .int x5)]) C dX5_seatLeastHaste_81 rfl (by decide) rfl ?_
            refine J_iload C dX5_seatLeastHaste_82 4 rfl ?_
            refine J_istore_n (lv' := [(2, .int x4), (1, .int v7), (0, .ref (wa w o0)), (3, .int x3), (4, .int x4), (5, .int x5)]) C dX5_seatLeastHaste_84 rfl (by decide) rfl ?_
            refine J_iload C dX5_seatLeastHaste_85 5 rfl ?_
            refine J_istore_n (lv' := [(3, .int x5), (2, .int x4), (1, .int v7), (0, .ref (wa w o0)), (4, .int x4), (5, .int x5)]) C dX5_seatLeastHaste_87 rfl (by decide) rfl ?_
            refine J_iinc (lw := fun v8 => [(5, .int v8), (3, .int x5), (2, .int x4), (1, .int v7), (0, .ref (wa w o0)), (4, .int x4)]) (X := x5 + 1) C dX5_seatLeastHaste_88 (q := 5) rfl (by rw [kci_1]) (by decide) (fun _ => rfl) (fun v8 => ?_)
            refine J_goto (tgt := 22) C dX5_seatLeastHaste_91 (by decide) ?_
            refine J_lv [4, 3, 2, 1, 5, 0] rfl ?_
            exact ih v7 x4 x5 v8 M
def s5_seatLeastHaste_10 (n : Nat) (o0 : Nat) : Nat → Int32 → Int32 → Int32 → Int32 → Mem → Option Res
  | 0, _, _, _, _, _ => none
  | f + 1, x1, x2, x3, x4, M => if (M o0 3) ≤ x4 then (if x2 < 0 then (some ((0 : Int32), M)) else (if 0 ≤ x3 then (if inB x2 (alen (link o0 0)) then mlet (mset M (link o0 0) x2.toNatClampNeg x3) (fun M1 => if inB x3 (alen (link o0 2)) then mlet (mset M1 (link o0 2) x3.toNatClampNeg (vp_nar .boolean (0 : Int32))) (fun M2 => some ((1 : Int32), M2)) else none) else none) else (some ((0 : Int32), M)))) else (s5_seatLeastHaste_22 n (s5_seatLeastHaste_10 n o0 f) o0 x4 n x1 x2 x3 (0 : Int32) M)
set_option maxRecDepth 100000 in
set_option maxHeartbeats 4000000 in
theorem b5_seatLeastHaste_10 {w : WE} {g : GT} (C : CT w g RX5 cX5_seatLeastHaste rm5_seatLeastHaste 6) (RT : RTi w g cX5_seatLeastHaste .boolean) (n : Nat) (o0 : Nat) (h0 : typ o0 = 5) : ∀ (f : Nat) (x1 : Int32) (x2 : Int32) (x3 : Int32) (x4 : Int32) (M : Mem), J w g (s5_seatLeastHaste_10 n o0 f x1 x2 x3 x4 M) M 10 [(0, .ref (wa w o0)), (1, .int x1), (2, .int x2), (3, .int x3), (4, .int x4)] [] := by
  intro f
  induction f with
  | zero =>
    intro x1 x2 x3 x4 M
    rw [s5_seatLeastHaste_10]
    exact J_none
  | succ f ih =>
    intro x1 x2 x3 x4 M
    rw [s5_seatLeastHaste_10]
    refine J_iload C dX5_seatLeastHaste_10 4 rfl ?_
    refine J_aload_n C dX5_seatLeastHaste_12 rfl 0 rfl ?_
    refine J_geti C fk5_3 W1_100 h0 dX5_seatLeastHaste_13 ?_
    refine J_icmp_ge (tgt := 100) C dX5_seatLeastHaste_16 (by decide) (fun _ => ?_) (fun _ => ?_)
    · refine J_iload_n C dX5_seatLeastHaste_100 rfl 2 rfl ?_
      refine J_if_lt (tgt := 108) C dX5_seatLeastHaste_101 (by decide) (fun _ => ?_) (fun _ => ?_)
      · refine J_iconst C dX5_seatLeastHaste_108 kci_0 ?_
        exact J_iret C RT (by decide) dX5_seatLeastHaste_109
      · refine J_iload_n C dX5_seatLeastHaste_104 rfl 3 rfl ?_
        refine J_if_ge (tgt := 110) C dX5_seatLeastHaste_105 (by decide) (fun _ => ?_) (fun _ => ?_)
        · refine J_aload_n C dX5_seatLeastHaste_110 rfl 0 rfl ?_
          refine J_getr C fk5_0 W1_97 h0 dX5_seatLeastHaste_111 ?_
          refine J_iload_n C dX5_seatLeastHaste_114 rfl 2 rfl ?_
          refine J_iload_n C dX5_seatLeastHaste_115 rfl 3 rfl ?_
          refine J_iastore C (tl_5_0 h0) dX5_seatLeastHaste_116 ?_
          refine J_mlet (fun M1 => ?_)
          refine J_aload_n C dX5_seatLeastHaste_117 rfl 0 rfl ?_
          refine J_getr C fk5_2 W1_99 h0 dX5_seatLeastHaste_118 ?_
          refine J_iload_n C dX5_seatLeastHaste_121 rfl 3 rfl ?_
          refine J_iconst C dX5_seatLeastHaste_122 kci_0 ?_
          refine J_zastore C (tl_5_2 h0) dX5_seatLeastHaste_123 ?_
          refine J_mlet (fun M2 => ?_)
          refine J_iconst C dX5_seatLeastHaste_124 kci_1 ?_
          exact J_iret C RT (by decide) dX5_seatLeastHaste_125
        · refine J_iconst C dX5_seatLeastHaste_108 kci_0 ?_
          exact J_iret C RT (by decide) dX5_seatLeastHaste_109
    · refine J_iconst C dX5_seatLeastHaste_19 kci_0 ?_
      refine J_istore (lv' := [(5, .int (0 : Int32)), (0, .ref (wa w o0)), (1, .int x1), (2, .int x2), (3, .int x3), (4, .int x4)]) C dX5_seatLeastHaste_20 (by decide) rfl ?_
      refine J_lv [1, 2, 3, 4, 5, 0] rfl ?_
      exact b5_seatLeastHaste_22 C RT n (s5_seatLeastHaste_10 n o0 f) o0 h0 x4 ih n x1 x2 x3 (0 : Int32) M
def s5_seatLeastHaste (n : Nat) (o0 : Nat) (M : Mem) : Option Res := s5_seatLeastHaste_10 n o0 n (2147483647 : Int32) (-1 : Int32) (-1 : Int32) (0 : Int32) M
set_option maxRecDepth 100000 in
set_option maxHeartbeats 4000000 in
theorem b5_seatLeastHaste {w : WE} {g : GT} (C : CT w g RX5 cX5_seatLeastHaste rm5_seatLeastHaste 6) (RT : RTi w g cX5_seatLeastHaste .boolean) (n : Nat) (o0 : Nat) (h0 : typ o0 = 5) (M : Mem) : J w g (s5_seatLeastHaste n o0 M) M 0 [(0, .ref (wa w o0))] [] := by
  rw [s5_seatLeastHaste]
  refine J_ldc C W3_158 dX5_seatLeastHaste_0 ?_
  refine J_istore_n (lv' := [(1, .int (2147483647 : Int32)), (0, .ref (wa w o0))]) C dX5_seatLeastHaste_2 rfl (by decide) rfl ?_
  refine J_iconst C dX5_seatLeastHaste_3 kci_m1 ?_
  refine J_istore_n (lv' := [(2, .int (-1 : Int32)), (1, .int (2147483647 : Int32)), (0, .ref (wa w o0))]) C dX5_seatLeastHaste_4 rfl (by decide) rfl ?_
  refine J_iconst C dX5_seatLeastHaste_5 kci_m1 ?_
  refine J_istore_n (lv' := [(3, .int (-1 : Int32)), (2, .int (-1 : Int32)), (1, .int (2147483647 : Int32)), (0, .ref (wa w o0))]) C dX5_seatLeastHaste_6 rfl (by decide) rfl ?_
  refine J_iconst C dX5_seatLeastHaste_7 kci_0 ?_
  refine J_istore (lv' := [(4, .int (0 : Int32)), (3, .int (-1 : Int32)), (2, .int (-1 : Int32)), (1, .int (2147483647 : Int32)), (0, .ref (wa w o0))]) C dX5_seatLeastHaste_8 (by decide) rfl ?_
  refine J_lv [4, 3, 2, 1, 0] rfl ?_
  exact b5_seatLeastHaste_10 C RT n o0 h0 n (2147483647 : Int32) (-1 : Int32) (-1 : Int32) (0 : Int32) M
theorem c5_seatLeastHaste (l : Launch) (w : WE) (n : Nat) (o0 : Nat) (h0 : typ o0 = 5) (M : Mem) : MC l w yX5_seatLeastHaste (wz yX5_seatLeastHaste cX5_seatLeastHaste 6 (some .boolean)) rm5_seatLeastHaste [.ref (wa w o0)] (s5_seatLeastHaste n o0 M) M :=
  mc_of_J (own := RX5) rfl (by decide) rfl rfl (Nat.le_of_ble_eq_true rfl) (fun _ _ C RT => b5_seatLeastHaste C RT n o0 h0 M)
theorem hdX5_seatLeastHaste : yX5_seatLeastHaste.cls = RX5 ∧ yOK yX5_seatLeastHaste 0 := ⟨rfl, by decide, by decide, by decide⟩
abbrev rm5_giveWay : Room := { frames := 0, cells := 0, slots := 0, locals := 0 }
def s5_giveWay_22 (n : Nat) (o0 : Nat) (x1 : Int32) (x2 : Int32) (x3 : Int32) : Nat → Int32 → Mem → Option Res
  | 0, _, _ => none
  | f + 1, x4, M => if (M o0 3) ≤ x4 then (some (0, M)) else (if inB x4 (alen (link o0 0)) then if 0 ≤ (M (link o0 0) x4.toNatClampNeg) then (ilet (x4 + 1) (fun v3 => s5_giveWay_22 n o0 x1 x2 x3 f v3 M)) else (if inB ((x4 * (11 : Int32)) + x2) (alen (link o0 1)) then if x3 < (M (link o0 1) ((x4 * (11 : Int32)) + x2).toNatClampNeg) then (ilet (x4 + 1) (fun v4 => s5_giveWay_22 n o0 x1 x2 x3 f v4 M)) else (if inB x4 (alen (link o0 0)) then mlet (mset M (link o0 0) x4.toNatClampNeg x2) (fun M5 => if inB x1 (alen (link o0 0)) then mlet (mset M5 (link o0 0) x1.toNatClampNeg (-1 : Int32)) (fun M6 => some (0, M6)) else none) else none) else none) else none)
set_option maxRecDepth 100000 in
set_option maxHeartbeats 4000000 in
theorem b5_giveWay_22 {w : WE} {g : GT} (C : CT w g RX5 cX5_giveWay rm5_giveWay 5) (RT : RTv w g cX5_giveWay) (n : Nat) (o0 : Nat) (h0 : typ o0 = 5) (x1 : Int32) (x2 : Int32) (x3 : Int32) : ∀ (f : Nat) (x4 : Int32) (M : Mem), J w g (s5_giveWay_22 n o0 x1 x2 x3 f x4 M) M 22 [(0, .ref (wa w o0)), (1, .int x1), (2, .int x2), (3, .int x3), (4, .int x4)] [] := by
  intro f
  induction f with
  | zero =>
    intro x4 M
    rw [s5_giveWay_22]
    exact J_none
  | succ f ih =>
    intro x4 M
    rw [s5_giveWay_22]
    refine J_iload C dX5_giveWay_22 4 rfl ?_
    refine J_aload_n C dX5_giveWay_24 rfl 0 rfl ?_
    refine J_geti C fk5_3 W1_100 h0 dX5_giveWay_25 ?_
    refine J_icmp_ge (tgt := 79) C dX5_giveWay_28 (by decide) (fun _ => ?_) (fun _ => ?_)
    · exact J_vret C RT dX5_giveWay_79
    · refine J_aload_n C dX5_giveWay_31 rfl 0 rfl ?_
      refine J_getr C fk5_0 W1_97 h0 dX5_giveWay_32 ?_
      refine J_iload C dX5_giveWay_35 4 rfl ?_
      refine J_aload_ C (tl_5_0 h0) dX5_giveWay_37 ?_
      refine J_if_ge (tgt := 73) C dX5_giveWay_38 (by decide) (fun _ => ?_) (fun _ => ?_)
      · refine J_iinc (lw := fun v3 => [(4, .int v3), (0, .ref (wa w o0)), (1, .int x1), (2, .int x2), (3, .int x3)]) (X := x4 + 1) C dX5_giveWay_73 (q := 4) rfl (by rw [kci_1]) (by decide) (fun _ => rfl) (fun v3 => ?_)
        refine J_goto (tgt := 22) C dX5_giveWay_76 (by decide) ?_
        refine J_lv [1, 2, 3, 4, 0] rfl ?_
        exact ih v3 M
      · refine J_aload_n C dX5_giveWay_41 rfl 0 rfl ?_
        refine J_getr C fk5_1 W1_98 h0 dX5_giveWay_42 ?_
        refine J_iload C dX5_giveWay_45 4 rfl ?_
        refine J_bipush C dX5_giveWay_47 kcb_11 ?_
        refine J_imul C dX5_giveWay_49 ?_
        refine J_iload_n C dX5_giveWay_50 rfl 2 rfl ?_
        refine J_iadd C dX5_giveWay_51 ?_
        refine J_aload_ C (tl_5_1 h0) dX5_giveWay_52 ?_
        refine J_iload_n C dX5_giveWay_53 rfl 3 rfl ?_
        refine J_icmp_gt (tgt := 73) C dX5_giveWay_54 (by decide) (fun _ => ?_) (fun _ => ?_)
        · refine J_iinc (lw := fun v4 => [(4, .int v4), (0, .ref (wa w o0)), (1, .int x1), (2, .int x2), (3, .int x3)]) (X := x4 + 1) C dX5_giveWay_73 (q := 4) rfl (by rw [kci_1]) (by decide) (fun _ => rfl) (fun v4 => ?_)
          refine J_goto (tgt := 22) C dX5_giveWay_76 (by decide) ?_
          refine J_lv [1, 2, 3, 4, 0] rfl ?_
          exact ih v4 M
        · refine J_aload_n C dX5_giveWay_57 rfl 0 rfl ?_
          refine J_getr C fk5_0 W1_97 h0 dX5_giveWay_58 ?_
          refine J_iload C dX5_giveWay_61 4 rfl ?_
          refine J_iload_n C dX5_giveWay_63 rfl 2 rfl ?_
          refine J_iastore C (tl_5_0 h0) dX5_giveWay_64 ?_
          refine J_mlet (fun M5 => ?_)
          refine J_aload_n C dX5_giveWay_65 rfl 0 rfl ?_
          refine J_getr C fk5_0 W1_97 h0 dX5_giveWay_66 ?_
          refine J_iload_n C dX5_giveWay_69 rfl 1 rfl ?_
          refine J_iconst C dX5_giveWay_70 kci_m1 ?_
          refine J_iastore C (tl_5_0 h0) dX5_giveWay_71 ?_
          refine J_mlet (fun M6 => ?_)
          exact J_vret C RT dX5_giveWay_72
def s5_giveWay (n : Nat) (o0 : Nat) (x1 : Int32) (M : Mem) : Option Res := if inB x1 (alen (link o0 0)) then ilet (M (link o0 0) x1.toNatClampNeg) (fun v1 => if inB ((x1 * (11 : Int32)) + v1) (alen (link o0 1)) then ilet (M (link o0 1) ((x1 * (11 : Int32)) + v1).toNatClampNeg) (fun v2 => s5_giveWay_22 n o0 x1 v1 v2 n (0 : Int32) M) else none) else none
set_option maxRecDepth 100000 in
set_option maxHeartbeats 4000000 in
theorem b5_giveWay {w : WE} {g : GT} (C : CT w g RX5 cX5_giveWay rm5_giveWay 5) (RT : RTv w g cX5_giveWay) (n : Nat) (o0 : Nat) (h0 : typ o0 = 5) (x1 : Int32) (M : Mem) : J w g (s5_giveWay n o0 x1 M) M 0 [(0, .ref (wa w o0)), (1, .int x1)] [] := by
  rw [s5_giveWay]
  refine J_aload_n C dX5_giveWay_0 rfl 0 rfl ?_
  refine J_getr C fk5_0 W1_97 h0 dX5_giveWay_1 ?_
  refine J_iload_n C dX5_giveWay_4 rfl 1 rfl ?_
  refine J_aload_ C (tl_5_0 h0) dX5_giveWay_5 ?_
  refine J_ilet (fun v1 => ?_)
  refine J_istore_n (lv' := [(2, .int v1), (0, .ref (wa w o0)), (1, .int x1)]) C dX5_giveWay_6 rfl (by decide) rfl ?_
  refine J_aload_n C dX5_giveWay_7 rfl 1 rfl ?_
  refine J_getr C fk5_1 W1_98 h0 dX5_giveWay_8 ?_
  refine J_iload_n C dX5_giveWay_11 rfl 2 rfl ?_
  refine J_bipush C dX5_giveWay_12 kcb_11 ?_
  refine J_imul C dX5_giveWay_14 ?_
  refine J_iload_n C dX5_giveWay_15 rfl 0 rfl ?_
  refine J_iadd C dX5_giveWay_16 ?_
  refine J_aload_ C (tl_5_1 h0) dX5_giveWay_17 ?_
  refine J_ilet (fun v2 => ?_)
  refine J_istore_n (lv' := [(3, .int v2), (2, .int v1), (0, .ref (wa w o0)), (1, .int x1)]) C dX5_giveWay_18 rfl (by decide) rfl ?_
  refine J_iconst C dX5_giveWay_19 kci_0 ?_
  refine J_istore (lv' := [(4, .int (0 : Int32)), (3, .int v2), (2, .int v1), (0, .ref (wa w o0)), (1, .int x1)]) C dX5_giveWay_20 (by decide) rfl ?_
  refine J_lv [3, 4, 2, 1, 0] rfl ?_
  exact b5_giveWay_22 C RT n o0 h0 x1 v1 v2 n (0 : Int32) M
theorem c5_giveWay (l : Launch) (w : WE) (n : Nat) (o0 : Nat) (h0 : typ o0 = 5) (x1 : Int32) (M : Mem) : MV l w yX5_giveWay (wz yX5_giveWay cX5_giveWay 5 none) rm5_giveWay [.ref (wa w o0), .int x1] (s5_giveWay n o0 x1 M) M :=
  mv_of_J (own := RX5) rfl (by decide) rfl rfl (Nat.le_of_ble_eq_true rfl) (fun _ _ C RT => b5_giveWay C RT n o0 h0 x1 M)
theorem hdX5_giveWay : yX5_giveWay.cls = RX5 ∧ yOK yX5_giveWay 1 := ⟨rfl, by decide, by decide, by decide⟩
abbrev rm5_seatAll : Room := { frames := 2, cells := 0, slots := 0, locals := 49 }
def s5_seatAll_34 (n : Nat) (o0 : Nat) (o1 : Nat) : Nat → Int32 → Mem → Option Res
  | 0, _, _ => none
  | f + 1, x3, M => if (M o0 3) ≤ x3 then (some (0, M)) else (if inB x3 (alen (link o1 3)) then if (M (link (link o1 3) x3.toNatClampNeg) 3) = (6 : Int32) then (if inB x3 (alen (link o0 0)) then if (M (link o0 0) x3.toNatClampNeg) < 0 then (ilet (x3 + 1) (fun v5 => s5_seatAll_34 n o0 o1 f v5 M)) else (cb (s5_giveWay n o0 x3 M) (fun _ M6 => ilet (x3 + 1) (fun v8 => s5_seatAll_34 n o0 o1 f v8 M6))) else none) else (ilet (x3 + 1) (fun v4 => s5_seatAll_34 n o0 o1 f v4 M)) else none)
set_option maxRecDepth 100000 in
set_option maxHeartbeats 4000000 in
theorem b5_seatAll_34 {w : WE} {g : GT} (C : CT w g RX5 cX5_seatAll rm5_seatAll 4) (RT : RTv w g cX5_seatAll) (n : Nat) (o0 : Nat) (h0 : typ o0 = 5) (o1 : Nat) (h1 : typ o1 = 2) : ∀ (f : Nat) (x3 : Int32) (M : Mem), J w g (s5_seatAll_34 n o0 o1 f x3 M) M 34 [(0, .ref (wa w o0)), (1, .ref (wa w o1)), (3, .int x3)] [] := by
  intro f
  induction f with
  | zero =>
    intro x3 M
    rw [s5_seatAll_34]
    exact J_none
  | succ f ih =>
    intro x3 M
    rw [s5_seatAll_34]
    refine J_iload_n C dX5_seatAll_34 rfl 2 rfl ?_
    refine J_aload_n C dX5_seatAll_35 rfl 0 rfl ?_
    refine J_geti C fk5_3 W1_100 h0 dX5_seatAll_36 ?_
    refine J_icmp_ge (tgt := 76) C dX5_seatAll_39 (by decide) (fun _ => ?_) (fun _ => ?_)
    · exact J_vret C RT dX5_seatAll_76
    · refine J_aload_n C dX5_seatAll_42 rfl 1 rfl ?_
      refine J_getr C fk2_3 W1_175 h1 dX5_seatAll_43 ?_
      refine J_iload_n C dX5_seatAll_46 rfl 2 rfl ?_
      refine J_aaload C (tl_2_3 h1) dX5_seatAll_47 (fun hb3 => ?_)
      refine J_geti C fk7_3 W1_131 (t_wk (tl_2_3 h1) hb3) dX5_seatAll_48 ?_
      refine J_bipush C dX5_seatAll_51 kcb_6 ?_
      refine J_icmp_ne (tgt := 70) C dX5_seatAll_53 (by decide) (fun _ => ?_) (fun _ => ?_)
      · refine J_iinc (lw := fun v4 => [(3, .int v4), (0, .ref (wa w o0)), (1, .ref (wa w o1))]) (X := x3 + 1) C dX5_seatAll_70 (q := 2) rfl (by rw [kci_1]) (by decide) (fun _ => rfl) (fun v4 => ?_)
        refine J_goto (tgt := 34) C dX5_seatAll_73 (by decide) ?_
        refine J_lv [1, 2, 0] rfl ?_
        exact ih v4 M
      · refine J_aload_n C dX5_seatAll_56 rfl 0 rfl ?_
        refine J_getr C fk5_0 W1_97 h0 dX5_seatAll_57 ?_
        refine J_iload_n C dX5_seatAll_60 rfl 2 rfl ?_
        refine J_aload_ C (tl_5_0 h0) dX5_seatAll_61 ?_
        refine J_if_lt (tgt := 70) C dX5_seatAll_62 (by decide) (fun _ => ?_) (fun _ => ?_)
        · refine J_iinc (lw := fun v5 => [(3, .int v5), (0, .ref (wa w o0)), (1, .ref (wa w o1))]) (X := x3 + 1) C dX5_seatAll_70 (q := 2) rfl (by rw [kci_1]) (by decide) (fun _ => rfl) (fun v5 => ?_)
          refine J_goto (tgt := 34) C dX5_seatAll_73 (by decide) ?_
          refine J_lv [1, 2, 0] rfl ?_
          exact ih v5 M
        · refine J_aload_n C dX5_seatAll_65 rfl 0 rfl ?_
          refine J_iload_n C dX5_seatAll_66 rfl 2 rfl ?_
          refine J_cvv (As := [.int x3]) C (c5_giveWay (gl g) w n o0 h0 x3 M) (gd_v W3_163 W3_165 WP_17 W1_6 W3_166) rfl (by decide) (hdX5_giveWay) h0 (by decide) (cl_5) rfl (Nat.le_of_ble_eq_true rfl) dX5_seatAll_67 rfl (fun r7 M6 => ?_)
          refine J_iinc (lw := fun v8 => [(3, .int v8), (0, .ref (wa w o0)), (1, .ref (wa w o1))]) (X := x3 + 1) C dX5_seatAll_70 (q := 2) rfl (by rw [kci_1]) (by decide) (fun _ => rfl) (fun v8 => ?_)
          refine J_goto (tgt := 34) C dX5_seatAll_73 (by decide) ?_
          refine J_lv [1, 2, 0] rfl ?_
          exact ih v8 M6
def s5_seatAll_9 (n : Nat) (o0 : Nat) (o1 : Nat) : Nat → Int32 → Int32 → Mem → Option Res
  | 0, _, _, _ => none
  | f + 1, x2, x3, M => if (M o0 4) ≤ x3 then (s5_seatAll_34 n o0 o1 n (0 : Int32) M) else (if x2 = 0 then (s5_seatAll_34 n o0 o1 n (0 : Int32) M) else (cb (s5_seatLeastHaste n o0 M) (fun r10 M9 => ilet (x3 + 1) (fun v11 => s5_seatAll_9 n o0 o1 f r10 v11 M9))))
set_option maxRecDepth 100000 in
set_option maxHeartbeats 4000000 in
theorem b5_seatAll_9 {w : WE} {g : GT} (C : CT w g RX5 cX5_seatAll rm5_seatAll 4) (RT : RTv w g cX5_seatAll) (n : Nat) (o0 : Nat) (h0 : typ o0 = 5) (o1 : Nat) (h1 : typ o1 = 2) : ∀ (f : Nat) (x2 : Int32) (x3 : Int32) (M : Mem), J w g (s5_seatAll_9 n o0 o1 f x2 x3 M) M 9 [(0, .ref (wa w o0)), (1, .ref (wa w o1)), (2, .int x2), (3, .int x3)] [] := by
  intro f
  induction f with
  | zero =>
    intro x2 x3 M
    rw [s5_seatAll_9]
    exact J_none
  | succ f ih =>
    intro x2 x3 M
    rw [s5_seatAll_9]
    refine J_iload_n C dX5_seatAll_9 rfl 3 rfl ?_
    refine J_aload_n C dX5_seatAll_10 rfl 0 rfl ?_
    refine J_geti C fk5_4 W1_101 h0 dX5_seatAll_11 ?_
    refine J_icmp_ge (tgt := 32) C dX5_seatAll_14 (by decide) (fun _ => ?_) (fun _ => ?_)
    · refine J_iconst C dX5_seatAll_32 kci_0 ?_
      refine J_istore_n (lv' := [(3, .int (0 : Int32)), (0, .ref (wa w o0)), (1, .ref (wa w o1)), (2, .int x2)]) C dX5_seatAll_33 rfl (by decide) rfl ?_
      refine J_lv [1, 2, 0] rfl ?_
      exact b5_seatAll_34 C RT n o0 h0 o1 h1 n (0 : Int32) M
    · refine J_iload_n C dX5_seatAll_17 rfl 2 rfl ?_
      refine J_if_eq (tgt := 32) C dX5_seatAll_18 (by decide) (fun _ => ?_) (fun _ => ?_)
      · refine J_iconst C dX5_seatAll_32 kci_0 ?_
        refine J_istore_n (lv' := [(3, .int (0 : Int32)), (0, .ref (wa w o0)), (1, .ref (wa w o1)), (2, .int x2)]) C dX5_seatAll_33 rfl (by decide) rfl ?_
        refine J_lv [1, 2, 0] rfl ?_
        exact b5_seatAll_34 C RT n o0 h0 o1 h1 n (0 : Int32) M
      · refine J_aload_n C dX5_seatAll_21 rfl 0 rfl ?_
        refine J_cvi (As := []) C (c5_seatLeastHaste (gl g) w n o0 h0 M) (gd_v W3_159 W3_161 WP_16 W1_6 W3_162) rfl (by decide) (hdX5_seatLeastHaste) h0 (by decide) (cl_5) rfl (Nat.le_of_ble_eq_true rfl) dX5_seatAll_22 rfl (fun r10 M9 => ?_)
        refine J_istore_n (lv' := [(2, .int r10), (0, .ref (wa w o0)), (1, .ref (wa w o1)), (3, .int x3)]) C dX5_seatAll_25 rfl (by decide) rfl ?_
        refine J_iinc (lw := fun v11 => [(3, .int v11), (2, .int r10), (0, .ref (wa w o0)), (1, .ref (wa w o1))]) (X := x3 + 1) C dX5_seatAll_26 (q := 3) rfl (by rw [kci_1]) (by decide) (fun _ => rfl) (fun v11 => ?_)
        refine J_goto (tgt := 9) C dX5_seatAll_29 (by decide) ?_
        refine J_lv [2, 3, 1, 0] rfl ?_
        exact ih r10 v11 M9
def s5_seatAll (n : Nat) (o0 : Nat) (o1 : Nat) (M : Mem) : Option Res := cb (s5_measure n o0 o1 M) (fun _ M1 => s5_seatAll_9 n o0 o1 n (1 : Int32) (0 : Int32) M1)
set_option maxRecDepth 100000 in
set_option maxHeartbeats 4000000 in
theorem b5_seatAll {w : WE} {g : GT} (C : CT w g RX5 cX5_seatAll rm5_seatAll 4) (RT : RTv w g cX5_seatAll) (n : Nat) (o0 : Nat) (h0 : typ o0 = 5) (o1 : Nat) (h1 : typ o1 = 2) (M : Mem) : J w g (s5_seatAll n o0 o1 M) M 0 [(0, .ref (wa w o0)), (1, .ref (wa w o1))] [] := by
  rw [s5_seatAll]
  refine J_aload_n C dX5_seatAll_0 rfl 0 rfl ?_
  refine J_aload_n C dX5_seatAll_1 rfl 1 rfl ?_
  refine J_cvv (As := [.ref (wa w o1)]) C (c5_measure (gl g) w n o0 h0 o1 h1 M) (gd_v W3_148 W3_150 WP_15 W1_6 W3_151) rfl (by decide) (hdX5_measure) h0 (by decide) (cl_5) rfl (Nat.le_of_ble_eq_true rfl) dX5_seatAll_2 rfl (fun r2 M1 => ?_)
  refine J_iconst C dX5_seatAll_5 kci_1 ?_
  refine J_istore_n (lv' := [(2, .int (1 : Int32)), (0, .ref (wa w o0)), (1, .ref (wa w o1))]) C dX5_seatAll_6 rfl (by decide) rfl ?_
  refine J_iconst C dX5_seatAll_7 kci_0 ?_
  refine J_istore_n (lv' := [(3, .int (0 : Int32)), (2, .int (1 : Int32)), (0, .ref (wa w o0)), (1, .ref (wa w o1))]) C dX5_seatAll_8 rfl (by decide) rfl ?_
  refine J_lv [2, 3, 1, 0] rfl ?_
  exact b5_seatAll_9 C RT n o0 h0 o1 h1 n (1 : Int32) (0 : Int32) M1
theorem c5_seatAll (l : Launch) (w : WE) (n : Nat) (o0 : Nat) (h0 : typ o0 = 5) (o1 : Nat) (h1 : typ o1 = 2) (M : Mem) : MV l w yX5_seatAll (wz yX5_seatAll cX5_seatAll 4 none) rm5_seatAll [.ref (wa w o0), .ref (wa w o1)] (s5_seatAll n o0 o1 M) M :=
  mv_of_J (own := RX5) rfl (by decide) rfl rfl (Nat.le_of_ble_eq_true rfl) (fun _ _ C RT => b5_seatAll C RT n o0 h0 o1 h1 M)
theorem hdX5_seatAll : yX5_seatAll.cls = RX5 ∧ yOK yX5_seatAll 1 := ⟨rfl, by decide, by decide, by decide⟩
abbrev rm0_seatBehindTenth : Room := { frames := 3, cells := 0, slots := 0, locals := 72 }
def s0_seatBehindTenth (n : Nat) (o0 : Nat) (M : Mem) : Option Res := cb (s2_walkAll n (link o0 1) M) (fun _ M1 => cb (s5_seatAll n (link (link o0 1) 2) (link o0 1) M1) (fun _ M3 => some (0, M3)))
set_option maxRecDepth 100000 in
set_option maxHeartbeats 4000000 in
theorem b0_seatBehindTenth {w : WE} {g : GT} (C : CT w g RX0 cX0_seatBehindTenth rm0_seatBehindTenth 1) (RT : RTv w g cX0_seatBehindTenth) (n : Nat) (o0 : Nat) (h0 : typ o0 = 0) (M : Mem) : J w g (s0_seatBehindTenth n o0 M) M 0 [(0, .ref (wa w o0))] [] := by
  rw [s0_seatBehindTenth]
  refine J_aload_n C dX0_seatBehindTenth_0 rfl 0 rfl ?_
  refine J_getr C fk0_1 W1_217 h0 dX0_seatBehindTenth_1 ?_
  refine J_cvv (As := []) C (c2_walkAll (gl g) w n (link o0 1) (tl_0_1 h0) M) (gd_v W3_239 W3_118 W3_119 W1_3 W3_120) rfl (by decide) (hdX2_walkAll) (tl_0_1 h0) (by decide) (cl_2) rfl (Nat.le_of_ble_eq_true rfl) dX0_seatBehindTenth_4 rfl (fun r2 M1 => ?_)
  refine J_aload_n C dX0_seatBehindTenth_7 rfl 0 rfl ?_
  refine J_getr C fk0_1 W1_217 h0 dX0_seatBehindTenth_8 ?_
  refine J_getr C fk2_2 W1_172 (tl_0_1 h0) dX0_seatBehindTenth_11 ?_
  refine J_aload_n C dX0_seatBehindTenth_14 rfl 0 rfl ?_
  refine J_getr C fk0_1 W1_217 h0 dX0_seatBehindTenth_15 ?_
  refine J_cvv (As := [.ref (wa w (link o0 1))]) C (c5_seatAll (gl g) w n (link (link o0 1) 2) (tl_2_2 (tl_0_1 h0)) (link o0 1) (tl_0_1 h0) M1) (gd_v W4_0 W3_145 W3_146 W1_6 W3_147) rfl (by decide) (hdX5_seatAll) (tl_2_2 (tl_0_1 h0)) (by decide) (cl_5) rfl (Nat.le_of_ble_eq_true rfl) dX0_seatBehindTenth_18 rfl (fun r4 M3 => ?_)
  exact J_vret C RT dX0_seatBehindTenth_21
theorem c0_seatBehindTenth (l : Launch) (w : WE) (n : Nat) (o0 : Nat) (h0 : typ o0 = 0) (M : Mem) : MV l w yX0_seatBehindTenth (wz yX0_seatBehindTenth cX0_seatBehindTenth 1 none) rm0_seatBehindTenth [.ref (wa w o0)] (s0_seatBehindTenth n o0 M) M :=
  mv_of_J (own := RX0) rfl (by decide) rfl rfl (Nat.le_of_ble_eq_true rfl) (fun _ _ C RT => b0_seatBehindTenth C RT n o0 h0 M)
theorem hdX0_seatBehindTenth : yX0_seatBehindTenth.cls = RX0 ∧ yOK yX0_seatBehindTenth 0 := ⟨rfl, by decide, by decide, by decide⟩
abbrev rm5_isSeated : Room := { frames := 0, cells := 0, slots := 0, locals := 0 }
def s5_isSeated (o0 : Nat) (x1 : Int32) (M : Mem) : Option Res := if x1 < 0 then (some ((0 : Int32), M)) else (if (M o0 3) ≤ x1 then (some ((0 : Int32), M)) else (if inB x1 (alen (link o0 0)) then if (M (link o0 0) x1.toNatClampNeg) < 0 then (some ((0 : Int32), M)) else (some ((1 : Int32), M)) else none))
set_option maxRecDepth 100000 in
set_option maxHeartbeats 4000000 in
theorem b5_isSeated {w : WE} {g : GT} (C : CT w g RX5 cX5_isSeated rm5_isSeated 2) (RT : RTi w g cX5_isSeated .boolean) (o0 : Nat) (h0 : typ o0 = 5) (x1 : Int32) (M : Mem) : J w g (s5_isSeated o0 x1 M) M 0 [(0, .ref (wa w o0)), (1, .int x1)] [] := by
  rw [s5_isSeated]
  refine J_iload_n C dX5_isSeated_0 rfl 1 rfl ?_
  refine J_if_lt (tgt := 25) C dX5_isSeated_1 (by decide) (fun _ => ?_) (fun _ => ?_)
  · refine J_iconst C dX5_isSeated_25 kci_0 ?_
    exact J_iret C RT (by decide) dX5_isSeated_26
  · refine J_iload_n C dX5_isSeated_4 rfl 1 rfl ?_
    refine J_aload_n C dX5_isSeated_5 rfl 0 rfl ?_
    refine J_geti C fk5_3 W1_100 h0 dX5_isSeated_6 ?_
    refine J_icmp_ge (tgt := 25) C dX5_isSeated_9 (by decide) (fun _ => ?_) (fun _ => ?_)
    · refine J_iconst C dX5_isSeated_25 kci_0 ?_
      exact J_iret C RT (by decide) dX5_isSeated_26
    · refine J_aload_n C dX5_isSeated_12 rfl 0 rfl ?_
      refine J_getr C fk5_0 W1_97 h0 dX5_isSeated_13 ?_
      refine J_iload_n C dX5_isSeated_16 rfl 1 rfl ?_
      refine J_aload_ C (tl_5_0 h0) dX5_isSeated_17 ?_
      refine J_if_lt (tgt := 25) C dX5_isSeated_18 (by decide) (fun _ => ?_) (fun _ => ?_)
      · refine J_iconst C dX5_isSeated_25 kci_0 ?_
        exact J_iret C RT (by decide) dX5_isSeated_26
      · refine J_iconst C dX5_isSeated_21 kci_1 ?_
        refine J_goto (tgt := 26) C dX5_isSeated_22 (by decide) ?_
        exact J_iret C RT (by decide) dX5_isSeated_26
theorem c5_isSeated (l : Launch) (w : WE) (o0 : Nat) (h0 : typ o0 = 5) (x1 : Int32) (M : Mem) : MC l w yX5_isSeated (wz yX5_isSeated cX5_isSeated 2 (some .boolean)) rm5_isSeated [.ref (wa w o0), .int x1] (s5_isSeated o0 x1 M) M :=
  mc_of_J (own := RX5) rfl (by decide) rfl rfl (Nat.le_of_ble_eq_true rfl) (fun _ _ C RT => b5_isSeated C RT o0 h0 x1 M)
theorem hdX5_isSeated : yX5_isSeated.cls = RX5 ∧ yOK yX5_isSeated 1 := ⟨rfl, by decide, by decide, by decide⟩
abbrev rm0_oddsAt : Room := { frames := 4, cells := 0, slots := 0, locals := 92 }
def s0_oddsAt_43 (n : Nat) (o0 : Nat) (x1 : Int32) (x2 : Int32) : Nat → Int32 → Int32 → Mem → Option Res
  | 0, _, _, _ => none
  | f + 1, x4, x5, M => if x2 ≤ x5 then (some (x4, M)) else (cb (s0_seatBehindTenth n o0 M) (fun _ M7 => cb (s5_isSeated (link (link o0 1) 2) x1 M7) (fun r10 M9 => if r10 = 0 then (ilet (x5 + 1) (fun v11 => s0_oddsAt_43 n o0 x1 x2 f x4 v11 M9)) else (ilet (x4 + 1) (fun v12 => ilet (x5 + 1) (fun v13 => s0_oddsAt_43 n o0 x1 x2 f v12 v13 M9))))))
set_option maxRecDepth 100000 in
set_option maxHeartbeats 4000000 in
theorem b0_oddsAt_43 {w : WE} {g : GT} (C : CT w g RX0 cX0_oddsAt rm0_oddsAt 6) (RT : RTi w g cX0_oddsAt .int) (n : Nat) (o0 : Nat) (h0 : typ o0 = 0) (x1 : Int32) (x2 : Int32) : ∀ (f : Nat) (x4 : Int32) (x5 : Int32) (M : Mem), J w g (s0_oddsAt_43 n o0 x1 x2 f x4 x5 M) M 43 [(0, .ref (wa w o0)), (1, .int x1), (2, .int x2), (4, .int x4), (5, .int x5)] [] := by
  intro f
  induction f with
  | zero =>
    intro x4 x5 M
    rw [s0_oddsAt_43]
    exact J_none
  | succ f ih =>
    intro x4 x5 M
    rw [s0_oddsAt_43]
    refine J_iload C dX0_oddsAt_43 4 rfl ?_
    refine J_iload_n C dX0_oddsAt_45 rfl 2 rfl ?_
    refine J_icmp_ge (tgt := 76) C dX0_oddsAt_46 (by decide) (fun _ => ?_) (fun _ => ?_)
    · refine J_iload C dX0_oddsAt_76 3 rfl ?_
      exact J_iret C RT rfl dX0_oddsAt_78
    · refine J_aload_n C dX0_oddsAt_49 rfl 0 rfl ?_
      refine J_cvv (As := []) C (c0_seatBehindTenth (gl g) w n o0 h0 M) (gd_v W3_235 W3_237 WP_20 W1_2 W3_238) rfl (by decide) (hdX0_seatBehindTenth) h0 (by decide) (cl_0) rfl (Nat.le_of_ble_eq_true rfl) dX0_oddsAt_50 rfl (fun r8 M7 => ?_)
      refine J_aload_n C dX0_oddsAt_53 rfl 0 rfl ?_
      refine J_getr C fk0_1 W1_217 h0 dX0_oddsAt_54 ?_
      refine J_getr C fk2_2 W1_172 (tl_0_1 h0) dX0_oddsAt_57 ?_
      refine J_iload_n C dX0_oddsAt_60 rfl 1 rfl ?_
      refine J_cvi (As := [.int x1]) C (c5_isSeated (gl g) w (link (link o0 1) 2) (tl_2_2 (tl_0_1 h0)) x1 M7) (gd_v W4_1 W3_172 W3_173 W1_6 W3_174) rfl (by decide) (hdX5_isSeated) (tl_2_2 (tl_0_1 h0)) (by decide) (cl_5) rfl (Nat.le_of_ble_eq_true rfl) dX0_oddsAt_61 rfl (fun r10 M9 => ?_)
      refine J_if_eq (tgt := 70) C dX0_oddsAt_64 (by decide) (fun _ => ?_) (fun _ => ?_)
      · refine J_iinc (lw := fun v11 => [(5, .int v11), (0, .ref (wa w o0)), (1, .int x1), (2, .int x2), (4, .int x4)]) (X := x5 + 1) C dX0_oddsAt_70 (q := 4) rfl (by rw [kci_1]) (by decide) (fun _ => rfl) (fun v11 => ?_)
        refine J_goto (tgt := 43) C dX0_oddsAt_73 (by decide) ?_
        refine J_lv [1, 2, 3, 4, 0] rfl ?_
        exact ih x4 v11 M9
      · refine J_iinc (lw := fun v12 => [(4, .int v12), (0, .ref (wa w o0)), (1, .int x1), (2, .int x2), (5, .int x5)]) (X := x4 + 1) C dX0_oddsAt_67 (q := 3) rfl (by rw [kci_1]) (by decide) (fun _ => rfl) (fun v12 => ?_)
        refine J_iinc (lw := fun v13 => [(5, .int v13), (4, .int v12), (0, .ref (wa w o0)), (1, .int x1), (2, .int x2)]) (X := x5 + 1) C dX0_oddsAt_70 (q := 4) rfl (by rw [kci_1]) (by decide) (fun _ => rfl) (fun v13 => ?_)
        refine J_goto (tgt := 43) C dX0_oddsAt_73 (by decide) ?_
        refine J_lv [2, 3, 4, 1, 0] rfl ?_
        exact ih v12 v13 M9
def s0_oddsAt (n : Nat) (o0 : Nat) (x1 : Int32) (x2 : Int32) (x3 : Int32) (M : Mem) : Option Res := cb (s2_become n (link o0 1) (link o0 0) M) (fun _ M1 => cb (s2_knowsIn (link o0 1) x1 M1) (fun r4 M3 => if r4 = 0 then (some ((0 : Int32), M3)) else (if inB x1 (alen (link (link o0 1) 3)) then mlet (mset M3 (link (link (link o0 1) 3) x1.toNatClampNeg) 5 x3) (fun M6 => s0_oddsAt_43 n o0 x1 x2 n (0 : Int32) (0 : Int32) M6) else none)))
set_option maxRecDepth 100000 in
set_option maxHeartbeats 4000000 in
theorem b0_oddsAt {w : WE} {g : GT} (C : CT w g RX0 cX0_oddsAt rm0_oddsAt 6) (RT : RTi w g cX0_oddsAt .int) (n : Nat) (o0 : Nat) (h0 : typ o0 = 0) (x1 : Int32) (x2 : Int32) (x3 : Int32) (M : Mem) : J w g (s0_oddsAt n o0 x1 x2 x3 M) M 0 [(0, .ref (wa w o0)), (1, .int x1), (2, .int x2), (3, .int x3)] [] := by
  rw [s0_oddsAt]
  refine J_aload_n C dX0_oddsAt_0 rfl 0 rfl ?_
  refine J_getr C fk0_1 W1_217 h0 dX0_oddsAt_1 ?_
  refine J_aload_n C dX0_oddsAt_4 rfl 0 rfl ?_
  refine J_getr C fk0_0 W1_215 h0 dX0_oddsAt_5 ?_
  refine J_cvv (As := [.ref (wa w (link o0 0))]) C (c2_become (gl g) w n (link o0 1) (tl_0_1 h0) (link o0 0) (tl_0_0 h0) M) (gd_v W2_170 W2_171 W2_172 W1_3 W2_173) rfl (by decide) (hdX2_become) (tl_0_1 h0) (by decide) (cl_2) rfl (Nat.le_of_ble_eq_true rfl) dX0_oddsAt_8 rfl (fun r2 M1 => ?_)
  refine J_aload_n C dX0_oddsAt_11 rfl 0 rfl ?_
  refine J_getr C fk0_1 W1_217 h0 dX0_oddsAt_12 ?_
  refine J_iload_n C dX0_oddsAt_15 rfl 1 rfl ?_
  refine J_cvi (As := [.int x1]) C (c2_knowsIn (gl g) w (link o0 1) (tl_0_1 h0) x1 M1) (gd_v W3_234 W3_110 W3_111 W1_3 W3_112) rfl (by decide) (hdX2_knowsIn) (tl_0_1 h0) (by decide) (cl_2) rfl (Nat.le_of_ble_eq_true rfl) dX0_oddsAt_16 rfl (fun r4 M3 => ?_)
  refine J_if_ne (tgt := 24) C dX0_oddsAt_19 (by decide) (fun _ => ?_) (fun _ => ?_)
  · refine J_aload_n C dX0_oddsAt_24 rfl 0 rfl ?_
    refine J_getr C fk0_1 W1_217 h0 dX0_oddsAt_25 ?_
    refine J_getr C fk2_3 W1_176 (tl_0_1 h0) dX0_oddsAt_28 ?_
    refine J_iload_n C dX0_oddsAt_31 rfl 1 rfl ?_
    refine J_aaload C (tl_2_3 (tl_0_1 h0)) dX0_oddsAt_32 (fun hb5 => ?_)
    refine J_iload_n C dX0_oddsAt_33 rfl 3 rfl ?_
    refine J_puti C fk7_5 W1_135 fp7_5 (t_wk (tl_2_3 (tl_0_1 h0)) hb5) dX0_oddsAt_34 ?_
    refine J_mlet (fun M6 => ?_)
    refine J_iconst C dX0_oddsAt_37 kci_0 ?_
    refine J_istore (lv' := [(4, .int (0 : Int32)), (0, .ref (wa w o0)), (1, .int x1), (2, .int x2), (3, .int x3)]) C dX0_oddsAt_38 (by decide) rfl ?_
    refine J_iconst C dX0_oddsAt_40 kci_0 ?_
    refine J_istore (lv' := [(5, .int (0 : Int32)), (4, .int (0 : Int32)), (0, .ref (wa w o0)), (1, .int x1), (2, .int x2), (3, .int x3)]) C dX0_oddsAt_41 (by decide) rfl ?_
    refine J_lv [2, 3, 4, 1, 0] rfl ?_
    exact b0_oddsAt_43 C RT n o0 h0 x1 x2 n (0 : Int32) (0 : Int32) M6
  · refine J_iconst C dX0_oddsAt_22 kci_0 ?_
    exact J_iret C RT rfl dX0_oddsAt_23
theorem c0_oddsAt (l : Launch) (w : WE) (n : Nat) (o0 : Nat) (h0 : typ o0 = 0) (x1 : Int32) (x2 : Int32) (x3 : Int32) (M : Mem) : MC l w yX0_oddsAt (wz yX0_oddsAt cX0_oddsAt 6 (some .int)) rm0_oddsAt [.ref (wa w o0), .int x1, .int x2, .int x3] (s0_oddsAt n o0 x1 x2 x3 M) M :=
  mc_of_J (own := RX0) rfl (by decide) rfl rfl (Nat.le_of_ble_eq_true rfl) (fun _ _ C RT => b0_oddsAt C RT n o0 h0 x1 x2 x3 M)
theorem hdX0_oddsAt : yX0_oddsAt.cls = RX0 ∧ yOK yX0_oddsAt 3 := ⟨rfl, by decide, by decide, by decide⟩
