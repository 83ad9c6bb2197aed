abbrev rm9_comes : Room := { frames := 1, cells := 0, slots := 0, locals := 23 }
def s9_comes (n : Nat) (o0 : Nat) (x1 : Int32) (M : Mem) : Option Res := if inB x1 (alen (link o0 23)) then ilet (M (link o0 23) x1.toNatClampNeg) (fun v1 => if inB x1 (alen (link o0 21)) then if (M (link o0 21) x1.toNatClampNeg) = 99 then (cb (s9_isPlace o0 v1 M) (fun r3 M2 => if r3 = 0 then (some ((0 : Int32), M2)) else (if inB v1 (alen (link o0 1)) then if (M2 (link o0 1) v1.toNatClampNeg) = (1 : Int32) then (some ((0 : Int32), M2)) else (cb (s9_chairs n o0 M2) (fun r5 M4 => if r5 = (11 : Int32) then (some ((0 : Int32), M4)) else (cb (s9_comesChair o0 v1 M4) (fun _ M6 => some ((1 : Int32), M6))))) else none))) else (if (M (link o0 21) x1.toNatClampNeg) = 110 then (cb (s9_isIn v1 (4 : Int32) (60 : Int32) M) (fun r9 M8 => if r9 = 0 then (some ((0 : Int32), M8)) else (if 0 < (M8 o0 12) then (some ((0 : Int32), M8)) else (cb (s9_chairs n o0 M8) (fun r11 M10 => if r11 ≤ 0 then (mlet (mset M10 o0 11 v1) (fun M12 => some ((1 : Int32), M12))) else (some ((0 : Int32), M10))))))) else (if (M (link o0 21) x1.toNatClampNeg) = 112 then (if (4 : Int32) < v1 then (some ((0 : Int32), M)) else (if inB x1 (alen (link o0 25)) then cb (s9_isIn (M (link o0 25) x1.toNatClampNeg) (1 : Int32) (99 : Int32) M) (fun r14 M13 => if r14 = 0 then (some ((0 : Int32), M13)) else (mlet (mset M13 o0 13 v1) (fun M15 => if inB x1 (alen (link o0 25)) then mlet (mset M15 o0 14 (M15 (link o0 25) x1.toNatClampNeg)) (fun M16 => some ((1 : Int32), M16)) else none))) else none)) else (if (M (link o0 21) x1.toNatClampNeg) = 119 then (cb (s9_isPlace o0 v1 M) (fun r18 M17 => if r18 = 0 then (some ((0 : Int32), M17)) else (if inB x1 (alen (link o0 24)) then if (6 : Int32) < (M17 (link o0 24) x1.toNatClampNeg) then (some ((0 : Int32), M17)) else (if inB x1 (alen (link o0 25)) then cb (s9_isIn (M17 (link o0 25) x1.toNatClampNeg) (1 : Int32) (99 : Int32) M17) (fun r20 M19 => if r20 = 0 then (some ((0 : Int32), M19)) else (if (M19 o0 12) = (12 : Int32) then (some ((0 : Int32), M19)) else (cb (s9_isTaken n o0 v1 M19) (fun r22 M21 => if r22 = 0 then (if inB x1 (alen (link o0 24)) then if inB x1 (alen (link o0 25)) then cb (s9_comesWalker n o0 v1 (M21 (link o0 24) x1.toNatClampNeg) (M21 (link o0 25) x1.toNatClampNeg) M21) (fun _ M23 => some ((1 : Int32), M23)) else none else none) else (some ((0 : Int32), M21)))))) else none) else none))) else (if v1 ≤ (2 : Int32) then (mlet (mset M o0 15 v1) (fun M25 => some ((1 : Int32), M25))) else (some ((0 : Int32), M)))))) else none) else none
set_option maxRecDepth 100000 in
set_option maxHeartbeats 4000000 in
theorem b9_comes {w : WE} {g : GT} (C : CT w g RX9 cX9_comes rm9_comes 3) (RT : RTi w g cX9_comes .boolean) (n : Nat) (o0 : Nat) (h0 : typ o0 = 9) (x1 : Int32) (M : Mem) : J w g (s9_comes n o0 x1 M) M 0 [(0, .ref (wa w o0)), (1, .int x1)] [] := by
  rw [s9_comes]
  refine J_aload_n C dX9_comes_0 rfl 0 rfl ?_
  refine J_getr C fk9_23 W4_200 h0 dX9_comes_1 ?_
  refine J_iload_n C dX9_comes_4 rfl 1 rfl ?_
  refine J_aload_ C (tl_9_23 h0) dX9_comes_5 ?_
  refine J_ilet (fun v1 => ?_)
  refine J_istore_n (lv' := [(2, .int v1), (0, .ref (wa w o0)), (1, .int x1)]) C dX9_comes_6 rfl (by decide) rfl ?_
  refine J_aload_n C dX9_comes_7 rfl 1 rfl ?_
  refine J_getr C fk9_21 W4_198 h0 dX9_comes_8 ?_
  refine J_iload_n C dX9_comes_11 rfl 2 rfl ?_
  refine J_aload_ C (tl_9_21 h0) dX9_comes_12 ?_
  refine J_ite (fun hc0 => ?_) (fun hc0 => ?_)
  · refine J_lsw (tgt := 89) C dX9_comes_13 (by decide) (off := 76) (by rw [hc0]; rfl) (by decide) ?_
    refine J_aload_n C dX9_comes_89 rfl 1 rfl ?_
    refine J_iload_n C dX9_comes_90 rfl 0 rfl ?_
    refine J_cvi (As := [.int v1]) C (c9_isPlace (gl g) w o0 h0 v1 M) (gd_v W5_74 W5_76 WP_25 W1_10 W5_77) rfl (by decide) (hdX9_isPlace) h0 (by decide) (cl_9) rfl (Nat.le_of_ble_eq_true rfl) dX9_comes_91 rfl (fun r3 M2 => ?_)
    refine J_if_eq (tgt := 116) C dX9_comes_94 (by decide) (fun _ => ?_) (fun _ => ?_)
    · refine J_iconst C dX9_comes_116 kci_0 ?_
      exact J_iret C RT (by decide) dX9_comes_117
    · refine J_aload_n C dX9_comes_97 rfl 1 rfl ?_
      refine J_getr C fk9_1 W4_178 h0 dX9_comes_98 ?_
      refine J_iload_n C dX9_comes_101 rfl 0 rfl ?_
      refine J_aload_ C (tl_9_1 h0) dX9_comes_102 ?_
      refine J_iconst C dX9_comes_103 kci_1 ?_
      refine J_icmp_eq (tgt := 116) C dX9_comes_104 (by decide) (fun _ => ?_) (fun _ => ?_)
      · refine J_iconst C dX9_comes_116 kci_0 ?_
        exact J_iret C RT (by decide) dX9_comes_117
      · refine J_aload_n C dX9_comes_107 rfl 1 rfl ?_
        refine J_cvi (As := []) C (c9_chairs (gl g) w n o0 h0 M2) (gd_v W5_82 W5_84 WP_27 W1_10 W5_85) rfl (by decide) (hdX9_chairs) h0 (by decide) (cl_9) rfl (Nat.le_of_ble_eq_true rfl) dX9_comes_108 rfl (fun r5 M4 => ?_)
        refine J_bipush C dX9_comes_111 kcb_11 ?_
        refine J_icmp_ne (tgt := 118) C dX9_comes_113 (by decide) (fun _ => ?_) (fun _ => ?_)
        · refine J_aload_n C dX9_comes_118 rfl 1 rfl ?_
          refine J_iload_n C dX9_comes_119 rfl 0 rfl ?_
          refine J_cvv (As := [.int v1]) C (c9_comesChair (gl g) w o0 h0 v1 M4) (gd_v W5_86 W5_88 WP_28 W1_10 W5_89) rfl (by decide) (hdX9_comesChair) h0 (by decide) (cl_9) rfl (Nat.le_of_ble_eq_true rfl) dX9_comes_120 rfl (fun r7 M6 => ?_)
          refine J_iconst C dX9_comes_123 kci_1 ?_
          exact J_iret C RT (by decide) dX9_comes_124
        · refine J_iconst C dX9_comes_116 kci_0 ?_
          exact J_iret C RT (by decide) dX9_comes_117
  · refine J_ite (fun hc1 => ?_) (fun hc1 => ?_)
    · refine J_lsw (tgt := 56) C dX9_comes_13 (by decide) (off := 43) (by rw [hc1]; rfl) (by decide) ?_
      refine J_iload_n C dX9_comes_56 rfl 0 rfl ?_
      refine J_iconst C dX9_comes_57 kci_4 ?_
      refine J_bipush C dX9_comes_58 kcb_60 ?_
      refine J_csi (As := [.int v1, .int (4 : Int32), .int (60 : Int32)]) (dm := 0) C (c9_isIn (gl g) w v1 (4 : Int32) (60 : Int32) M) (gd_s W5_94 W5_95 W1_10 W5_96) rfl (by decide) (hdX9_isIn.2) rfl (Nat.le_of_ble_eq_true rfl) dX9_comes_60 rfl (fun r9 M8 => ?_)
      refine J_if_eq (tgt := 80) C dX9_comes_63 (by decide) (fun _ => ?_) (fun _ => ?_)
      · refine J_iconst C dX9_comes_80 kci_0 ?_
        exact J_iret C RT (by decide) dX9_comes_81
      · refine J_aload_n C dX9_comes_66 rfl 1 rfl ?_
        refine J_geti C fk9_12 W4_189 h0 dX9_comes_67 ?_
        refine J_if_gt (tgt := 80) C dX9_comes_70 (by decide) (fun _ => ?_) (fun _ => ?_)
        · refine J_iconst C dX9_comes_80 kci_0 ?_
          exact J_iret C RT (by decide) dX9_comes_81
        · refine J_aload_n C dX9_comes_73 rfl 1 rfl ?_
          refine J_cvi (As := []) C (c9_chairs (gl g) w n o0 h0 M8) (gd_v W5_82 W5_84 WP_27 W1_10 W5_85) rfl (by decide) (hdX9_chairs) h0 (by decide) (cl_9) rfl (Nat.le_of_ble_eq_true rfl) dX9_comes_74 rfl (fun r11 M10 => ?_)
          refine J_if_le (tgt := 82) C dX9_comes_77 (by decide) (fun _ => ?_) (fun _ => ?_)
          · refine J_aload_n C dX9_comes_82 rfl 1 rfl ?_
            refine J_iload_n C dX9_comes_83 rfl 0 rfl ?_
            refine J_puti C fk9_11 W4_188 fp9_11 h0 dX9_comes_84 ?_
            refine J_mlet (fun M12 => ?_)
            refine J_iconst C dX9_comes_87 kci_1 ?_
            exact J_iret C RT (by decide) dX9_comes_88
          · refine J_iconst C dX9_comes_80 kci_0 ?_
            exact J_iret C RT (by decide) dX9_comes_81
    · refine J_ite (fun hc2 => ?_) (fun hc2 => ?_)
      · refine J_lsw (tgt := 197) C dX9_comes_13 (by decide) (off := 184) (by rw [hc2]; rfl) (by decide) ?_
        refine J_iload_n C dX9_comes_197 rfl 0 rfl ?_
        refine J_iconst C dX9_comes_198 kci_4 ?_
        refine J_icmp_gt (tgt := 217) C dX9_comes_199 (by decide) (fun _ => ?_) (fun _ => ?_)
        · refine J_iconst C dX9_comes_217 kci_0 ?_
          exact J_iret C RT (by decide) dX9_comes_218
        · refine J_aload_n C dX9_comes_202 rfl 1 rfl ?_
          refine J_getr C fk9_25 W4_202 h0 dX9_comes_203 ?_
          refine J_iload_n C dX9_comes_206 rfl 2 rfl ?_
          refine J_aload_ C (tl_9_25 h0) dX9_comes_207 ?_
          refine J_iconst C dX9_comes_208 kci_1 ?_
          refine J_bipush C dX9_comes_209 kcb_99 ?_
          refine J_csi (As := [.int (M (link o0 25) x1.toNatClampNeg), .int (1 : Int32), .int (99 : Int32)]) (dm := 0) C (c9_isIn (gl g) w (M (link o0 25) x1.toNatClampNeg) (1 : Int32) (99 : Int32) M) (gd_s W5_94 W5_95 W1_10 W5_96) rfl (by decide) (hdX9_isIn.2) rfl (Nat.le_of_ble_eq_true rfl) dX9_comes_211 rfl (fun r14 M13 => ?_)
          refine J_if_ne (tgt := 219) C dX9_comes_214 (by decide) (fun _ => ?_) (fun _ => ?_)
          · refine J_aload_n C dX9_comes_219 rfl 1 rfl ?_
            refine J_iload_n C dX9_comes_220 rfl 0 rfl ?_
            refine J_puti C fk9_13 W4_190 fp9_13 h0 dX9_comes_221 ?_
            refine J_mlet (fun M15 => ?_)
            refine J_aload_n C dX9_comes_224 rfl 1 rfl ?_
            refine J_aload_n C dX9_comes_225 rfl 1 rfl ?_
            refine J_getr C fk9_25 W4_202 h0 dX9_comes_226 ?_
            refine J_iload_n C dX9_comes_229 rfl 2 rfl ?_
            refine J_aload_ C (tl_9_25 h0) dX9_comes_230 ?_
            refine J_puti C fk9_14 W4_191 fp9_14 h0 dX9_comes_231 ?_
            refine J_mlet (fun M16 => ?_)
            refine J_iconst C dX9_comes_234 kci_1 ?_
            exact J_iret C RT (by decide) dX9_comes_235
          · refine J_iconst C dX9_comes_217 kci_0 ?_
            exact J_iret C RT (by decide) dX9_comes_218
      · refine J_ite (fun hc3 => ?_) (fun hc3 => ?_)
        · refine J_lsw (tgt := 125) C dX9_comes_13 (by decide) (off := 112) (by rw [hc3]; rfl) (by decide) ?_
          refine J_aload_n C dX9_comes_125 rfl 1 rfl ?_
          refine J_iload_n C dX9_comes_126 rfl 0 rfl ?_
          refine J_cvi (As := [.int v1]) C (c9_isPlace (gl g) w o0 h0 v1 M) (gd_v W5_74 W5_76 WP_25 W1_10 W5_77) rfl (by decide) (hdX9_isPlace) h0 (by decide) (cl_9) rfl (Nat.le_of_ble_eq_true rfl) dX9_comes_127 rfl (fun r18 M17 => ?_)
          refine J_if_eq (tgt := 176) C dX9_comes_130 (by decide) (fun _ => ?_) (fun _ => ?_)
          · refine J_iconst C dX9_comes_176 kci_0 ?_
            exact J_iret C RT (by decide) dX9_comes_177
          · refine J_aload_n C dX9_comes_133 rfl 1 rfl ?_
            refine J_getr C fk9_24 W4_201 h0 dX9_comes_134 ?_
            refine J_iload_n C dX9_comes_137 rfl 2 rfl ?_
            refine J_aload_ C (tl_9_24 h0) dX9_comes_138 ?_
            refine J_bipush C dX9_comes_139 kcb_6 ?_
            refine J_icmp_gt (tgt := 176) C dX9_comes_141 (by decide) (fun _ => ?_) (fun _ => ?_)
            · refine J_iconst C dX9_comes_176 kci_0 ?_
              exact J_iret C RT (by decide) dX9_comes_177
            · refine J_aload_n C dX9_comes_144 rfl 1 rfl ?_
              refine J_getr C fk9_25 W4_202 h0 dX9_comes_145 ?_
              refine J_iload_n C dX9_comes_148 rfl 2 rfl ?_
              refine J_aload_ C (tl_9_25 h0) dX9_comes_149 ?_
              refine J_iconst C dX9_comes_150 kci_1 ?_
              refine J_bipush C dX9_comes_151 kcb_99 ?_
              refine J_csi (As := [.int (M17 (link o0 25) x1.toNatClampNeg), .int (1 : Int32), .int (99 : Int32)]) (dm := 0) C (c9_isIn (gl g) w (M17 (link o0 25) x1.toNatClampNeg) (1 : Int32) (99 : Int32) M17) (gd_s W5_94 W5_95 W1_10 W5_96) rfl (by decide) (hdX9_isIn.2) rfl (Nat.le_of_ble_eq_true rfl) dX9_comes_153 rfl (fun r20 M19 => ?_)
              refine J_if_eq (tgt := 176) C dX9_comes_156 (by decide) (fun _ => ?_) (fun _ => ?_)
              · refine J_iconst C dX9_comes_176 kci_0 ?_
                exact J_iret C RT (by decide) dX9_comes_177
              · refine J_aload_n C dX9_comes_159 rfl 1 rfl ?_
                refine J_geti C fk9_12 W4_189 h0 dX9_comes_160 ?_
                refine J_bipush C dX9_comes_163 kcb_12 ?_
                refine J_icmp_eq (tgt := 176) C dX9_comes_165 (by decide) (fun _ => ?_) (fun _ => ?_)
                · refine J_iconst C dX9_comes_176 kci_0 ?_
                  exact J_iret C RT (by decide) dX9_comes_177
                · refine J_aload_n C dX9_comes_168 rfl 1 rfl ?_
                  refine J_iload_n C dX9_comes_169 rfl 0 rfl ?_
                  refine J_cvi (As := [.int v1]) C (c9_isTaken (gl g) w n o0 h0 v1 M19) (gd_v W5_100 W5_102 WP_29 W1_10 W5_103) rfl (by decide) (hdX9_isTaken) h0 (by decide) (cl_9) rfl (Nat.le_of_ble_eq_true rfl) dX9_comes_170 rfl (fun r22 M21 => ?_)
                  refine J_if_eq (tgt := 178) C dX9_comes_173 (by decide) (fun _ => ?_) (fun _ => ?_)
                  · refine J_aload_n C dX9_comes_178 rfl 1 rfl ?_
                    refine J_iload_n C dX9_comes_179 rfl 0 rfl ?_
                    refine J_aload_n C dX9_comes_180 rfl 1 rfl ?_
                    refine J_getr C fk9_24 W4_201 h0 dX9_comes_181 ?_
                    refine J_iload_n C dX9_comes_184 rfl 2 rfl ?_
                    refine J_aload_ C (tl_9_24 h0) dX9_comes_185 ?_
                    refine J_aload_n C dX9_comes_186 rfl 1 rfl ?_
                    refine J_getr C fk9_25 W4_202 h0 dX9_comes_187 ?_
                    refine J_iload_n C dX9_comes_190 rfl 2 rfl ?_
                    refine J_aload_ C (tl_9_25 h0) dX9_comes_191 ?_
                    refine J_cvv (As := [.int v1, .int (M21 (link o0 24) x1.toNatClampNeg), .int (M21 (link o0 25) x1.toNatClampNeg)]) C (c9_comesWalker (gl g) w n o0 h0 v1 (M21 (link o0 24) x1.toNatClampNeg) (M21 (link o0 25) x1.toNatClampNeg) M21) (gd_v W5_104 W5_106 WP_30 W1_10 W5_107) rfl (by decide) (hdX9_comesWalker) h0 (by decide) (cl_9) rfl (Nat.le_of_ble_eq_true rfl) dX9_comes_192 rfl (fun r24 M23 => ?_)
                    refine J_iconst C dX9_comes_195 kci_1 ?_
                    exact J_iret C RT (by decide) dX9_comes_196
                  · refine J_iconst C dX9_comes_176 kci_0 ?_
                    exact J_iret C RT (by decide) dX9_comes_177
        · refine J_lsw (tgt := 236) C dX9_comes_13 (by decide) (off := 223) ((lv_osw hc0 rfl).trans ((lv_osw hc1 rfl).trans ((lv_osw hc2 rfl).trans ((lv_osw hc3 rfl).trans rfl)))) (by decide) ?_
          refine J_iload_n C dX9_comes_236 rfl 0 rfl ?_
          refine J_iconst C dX9_comes_237 kci_2 ?_
          refine J_icmp_le (tgt := 243) C dX9_comes_238 (by decide) (fun _ => ?_) (fun _ => ?_)
          · refine J_aload_n C dX9_comes_243 rfl 1 rfl ?_
            refine J_iload_n C dX9_comes_244 rfl 0 rfl ?_
            refine J_puti C fk9_15 W4_192 fp9_15 h0 dX9_comes_245 ?_
            refine J_mlet (fun M25 => ?_)
            refine J_iconst C dX9_comes_248 kci_1 ?_
            exact J_iret C RT (by decide) dX9_comes_249
          · refine J_iconst C dX9_comes_241 kci_0 ?_
            exact J_iret C RT (by decide) dX9_comes_242
theorem c9_comes (l : Launch) (w : WE) (n : Nat) (o0 : Nat) (h0 : typ o0 = 9) (x1 : Int32) (M : Mem) : MC l w yX9_comes (wz yX9_comes cX9_comes 3 (some .boolean)) rm9_comes [.ref (wa w o0), .int x1] (s9_comes n o0 x1 M) M :=
  mc_of_J (own := RX9) rfl (by decide) rfl rfl (Nat.le_of_ble_eq_true rfl) (fun _ _ C RT => b9_comes C RT n o0 h0 x1 M)
theorem hdX9_comes : yX9_comes.cls = RX9 ∧ yOK yX9_comes 1 := ⟨rfl, by decide, by decide, by decide⟩
abbrev rm9_passes : Room := { frames := 0, cells := 0, slots := 0, locals := 0 }
def s9_passes_42 (n : Nat) (k2 : Int32 → Mem → Option Res) (o0 : Nat) (o1 : Nat) (x2 : Int32) (M : Mem) : Option Res := mlet (mset M o0 32 ((M o0 32) + (1 : Int32))) (fun M2 => ilet (x2 + 1) (fun v3 => k2 v3 M2))
set_option maxRecDepth 100000 in
set_option maxHeartbeats 4000000 in
theorem b9_passes_42 {w : WE} {g : GT} (C : CT w g RX9 cX9_passes rm9_passes 3) (RT : RTv w g cX9_passes) (n : Nat) (k2 : Int32 → Mem → Option Res) (o0 : Nat) (h0 : typ o0 = 9) (o1 : Nat) (h1 : typ o1 = 11) (x2 : Int32) (hk2 : ∀ (z2 : Int32) (M : Mem), J w g (k2 z2 M) M 2 [(0, .ref (wa w o0)), (1, .ref (wa w o1)), (2, .int z2)] []) (M : Mem) : J w g (s9_passes_42 n k2 o0 o1 x2 M) M 42 [(0, .ref (wa w o0)), (1, .ref (wa w o1)), (2, .int x2)] [] := by
  rw [s9_passes_42]
  refine J_aload_n C dX9_passes_42 rfl 0 rfl ?_
  refine J_dup C rfl dX9_passes_43 ?_
  refine J_geti C fk9_32 W4_209 h0 dX9_passes_44 ?_
  refine J_iconst C dX9_passes_47 kci_1 ?_
  refine J_iadd C dX9_passes_48 ?_
  refine J_puti C fk9_32 W4_209 fp9_32 h0 dX9_passes_49 ?_
  refine J_mlet (fun M2 => ?_)
  refine J_iinc (lw := fun v3 => [(2, .int v3), (0, .ref (wa w o0)), (1, .ref (wa w o1))]) (X := x2 + 1) C dX9_passes_52 (q := 2) rfl (by rw [kci_1]) (by decide) (fun _ => rfl) (fun v3 => ?_)
  refine J_goto (tgt := 2) C dX9_passes_55 (by decide) ?_
  refine J_lv [1, 2, 0] rfl ?_
  exact hk2 v3 M2
def s9_passes_2 (n : Nat) (o0 : Nat) (o1 : Nat) : Nat → Int32 → Mem → Option Res
  | 0, _, _ => none
  | f + 1, x2, M => if (Int32.ofNat (alen o1)) ≤ x2 then (some (0, M)) else (if (M o0 31) = 0 then (if inB (M o0 32) (alen (link o0 29)) then if inB x2 (alen o1) then mlet (mset M o1 x2.toNatClampNeg (M (link o0 29) (M o0 32).toNatClampNeg)) (fun M1 => s9_passes_42 n (s9_passes_2 n o0 o1 f) o0 o1 x2 M1) else none else none) else (if inB x2 (alen o1) then if inB (M o0 32) (alen (link o0 29)) then mlet (mset M (link o0 29) (M o0 32).toNatClampNeg (M o1 x2.toNatClampNeg)) (fun M4 => s9_passes_42 n (s9_passes_2 n o0 o1 f) o0 o1 x2 M4) else none else none))
set_option maxRecDepth 100000 in
set_option maxHeartbeats 4000000 in
theorem b9_passes_2 {w : WE} {g : GT} (C : CT w g RX9 cX9_passes rm9_passes 3) (RT : RTv w g cX9_passes) (n : Nat) (o0 : Nat) (h0 : typ o0 = 9) (o1 : Nat) (h1 : typ o1 = 11) : ∀ (f : Nat) (x2 : Int32) (M : Mem), J w g (s9_passes_2 n o0 o1 f x2 M) M 2 [(0, .ref (wa w o0)), (1, .ref (wa w o1)), (2, .int x2)] [] := by
  intro f
  induction f with
  | zero =>
    intro x2 M
    rw [s9_passes_2]
    exact J_none
  | succ f ih =>
    intro x2 M
    rw [s9_passes_2]
    refine J_iload_n C dX9_passes_2 rfl 2 rfl ?_
    refine J_aload_n C dX9_passes_3 rfl 1 rfl ?_
    refine J_alen C h1 dX9_passes_4 ?_
    refine J_icmp_ge (tgt := 58) C dX9_passes_5 (by decide) (fun _ => ?_) (fun _ => ?_)
    · exact J_vret C RT dX9_passes_58
    · refine J_aload_n C dX9_passes_8 rfl 0 rfl ?_
      refine J_geti C fk9_31 W4_208 h0 dX9_passes_9 ?_
      refine J_if_eq (tgt := 30) C dX9_passes_12 (by decide) (fun _ => ?_) (fun _ => ?_)
      · refine J_aload_n C dX9_passes_30 rfl 1 rfl ?_
        refine J_iload_n C dX9_passes_31 rfl 2 rfl ?_
        refine J_aload_n C dX9_passes_32 rfl 0 rfl ?_
        refine J_getr C fk9_29 W4_206 h0 dX9_passes_33 ?_
        refine J_aload_n C dX9_passes_36 rfl 0 rfl ?_
        refine J_geti C fk9_32 W4_209 h0 dX9_passes_37 ?_
        refine J_aload_ C (tl_9_29 h0) dX9_passes_40 ?_
        refine J_iastore C h1 dX9_passes_41 ?_
        refine J_mlet (fun M1 => ?_)
        exact b9_passes_42 C RT n (s9_passes_2 n o0 o1 f) o0 h0 o1 h1 x2 ih M1
      · refine J_aload_n C dX9_passes_15 rfl 0 rfl ?_
        refine J_getr C fk9_29 W4_206 h0 dX9_passes_16 ?_
        refine J_aload_n C dX9_passes_19 rfl 0 rfl ?_
        refine J_geti C fk9_32 W4_209 h0 dX9_passes_20 ?_
        refine J_aload_n C dX9_passes_23 rfl 1 rfl ?_
        refine J_iload_n C dX9_passes_24 rfl 2 rfl ?_
        refine J_aload_ C h1 dX9_passes_25 ?_
        refine J_iastore C (tl_9_29 h0) dX9_passes_26 ?_
        refine J_mlet (fun M4 => ?_)
        refine J_goto (tgt := 42) C dX9_passes_27 (by decide) ?_
        exact b9_passes_42 C RT n (s9_passes_2 n o0 o1 f) o0 h0 o1 h1 x2 ih M4
def s9_passes (n : Nat) (o0 : Nat) (o1 : Nat) (M : Mem) : Option Res := s9_passes_2 n o0 o1 n (0 : Int32) M
set_option maxRecDepth 100000 in
set_option maxHeartbeats 4000000 in
theorem b9_passes {w : WE} {g : GT} (C : CT w g RX9 cX9_passes rm9_passes 3) (RT : RTv w g cX9_passes) (n : Nat) (o0 : Nat) (h0 : typ o0 = 9) (o1 : Nat) (h1 : typ o1 = 11) (M : Mem) : J w g (s9_passes n o0 o1 M) M 0 [(0, .ref (wa w o0)), (1, .ref (wa w o1))] [] := by
  rw [s9_passes]
  refine J_iconst C dX9_passes_0 kci_0 ?_
  refine J_istore_n (lv' := [(2, .int (0 : Int32)), (0, .ref (wa w o0)), (1, .ref (wa w o1))]) C dX9_passes_1 rfl (by decide) rfl ?_
  refine J_lv [1, 2, 0] rfl ?_
  exact b9_passes_2 C RT n o0 h0 o1 h1 n (0 : Int32) M
theorem c9_passes (l : Launch) (w : WE) (n : Nat) (o0 : Nat) (h0 : typ o0 = 9) (o1 : Nat) (h1 : typ o1 = 11) (M : Mem) : MV l w yX9_passes (wz yX9_passes cX9_passes 3 none) rm9_passes [.ref (wa w o0), .ref (wa w o1)] (s9_passes n o0 o1 M) M :=
  mv_of_J (own := RX9) rfl (by decide) rfl rfl (Nat.le_of_ble_eq_true rfl) (fun _ _ C RT => b9_passes C RT n o0 h0 o1 h1 M)
theorem hdX9_passes : yX9_passes.cls = RX9 ∧ yOK yX9_passes 1 := ⟨rfl, by decide, by decide, by decide⟩
abbrev rm9_passOne : Room := { frames := 0, cells := 0, slots := 0, locals := 0 }
def s9_passOne_38 (n : Nat) (o0 : Nat) (x2 : Int32) (M : Mem) : Option Res := mlet (mset M o0 32 ((M o0 32) + (1 : Int32))) (fun M1 => some (x2, M1))
set_option maxRecDepth 100000 in
set_option maxHeartbeats 4000000 in
theorem b9_passOne_38 {w : WE} {g : GT} (C : CT w g RX9 cX9_passOne rm9_passOne 3) (RT : RTi w g cX9_passOne .int) (n : Nat) (o0 : Nat) (h0 : typ o0 = 9) (x2 : Int32) (M : Mem) : J w g (s9_passOne_38 n o0 x2 M) M 38 [(0, .ref (wa w o0)), (2, .int x2)] [] := by
  rw [s9_passOne_38]
  refine J_aload_n C dX9_passOne_38 rfl 0 rfl ?_
  refine J_dup C rfl dX9_passOne_39 ?_
  refine J_geti C fk9_32 W4_209 h0 dX9_passOne_40 ?_
  refine J_iconst C dX9_passOne_43 kci_1 ?_
  refine J_iadd C dX9_passOne_44 ?_
  refine J_puti C fk9_32 W4_209 fp9_32 h0 dX9_passOne_45 ?_
  refine J_mlet (fun M1 => ?_)
  refine J_iload_n C dX9_passOne_48 rfl 1 rfl ?_
  exact J_iret C RT rfl dX9_passOne_49
def s9_passOne_20 (n : Nat) (o0 : Nat) (x1 : Int32) (t0 : Int32) (M : Mem) : Option Res := if (M o0 31) = 0 then (s9_passOne_38 n o0 t0 M) else (if inB (M o0 32) (alen (link o0 29)) then mlet (mset M (link o0 29) (M o0 32).toNatClampNeg x1) (fun M2 => s9_passOne_38 n o0 t0 M2) else none)
set_option maxRecDepth 100000 in
set_option maxHeartbeats 4000000 in
theorem b9_passOne_20 {w : WE} {g : GT} (C : CT w g RX9 cX9_passOne rm9_passOne 3) (RT : RTi w g cX9_passOne .int) (n : Nat) (o0 : Nat) (h0 : typ o0 = 9) (x1 : Int32) (t0 : Int32) (M : Mem) : J w g (s9_passOne_20 n o0 x1 t0 M) M 20 [(0, .ref (wa w o0)), (1, .int x1)] [.int t0] := by
  rw [s9_passOne_20]
  refine J_istore_n (lv' := [(2, .int t0), (0, .ref (wa w o0)), (1, .int x1)]) C dX9_passOne_20 rfl (by decide) rfl ?_
  refine J_aload_n C dX9_passOne_21 rfl 1 rfl ?_
  refine J_geti C fk9_31 W4_208 h0 dX9_passOne_22 ?_
  refine J_if_eq (tgt := 38) C dX9_passOne_25 (by decide) (fun _ => ?_) (fun _ => ?_)
  · refine J_lv [1, 0] rfl ?_
    exact b9_passOne_38 C RT n o0 h0 t0 M
  · refine J_aload_n C dX9_passOne_28 rfl 1 rfl ?_
    refine J_getr C fk9_29 W4_206 h0 dX9_passOne_29 ?_
    refine J_aload_n C dX9_passOne_32 rfl 1 rfl ?_
    refine J_geti C fk9_32 W4_209 h0 dX9_passOne_33 ?_
    refine J_iload_n C dX9_passOne_36 rfl 2 rfl ?_
    refine J_iastore C (tl_9_29 h0) dX9_passOne_37 ?_
    refine J_mlet (fun M2 => ?_)
    refine J_lv [1, 0] rfl ?_
    exact b9_passOne_38 C RT n o0 h0 t0 M2
def s9_passOne (n : Nat) (o0 : Nat) (x1 : Int32) (M : Mem) : Option Res := if (M o0 31) = 0 then (if inB (M o0 32) (alen (link o0 29)) then s9_passOne_20 n o0 x1 (M (link o0 29) (M o0 32).toNatClampNeg) M else none) else (s9_passOne_20 n o0 x1 x1 M)
set_option maxRecDepth 100000 in
set_option maxHeartbeats 4000000 in
theorem b9_passOne {w : WE} {g : GT} (C : CT w g RX9 cX9_passOne rm9_passOne 3) (RT : RTi w g cX9_passOne .int) (n : Nat) (o0 : Nat) (h0 : typ o0 = 9) (x1 : Int32) (M : Mem) : J w g (s9_passOne n o0 x1 M) M 0 [(0, .ref (wa w o0)), (1, .int x1)] [] := by
  rw [s9_passOne]
  refine J_aload_n C dX9_passOne_0 rfl 0 rfl ?_
  refine J_geti C fk9_31 W4_208 h0 dX9_passOne_1 ?_
  refine J_if_eq (tgt := 11) C dX9_passOne_4 (by decide) (fun _ => ?_) (fun _ => ?_)
  · refine J_aload_n C dX9_passOne_11 rfl 0 rfl ?_
    refine J_getr C fk9_29 W4_206 h0 dX9_passOne_12 ?_
    refine J_aload_n C dX9_passOne_15 rfl 0 rfl ?_
    refine J_geti C fk9_32 W4_209 h0 dX9_passOne_16 ?_
    refine J_aload_ C (tl_9_29 h0) dX9_passOne_19 ?_
    exact b9_passOne_20 C RT n o0 h0 x1 (M (link o0 29) (M o0 32).toNatClampNeg) M
  · refine J_iload_n C dX9_passOne_7 rfl 1 rfl ?_
    refine J_goto (tgt := 20) C dX9_passOne_8 (by decide) ?_
    exact b9_passOne_20 C RT n o0 h0 x1 x1 M
theorem c9_passOne (l : Launch) (w : WE) (n : Nat) (o0 : Nat) (h0 : typ o0 = 9) (x1 : Int32) (M : Mem) : MC l w yX9_passOne (wz yX9_passOne cX9_passOne 3 (some .int)) rm9_passOne [.ref (wa w o0), .int x1] (s9_passOne n o0 x1 M) M :=
  mc_of_J (own := RX9) rfl (by decide) rfl rfl (Nat.le_of_ble_eq_true rfl) (fun _ _ C RT => b9_passOne C RT n o0 h0 x1 M)
theorem hdX9_passOne : yX9_passOne.cls = RX9 ∧ yOK yX9_passOne 1 := ⟨rfl, by decide, by decide, by decide⟩
abbrev rm9_passesAll : Room := { frames := 1, cells := 0, slots := 0, locals := 22 }
def s9_passesAll (n : Nat) (o0 : Nat) (x1 : Int32) (x2 : Int32) (M : Mem) : Option Res := mlet (mset M o0 32 ((200 : Int32) * x1)) (fun M1 => if bz x2 then mlet (mset M1 o0 31 x2) (fun M2 => cb (s9_passes n o0 (link o0 1) M2) (fun _ M3 => cb (s9_passes n o0 (link o0 2) M3) (fun _ M5 => cb (s9_passes n o0 (link o0 3) M5) (fun _ M7 => cb (s9_passes n o0 (link o0 4) M7) (fun _ M9 => cb (s9_passes n o0 (link o0 5) M9) (fun _ M11 => cb (s9_passes n o0 (link o0 6) M11) (fun _ M13 => cb (s9_passes n o0 (link o0 7) M13) (fun _ M15 => cb (s9_passes n o0 (link o0 8) M15) (fun _ M17 => cb (s9_passes n o0 (link o0 9) M17) (fun _ M19 => cb (s9_passes n o0 (link o0 10) M19) (fun _ M21 => cb (s9_passOne n o0 (M21 o0 11) M21) (fun r24 M23 => mlet (mset M23 o0 11 r24) (fun M25 => cb (s9_passOne n o0 (M25 o0 12) M25) (fun r27 M26 => mlet (mset M26 o0 12 r27) (fun M28 => cb (s9_passOne n o0 (M28 o0 13) M28) (fun r30 M29 => mlet (mset M29 o0 13 r30) (fun M31 => cb (s9_passOne n o0 (M31 o0 14) M31) (fun r33 M32 => mlet (mset M32 o0 14 r33) (fun M34 => cb (s9_passOne n o0 (M34 o0 15) M34) (fun r36 M35 => mlet (mset M35 o0 15 r36) (fun M37 => cb (s9_passOne n o0 (M37 o0 16) M37) (fun r39 M38 => mlet (mset M38 o0 16 r39) (fun M40 => cb (s9_passOne n o0 (M40 o0 17) M40) (fun r42 M41 => mlet (mset M41 o0 17 r42) (fun M43 => cb (s9_passOne n o0 (M43 o0 18) M43) (fun r45 M44 => mlet (mset M44 o0 18 r45) (fun M46 => cb (s9_passOne n o0 (M46 o0 19) M46) (fun r48 M47 => mlet (mset M47 o0 19 r48) (fun M49 => some (0, M49)))))))))))))))))))))))))))))) else none)
set_option maxRecDepth 100000 in
set_option maxHeartbeats 4000000 in
theorem b9_passesAll {w : WE} {g : GT} (C : CT w g RX9 cX9_passesAll rm9_passesAll 3) (RT : RTv w g cX9_passesAll) (n : Nat) (o0 : Nat) (h0 : typ o0 = 9) (x1 : Int32) (x2 : Int32) (M : Mem) : J w g (s9_passesAll n o0 x1 x2 M) M 0 [(0, .ref (wa w o0)), (1, .int x1), (2, .int x2)] [] := by
  rw [s9_passesAll]
  refine J_aload_n C dX9_passesAll_0 rfl 0 rfl ?_
  refine J_sipush C dX9_passesAll_1 kcs_200 ?_
  refine J_iload_n C dX9_passesAll_4 rfl 1 rfl ?_
  refine J_imul C dX9_passesAll_5 ?_
  refine J_puti C fk9_32 W4_209 fp9_32 h0 dX9_passesAll_6 ?_
  refine J_mlet (fun M1 => ?_)
  refine J_aload_n C dX9_passesAll_9 rfl 0 rfl ?_
  refine J_iload_n C dX9_passesAll_10 rfl 2 rfl ?_
  refine J_putz C fk9_31 W4_208 fp9_31 h0 dX9_passesAll_11 ?_
  refine J_mlet (fun M2 => ?_)
  refine J_aload_n C dX9_passesAll_14 rfl 0 rfl ?_
  refine J_aload_n C dX9_passesAll_15 rfl 0 rfl ?_
  refine J_getr C fk9_1 W4_178 h0 dX9_passesAll_16 ?_
  refine J_cvv (As := [.ref (wa w (link o0 1))]) C (c9_passes (gl g) w n o0 h0 (link o0 1) (tl_9_1 h0) M2) (gd_v W5_177 W5_179 WP_39 W1_10 W5_180) rfl (by decide) (hdX9_passes) h0 (by decide) (cl_9) rfl (Nat.le_of_ble_eq_true rfl) dX9_passesAll_19 rfl (fun r4 M3 => ?_)
  refine J_aload_n C dX9_passesAll_22 rfl 0 rfl ?_
  refine J_aload_n C dX9_passesAll_23 rfl 0 rfl ?_
  refine J_getr C fk9_2 W4_179 h0 dX9_passesAll_24 ?_
  refine J_cvv (As := [.ref (wa w (link o0 2))]) C (c9_passes (gl g) w n o0 h0 (link o0 2) (tl_9_2 h0) M3) (gd_v W5_177 W5_179 WP_39 W1_10 W5_180) rfl (by decide) (hdX9_passes) h0 (by decide) (cl_9) rfl (Nat.le_of_ble_eq_true rfl) dX9_passesAll_27 rfl (fun r6 M5 => ?_)
  refine J_aload_n C dX9_passesAll_30 rfl 0 rfl ?_
  refine J_aload_n C dX9_passesAll_31 rfl 0 rfl ?_
  refine J_getr C fk9_3 W4_180 h0 dX9_passesAll_32 ?_
  refine J_cvv (As := [.ref (wa w (link o0 3))]) C (c9_passes (gl g) w n o0 h0 (link o0 3) (tl_9_3 h0) M5) (gd_v W5_177 W5_179 WP_39 W1_10 W5_180) rfl (by decide) (hdX9_passes) h0 (by decide) (cl_9) rfl (Nat.le_of_ble_eq_true rfl) dX9_passesAll_35 rfl (fun r8 M7 => ?_)
  refine J_aload_n C dX9_passesAll_38 rfl 0 rfl ?_
  refine J_aload_n C dX9_passesAll_39 rfl 0 rfl ?_
  refine J_getr C fk9_4 W4_181 h0 dX9_passesAll_40 ?_
  refine J_cvv (As := [.ref (wa w (link o0 4))]) C (c9_passes (gl g) w n o0 h0 (link o0 4) (tl_9_4 h0) M7) (gd_v W5_177 W5_179 WP_39 W1_10 W5_180) rfl (by decide) (hdX9_passes) h0 (by decide) (cl_9) rfl (Nat.le_of_ble_eq_true rfl) dX9_passesAll_43 rfl (fun r10 M9 => ?_)
  refine J_aload_n C dX9_passesAll_46 rfl 0 rfl ?_
  refine J_aload_n C dX9_passesAll_47 rfl 0 rfl ?_
  refine J_getr C fk9_5 W4_182 h0 dX9_passesAll_48 ?_
  refine J_cvv (As := [.ref (wa w (link o0 5))]) C (c9_passes (gl g) w n o0 h0 (link o0 5) (tl_9_5 h0) M9) (gd_v W5_177 W5_179 WP_39 W1_10 W5_180) rfl (by decide) (hdX9_passes) h0 (by decide) (cl_9) rfl (Nat.le_of_ble_eq_true rfl) dX9_passesAll_51 rfl (fun r12 M11 => ?_)
  refine J_aload_n C dX9_passesAll_54 rfl 0 rfl ?_
  refine J_aload_n C dX9_passesAll_55 rfl 0 rfl ?_
  refine J_getr C fk9_6 W4_183 h0 dX9_passesAll_56 ?_
  refine J_cvv (As := [.ref (wa w (link o0 6))]) C (c9_passes (gl g) w n o0 h0 (link o0 6) (tl_9_6 h0) M11) (gd_v W5_177 W5_179 WP_39 W1_10 W5_180) rfl (by decide) (hdX9_passes) h0 (by decide) (cl_9) rfl (Nat.le_of_ble_eq_true rfl) dX9_passesAll_59 rfl (fun r14 M13 => ?_)
  refine J_aload_n C dX9_passesAll_62 rfl 0 rfl ?_
  refine J_aload_n C dX9_passesAll_63 rfl 0 rfl ?_
  refine J_getr C fk9_7 W4_184 h0 dX9_passesAll_64 ?_
  refine J_cvv (As := [.ref (wa w (link o0 7))]) C (c9_passes (gl g) w n o0 h0 (link o0 7) (tl_9_7 h0) M13) (gd_v W5_177 W5_179 WP_39 W1_10 W5_180) rfl (by decide) (hdX9_passes) h0 (by decide) (cl_9) rfl (Nat.le_of_ble_eq_true rfl) dX9_passesAll_67 rfl (fun r16 M15 => ?_)
  refine J_aload_n C dX9_passesAll_70 rfl 0 rfl ?_
  refine J_aload_n C dX9_passesAll_71 rfl 0 rfl ?_
  refine J_getr C fk9_8 W4_185 h0 dX9_passesAll_72 ?_
  refine J_cvv (As := [.ref (wa w (link o0 8))]) C (c9_passes (gl g) w n o0 h0 (link o0 8) (tl_9_8 h0) M15) (gd_v W5_177 W5_179 WP_39 W1_10 W5_180) rfl (by decide) (hdX9_passes) h0 (by decide) (cl_9) rfl (Nat.le_of_ble_eq_true rfl) dX9_passesAll_75 rfl (fun r18 M17 => ?_)
  refine J_aload_n C dX9_passesAll_78 rfl 0 rfl ?_
  refine J_aload_n C dX9_passesAll_79 rfl 0 rfl ?_
  refine J_getr C fk9_9 W4_186 h0 dX9_passesAll_80 ?_
  refine J_cvv (As := [.ref (wa w (link o0 9))]) C (c9_passes (gl g) w n o0 h0 (link o0 9) (tl_9_9 h0) M17) (gd_v W5_177 W5_179 WP_39 W1_10 W5_180) rfl (by decide) (hdX9_passes) h0 (by decide) (cl_9) rfl (Nat.le_of_ble_eq_true rfl) dX9_passesAll_83 rfl (fun r20 M19 => ?_)
  refine J_aload_n C dX9_passesAll_86 rfl 0 rfl ?_
  refine J_aload_n C dX9_passesAll_87 rfl 0 rfl ?_
  refine J_getr C fk9_10 W4_187 h0 dX9_passesAll_88 ?_
  refine J_cvv (As := [.ref (wa w (link o0 10))]) C (c9_passes (gl g) w n o0 h0 (link o0 10) (tl_9_10 h0) M19) (gd_v W5_177 W5_179 WP_39 W1_10 W5_180) rfl (by decide) (hdX9_passes) h0 (by decide) (cl_9) rfl (Nat.le_of_ble_eq_true rfl) dX9_passesAll_91 rfl (fun r22 M21 => ?_)
  refine J_aload_n C dX9_passesAll_94 rfl 0 rfl ?_
  refine J_aload_n C dX9_passesAll_95 rfl 0 rfl ?_
  refine J_aload_n C dX9_passesAll_96 rfl 0 rfl ?_
  refine J_geti C fk9_11 W4_188 h0 dX9_passesAll_97 ?_
  refine J_cvi (As := [.int (M21 o0 11)]) C (c9_passOne (gl g) w n o0 h0 (M21 o0 11) M21) (gd_v W5_181 W5_183 WP_40 W1_10 W5_184) rfl (by decide) (hdX9_passOne) h0 (by decide) (cl_9) rfl (Nat.le_of_ble_eq_true rfl) dX9_passesAll_100 rfl (fun r24 M23 => ?_)
  refine J_puti C fk9_11 W4_188 fp9_11 h0 dX9_passesAll_103 ?_
  refine J_mlet (fun M25 => ?_)
  refine J_aload_n C dX9_passesAll_106 rfl 0 rfl ?_
  refine J_aload_n C dX9_passesAll_107 rfl 0 rfl ?_
  refine J_aload_n C dX9_passesAll_108 rfl 0 rfl ?_
  refine J_geti C fk9_12 W4_189 h0 dX9_passesAll_109 ?_
  refine J_cvi (As := [.int (M25 o0 12)]) C (c9_passOne (gl g) w n o0 h0 (M25 o0 12) M25) (gd_v W5_181 W5_183 WP_40 W1_10 W5_184) rfl (by decide) (hdX9_passOne) h0 (by decide) (cl_9) rfl (Nat.le_of_ble_eq_true rfl) dX9_passesAll_112 rfl (fun r27 M26 => ?_)
  refine J_puti C fk9_12 W4_189 fp9_12 h0 dX9_passesAll_115 ?_
  refine J_mlet (fun M28 => ?_)
  refine J_aload_n C dX9_passesAll_118 rfl 0 rfl ?_
  refine J_aload_n C dX9_passesAll_119 rfl 0 rfl ?_
  refine J_aload_n C dX9_passesAll_120 rfl 0 rfl ?_
  refine J_geti C fk9_13 W4_190 h0 dX9_passesAll_121 ?_
  refine J_cvi (As := [.int (M28 o0 13)]) C (c9_passOne (gl g) w n o0 h0 (M28 o0 13) M28) (gd_v W5_181 W5_183 WP_40 W1_10 W5_184) rfl (by decide) (hdX9_passOne) h0 (by decide) (cl_9) rfl (Nat.le_of_ble_eq_true rfl) dX9_passesAll_124 rfl (fun r30 M29 => ?_)
  refine J_puti C fk9_13 W4_190 fp9_13 h0 dX9_passesAll_127 ?_
  refine J_mlet (fun M31 => ?_)
  refine J_aload_n C dX9_passesAll_130 rfl 0 rfl ?_
  refine J_aload_n C dX9_passesAll_131 rfl 0 rfl ?_
  refine J_aload_n C dX9_passesAll_132 rfl 0 rfl ?_
  refine J_geti C fk9_14 W4_191 h0 dX9_passesAll_133 ?_
  refine J_cvi (As := [.int (M31 o0 14)]) C (c9_passOne (gl g) w n o0 h0 (M31 o0 14) M31) (gd_v W5_181 W5_183 WP_40 W1_10 W5_184) rfl (by decide) (hdX9_passOne) h0 (by decide) (cl_9) rfl (Nat.le_of_ble_eq_true rfl) dX9_passesAll_136 rfl (fun r33 M32 => ?_)
  refine J_puti C fk9_14 W4_191 fp9_14 h0 dX9_passesAll_139 ?_
  refine J_mlet (fun M34 => ?_)
  refine J_aload_n C dX9_passesAll_142 rfl 0 rfl ?_
  refine J_aload_n C dX9_passesAll_143 rfl 0 rfl ?_
  refine J_aload_n C dX9_passesAll_144 rfl 0 rfl ?_
  refine J_geti C fk9_15 W4_192 h0 dX9_passesAll_145 ?_
  refine J_cvi (As := [.int (M34 o0 15)]) C (c9_passOne (gl g) w n o0 h0 (M34 o0 15) M34) (gd_v W5_181 W5_183 WP_40 W1_10 W5_184) rfl (by decide) (hdX9_passOne) h0 (by decide) (cl_9) rfl (Nat.le_of_ble_eq_true rfl) dX9_passesAll_148 rfl (fun r36 M35 => ?_)
  refine J_puti C fk9_15 W4_192 fp9_15 h0 dX9_passesAll_151 ?_
  refine J_mlet (fun M37 => ?_)
  refine J_aload_n C dX9_passesAll_154 rfl 0 rfl ?_
  refine J_aload_n C dX9_passesAll_155 rfl 0 rfl ?_
  refine J_aload_n C dX9_passesAll_156 rfl 0 rfl ?_
  refine J_geti C fk9_16 W4_193 h0 dX9_passesAll_157 ?_
  refine J_cvi (As := [.int (M37 o0 16)]) C (c9_passOne (gl g) w n o0 h0 (M37 o0 16) M37) (gd_v W5_181 W5_183 WP_40 W1_10 W5_184) rfl (by decide) (hdX9_passOne) h0 (by decide) (cl_9) rfl (Nat.le_of_ble_eq_true rfl) dX9_passesAll_160 rfl (fun r39 M38 => ?_)
  refine J_puti C fk9_16 W4_193 fp9_16 h0 dX9_passesAll_163 ?_
  refine J_mlet (fun M40 => ?_)
  refine J_aload_n C dX9_passesAll_166 rfl 0 rfl ?_
  refine J_aload_n C dX9_passesAll_167 rfl 0 rfl ?_
  refine J_aload_n C dX9_passesAll_168 rfl 0 rfl ?_
  refine J_geti C fk9_17 W4_194 h0 dX9_passesAll_169 ?_
  refine J_cvi (As := [.int (M40 o0 17)]) C (c9_passOne (gl g) w n o0 h0 (M40 o0 17) M40) (gd_v W5_181 W5_183 WP_40 W1_10 W5_184) rfl (by decide) (hdX9_passOne) h0 (by decide) (cl_9) rfl (Nat.le_of_ble_eq_true rfl) dX9_passesAll_172 rfl (fun r42 M41 => ?_)
  refine J_puti C fk9_17 W4_194 fp9_17 h0 dX9_passesAll_175 ?_
  refine J_mlet (fun M43 => ?_)
  refine J_aload_n C dX9_passesAll_178 rfl 0 rfl ?_
  refine J_aload_n C dX9_passesAll_179 rfl 0 rfl ?_
  refine J_aload_n C dX9_passesAll_180 rfl 0 rfl ?_
  refine J_geti C fk9_18 W4_195 h0 dX9_passesAll_181 ?_
  refine J_cvi (As := [.int (M43 o0 18)]) C (c9_passOne (gl g) w n o0 h0 (M43 o0 18) M43) (gd_v W5_181 W5_183 WP_40 W1_10 W5_184) rfl (by decide) (hdX9_passOne) h0 (by decide) (cl_9) rfl (Nat.le_of_ble_eq_true rfl) dX9_passesAll_184 rfl (fun r45 M44 => ?_)
  refine J_puti C fk9_18 W4_195 fp9_18 h0 dX9_passesAll_187 ?_
  refine J_mlet (fun M46 => ?_)
  refine J_aload_n C dX9_passesAll_190 rfl 0 rfl ?_
  refine J_aload_n C dX9_passesAll_191 rfl 0 rfl ?_
  refine J_aload_n C dX9_passesAll_192 rfl 0 rfl ?_
  refine J_geti C fk9_19 W4_196 h0 dX9_passesAll_193 ?_
  refine J_cvi (As := [.int (M46 o0 19)]) C (c9_passOne (gl g) w n o0 h0 (M46 o0 19) M46) (gd_v W5_181 W5_183 WP_40 W1_10 W5_184) rfl (by decide) (hdX9_passOne) h0 (by decide) (cl_9) rfl (Nat.le_of_ble_eq_true rfl) dX9_passesAll_196 rfl (fun r48 M47 => ?_)
  refine J_puti C fk9_19 W4_196 fp9_19 h0 dX9_passesAll_199 ?_
  refine J_mlet (fun M49 => ?_)
  exact J_vret C RT dX9_passesAll_202
theorem c9_passesAll (l : Launch) (w : WE) (n : Nat) (o0 : Nat) (h0 : typ o0 = 9) (x1 : Int32) (x2 : Int32) (M : Mem) : MV l w yX9_passesAll (wz yX9_passesAll cX9_passesAll 3 none) rm9_passesAll [.ref (wa w o0), .int x1, .int x2] (s9_passesAll n o0 x1 x2 M) M :=
  mv_of_J (own := RX9) rfl (by decide) rfl rfl (Nat.le_of_ble_eq_true rfl) (fun _ _ C RT => b9_passesAll C RT n o0 h0 x1 x2 M)
theorem hdX9_passesAll : yX9_passesAll.cls = RX9 ∧ yOK yX9_passesAll 2 := ⟨rfl, by decide, by decide, by decide⟩
abbrev rm9_party : Room := { frames := 3, cells := 0, slots := 0, locals := 67 }
def s9_party_86 (n : Nat) (o0 : Nat) : Nat → Int32 → Mem → Option Res
  | 0, _, _ => none
  | f + 1, x2, M => if (M o0 28) ≤ x2 then (some (M o0 28, M)) else (cb (s9_comes n o0 x2 M) (fun r7 M6 => if r7 = 0 then (cb (s9_passesAll n o0 (1 : Int32) (0 : Int32) M6) (fun _ M8 => if inB x2 (alen (link o0 22)) then some ((-2000 : Int32) - (M8 (link o0 22) x2.toNatClampNeg), M8) else none)) else (ilet (x2 + 1) (fun v10 => s9_party_86 n o0 f v10 M6))))
set_option maxRecDepth 100000 in
set_option maxHeartbeats 4000000 in
theorem b9_party_86 {w : WE} {g : GT} (C : CT w g RX9 cX9_party rm9_party 3) (RT : RTi w g cX9_party .int) (n : Nat) (o0 : Nat) (h0 : typ o0 = 9) : ∀ (f : Nat) (x2 : Int32) (M : Mem), J w g (s9_party_86 n o0 f x2 M) M 86 [(0, .ref (wa w o0)), (2, .int x2)] [] := by
  intro f
  induction f with
  | zero =>
    intro x2 M
    rw [s9_party_86]
    exact J_none
  | succ f ih =>
    intro x2 M
    rw [s9_party_86]
    refine J_iload_n C dX9_party_86 rfl 1 rfl ?_
    refine J_aload_n C dX9_party_87 rfl 0 rfl ?_
    refine J_geti C fk9_28 W4_205 h0 dX9_party_88 ?_
    refine J_icmp_ge (tgt := 128) C dX9_party_91 (by decide) (fun _ => ?_) (fun _ => ?_)
    · refine J_aload_n C dX9_party_128 rfl 0 rfl ?_
      refine J_geti C fk9_28 W4_205 h0 dX9_party_129 ?_
      exact J_iret C RT rfl dX9_party_132
    · refine J_aload_n C dX9_party_94 rfl 0 rfl ?_
      refine J_iload_n C dX9_party_95 rfl 1 rfl ?_
      refine J_cvi (As := [.int x2]) C (c9_comes (gl g) w n o0 h0 x2 M) (gd_v W5_185 W5_187 WP_41 W1_10 W5_188) rfl (by decide) (hdX9_comes) h0 (by decide) (cl_9) rfl (Nat.le_of_ble_eq_true rfl) dX9_party_96 rfl (fun r7 M6 => ?_)
      refine J_if_eq (tgt := 105) C dX9_party_99 (by decide) (fun _ => ?_) (fun _ => ?_)
      · refine J_aload_n C dX9_party_105 rfl 0 rfl ?_
        refine J_iconst C dX9_party_106 kci_1 ?_
        refine J_iconst C dX9_party_107 kci_0 ?_
        refine J_cvv (As := [.int (1 : Int32), .int (0 : Int32)]) C (c9_passesAll (gl g) w n o0 h0 (1 : Int32) (0 : Int32) M6) (gd_v W5_173 W5_175 WP_38 W1_10 W5_176) rfl (by decide) (hdX9_passesAll) h0 (by decide) (cl_9) rfl (Nat.le_of_ble_eq_true rfl) dX9_party_108 rfl (fun r9 M8 => ?_)
        refine J_sipush C dX9_party_111 kcs_m2000 ?_
        refine J_aload_n C dX9_party_114 rfl 0 rfl ?_
        refine J_getr C fk9_22 W4_199 h0 dX9_party_115 ?_
        refine J_iload_n C dX9_party_118 rfl 1 rfl ?_
        refine J_aload_ C (tl_9_22 h0) dX9_party_119 ?_
        refine J_isub C dX9_party_120 ?_
        exact J_iret C RT rfl dX9_party_121
      · refine J_goto (tgt := 122) C dX9_party_102 (by decide) ?_
        refine J_iinc (lw := fun v10 => [(2, .int v10), (0, .ref (wa w o0))]) (X := x2 + 1) C dX9_party_122 (q := 1) rfl (by rw [kci_1]) (by decide) (fun _ => rfl) (fun v10 => ?_)
        refine J_goto (tgt := 86) C dX9_party_125 (by decide) ?_
        refine J_lv [1, 0] rfl ?_
        exact ih v10 M6
def s9_party_60 (n : Nat) (o0 : Nat) (x1 : Int32) (M : Mem) : Option Res := mlet (mset M o0 26 (0 : Int32)) (fun M3 => if x1 = 0 then (some ((-1000 : Int32) - (M3 o0 27), M3)) else (cb (s9_passesAll n o0 (1 : Int32) (1 : Int32) M3) (fun _ M4 => s9_party_86 n o0 n (0 : Int32) M4)))
set_option maxRecDepth 100000 in
set_option maxHeartbeats 4000000 in
theorem b9_party_60 {w : WE} {g : GT} (C : CT w g RX9 cX9_party rm9_party 3) (RT : RTi w g cX9_party .int) (n : Nat) (o0 : Nat) (h0 : typ o0 = 9) (x1 : Int32) (M : Mem) : J w g (s9_party_60 n o0 x1 M) M 60 [(0, .ref (wa w o0)), (1, .int x1)] [] := by
  rw [s9_party_60]
  refine J_aload_n C dX9_party_60 rfl 0 rfl ?_
  refine J_iconst C dX9_party_61 kci_0 ?_
  refine J_puti C fk9_26 W4_203 fp9_26 h0 dX9_party_62 ?_
  refine J_mlet (fun M3 => ?_)
  refine J_iload_n C dX9_party_65 rfl 1 rfl ?_
  refine J_if_ne (tgt := 78) C dX9_party_66 (by decide) (fun _ => ?_) (fun _ => ?_)
  · refine J_aload_n C dX9_party_78 rfl 0 rfl ?_
    refine J_iconst C dX9_party_79 kci_1 ?_
    refine J_iconst C dX9_party_80 kci_1 ?_
    refine J_cvv (As := [.int (1 : Int32), .int (1 : Int32)]) C (c9_passesAll (gl g) w n o0 h0 (1 : Int32) (1 : Int32) M3) (gd_v W5_173 W5_175 WP_38 W1_10 W5_176) rfl (by decide) (hdX9_passesAll) h0 (by decide) (cl_9) rfl (Nat.le_of_ble_eq_true rfl) dX9_party_81 rfl (fun r5 M4 => ?_)
    refine J_iconst C dX9_party_84 kci_0 ?_
    refine J_istore_n (lv' := [(2, .int (0 : Int32)), (0, .ref (wa w o0)), (1, .int x1)]) C dX9_party_85 rfl (by decide) rfl ?_
    refine J_lv [1, 0] rfl ?_
    exact b9_party_86 C RT n o0 h0 n (0 : Int32) M4
  · refine J_sipush C dX9_party_69 kcs_m1000 ?_
    refine J_aload_n C dX9_party_72 rfl 0 rfl ?_
    refine J_geti C fk9_27 W4_204 h0 dX9_party_73 ?_
    refine J_isub C dX9_party_76 ?_
    exact J_iret C RT rfl dX9_party_77
def s9_party_34 (n : Nat) (k12 : Int32 → Mem → Option Res) (o0 : Nat) (M : Mem) : Option Res := cb (s9_statement n o0 M) (fun r12 M11 => if r12 = 0 then (mlet (mset M11 o0 28 ((M11 o0 28) + (0 : Int32))) (fun M13 => k12 r12 M13)) else (mlet (mset M11 o0 28 ((M11 o0 28) + (1 : Int32))) (fun M14 => k12 r12 M14)))
set_option maxRecDepth 100000 in
set_option maxHeartbeats 4000000 in
theorem b9_party_34 {w : WE} {g : GT} (C : CT w g RX9 cX9_party rm9_party 3) (RT : RTi w g cX9_party .int) (n : Nat) (k12 : Int32 → Mem → Option Res) (o0 : Nat) (h0 : typ o0 = 9) (hk12 : ∀ (z1 : Int32) (M : Mem), J w g (k12 z1 M) M 12 [(0, .ref (wa w o0)), (1, .int z1)] []) (M : Mem) : J w g (s9_party_34 n k12 o0 M) M 34 [(0, .ref (wa w o0))] [] := by
  rw [s9_party_34]
  refine J_aload_n C dX9_party_34 rfl 0 rfl ?_
  refine J_cvi (As := []) C (c9_statement (gl g) w n o0 h0 M) (gd_v W5_157 W5_159 WP_34 W1_10 W5_160) rfl (by decide) (hdX9_statement) h0 (by decide) (cl_9) rfl (Nat.le_of_ble_eq_true rfl) dX9_party_35 rfl (fun r12 M11 => ?_)
  refine J_istore_n (lv' := [(1, .int r12), (0, .ref (wa w o0))]) C dX9_party_38 rfl (by decide) rfl ?_
  refine J_aload_n C dX9_party_39 rfl 1 rfl ?_
  refine J_dup C rfl dX9_party_40 ?_
  refine J_geti C fk9_28 W4_205 h0 dX9_party_41 ?_
  refine J_iload_n C dX9_party_44 rfl 0 rfl ?_
  refine J_if_eq (tgt := 52) C dX9_party_45 (by decide) (fun _ => ?_) (fun _ => ?_)
  · refine J_iconst C dX9_party_52 kci_0 ?_
    refine J_iadd C dX9_party_53 ?_
    refine J_puti C fk9_28 W4_205 fp9_28 h0 dX9_party_54 ?_
    refine J_mlet (fun M13 => ?_)
    refine J_goto (tgt := 12) C dX9_party_57 (by decide) ?_
    refine J_lv [1, 0] rfl ?_
    exact hk12 r12 M13
  · refine J_iconst C dX9_party_48 kci_1 ?_
    refine J_goto (tgt := 53) C dX9_party_49 (by decide) ?_
    refine J_iadd C dX9_party_53 ?_
    refine J_puti C fk9_28 W4_205 fp9_28 h0 dX9_party_54 ?_
    refine J_mlet (fun M14 => ?_)
    refine J_goto (tgt := 12) C dX9_party_57 (by decide) ?_
    refine J_lv [1, 0] rfl ?_
    exact hk12 r12 M14
def s9_party_12 (n : Nat) (o0 : Nat) : Nat → Int32 → Mem → Option Res
  | 0, _, _ => none
  | f + 1, x1, M => if x1 = 0 then (s9_party_60 n o0 x1 M) else (if (M o0 27) < (M o0 26) then (s9_party_34 n (s9_party_12 n o0 f) o0 M) else (if (M o0 28) = 0 then (s9_party_34 n (s9_party_12 n o0 f) o0 M) else (s9_party_60 n o0 x1 M)))
set_option maxRecDepth 100000 in
set_option maxHeartbeats 4000000 in
theorem b9_party_12 {w : WE} {g : GT} (C : CT w g RX9 cX9_party rm9_party 3) (RT : RTi w g cX9_party .int) (n : Nat) (o0 : Nat) (h0 : typ o0 = 9) : ∀ (f : Nat) (x1 : Int32) (M : Mem), J w g (s9_party_12 n o0 f x1 M) M 12 [(0, .ref (wa w o0)), (1, .int x1)] [] := by
  intro f
  induction f with
  | zero =>
    intro x1 M
    rw [s9_party_12]
    exact J_none
  | succ f ih =>
    intro x1 M
    rw [s9_party_12]
    refine J_iload_n C dX9_party_12 rfl 1 rfl ?_
    refine J_if_eq (tgt := 60) C dX9_party_13 (by decide) (fun _ => ?_) (fun _ => ?_)
    · exact b9_party_60 C RT n o0 h0 x1 M
    · refine J_aload_n C dX9_party_16 rfl 0 rfl ?_
      refine J_geti C fk9_27 W4_204 h0 dX9_party_17 ?_
      refine J_aload_n C dX9_party_20 rfl 0 rfl ?_
      refine J_geti C fk9_26 W4_203 h0 dX9_party_21 ?_
      refine J_icmp_lt (tgt := 34) C dX9_party_24 (by decide) (fun _ => ?_) (fun _ => ?_)
      · refine J_lv [0] rfl ?_
        exact b9_party_34 C RT n (s9_party_12 n o0 f) o0 h0 ih M
      · refine J_aload_n C dX9_party_27 rfl 0 rfl ?_
        refine J_geti C fk9_28 W4_205 h0 dX9_party_28 ?_
        refine J_if_ne (tgt := 60) C dX9_party_31 (by decide) (fun _ => ?_) (fun _ => ?_)
        · exact b9_party_60 C RT n o0 h0 x1 M
        · refine J_lv [0] rfl ?_
          exact b9_party_34 C RT n (s9_party_12 n o0 f) o0 h0 ih M
def s9_party (n : Nat) (o0 : Nat) (M : Mem) : Option Res := mlet (mset M o0 27 (0 : Int32)) (fun M1 => mlet (mset M1 o0 28 (0 : Int32)) (fun M2 => s9_party_12 n o0 n (1 : Int32) M2))
set_option maxRecDepth 100000 in
set_option maxHeartbeats 4000000 in
theorem b9_party {w : WE} {g : GT} (C : CT w g RX9 cX9_party rm9_party 3) (RT : RTi w g cX9_party .int) (n : Nat) (o0 : Nat) (h0 : typ o0 = 9) (M : Mem) : J w g (s9_party n o0 M) M 0 [(0, .ref (wa w o0))] [] := by
  rw [s9_party]
  refine J_aload_n C dX9_party_0 rfl 0 rfl ?_
  refine J_iconst C dX9_party_1 kci_0 ?_
  refine J_puti C fk9_27 W4_204 fp9_27 h0 dX9_party_2 ?_
  refine J_mlet (fun M1 => ?_)
  refine J_aload_n C dX9_party_5 rfl 0 rfl ?_
  refine J_iconst C dX9_party_6 kci_0 ?_
  refine J_puti C fk9_28 W4_205 fp9_28 h0 dX9_party_7 ?_
  refine J_mlet (fun M2 => ?_)
  refine J_iconst C dX9_party_10 kci_1 ?_
  refine J_istore_n (lv' := [(1, .int (1 : Int32)), (0, .ref (wa w o0))]) C dX9_party_11 rfl (by decide) rfl ?_
  refine J_lv [1, 0] rfl ?_
  exact b9_party_12 C RT n o0 h0 n (1 : Int32) M2
theorem c9_party (l : Launch) (w : WE) (n : Nat) (o0 : Nat) (h0 : typ o0 = 9) (M : Mem) : MC l w yX9_party (wz yX9_party cX9_party 3 (some .int)) rm9_party [.ref (wa w o0)] (s9_party n o0 M) M :=
  mc_of_J (own := RX9) rfl (by decide) rfl rfl (Nat.le_of_ble_eq_true rfl) (fun _ _ C RT => b9_party C RT n o0 h0 M)
theorem hdX9_party : yX9_party.cls = RX9 ∧ yOK yX9_party 0 := ⟨rfl, by decide, by decide, by decide⟩
abbrev rm9_walks : Room := { frames := 1, cells := 0, slots := 0, locals := 22 }
def s9_walks_59 (n : Nat) (k2 : Int32 → Mem → Option Res) (o0 : Nat) (x1 : Int32) (t0 : Int32) (t1 : Int32) (t2 : Int32) (q3 : Nat) (M : Mem) : Option Res := if inB t2 (alen q3) then mlet (mset M q3 t2.toNatClampNeg (t1 + t0)) (fun M1 => if inB x1 (alen (link o0 3)) then if (100 : Int32) ≤ (M1 (link o0 3) x1.toNatClampNeg) then (if inB x1 (alen (link o0 2)) then if (M1 o0 11) = 0 then none else ilet (((M1 (link o0 2) x1.toNatClampNeg) + (1 : Int32)) - ((M1 (link o0 2) x1.toNatClampNeg) + (1 : Int32)) / (M1 o0 11) * (M1 o0 11)) (fun v2 => cb (s9_isTaken n o0 v2 M1) (fun r4 M3 => if r4 = 0 then (if inB x1 (alen (link o0 2)) then mlet (mset M3 (link o0 2) x1.toNatClampNeg v2) (fun M5 => if inB x1 (alen (link o0 3)) then if inB x1 (alen (link o0 3)) then mlet (mset M5 (link o0 3) x1.toNatClampNeg ((M5 (link o0 3) x1.toNatClampNeg) - (100 : Int32))) (fun M6 => ilet (x1 + 1) (fun v7 => k2 v7 M6)) else none else none) else none) else (if inB x1 (alen (link o0 3)) then mlet (mset M3 (link o0 3) x1.toNatClampNeg (99 : Int32)) (fun M8 => ilet (x1 + 1) (fun v9 => k2 v9 M8)) else none))) else none) else (ilet (x1 + 1) (fun v10 => k2 v10 M1)) else none) else none
set_option maxRecDepth 100000 in
set_option maxHeartbeats 4000000 in
theorem b9_walks_59 {w : WE} {g : GT} (C : CT w g RX9 cX9_walks rm9_walks 3) (RT : RTv w g cX9_walks) (n : Nat) (k2 : Int32 → Mem → Option Res) (o0 : Nat) (h0 : typ o0 = 9) (x1 : Int32) (t0 : Int32) (t1 : Int32) (t2 : Int32) (q3 : Nat) (hq3 : typ q3 = 11) (hk2 : ∀ (z1 : Int32) (M : Mem), J w g (k2 z1 M) M 2 [(0, .ref (wa w o0)), (1, .int z1)] []) (M : Mem) : J w g (s9_walks_59 n k2 o0 x1 t0 t1 t2 q3 M) M 59 [(0, .ref (wa w o0)), (1, .int x1)] [.int t0, .int t1, .int t2, .ref (wa w q3)] := by
  rw [s9_walks_59]
  refine J_iadd C dX9_walks_59 ?_
  refine J_iastore C hq3 dX9_walks_60 ?_
  refine J_mlet (fun M1 => ?_)
  refine J_aload_n C dX9_walks_61 rfl 0 rfl ?_
  refine J_getr C fk9_3 W4_180 h0 dX9_walks_62 ?_
  refine J_iload_n C dX9_walks_65 rfl 1 rfl ?_
  refine J_aload_ C (tl_9_3 h0) dX9_walks_66 ?_
  refine J_bipush C dX9_walks_67 kcb_100 ?_
  refine J_icmp_ge (tgt := 75) C dX9_walks_69 (by decide) (fun _ => ?_) (fun _ => ?_)
  · refine J_aload_n C dX9_walks_75 rfl 0 rfl ?_
    refine J_getr C fk9_2 W4_179 h0 dX9_walks_76 ?_
    refine J_iload_n C dX9_walks_79 rfl 1 rfl ?_
    refine J_aload_ C (tl_9_2 h0) dX9_walks_80 ?_
    refine J_iconst C dX9_walks_81 kci_1 ?_
    refine J_iadd C dX9_walks_82 ?_
    refine J_aload_n C dX9_walks_83 rfl 0 rfl ?_
    refine J_geti C fk9_11 W4_188 h0 dX9_walks_84 ?_
    refine J_irem C dX9_walks_87 ?_
    refine J_ilet (fun v2 => ?_)
    refine J_istore_n (lv' := [(2, .int v2), (0, .ref (wa w o0)), (1, .int x1)]) C dX9_walks_88 rfl (by decide) rfl ?_
    refine J_aload_n C dX9_walks_89 rfl 1 rfl ?_
    refine J_iload_n C dX9_walks_90 rfl 0 rfl ?_
    refine J_cvi (As := [.int v2]) C (c9_isTaken (gl g) w n o0 h0 v2 M1) (gd_v W5_100 W5_102 WP_29 W1_10 W5_103) rfl (by decide) (hdX9_isTaken) h0 (by decide) (cl_9) rfl (Nat.le_of_ble_eq_true rfl) dX9_walks_91 rfl (fun r4 M3 => ?_)
    refine J_if_eq (tgt := 108) C dX9_walks_94 (by decide) (fun _ => ?_) (fun _ => ?_)
    · refine J_aload_n C dX9_walks_108 rfl 1 rfl ?_
      refine J_getr C fk9_2 W4_179 h0 dX9_walks_109 ?_
      refine J_iload_n C dX9_walks_112 rfl 2 rfl ?_
      refine J_iload_n C dX9_walks_113 rfl 0 rfl ?_
      refine J_iastore C (tl_9_2 h0) dX9_walks_114 ?_
      refine J_mlet (fun M5 => ?_)
      refine J_aload_n C dX9_walks_115 rfl 1 rfl ?_
      refine J_getr C fk9_3 W4_180 h0 dX9_walks_116 ?_
      refine J_iload_n C dX9_walks_119 rfl 2 rfl ?_
      refine J_dup2 C rfl rfl dX9_walks_120 ?_
      refine J_aload_ C (tl_9_3 h0) dX9_walks_121 ?_
      refine J_bipush C dX9_walks_122 kcb_100 ?_
      refine J_isub C dX9_walks_124 ?_
      refine J_iastore C (tl_9_3 h0) dX9_walks_125 ?_
      refine J_mlet (fun M6 => ?_)
      refine J_iinc (lw := fun v7 => [(1, .int v7), (2, .int v2), (0, .ref (wa w o0))]) (X := x1 + 1) C dX9_walks_126 (q := 2) rfl (by rw [kci_1]) (by decide) (fun _ => rfl) (fun v7 => ?_)
      refine J_goto (tgt := 2) C dX9_walks_129 (by decide) ?_
      refine J_lv [2, 0] rfl ?_
      exact hk2 v7 M6
    · refine J_aload_n C dX9_walks_97 rfl 1 rfl ?_
      refine J_getr C fk9_3 W4_180 h0 dX9_walks_98 ?_
      refine J_iload_n C dX9_walks_101 rfl 2 rfl ?_
      refine J_bipush C dX9_walks_102 kcb_99 ?_
      refine J_iastore C (tl_9_3 h0) dX9_walks_104 ?_
      refine J_mlet (fun M8 => ?_)
      refine J_goto (tgt := 126) C dX9_walks_105 (by decide) ?_
      refine J_iinc (lw := fun v9 => [(1, .int v9), (2, .int v2), (0, .ref (wa w o0))]) (X := x1 + 1) C dX9_walks_126 (q := 2) rfl (by rw [kci_1]) (by decide) (fun _ => rfl) (fun v9 => ?_)
      refine J_goto (tgt := 2) C dX9_walks_129 (by decide) ?_
      refine J_lv [2, 0] rfl ?_
      exact hk2 v9 M8
  · refine J_goto (tgt := 126) C dX9_walks_72 (by decide) ?_
    refine J_iinc (lw := fun v10 => [(1, .int v10), (0, .ref (wa w o0))]) (X := x1 + 1) C dX9_walks_126 (q := 1) rfl (by rw [kci_1]) (by decide) (fun _ => rfl) (fun v10 => ?_)
    refine J_goto (tgt := 2) C dX9_walks_129 (by decide) ?_
    refine J_lv [1, 0] rfl ?_
    exact hk2 v10 M1
def s9_walks_2 (n : Nat) (o0 : Nat) : Nat → Int32 → Mem → Option Res
  | 0, _, _ => none
  | f + 1, x1, M => if (M o0 12) ≤ x1 then (some (0, M)) else (if inB x1 (alen (link o0 4)) then if (M (link o0 4) x1.toNatClampNeg) = 0 then (ilet (x1 + 1) (fun v11 => s9_walks_2 n o0 f v11 M)) else (if inB x1 (alen (link o0 3)) then if inB x1 (alen (link o0 2)) then if inB (M (link o0 2) x1.toNatClampNeg) (alen (link o0 1)) then if (M (link o0 1) (M (link o0 2) x1.toNatClampNeg).toNatClampNeg) = (1 : Int32) then (if inB x1 (alen (link o0 7)) then s9_walks_59 n (s9_walks_2 n o0 f) o0 x1 (M (link o0 7) x1.toNatClampNeg) (M (link o0 3) x1.toNatClampNeg) x1 (link o0 3) M else none) else (if inB x1 (alen (link o0 6)) then s9_walks_59 n (s9_walks_2 n o0 f) o0 x1 (M (link o0 6) x1.toNatClampNeg) (M (link o0 3) x1.toNatClampNeg) x1 (link o0 3) M else none) else none else none else none) else none)
set_option maxRecDepth 100000 in
set_option maxHeartbeats 4000000 in
theorem b9_walks_2 {w : WE} {g : GT} (C : CT w g RX9 cX9_walks rm9_walks 3) (RT : RTv w g cX9_walks) (n : Nat) (o0 : Nat) (h0 : typ o0 = 9) : ∀ (f : Nat) (x1 : Int32) (M : Mem), J w g (s9_walks_2 n o0 f x1 M) M 2 [(0, .ref (wa w o0)), (1, .int x1)] [] := by
  intro f
  induction f with
  | zero =>
    intro x1 M
    rw [s9_walks_2]
    exact J_none
  | succ f ih =>
    intro x1 M
    rw [s9_walks_2]
    refine J_iload_n C dX9_walks_2 rfl 1 rfl ?_
    refine J_aload_n C dX9_walks_3 rfl 0 rfl ?_
    refine J_geti C fk9_12 W4_189 h0 dX9_walks_4 ?_
    refine J_icmp_ge (tgt := 132) C dX9_walks_7 (by decide) (fun _ => ?_) (fun _ => ?_)
    · exact J_vret C RT dX9_walks_132
    · refine J_aload_n C dX9_walks_10 rfl 0 rfl ?_
      refine J_getr C fk9_4 W4_181 h0 dX9_walks_11 ?_
      refine J_iload_n C dX9_walks_14 rfl 1 rfl ?_
      refine J_aload_ C (tl_9_4 h0) dX9_walks_15 ?_
      refine J_if_ne (tgt := 22) C dX9_walks_16 (by decide) (fun _ => ?_) (fun _ => ?_)
      · refine J_aload_n C dX9_walks_22 rfl 0 rfl ?_
        refine J_getr C fk9_3 W4_180 h0 dX9_walks_23 ?_
        refine J_iload_n C dX9_walks_26 rfl 1 rfl ?_
        refine J_dup2 C rfl rfl dX9_walks_27 ?_
        refine J_aload_ C (tl_9_3 h0) dX9_walks_28 ?_
        refine J_aload_n C dX9_walks_29 rfl 0 rfl ?_
        refine J_getr C fk9_1 W4_178 h0 dX9_walks_30 ?_
        refine J_aload_n C dX9_walks_33 rfl 0 rfl ?_
        refine J_getr C fk9_2 W4_179 h0 dX9_walks_34 ?_
        refine J_iload_n C dX9_walks_37 rfl 1 rfl ?_
        refine J_aload_ C (tl_9_2 h0) dX9_walks_38 ?_
        refine J_aload_ C (tl_9_1 h0) dX9_walks_39 ?_
        refine J_iconst C dX9_walks_40 kci_1 ?_
        refine J_icmp_ne (tgt := 53) C dX9_walks_41 (by decide) (fun _ => ?_) (fun _ => ?_)
        · refine J_aload_n C dX9_walks_53 rfl 0 rfl ?_
          refine J_getr C fk9_6 W4_183 h0 dX9_walks_54 ?_
          refine J_iload_n C dX9_walks_57 rfl 1 rfl ?_
          refine J_aload_ C (tl_9_6 h0) dX9_walks_58 ?_
          exact b9_walks_59 C RT n (s9_walks_2 n o0 f) o0 h0 x1 (M (link o0 6) x1.toNatClampNeg) (M (link o0 3) x1.toNatClampNeg) x1 (link o0 3) (tl_9_3 h0) ih M
        · refine J_aload_n C dX9_walks_44 rfl 0 rfl ?_
          refine J_getr C fk9_7 W4_184 h0 dX9_walks_45 ?_
          refine J_iload_n C dX9_walks_48 rfl 1 rfl ?_
          refine J_aload_ C (tl_9_7 h0) dX9_walks_49 ?_
          refine J_goto (tgt := 59) C dX9_walks_50 (by decide) ?_
          exact b9_walks_59 C RT n (s9_walks_2 n o0 f) o0 h0 x1 (M (link o0 7) x1.toNatClampNeg) (M (link o0 3) x1.toNatClampNeg) x1 (link o0 3) (tl_9_3 h0) ih M
      · refine J_goto (tgt := 126) C dX9_walks_19 (by decide) ?_
        refine J_iinc (lw := fun v11 => [(1, .int v11), (0, .ref (wa w o0))]) (X := x1 + 1) C dX9_walks_126 (q := 1) rfl (by rw [kci_1]) (by decide) (fun _ => rfl) (fun v11 => ?_)
        refine J_goto (tgt := 2) C dX9_walks_129 (by decide) ?_
        refine J_lv [1, 0] rfl ?_
        exact ih v11 M
def s9_walks (n : Nat) (o0 : Nat) (M : Mem) : Option Res := s9_walks_2 n o0 n (0 : Int32) M
set_option maxRecDepth 100000 in
set_option maxHeartbeats 4000000 in
theorem b9_walks {w : WE} {g : GT} (C : CT w g RX9 cX9_walks rm9_walks 3) (RT : RTv w g cX9_walks) (n : Nat) (o0 : Nat) (h0 : typ o0 = 9) (M : Mem) : J w g (s9_walks n o0 M) M 0 [(0, .ref (wa w o0))] [] := by
  rw [s9_walks]
  refine J_iconst C dX9_walks_0 kci_0 ?_
  refine J_istore_n (lv' := [(1, .int (0 : Int32)), (0, .ref (wa w o0))]) C dX9_walks_1 rfl (by decide) rfl ?_
  refine J_lv [1, 0] rfl ?_
  exact b9_walks_2 C RT n o0 h0 n (0 : Int32) M
theorem c9_walks (l : Launch) (w : WE) (n : Nat) (o0 : Nat) (h0 : typ o0 = 9) (M : Mem) : MV l w yX9_walks (wz yX9_walks cX9_walks 3 none) rm9_walks [.ref (wa w o0)] (s9_walks n o0 M) M :=
  mv_of_J (own := RX9) rfl (by decide) rfl rfl (Nat.le_of_ble_eq_true rfl) (fun _ _ C RT => b9_walks C RT n o0 h0 M)
theorem hdX9_walks : yX9_walks.cls = RX9 ∧ yOK yX9_walks 0 := ⟨rfl, by decide, by decide, by decide⟩
abbrev rm9_isSeat : Room := { frames := 0, cells := 0, slots := 0, locals := 0 }
def s9_isSeat_2 (n : Nat) (o0 : Nat) (x1 : Int32) : Nat → Int32 → Mem → Option Res
  | 0, _, _ => none
  | f + 1, x2, M => if (M o0 12) ≤ x2 then (some ((0 : Int32), M)) else (if inB x2 (alen (link o0 33)) then if (M (link o0 33) x2.toNatClampNeg) = x1 then (some ((1 : Int32), M)) else (ilet (x2 + 1) (fun v1 => s9_isSeat_2 n o0 x1 f v1 M)) else none)
set_option maxRecDepth 100000 in
set_option maxHeartbeats 4000000 in
theorem b9_isSeat_2 {w : WE} {g : GT} (C : CT w g RX9 cX9_isSeat rm9_isSeat 3) (RT : RTi w g cX9_isSeat .boolean) (n : Nat) (o0 : Nat) (h0 : typ o0 = 9) (x1 : Int32) : ∀ (f : Nat) (x2 : Int32) (M : Mem), J w g (s9_isSeat_2 n o0 x1 f x2 M) M 2 [(0, .ref (wa w o0)), (1, .int x1), (2, .int x2)] [] := by
  intro f
  induction f with
  | zero =>
    intro x2 M
    rw [s9_isSeat_2]
    exact J_none
  | succ f ih =>
    intro x2 M
    rw [s9_isSeat_2]
    refine J_iload_n C dX9_isSeat_2 rfl 2 rfl ?_
    refine J_aload_n C dX9_isSeat_3 rfl 0 rfl ?_
    refine J_geti C fk9_12 W4_189 h0 dX9_isSeat_4 ?_
    refine J_icmp_ge (tgt := 28) C dX9_isSeat_7 (by decide) (fun _ => ?_) (fun _ => ?_)
    · refine J_iconst C dX9_isSeat_28 kci_0 ?_
      exact J_iret C RT (by decide) dX9_isSeat_29
    · refine J_aload_n C dX9_isSeat_10 rfl 0 rfl ?_
      refine J_getr C fk9_33 W4_210 h0 dX9_isSeat_11 ?_
      refine J_iload_n C dX9_isSeat_14 rfl 2 rfl ?_
      refine J_aload_ C (tl_9_33 h0) dX9_isSeat_15 ?_
      refine J_iload_n C dX9_isSeat_16 rfl 1 rfl ?_
      refine J_icmp_ne (tgt := 22) C dX9_isSeat_17 (by decide) (fun _ => ?_) (fun _ => ?_)
      · refine J_iinc (lw := fun v1 => [(2, .int v1), (0, .ref (wa w o0)), (1, .int x1)]) (X := x2 + 1) C dX9_isSeat_22 (q := 2) rfl (by rw [kci_1]) (by decide) (fun _ => rfl) (fun v1 => ?_)
        refine J_goto (tgt := 2) C dX9_isSeat_25 (by decide) ?_
        refine J_lv [1, 2, 0] rfl ?_
        exact ih v1 M
      · refine J_iconst C dX9_isSeat_20 kci_1 ?_
        exact J_iret C RT (by decide) dX9_isSeat_21
def s9_isSeat (n : Nat) (o0 : Nat) (x1 : Int32) (M : Mem) : Option Res := s9_isSeat_2 n o0 x1 n (0 : Int32) M
set_option maxRecDepth 100000 in
set_option maxHeartbeats 4000000 in
theorem b9_isSeat {w : WE} {g : GT} (C : CT w g RX9 cX9_isSeat rm9_isSeat 3) (RT : RTi w g cX9_isSeat .boolean) (n : Nat) (o0 : Nat) (h0 : typ o0 = 9) (x1 : Int32) (M : Mem) : J w g (s9_isSeat n o0 x1 M) M 0 [(0, .ref (wa w o0)), (1, .int x1)] [] := by
  rw [s9_isSeat]
  refine J_iconst C dX9_isSeat_0 kci_0 ?_
  refine J_istore_n (lv' := [(2, .int (0 : Int32)), (0, .ref (wa w o0)), (1, .int x1)]) C dX9_isSeat_1 rfl (by decide) rfl ?_
  refine J_lv [1, 2, 0] rfl ?_
  exact b9_isSeat_2 C RT n o0 h0 x1 n (0 : Int32) M
theorem c9_isSeat (l : Launch) (w : WE) (n : Nat) (o0 : Nat) (h0 : typ o0 = 9) (x1 : Int32) (M : Mem) : MC l w yX9_isSeat (wz yX9_isSeat cX9_isSeat 3 (some .boolean)) rm9_isSeat [.ref (wa w o0), .int x1] (s9_isSeat n o0 x1 M) M :=
  mc_of_J (own := RX9) rfl (by decide) rfl rfl (Nat.le_of_ble_eq_true rfl) (fun _ _ C RT => b9_isSeat C RT n o0 h0 x1 M)
theorem hdX9_isSeat : yX9_isSeat.cls = RX9 ∧ yOK yX9_isSeat 1 := ⟨rfl, by decide, by decide, by decide⟩
