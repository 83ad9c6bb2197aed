abbrev rm6_begin : Room := { frames := 0, cells := 0, slots := 0, locals := 0 }
def s6_begin (o0 : Nat) (M : Mem) : Option Res := mlet (mset M o0 2 (0 : Int32)) (fun M1 => mlet (mset M1 o0 5 (0 : Int32)) (fun M2 => some (0, M2)))
set_option maxRecDepth 100000 in
set_option maxHeartbeats 4000000 in
theorem b6_begin {w : WE} {g : GT} (C : CT w g RX6 cX6_begin rm6_begin 1) (RT : RTv w g cX6_begin) (o0 : Nat) (h0 : typ o0 = 6) (M : Mem) : J w g (s6_begin o0 M) M 0 [(0, .ref (wa w o0))] [] := by
  rw [s6_begin]
  refine J_aload_n C dX6_begin_0 rfl 0 rfl ?_
  refine J_iconst C dX6_begin_1 kci_0 ?_
  refine J_puti C fk6_2 W2_17 fp6_2 h0 dX6_begin_2 ?_
  refine J_mlet (fun M1 => ?_)
  refine J_aload_n C dX6_begin_5 rfl 0 rfl ?_
  refine J_iconst C dX6_begin_6 kci_0 ?_
  refine J_puti C fk6_5 W2_21 fp6_5 h0 dX6_begin_7 ?_
  refine J_mlet (fun M2 => ?_)
  exact J_vret C RT dX6_begin_10
theorem c6_begin (l : Launch) (w : WE) (o0 : Nat) (h0 : typ o0 = 6) (M : Mem) : MV l w yX6_begin (wz yX6_begin cX6_begin 1 none) rm6_begin [.ref (wa w o0)] (s6_begin o0 M) M :=
  mv_of_J (own := RX6) rfl (by decide) rfl rfl (Nat.le_of_ble_eq_true rfl) (fun _ _ C RT => b6_begin C RT o0 h0 M)
theorem hdX6_begin : yX6_begin.cls = RX6 ∧ yOK yX6_begin 0 := ⟨rfl, by decide, by decide, by decide⟩
abbrev rm4_become : Room := { frames := 1, cells := 0, slots := 0, locals := 40 }
def s4_become (o0 : Nat) (o1 : Nat) (M : Mem) : Option Res := mlet (mset M o0 0 (M o1 0)) (fun M1 => mlet (mset M1 o0 1 (M1 o1 1)) (fun M2 => mlet (mrow M2 (link o0 2) (va_cpy (M2 (link o1 2)) (M2 (link o0 2)) 0 0 11)) (fun M3 => if bzAll (M3 (link o1 3)) 60 = true then mlet (mrow M3 (link o0 3) (va_cpy (M3 (link o1 3)) (M3 (link o0 3)) 0 0 60)) (fun M4 => some (0, M4)) else none)))
set_option maxRecDepth 100000 in
set_option maxHeartbeats 4000000 in
theorem b4_become {w : WE} {g : GT} (C : CT w g RX4 cX4_become rm4_become 2) (RT : RTv w g cX4_become) (o0 : Nat) (h0 : typ o0 = 4) (o1 : Nat) (h1 : typ o1 = 4) (M : Mem) : J w g (s4_become o0 o1 M) M 0 [(0, .ref (wa w o0)), (1, .ref (wa w o1))] [] := by
  rw [s4_become]
  refine J_aload_n C dX4_become_0 rfl 0 rfl ?_
  refine J_aload_n C dX4_become_1 rfl 1 rfl ?_
  refine J_geti C fk4_0 W1_44 h1 dX4_become_2 ?_
  refine J_puti C fk4_0 W1_44 fp4_0 h0 dX4_become_5 ?_
  refine J_mlet (fun M1 => ?_)
  refine J_aload_n C dX4_become_8 rfl 0 rfl ?_
  refine J_aload_n C dX4_become_9 rfl 1 rfl ?_
  refine J_geti C fk4_1 W1_48 h1 dX4_become_10 ?_
  refine J_puti C fk4_1 W1_48 fp4_1 h0 dX4_become_13 ?_
  refine J_mlet (fun M2 => ?_)
  refine J_aload_n C dX4_become_16 rfl 1 rfl ?_
  refine J_getr C fk4_2 W1_53 h1 dX4_become_17 ?_
  refine J_iconst C dX4_become_20 kci_0 ?_
  refine J_aload_n C dX4_become_21 rfl 0 rfl ?_
  refine J_getr C fk4_2 W1_53 h0 dX4_become_22 ?_
  refine J_iconst C dX4_become_25 kci_0 ?_
  refine J_bipush C dX4_become_26 kcb_11 ?_
  refine J_copy C W2_178 W2_180 W2_179 W1_15 ⟨by decide, by decide +kernel⟩ (Nat.le_of_ble_eq_true rfl) (tl_4_2 h1) (tl_4_2 h0) (by decide) (by decide) (t0 := 1) rfl rfl (by decide) (k := 11) rfl (Nat.le_of_eq (al_4_2 h1).symm) (Nat.le_of_eq (al_4_2 h0).symm) (fun _ _ => rfl) dX4_become_28 ?_
  refine J_mlet (fun M3 => ?_)
  refine J_aload_n C dX4_become_31 rfl 1 rfl ?_
  refine J_getr C fk4_3 W1_54 h1 dX4_become_32 ?_
  refine J_iconst C dX4_become_35 kci_0 ?_
  refine J_aload_n C dX4_become_36 rfl 0 rfl ?_
  refine J_getr C fk4_3 W1_54 h0 dX4_become_37 ?_
  refine J_iconst C dX4_become_40 kci_0 ?_
  refine J_bipush C dX4_become_41 kcb_60 ?_
  refine J_ite (fun hf5 => ?_) (fun _ => J_none)
  refine J_copy C W2_178 W2_180 W2_179 W1_15 ⟨by decide, by decide +kernel⟩ (Nat.le_of_ble_eq_true rfl) (tl_4_3 h1) (tl_4_3 h0) (by decide) (by decide) (t0 := 2) rfl rfl (by decide) (k := 60) rfl (Nat.le_of_eq (al_4_3 h1).symm) (Nat.le_of_eq (al_4_3 h0).symm) (fun i hi => bz_fits (bzAll_spec hf5 i hi)) dX4_become_43 ?_
  refine J_mlet (fun M4 => ?_)
  exact J_vret C RT dX4_become_46
theorem c4_become (l : Launch) (w : WE) (o0 : Nat) (h0 : typ o0 = 4) (o1 : Nat) (h1 : typ o1 = 4) (M : Mem) : MV l w yX4_become (wz yX4_become cX4_become 2 none) rm4_become [.ref (wa w o0), .ref (wa w o1)] (s4_become o0 o1 M) M :=
  mv_of_J (own := RX4) rfl (by decide) rfl rfl (Nat.le_of_ble_eq_true rfl) (fun _ _ C RT => b4_become C RT o0 h0 o1 h1 M)
theorem hdX4_become : yX4_become.cls = RX4 ∧ yOK yX4_become 1 := ⟨rfl, by decide, by decide, by decide⟩
abbrev rm3_become : Room := { frames := 0, cells := 0, slots := 0, locals := 0 }
def s3_become (o0 : Nat) (o1 : Nat) (M : Mem) : Option Res := mlet (mset M o0 0 (M o1 0)) (fun M1 => mlet (mset M1 o0 1 (M1 o1 1)) (fun M2 => mlet (mset M2 o0 2 (M2 o1 2)) (fun M3 => some (0, M3))))
set_option maxRecDepth 100000 in
set_option maxHeartbeats 4000000 in
theorem b3_become {w : WE} {g : GT} (C : CT w g RX3 cX3_become rm3_become 2) (RT : RTv w g cX3_become) (o0 : Nat) (h0 : typ o0 = 3) (o1 : Nat) (h1 : typ o1 = 3) (M : Mem) : J w g (s3_become o0 o1 M) M 0 [(0, .ref (wa w o0)), (1, .ref (wa w o1))] [] := by
  rw [s3_become]
  refine J_aload_n C dX3_become_0 rfl 0 rfl ?_
  refine J_aload_n C dX3_become_1 rfl 1 rfl ?_
  refine J_geti C fk3_0 W1_72 h1 dX3_become_2 ?_
  refine J_puti C fk3_0 W1_72 fp3_0 h0 dX3_become_5 ?_
  refine J_mlet (fun M1 => ?_)
  refine J_aload_n C dX3_become_8 rfl 0 rfl ?_
  refine J_aload_n C dX3_become_9 rfl 1 rfl ?_
  refine J_geti C fk3_1 W1_77 h1 dX3_become_10 ?_
  refine J_puti C fk3_1 W1_77 fp3_1 h0 dX3_become_13 ?_
  refine J_mlet (fun M2 => ?_)
  refine J_aload_n C dX3_become_16 rfl 0 rfl ?_
  refine J_aload_n C dX3_become_17 rfl 1 rfl ?_
  refine J_geti C fk3_2 W1_81 h1 dX3_become_18 ?_
  refine J_puti C fk3_2 W1_81 fp3_2 h0 dX3_become_21 ?_
  refine J_mlet (fun M3 => ?_)
  exact J_vret C RT dX3_become_24
theorem c3_become (l : Launch) (w : WE) (o0 : Nat) (h0 : typ o0 = 3) (o1 : Nat) (h1 : typ o1 = 3) (M : Mem) : MV l w yX3_become (wz yX3_become cX3_become 2 none) rm3_become [.ref (wa w o0), .ref (wa w o1)] (s3_become o0 o1 M) M :=
  mv_of_J (own := RX3) rfl (by decide) rfl rfl (Nat.le_of_ble_eq_true rfl) (fun _ _ C RT => b3_become C RT o0 h0 o1 h1 M)
theorem hdX3_become : yX3_become.cls = RX3 ∧ yOK yX3_become 1 := ⟨rfl, by decide, by decide, by decide⟩
abbrev rm7_become : Room := { frames := 0, cells := 0, slots := 0, locals := 0 }
def s7_become (o0 : Nat) (o1 : Nat) (M : Mem) : Option Res := mlet (mset M o0 0 (M o1 0)) (fun M1 => mlet (mset M1 o0 1 (M1 o1 1)) (fun M2 => if bz (M2 o1 2) then mlet (mset M2 o0 2 (M2 o1 2)) (fun M3 => mlet (mset M3 o0 3 (M3 o1 3)) (fun M4 => mlet (mset M4 o0 4 (M4 o1 4)) (fun M5 => mlet (mset M5 o0 5 (M5 o1 5)) (fun M6 => mlet (mset M6 o0 6 (M6 o1 6)) (fun M7 => mlet (mset M7 o0 7 (M7 o1 7)) (fun M8 => mlet (mset M8 o0 8 (M8 o1 8)) (fun M9 => some (0, M9)))))))) else none))
set_option maxRecDepth 100000 in
set_option maxHeartbeats 4000000 in
theorem b7_become {w : WE} {g : GT} (C : CT w g RX7 cX7_become rm7_become 2) (RT : RTv w g cX7_become) (o0 : Nat) (h0 : typ o0 = 7) (o1 : Nat) (h1 : typ o1 = 7) (M : Mem) : J w g (s7_become o0 o1 M) M 0 [(0, .ref (wa w o0)), (1, .ref (wa w o1))] [] := by
  rw [s7_become]
  refine J_aload_n C dX7_become_0 rfl 0 rfl ?_
  refine J_aload_n C dX7_become_1 rfl 1 rfl ?_
  refine J_geti C fk7_0 W1_120 h1 dX7_become_2 ?_
  refine J_puti C fk7_0 W1_120 fp7_0 h0 dX7_become_5 ?_
  refine J_mlet (fun M1 => ?_)
  refine J_aload_n C dX7_become_8 rfl 0 rfl ?_
  refine J_aload_n C dX7_become_9 rfl 1 rfl ?_
  refine J_geti C fk7_1 W1_125 h1 dX7_become_10 ?_
  refine J_puti C fk7_1 W1_125 fp7_1 h0 dX7_become_13 ?_
  refine J_mlet (fun M2 => ?_)
  refine J_aload_n C dX7_become_16 rfl 0 rfl ?_
  refine J_aload_n C dX7_become_17 rfl 1 rfl ?_
  refine J_geti C fk7_2 W1_127 h1 dX7_become_18 ?_
  refine J_putz C fk7_2 W1_127 fp7_2 h0 dX7_become_21 ?_
  refine J_mlet (fun M3 => ?_)
  refine J_aload_n C dX7_become_24 rfl 0 rfl ?_
  refine J_aload_n C dX7_become_25 rfl 1 rfl ?_
  refine J_geti C fk7_3 W1_130 h1 dX7_become_26 ?_
  refine J_puti C fk7_3 W1_130 fp7_3 h0 dX7_become_29 ?_
  refine J_mlet (fun M4 => ?_)
  refine J_aload_n C dX7_become_32 rfl 0 rfl ?_
  refine J_aload_n C dX7_become_33 rfl 1 rfl ?_
  refine J_geti C fk7_4 W1_132 h1 dX7_become_34 ?_
  refine J_puti C fk7_4 W1_132 fp7_4 h0 dX7_become_37 ?_
  refine J_mlet (fun M5 => ?_)
  refine J_aload_n C dX7_become_40 rfl 0 rfl ?_
  refine J_aload_n C dX7_become_41 rfl 1 rfl ?_
  refine J_geti C fk7_5 W1_134 h1 dX7_become_42 ?_
  refine J_puti C fk7_5 W1_134 fp7_5 h0 dX7_become_45 ?_
  refine J_mlet (fun M6 => ?_)
  refine J_aload_n C dX7_become_48 rfl 0 rfl ?_
  refine J_aload_n C dX7_become_49 rfl 1 rfl ?_
  refine J_geti C fk7_6 W1_138 h1 dX7_become_50 ?_
  refine J_puti C fk7_6 W1_138 fp7_6 h0 dX7_become_53 ?_
  refine J_mlet (fun M7 => ?_)
  refine J_aload_n C dX7_become_56 rfl 0 rfl ?_
  refine J_aload_n C dX7_become_57 rfl 1 rfl ?_
  refine J_geti C fk7_7 W1_141 h1 dX7_become_58 ?_
  refine J_puti C fk7_7 W1_141 fp7_7 h0 dX7_become_61 ?_
  refine J_mlet (fun M8 => ?_)
  refine J_aload_n C dX7_become_64 rfl 0 rfl ?_
  refine J_aload_n C dX7_become_65 rfl 1 rfl ?_
  refine J_geti C fk7_8 W1_142 h1 dX7_become_66 ?_
  refine J_puti C fk7_8 W1_142 fp7_8 h0 dX7_become_69 ?_
  refine J_mlet (fun M9 => ?_)
  exact J_vret C RT dX7_become_72
theorem c7_become (l : Launch) (w : WE) (o0 : Nat) (h0 : typ o0 = 7) (o1 : Nat) (h1 : typ o1 = 7) (M : Mem) : MV l w yX7_become (wz yX7_become cX7_become 2 none) rm7_become [.ref (wa w o0), .ref (wa w o1)] (s7_become o0 o1 M) M :=
  mv_of_J (own := RX7) rfl (by decide) rfl rfl (Nat.le_of_ble_eq_true rfl) (fun _ _ C RT => b7_become C RT o0 h0 o1 h1 M)
theorem hdX7_become : yX7_become.cls = RX7 ∧ yOK yX7_become 1 := ⟨rfl, by decide, by decide, by decide⟩
abbrev rm2_become : Room := { frames := 2, cells := 0, slots := 0, locals := 61 }
def s2_become_67 (n : Nat) (o0 : Nat) (o1 : Nat) (M : Mem) : Option Res := if bzAll (M (link o1 4)) 60 = true then mlet (mrow M (link o0 4) (va_cpy (M (link o1 4)) (M (link o0 4)) 0 0 60)) (fun M6 => mlet (mset M6 o0 6 (M6 o1 6)) (fun M8 => mlet (mset M8 o0 7 (M8 o1 7)) (fun M9 => mlet (mset M9 o0 8 (M9 o1 8)) (fun M10 => if bz (M10 o1 9) then mlet (mset M10 o0 9 (M10 o1 9)) (fun M11 => some (0, M11)) else none)))) else none
set_option maxRecDepth 100000 in
set_option maxHeartbeats 4000000 in
theorem b2_become_67 {w : WE} {g : GT} (C : CT w g RX2 cX2_become rm2_become 3) (RT : RTv w g cX2_become) (n : Nat) (o0 : Nat) (h0 : typ o0 = 2) (o1 : Nat) (h1 : typ o1 = 2) (M : Mem) : J w g (s2_become_67 n o0 o1 M) M 67 [(0, .ref (wa w o0)), (1, .ref (wa w o1))] [] := by
  rw [s2_become_67]
  refine J_aload_n C dX2_become_67 rfl 1 rfl ?_
  refine J_getr C fk2_4 W1_178 h1 dX2_become_68 ?_
  refine J_iconst C dX2_become_71 kci_0 ?_
  refine J_aload_n C dX2_become_72 rfl 0 rfl ?_
  refine J_getr C fk2_4 W1_178 h0 dX2_become_73 ?_
  refine J_iconst C dX2_become_76 kci_0 ?_
  refine J_bipush C dX2_become_77 kcb_60 ?_
  refine J_ite (fun hf7 => ?_) (fun _ => J_none)
  refine J_copy C W2_189 W2_180 W2_179 W1_15 ⟨by decide, by decide +kernel⟩ (Nat.le_of_ble_eq_true rfl) (tl_2_4 h1) (tl_2_4 h0) (by decide) (by decide) (t0 := 2) rfl rfl (by decide) (k := 60) rfl (Nat.le_of_eq (al_2_4 h1).symm) (Nat.le_of_eq (al_2_4 h0).symm) (fun i hi => bz_fits (bzAll_spec hf7 i hi)) dX2_become_79 ?_
  refine J_mlet (fun M6 => ?_)
  refine J_aload_n C dX2_become_82 rfl 0 rfl ?_
  refine J_aload_n C dX2_become_83 rfl 1 rfl ?_
  refine J_geti C fk2_6 W1_183 h1 dX2_become_84 ?_
  refine J_puti C fk2_6 W1_183 fp2_6 h0 dX2_become_87 ?_
  refine J_mlet (fun M8 => ?_)
  refine J_aload_n C dX2_become_90 rfl 0 rfl ?_
  refine J_aload_n C dX2_become_91 rfl 1 rfl ?_
  refine J_geti C fk2_7 W1_187 h1 dX2_become_92 ?_
  refine J_puti C fk2_7 W1_187 fp2_7 h0 dX2_become_95 ?_
  refine J_mlet (fun M9 => ?_)
  refine J_aload_n C dX2_become_98 rfl 0 rfl ?_
  refine J_aload_n C dX2_become_99 rfl 1 rfl ?_
  refine J_geti C fk2_8 W1_189 h1 dX2_become_100 ?_
  refine J_puti C fk2_8 W1_189 fp2_8 h0 dX2_become_103 ?_
  refine J_mlet (fun M10 => ?_)
  refine J_aload_n C dX2_become_106 rfl 0 rfl ?_
  refine J_aload_n C dX2_become_107 rfl 1 rfl ?_
  refine J_geti C fk2_9 W1_191 h1 dX2_become_108 ?_
  refine J_putz C fk2_9 W1_191 fp2_9 h0 dX2_become_111 ?_
  refine J_mlet (fun M11 => ?_)
  exact J_vret C RT dX2_become_114
def s2_become_32 (n : Nat) (o0 : Nat) (o1 : Nat) : Nat → Int32 → Mem → Option Res
  | 0, _, _ => none
  | f + 1, x2, M => if (M o0 5) ≤ x2 then (s2_become_67 n o0 o1 M) else (if (12 : Int32) ≤ x2 then (s2_become_67 n o0 o1 M) else (if inB x2 (alen (link o0 3)) then if inB x2 (alen (link o1 3)) then cb (s7_become (link (link o0 3) x2.toNatClampNeg) (link (link o1 3) x2.toNatClampNeg) M) (fun _ M14 => ilet (x2 + 1) (fun v16 => s2_become_32 n o0 o1 f v16 M14)) else none else none))
set_option maxRecDepth 100000 in
set_option maxHeartbeats 4000000 in
theorem b2_become_32 {w : WE} {g : GT} (C : CT w g RX2 cX2_become rm2_become 3) (RT : RTv w g cX2_become) (n : Nat) (o0 : Nat) (h0 : typ o0 = 2) (o1 : Nat) (h1 : typ o1 = 2) : ∀ (f : Nat) (x2 : Int32) (M : Mem), J w g (s2_become_32 n o0 o1 f x2 M) M 32 [(0, .ref (wa w o0)), (1, .ref (wa w o1)), (2, .int x2)] [] := by
  intro f
  induction f with
  | zero =>
    intro x2 M
    rw [s2_become_32]
    exact J_none
  | succ f ih =>
    intro x2 M
    rw [s2_become_32]
    refine J_iload_n C dX2_become_32 rfl 2 rfl ?_
    refine J_aload_n C dX2_become_33 rfl 0 rfl ?_
    refine J_geti C fk2_5 W1_179 h0 dX2_become_34 ?_
    refine J_icmp_ge (tgt := 67) C dX2_become_37 (by decide) (fun _ => ?_) (fun _ => ?_)
    · refine J_lv [0, 1] rfl ?_
      exact b2_become_67 C RT n o0 h0 o1 h1 M
    · refine J_iload_n C dX2_become_40 rfl 2 rfl ?_
      refine J_bipush C dX2_become_41 kcb_12 ?_
      refine J_icmp_ge (tgt := 67) C dX2_become_43 (by decide) (fun _ => ?_) (fun _ => ?_)
      · refine J_lv [0, 1] rfl ?_
        exact b2_become_67 C RT n o0 h0 o1 h1 M
      · refine J_aload_n C dX2_become_46 rfl 0 rfl ?_
        refine J_getr C fk2_3 W1_174 h0 dX2_become_47 ?_
        refine J_iload_n C dX2_become_50 rfl 2 rfl ?_
        refine J_aaload C (tl_2_3 h0) dX2_become_51 (fun hb12 => ?_)
        refine J_aload_n C dX2_become_52 rfl 1 rfl ?_
        refine J_getr C fk2_3 W1_174 h1 dX2_become_53 ?_
        refine J_iload_n C dX2_become_56 rfl 2 rfl ?_
        refine J_aaload C (tl_2_3 h1) dX2_become_57 (fun hb13 => ?_)
        refine J_cvv (As := [.ref (wa w (link (link o1 3) x2.toNatClampNeg))]) C (c7_become (gl g) w (link (link o0 3) x2.toNatClampNeg) (t_wk (tl_2_3 h0) hb12) (link (link o1 3) x2.toNatClampNeg) (t_wk (tl_2_3 h1) hb13) M) (gd_v W2_185 W2_186 W2_187 W1_7 W2_188) rfl (by decide) (hdX7_become) (t_wk (tl_2_3 h0) hb12) (by decide) (cl_7) rfl (Nat.le_of_ble_eq_true rfl) dX2_become_58 rfl (fun r15 M14 => ?_)
        refine J_iinc (lw := fun v16 => [(2, .int v16), (0, .ref (wa w o0)), (1, .ref (wa w o1))]) (X := x2 + 1) C dX2_become_61 (q := 2) rfl (by rw [kci_1]) (by decide) (fun _ => rfl) (fun v16 => ?_)
        refine J_goto (tgt := 32) C dX2_become_64 (by decide) ?_
        refine J_lv [1, 2, 0] rfl ?_
        exact ih v16 M14
def s2_become (n : Nat) (o0 : Nat) (o1 : Nat) (M : Mem) : Option Res := cb (s4_become (link o0 0) (link o1 0) M) (fun _ M1 => cb (s3_become (link o0 1) (link o1 1) M1) (fun _ M3 => mlet (mset M3 o0 5 (M3 o1 5)) (fun M5 => s2_become_32 n o0 o1 n (0 : Int32) M5)))
set_option maxRecDepth 100000 in
set_option maxHeartbeats 4000000 in
theorem b2_become {w : WE} {g : GT} (C : CT w g RX2 cX2_become rm2_become 3) (RT : RTv w g cX2_become) (n : Nat) (o0 : Nat) (h0 : typ o0 = 2) (o1 : Nat) (h1 : typ o1 = 2) (M : Mem) : J w g (s2_become n o0 o1 M) M 0 [(0, .ref (wa w o0)), (1, .ref (wa w o1))] [] := by
  rw [s2_become]
  refine J_aload_n C dX2_become_0 rfl 0 rfl ?_
  refine J_getr C fk2_0 W1_162 h0 dX2_become_1 ?_
  refine J_aload_n C dX2_become_4 rfl 1 rfl ?_
  refine J_getr C fk2_0 W1_162 h1 dX2_become_5 ?_
  refine J_cvv (As := [.ref (wa w (link o1 0))]) C (c4_become (gl g) w (link o0 0) (tl_2_0 h0) (link o1 0) (tl_2_0 h1) M) (gd_v W2_174 W2_175 W2_176 W1_4 W2_177) rfl (by decide) (hdX4_become) (tl_2_0 h0) (by decide) (cl_4) rfl (Nat.le_of_ble_eq_true rfl) dX2_become_8 rfl (fun r2 M1 => ?_)
  refine J_aload_n C dX2_become_11 rfl 0 rfl ?_
  refine J_getr C fk2_1 W1_167 h0 dX2_become_12 ?_
  refine J_aload_n C dX2_become_15 rfl 1 rfl ?_
  refine J_getr C fk2_1 W1_167 h1 dX2_become_16 ?_
  refine J_cvv (As := [.ref (wa w (link o1 1))]) C (c3_become (gl g) w (link o0 1) (tl_2_1 h0) (link o1 1) (tl_2_1 h1) M1) (gd_v W2_181 W2_182 W2_183 W1_5 W2_184) rfl (by decide) (hdX3_become) (tl_2_1 h0) (by decide) (cl_3) rfl (Nat.le_of_ble_eq_true rfl) dX2_become_19 rfl (fun r4 M3 => ?_)
  refine J_aload_n C dX2_become_22 rfl 0 rfl ?_
  refine J_aload_n C dX2_become_23 rfl 1 rfl ?_
  refine J_geti C fk2_5 W1_179 h1 dX2_become_24 ?_
  refine J_puti C fk2_5 W1_179 fp2_5 h0 dX2_become_27 ?_
  refine J_mlet (fun M5 => ?_)
  refine J_iconst C dX2_become_30 kci_0 ?_
  refine J_istore_n (lv' := [(2, .int (0 : Int32)), (0, .ref (wa w o0)), (1, .ref (wa w o1))]) C dX2_become_31 rfl (by decide) rfl ?_
  refine J_lv [1, 2, 0] rfl ?_
  exact b2_become_32 C RT n o0 h0 o1 h1 n (0 : Int32) M5
theorem c2_become (l : Launch) (w : WE) (n : Nat) (o0 : Nat) (h0 : typ o0 = 2) (o1 : Nat) (h1 : typ o1 = 2) (M : Mem) : MV l w yX2_become (wz yX2_become cX2_become 3 none) rm2_become [.ref (wa w o0), .ref (wa w o1)] (s2_become n o0 o1 M) M :=
  mv_of_J (own := RX2) rfl (by decide) rfl rfl (Nat.le_of_ble_eq_true rfl) (fun _ _ C RT => b2_become C RT n o0 h0 o1 h1 M)
theorem hdX2_become : yX2_become.cls = RX2 ∧ yOK yX2_become 1 := ⟨rfl, by decide, by decide, by decide⟩
abbrev rm6_signAhead : Room := { frames := 0, cells := 0, slots := 0, locals := 0 }
def s6_signAhead (o0 : Nat) (M : Mem) : Option Res := if (M o0 2) < 0 then (some ((-1 : Int32), M)) else (if (M o0 4) ≤ (M o0 2) then (some ((-1 : Int32), M)) else (if (64 : Int32) ≤ (M o0 2) then (some ((-1 : Int32), M)) else (if inB (M o0 2) (alen (link o0 0)) then some ((M (link o0 0) (M o0 2).toNatClampNeg) &&& (255 : Int32), M) else none)))
set_option maxRecDepth 100000 in
set_option maxHeartbeats 4000000 in
theorem b6_signAhead {w : WE} {g : GT} (C : CT w g RX6 cX6_signAhead rm6_signAhead 1) (RT : RTi w g cX6_signAhead .int) (o0 : Nat) (h0 : typ o0 = 6) (M : Mem) : J w g (s6_signAhead o0 M) M 0 [(0, .ref (wa w o0))] [] := by
  rw [s6_signAhead]
  refine J_aload_n C dX6_signAhead_0 rfl 0 rfl ?_
  refine J_geti C fk6_2 W2_17 h0 dX6_signAhead_1 ?_
  refine J_if_lt (tgt := 43) C dX6_signAhead_4 (by decide) (fun _ => ?_) (fun _ => ?_)
  · refine J_iconst C dX6_signAhead_43 kci_m1 ?_
    exact J_iret C RT rfl dX6_signAhead_44
  · refine J_aload_n C dX6_signAhead_7 rfl 0 rfl ?_
    refine J_geti C fk6_2 W2_17 h0 dX6_signAhead_8 ?_
    refine J_aload_n C dX6_signAhead_11 rfl 0 rfl ?_
    refine J_geti C fk6_4 W2_19 h0 dX6_signAhead_12 ?_
    refine J_icmp_ge (tgt := 43) C dX6_signAhead_15 (by decide) (fun _ => ?_) (fun _ => ?_)
    · refine J_iconst C dX6_signAhead_43 kci_m1 ?_
      exact J_iret C RT rfl dX6_signAhead_44
    · refine J_aload_n C dX6_signAhead_18 rfl 0 rfl ?_
      refine J_geti C fk6_2 W2_17 h0 dX6_signAhead_19 ?_
      refine J_bipush C dX6_signAhead_22 kcb_64 ?_
      refine J_icmp_ge (tgt := 43) C dX6_signAhead_24 (by decide) (fun _ => ?_) (fun _ => ?_)
      · refine J_iconst C dX6_signAhead_43 kci_m1 ?_
        exact J_iret C RT rfl dX6_signAhead_44
      · refine J_aload_n C dX6_signAhead_27 rfl 0 rfl ?_
        refine J_getr C fk6_0 W2_15 h0 dX6_signAhead_28 ?_
        refine J_aload_n C dX6_signAhead_31 rfl 0 rfl ?_
        refine J_geti C fk6_2 W2_17 h0 dX6_signAhead_32 ?_
        refine J_baload C (tl_6_0 h0) dX6_signAhead_35 ?_
        refine J_sipush C dX6_signAhead_36 kcs_255 ?_
        refine J_iand C dX6_signAhead_39 ?_
        refine J_goto (tgt := 44) C dX6_signAhead_40 (by decide) ?_
        exact J_iret C RT rfl dX6_signAhead_44
theorem c6_signAhead (l : Launch) (w : WE) (o0 : Nat) (h0 : typ o0 = 6) (M : Mem) : MC l w yX6_signAhead (wz yX6_signAhead cX6_signAhead 1 (some .int)) rm6_signAhead [.ref (wa w o0)] (s6_signAhead o0 M) M :=
  mc_of_J (own := RX6) rfl (by decide) rfl rfl (Nat.le_of_ble_eq_true rfl) (fun _ _ C RT => b6_signAhead C RT o0 h0 M)
theorem hdX6_signAhead : yX6_signAhead.cls = RX6 ∧ yOK yX6_signAhead 0 := ⟨rfl, by decide, by decide, by decide⟩
abbrev rm8_whyNotWithin : Room := { frames := 0, cells := 0, slots := 0, locals := 0 }
def s8_whyNotWithin (x0 : Int32) (x1 : Int32) (x2 : Int32) (M : Mem) : Option Res := if x1 ≤ x0 then (if x0 ≤ x2 then (some ((0 : Int32), M)) else (some ((6 : Int32), M))) else (some ((4 : Int32), M))
set_option maxRecDepth 100000 in
set_option maxHeartbeats 4000000 in
theorem b8_whyNotWithin {w : WE} {g : GT} (C : CT w g RX8 cX8_whyNotWithin rm8_whyNotWithin 3) (RT : RTi w g cX8_whyNotWithin .int) (x0 : Int32) (x1 : Int32) (x2 : Int32) (M : Mem) : J w g (s8_whyNotWithin x0 x1 x2 M) M 0 [(0, .int x0), (1, .int x1), (2, .int x2)] [] := by
  rw [s8_whyNotWithin]
  refine J_iload_n C dX8_whyNotWithin_0 rfl 0 rfl ?_
  refine J_iload_n C dX8_whyNotWithin_1 rfl 1 rfl ?_
  refine J_icmp_ge (tgt := 7) C dX8_whyNotWithin_2 (by decide) (fun _ => ?_) (fun _ => ?_)
  · refine J_iload_n C dX8_whyNotWithin_7 rfl 0 rfl ?_
    refine J_iload_n C dX8_whyNotWithin_8 rfl 2 rfl ?_
    refine J_icmp_le (tgt := 17) C dX8_whyNotWithin_9 (by decide) (fun _ => ?_) (fun _ => ?_)
    · refine J_iconst C dX8_whyNotWithin_17 kci_0 ?_
      exact J_iret C RT rfl dX8_whyNotWithin_18
    · refine J_bipush C dX8_whyNotWithin_12 kcb_6 ?_
      refine J_goto (tgt := 18) C dX8_whyNotWithin_14 (by decide) ?_
      exact J_iret C RT rfl dX8_whyNotWithin_18
  · refine J_iconst C dX8_whyNotWithin_5 kci_4 ?_
    exact J_iret C RT rfl dX8_whyNotWithin_6
theorem c8_whyNotWithin (l : Launch) (w : WE) (x0 : Int32) (x1 : Int32) (x2 : Int32) (M : Mem) : MC l w yX8_whyNotWithin (wz yX8_whyNotWithin cX8_whyNotWithin 3 (some .int)) rm8_whyNotWithin [.int x0, .int x1, .int x2] (s8_whyNotWithin x0 x1 x2 M) M :=
  mc_of_J (own := RX8) rfl (by decide) rfl rfl (Nat.le_of_ble_eq_true rfl) (fun _ _ C RT => b8_whyNotWithin C RT x0 x1 x2 M)
theorem hdX8_whyNotWithin : yX8_whyNotWithin.cls = RX8 ∧ yOK yX8_whyNotWithin 3 := ⟨rfl, by decide, by decide, by decide⟩
abbrev rm6_resize : Room := { frames := 1, cells := 0, slots := 0, locals := 22 }
def s6_resize_37 (n : Nat) (o0 : Nat) (o1 : Nat) (t0 : Int32) (M : Mem) : Option Res := if t0 = 0 then (if bz t0 then some (t0, M) else none) else (if inB (0 : Int32) (alen (link o0 1)) then mlet (mset M (link o1 0) 0 (M (link o0 1) (0 : Int32).toNatClampNeg)) (fun M3 => if bz t0 then some (t0, M3) else none) else none)
set_option maxRecDepth 100000 in
set_option maxHeartbeats 4000000 in
theorem b6_resize_37 {w : WE} {g : GT} (C : CT w g RX6 cX6_resize rm6_resize 3) (RT : RTi w g cX6_resize .boolean) (n : Nat) (o0 : Nat) (h0 : typ o0 = 6) (o1 : Nat) (h1 : typ o1 = 2) (t0 : Int32) (M : Mem) : J w g (s6_resize_37 n o0 o1 t0 M) M 37 [(0, .ref (wa w o0)), (1, .ref (wa w o1))] [.int t0] := by
  rw [s6_resize_37]
  refine J_istore_n (lv' := [(2, .int t0), (0, .ref (wa w o0)), (1, .ref (wa w o1))]) C dX6_resize_37 rfl (by decide) rfl ?_
  refine J_iload_n C dX6_resize_38 rfl 0 rfl ?_
  refine J_if_eq (tgt := 55) C dX6_resize_39 (by decide) (fun _ => ?_) (fun _ => ?_)
  · refine J_iload_n C dX6_resize_55 rfl 0 rfl ?_
    exact J_zret C RT dX6_resize_56
  · refine J_aload_n C dX6_resize_42 rfl 2 rfl ?_
    refine J_getr C fk2_0 W1_166 h1 dX6_resize_43 ?_
    refine J_aload_n C dX6_resize_46 rfl 1 rfl ?_
    refine J_getr C fk6_1 W2_16 h0 dX6_resize_47 ?_
    refine J_iconst C dX6_resize_50 kci_0 ?_
    refine J_aload_ C (tl_6_1 h0) dX6_resize_51 ?_
    refine J_puti C fk4_0 W1_45 fp4_0 (tl_2_0 h1) dX6_resize_52 ?_
    refine J_mlet (fun M3 => ?_)
    refine J_iload_n C dX6_resize_55 rfl 0 rfl ?_
    exact J_zret C RT dX6_resize_56
def s6_resize_36 (n : Nat) (o0 : Nat) (o1 : Nat) (M : Mem) : Option Res := s6_resize_37 n o0 o1 (0 : Int32) M
set_option maxRecDepth 100000 in
set_option maxHeartbeats 4000000 in
theorem b6_resize_36 {w : WE} {g : GT} (C : CT w g RX6 cX6_resize rm6_resize 3) (RT : RTi w g cX6_resize .boolean) (n : Nat) (o0 : Nat) (h0 : typ o0 = 6) (o1 : Nat) (h1 : typ o1 = 2) (M : Mem) : J w g (s6_resize_36 n o0 o1 M) M 36 [(0, .ref (wa w o0)), (1, .ref (wa w o1))] [] := by
  rw [s6_resize_36]
  refine J_iconst C dX6_resize_36 kci_0 ?_
  exact b6_resize_37 C RT n o0 h0 o1 h1 (0 : Int32) M
def s6_resize (n : Nat) (o0 : Nat) (o1 : Nat) (M : Mem) : Option Res := if inB (0 : Int32) (alen (link o0 1)) then cb (s8_whyNotWithin (M (link o0 1) (0 : Int32).toNatClampNeg) (4 : Int32) (60 : Int32) M) (fun r2 M1 => if r2 = 0 then (if (M1 (link o1 0) 1) = 0 then (if (M1 o1 5) = 0 then (s6_resize_37 n o0 o1 (1 : Int32) M1) else (s6_resize_36 n o0 o1 M1)) else (s6_resize_36 n o0 o1 M1)) else (s6_resize_36 n o0 o1 M1)) else none
set_option maxRecDepth 100000 in
set_option maxHeartbeats 4000000 in
theorem b6_resize {w : WE} {g : GT} (C : CT w g RX6 cX6_resize rm6_resize 3) (RT : RTi w g cX6_resize .boolean) (n : Nat) (o0 : Nat) (h0 : typ o0 = 6) (o1 : Nat) (h1 : typ o1 = 2) (M : Mem) : J w g (s6_resize n o0 o1 M) M 0 [(0, .ref (wa w o0)), (1, .ref (wa w o1))] [] := by
  rw [s6_resize]
  refine J_aload_n C dX6_resize_0 rfl 0 rfl ?_
  refine J_getr C fk6_1 W2_16 h0 dX6_resize_1 ?_
  refine J_iconst C dX6_resize_4 kci_0 ?_
  refine J_aload_ C (tl_6_1 h0) dX6_resize_5 ?_
  refine J_iconst C dX6_resize_6 kci_4 ?_
  refine J_bipush C dX6_resize_7 kcb_60 ?_
  refine J_cni (As := [.int (M (link o0 1) (0 : Int32).toNatClampNeg), .int (4 : Int32), .int (60 : Int32)]) (dm := 0) C (c8_whyNotWithin (gl g) w (M (link o0 1) (0 : Int32).toNatClampNeg) (4 : Int32) (60 : Int32) M) (gd_z W2_204) rfl (by decide) (hdX8_whyNotWithin.2) rfl (by decide) W1_1 W2_203 rfl (Nat.le_of_ble_eq_true rfl) dX6_resize_9 rfl (fun r2 M1 => ?_)
  refine J_if_ne (tgt := 36) C dX6_resize_12 (by decide) (fun _ => ?_) (fun _ => ?_)
  · exact b6_resize_36 C RT n o0 h0 o1 h1 M1
  · refine J_aload_n C dX6_resize_15 rfl 1 rfl ?_
    refine J_getr C fk2_0 W1_166 h1 dX6_resize_16 ?_
    refine J_geti C fk4_1 W1_51 (tl_2_0 h1) dX6_resize_19 ?_
    refine J_if_ne (tgt := 36) C dX6_resize_22 (by decide) (fun _ => ?_) (fun _ => ?_)
    · exact b6_resize_36 C RT n o0 h0 o1 h1 M1
    · refine J_aload_n C dX6_resize_25 rfl 1 rfl ?_
      refine J_geti C fk2_5 W1_181 h1 dX6_resize_26 ?_
      refine J_if_ne (tgt := 36) C dX6_resize_29 (by decide) (fun _ => ?_) (fun _ => ?_)
      · exact b6_resize_36 C RT n o0 h0 o1 h1 M1
      · refine J_iconst C dX6_resize_32 kci_1 ?_
        refine J_goto (tgt := 37) C dX6_resize_33 (by decide) ?_
        exact b6_resize_37 C RT n o0 h0 o1 h1 (1 : Int32) M1
theorem c6_resize (l : Launch) (w : WE) (n : Nat) (o0 : Nat) (h0 : typ o0 = 6) (o1 : Nat) (h1 : typ o1 = 2) (M : Mem) : MC l w yX6_resize (wz yX6_resize cX6_resize 3 (some .boolean)) rm6_resize [.ref (wa w o0), .ref (wa w o1)] (s6_resize n o0 o1 M) M :=
  mc_of_J (own := RX6) rfl (by decide) rfl rfl (Nat.le_of_ble_eq_true rfl) (fun _ _ C RT => b6_resize C RT n o0 h0 o1 h1 M)
theorem hdX6_resize : yX6_resize.cls = RX6 ∧ yOK yX6_resize 1 := ⟨rfl, by decide, by decide, by decide⟩
abbrev rm4_isPlace : Room := { frames := 0, cells := 0, slots := 0, locals := 0 }
def s4_isPlace (o0 : Nat) (x1 : Int32) (M : Mem) : Option Res := if x1 < 0 then (some ((0 : Int32), M)) else (if (M o0 0) ≤ x1 then (some ((0 : Int32), M)) else (some ((1 : Int32), M)))
set_option maxRecDepth 100000 in
set_option maxHeartbeats 4000000 in
theorem b4_isPlace {w : WE} {g : GT} (C : CT w g RX4 cX4_isPlace rm4_isPlace 2) (RT : RTi w g cX4_isPlace .boolean) (o0 : Nat) (h0 : typ o0 = 4) (x1 : Int32) (M : Mem) : J w g (s4_isPlace o0 x1 M) M 0 [(0, .ref (wa w o0)), (1, .int x1)] [] := by
  rw [s4_isPlace]
  refine J_iload_n C dX4_isPlace_0 rfl 1 rfl ?_
  refine J_if_lt (tgt := 16) C dX4_isPlace_1 (by decide) (fun _ => ?_) (fun _ => ?_)
  · refine J_iconst C dX4_isPlace_16 kci_0 ?_
    exact J_iret C RT (by decide) dX4_isPlace_17
  · refine J_iload_n C dX4_isPlace_4 rfl 1 rfl ?_
    refine J_aload_n C dX4_isPlace_5 rfl 0 rfl ?_
    refine J_geti C fk4_0 W1_44 h0 dX4_isPlace_6 ?_
    refine J_icmp_ge (tgt := 16) C dX4_isPlace_9 (by decide) (fun _ => ?_) (fun _ => ?_)
    · refine J_iconst C dX4_isPlace_16 kci_0 ?_
      exact J_iret C RT (by decide) dX4_isPlace_17
    · refine J_iconst C dX4_isPlace_12 kci_1 ?_
      refine J_goto (tgt := 17) C dX4_isPlace_13 (by decide) ?_
      exact J_iret C RT (by decide) dX4_isPlace_17
theorem c4_isPlace (l : Launch) (w : WE) (o0 : Nat) (h0 : typ o0 = 4) (x1 : Int32) (M : Mem) : MC l w yX4_isPlace (wz yX4_isPlace cX4_isPlace 2 (some .boolean)) rm4_isPlace [.ref (wa w o0), .int x1] (s4_isPlace o0 x1 M) M :=
  mc_of_J (own := RX4) rfl (by decide) rfl rfl (Nat.le_of_ble_eq_true rfl) (fun _ _ C RT => b4_isPlace C RT o0 h0 x1 M)
theorem hdX4_isPlace : yX4_isPlace.cls = RX4 ∧ yOK yX4_isPlace 1 := ⟨rfl, by decide, by decide, by decide⟩
abbrev rm4_hasChair : Room := { frames := 0, cells := 0, slots := 0, locals := 0 }
def s4_hasChair (o0 : Nat) (x1 : Int32) (M : Mem) : Option Res := if x1 < 0 then (some ((0 : Int32), M)) else (if (60 : Int32) ≤ x1 then (some ((0 : Int32), M)) else (if inB x1 (alen (link o0 3)) then if (M (link o0 3) x1.toNatClampNeg) = 0 then (some ((0 : Int32), M)) else (some ((1 : Int32), M)) else none))
set_option maxRecDepth 100000 in
set_option maxHeartbeats 4000000 in
theorem b4_hasChair {w : WE} {g : GT} (C : CT w g RX4 cX4_hasChair rm4_hasChair 2) (RT : RTi w g cX4_hasChair .boolean) (o0 : Nat) (h0 : typ o0 = 4) (x1 : Int32) (M : Mem) : J w g (s4_hasChair o0 x1 M) M 0 [(0, .ref (wa w o0)), (1, .int x1)] [] := by
  rw [s4_hasChair]
  refine J_iload_n C dX4_hasChair_0 rfl 1 rfl ?_
  refine J_if_lt (tgt := 23) C dX4_hasChair_1 (by decide) (fun _ => ?_) (fun _ => ?_)
  · refine J_iconst C dX4_hasChair_23 kci_0 ?_
    exact J_iret C RT (by decide) dX4_hasChair_24
  · refine J_iload_n C dX4_hasChair_4 rfl 1 rfl ?_
    refine J_bipush C dX4_hasChair_5 kcb_60 ?_
    refine J_icmp_ge (tgt := 23) C dX4_hasChair_7 (by decide) (fun _ => ?_) (fun _ => ?_)
    · refine J_iconst C dX4_hasChair_23 kci_0 ?_
      exact J_iret C RT (by decide) dX4_hasChair_24
    · refine J_aload_n C dX4_hasChair_10 rfl 0 rfl ?_
      refine J_getr C fk4_3 W1_54 h0 dX4_hasChair_11 ?_
      refine J_iload_n C dX4_hasChair_14 rfl 1 rfl ?_
      refine J_zaload C (tl_4_3 h0) dX4_hasChair_15 ?_
      refine J_if_eq (tgt := 23) C dX4_hasChair_16 (by decide) (fun _ => ?_) (fun _ => ?_)
      · refine J_iconst C dX4_hasChair_23 kci_0 ?_
        exact J_iret C RT (by decide) dX4_hasChair_24
      · refine J_iconst C dX4_hasChair_19 kci_1 ?_
        refine J_goto (tgt := 24) C dX4_hasChair_20 (by decide) ?_
        exact J_iret C RT (by decide) dX4_hasChair_24
theorem c4_hasChair (l : Launch) (w : WE) (o0 : Nat) (h0 : typ o0 = 4) (x1 : Int32) (M : Mem) : MC l w yX4_hasChair (wz yX4_hasChair cX4_hasChair 2 (some .boolean)) rm4_hasChair [.ref (wa w o0), .int x1] (s4_hasChair o0 x1 M) M :=
  mc_of_J (own := RX4) rfl (by decide) rfl rfl (Nat.le_of_ble_eq_true rfl) (fun _ _ C RT => b4_hasChair C RT o0 h0 x1 M)
theorem hdX4_hasChair : yX4_hasChair.cls = RX4 ∧ yOK yX4_hasChair 1 := ⟨rfl, by decide, by decide, by decide⟩
abbrev rm2_whyNoChair : Room := { frames := 1, cells := 0, slots := 0, locals := 21 }
def s2_whyNoChair (o0 : Nat) (x1 : Int32) (M : Mem) : Option Res := cb (s4_isPlace (link o0 0) x1 M) (fun r2 M1 => if r2 = 0 then (some ((1 : Int32), M1)) else (cb (s4_hasChair (link o0 0) x1 M1) (fun r4 M3 => if r4 = 0 then (if (M3 (link o0 0) 1) < (11 : Int32) then (some ((0 : Int32), M3)) else (some ((6 : Int32), M3))) else (some ((3 : Int32), M3)))))
set_option maxRecDepth 100000 in
set_option maxHeartbeats 4000000 in
theorem b2_whyNoChair {w : WE} {g : GT} (C : CT w g RX2 cX2_whyNoChair rm2_whyNoChair 2) (RT : RTi w g cX2_whyNoChair .int) (o0 : Nat) (h0 : typ o0 = 2) (x1 : Int32) (M : Mem) : J w g (s2_whyNoChair o0 x1 M) M 0 [(0, .ref (wa w o0)), (1, .int x1)] [] := by
  rw [s2_whyNoChair]
  refine J_aload_n C dX2_whyNoChair_0 rfl 0 rfl ?_
  refine J_getr C fk2_0 W1_162 h0 dX2_whyNoChair_1 ?_
  refine J_iload_n C dX2_whyNoChair_4 rfl 1 rfl ?_
  refine J_cvi (As := [.int x1]) C (c4_isPlace (gl g) w (link o0 0) (tl_2_0 h0) x1 M) (gd_v W2_213 W2_214 W2_215 W1_4 W2_216) rfl (by decide) (hdX4_isPlace) (tl_2_0 h0) (by decide) (cl_4) rfl (Nat.le_of_ble_eq_true rfl) dX2_whyNoChair_5 rfl (fun r2 M1 => ?_)
  refine J_if_ne (tgt := 13) C dX2_whyNoChair_8 (by decide) (fun _ => ?_) (fun _ => ?_)
  · refine J_aload_n C dX2_whyNoChair_13 rfl 0 rfl ?_
    refine J_getr C fk2_0 W1_162 h0 dX2_whyNoChair_14 ?_
    refine J_iload_n C dX2_whyNoChair_17 rfl 1 rfl ?_
    refine J_cvi (As := [.int x1]) C (c4_hasChair (gl g) w (link o0 0) (tl_2_0 h0) x1 M1) (gd_v W2_217 W2_218 W2_219 W1_4 W2_220) rfl (by decide) (hdX4_hasChair) (tl_2_0 h0) (by decide) (cl_4) rfl (Nat.le_of_ble_eq_true rfl) dX2_whyNoChair_18 rfl (fun r4 M3 => ?_)
    refine J_if_eq (tgt := 26) C dX2_whyNoChair_21 (by decide) (fun _ => ?_) (fun _ => ?_)
    · refine J_aload_n C dX2_whyNoChair_26 rfl 0 rfl ?_
      refine J_getr C fk2_0 W1_162 h0 dX2_whyNoChair_27 ?_
      refine J_geti C fk4_1 W1_50 (tl_2_0 h0) dX2_whyNoChair_30 ?_
      refine J_bipush C dX2_whyNoChair_33 kcb_11 ?_
      refine J_icmp_lt (tgt := 43) C dX2_whyNoChair_35 (by decide) (fun _ => ?_) (fun _ => ?_)
      · refine J_iconst C dX2_whyNoChair_43 kci_0 ?_
        exact J_iret C RT rfl dX2_whyNoChair_44
      · refine J_bipush C dX2_whyNoChair_38 kcb_6 ?_
        refine J_goto (tgt := 44) C dX2_whyNoChair_40 (by decide) ?_
        exact J_iret C RT rfl dX2_whyNoChair_44
    · refine J_iconst C dX2_whyNoChair_24 kci_3 ?_
      exact J_iret C RT rfl dX2_whyNoChair_25
  · refine J_iconst C dX2_whyNoChair_11 kci_1 ?_
    exact J_iret C RT rfl dX2_whyNoChair_12
theorem c2_whyNoChair (l : Launch) (w : WE) (o0 : Nat) (h0 : typ o0 = 2) (x1 : Int32) (M : Mem) : MC l w yX2_whyNoChair (wz yX2_whyNoChair cX2_whyNoChair 2 (some .int)) rm2_whyNoChair [.ref (wa w o0), .int x1] (s2_whyNoChair o0 x1 M) M :=
  mc_of_J (own := RX2) rfl (by decide) rfl rfl (Nat.le_of_ble_eq_true rfl) (fun _ _ C RT => b2_whyNoChair C RT o0 h0 x1 M)
theorem hdX2_whyNoChair : yX2_whyNoChair.cls = RX2 ∧ yOK yX2_whyNoChair 1 := ⟨rfl, by decide, by decide, by decide⟩
abbrev rm4_putChair : Room := { frames := 0, cells := 0, slots := 0, locals := 0 }
def s4_putChair_61 (n : Nat) (o0 : Nat) (x1 : Int32) (x2 : Int32) (M : Mem) : Option Res := if inB x2 (alen (link o0 2)) then mlet (mset M (link o0 2) x2.toNatClampNeg x1) (fun M2 => if inB x1 (alen (link o0 3)) then mlet (mset M2 (link o0 3) x1.toNatClampNeg (vp_nar .boolean (1 : Int32))) (fun M3 => mlet (mset M3 o0 1 ((M3 o0 1) + (1 : Int32))) (fun M4 => some (0, M4))) else none) else none
set_option maxRecDepth 100000 in
set_option maxHeartbeats 4000000 in
theorem b4_putChair_61 {w : WE} {g : GT} (C : CT w g RX4 cX4_putChair rm4_putChair 3) (RT : RTv w g cX4_putChair) (n : Nat) (o0 : Nat) (h0 : typ o0 = 4) (x1 : Int32) (x2 : Int32) (M : Mem) : J w g (s4_putChair_61 n o0 x1 x2 M) M 61 [(0, .ref (wa w o0)), (1, .int x1), (2, .int x2)] [] := by
  rw [s4_putChair_61]
  refine J_aload_n C dX4_putChair_61 rfl 0 rfl ?_
  refine J_getr C fk4_2 W1_53 h0 dX4_putChair_62 ?_
  refine J_iload_n C dX4_putChair_65 rfl 2 rfl ?_
  refine J_iload_n C dX4_putChair_66 rfl 1 rfl ?_
  refine J_iastore C (tl_4_2 h0) dX4_putChair_67 ?_
  refine J_mlet (fun M2 => ?_)
  refine J_aload_n C dX4_putChair_68 rfl 0 rfl ?_
  refine J_getr C fk4_3 W1_54 h0 dX4_putChair_69 ?_
  refine J_iload_n C dX4_putChair_72 rfl 1 rfl ?_
  refine J_iconst C dX4_putChair_73 kci_1 ?_
  refine J_zastore C (tl_4_3 h0) dX4_putChair_74 ?_
  refine J_mlet (fun M3 => ?_)
  refine J_aload_n C dX4_putChair_75 rfl 0 rfl ?_
  refine J_dup C rfl dX4_putChair_76 ?_
  refine J_geti C fk4_1 W1_48 h0 dX4_putChair_77 ?_
  refine J_iconst C dX4_putChair_80 kci_1 ?_
  refine J_iadd C dX4_putChair_81 ?_
  refine J_puti C fk4_1 W1_48 fp4_1 h0 dX4_putChair_82 ?_
  refine J_mlet (fun M4 => ?_)
  exact J_vret C RT dX4_putChair_85
def s4_putChair_25 (n : Nat) (o0 : Nat) (x1 : Int32) : Nat → Int32 → Mem → Option Res
  | 0, _, _ => none
  | f + 1, x2, M => if x2 ≤ 0 then (s4_putChair_61 n o0 x1 x2 M) else (if inB (x2 - (1 : Int32)) (alen (link o0 2)) then if (M (link o0 2) (x2 - (1 : Int32)).toNatClampNeg) ≤ x1 then (s4_putChair_61 n o0 x1 x2 M) else (if inB (x2 - (1 : Int32)) (alen (link o0 2)) then if inB x2 (alen (link o0 2)) then mlet (mset M (link o0 2) x2.toNatClampNeg (M (link o0 2) (x2 - (1 : Int32)).toNatClampNeg)) (fun M5 => ilet (x2 + (-1)) (fun v6 => s4_putChair_25 n o0 x1 f v6 M5)) else none else none) else none)
set_option maxRecDepth 100000 in
set_option maxHeartbeats 4000000 in
theorem b4_putChair_25 {w : WE} {g : GT} (C : CT w g RX4 cX4_putChair rm4_putChair 3) (RT : RTv w g cX4_putChair) (n : Nat) (o0 : Nat) (h0 : typ o0 = 4) (x1 : Int32) : ∀ (f : Nat) (x2 : Int32) (M : Mem), J w g (s4_putChair_25 n o0 x1 f x2 M) M 25 [(0, .ref (wa w o0)), (1, .int x1), (2, .int x2)] [] := by
  intro f
  induction f with
  | zero =>
    intro x2 M
    rw [s4_putChair_25]
    exact J_none
  | succ f ih =>
    intro x2 M
    rw [s4_putChair_25]
    refine J_iload_n C dX4_putChair_25 rfl 2 rfl ?_
    refine J_if_le (tgt := 61) C dX4_putChair_26 (by decide) (fun _ => ?_) (fun _ => ?_)
    · exact b4_putChair_61 C RT n o0 h0 x1 x2 M
    · refine J_aload_n C dX4_putChair_29 rfl 0 rfl ?_
      refine J_getr C fk4_2 W1_53 h0 dX4_putChair_30 ?_
      refine J_iload_n C dX4_putChair_33 rfl 2 rfl ?_
      refine J_iconst C dX4_putChair_34 kci_1 ?_
      refine J_isub C dX4_putChair_35 ?_
      refine J_aload_ C (tl_4_2 h0) dX4_putChair_36 ?_
      refine J_iload_n C dX4_putChair_37 rfl 1 rfl ?_
      refine J_icmp_le (tgt := 61) C dX4_putChair_38 (by decide) (fun _ => ?_) (fun _ => ?_)
      · exact b4_putChair_61 C RT n o0 h0 x1 x2 M
      · refine J_aload_n C dX4_putChair_41 rfl 0 rfl ?_
        refine J_getr C fk4_2 W1_53 h0 dX4_putChair_42 ?_
        refine J_iload_n C dX4_putChair_45 rfl 2 rfl ?_
        refine J_aload_n C dX4_putChair_46 rfl 0 rfl ?_
        refine J_getr C fk4_2 W1_53 h0 dX4_putChair_47 ?_
        refine J_iload_n C dX4_putChair_50 rfl 2 rfl ?_
        refine J_iconst C dX4_putChair_51 kci_1 ?_
        refine J_isub C dX4_putChair_52 ?_
        refine J_aload_ C (tl_4_2 h0) dX4_putChair_53 ?_
        refine J_iastore C (tl_4_2 h0) dX4_putChair_54 ?_
        refine J_mlet (fun M5 => ?_)
        refine J_iinc (lw := fun v6 => [(2, .int v6), (0, .ref (wa w o0)), (1, .int x1)]) (X := x2 + (-1)) C dX4_putChair_55 (q := 2) rfl (by rw [kci_m1]) (by decide) (fun _ => rfl) (fun v6 => ?_)
        refine J_goto (tgt := 25) C dX4_putChair_58 (by decide) ?_
        refine J_lv [1, 2, 0] rfl ?_
        exact ih v6 M5
def s4_putChair (n : Nat) (o0 : Nat) (x1 : Int32) (M : Mem) : Option Res := if (11 : Int32) ≤ (M o0 1) then (some (0, M)) else (if x1 < 0 then (some (0, M)) else (if x1 < (60 : Int32) then (ilet (M o0 1) (fun v1 => s4_putChair_25 n o0 x1 n v1 M)) else (some (0, M))))
set_option maxRecDepth 100000 in
set_option maxHeartbeats 4000000 in
theorem b4_putChair {w : WE} {g : GT} (C : CT w g RX4 cX4_putChair rm4_putChair 3) (RT : RTv w g cX4_putChair) (n : Nat) (o0 : Nat) (h0 : typ o0 = 4) (x1 : Int32) (M : Mem) : J w g (s4_putChair n o0 x1 M) M 0 [(0, .ref (wa w o0)), (1, .int x1)] [] := by
  rw [s4_putChair]
  refine J_aload_n C dX4_putChair_0 rfl 0 rfl ?_
  refine J_geti C fk4_1 W1_48 h0 dX4_putChair_1 ?_
  refine J_bipush C dX4_putChair_4 kcb_11 ?_
  refine J_icmp_ge (tgt := 19) C dX4_putChair_6 (by decide) (fun _ => ?_) (fun _ => ?_)
  · exact J_vret C RT dX4_putChair_19
  · refine J_iload_n C dX4_putChair_9 rfl 1 rfl ?_
    refine J_if_lt (tgt := 19) C dX4_putChair_10 (by decide) (fun _ => ?_) (fun _ => ?_)
    · exact J_vret C RT dX4_putChair_19
    · refine J_iload_n C dX4_putChair_13 rfl 1 rfl ?_
      refine J_bipush C dX4_putChair_14 kcb_60 ?_
      refine J_icmp_lt (tgt := 20) C dX4_putChair_16 (by decide) (fun _ => ?_) (fun _ => ?_)
      · refine J_aload_n C dX4_putChair_20 rfl 0 rfl ?_
        refine J_geti C fk4_1 W1_48 h0 dX4_putChair_21 ?_
        refine J_ilet (fun v1 => ?_)
        refine J_istore_n (lv' := [(2, .int v1), (0, .ref (wa w o0)), (1, .int x1)]) C dX4_putChair_24 rfl (by decide) rfl ?_
        refine J_lv [1, 2, 0] rfl ?_
        exact b4_putChair_25 C RT n o0 h0 x1 n v1 M
      · exact J_vret C RT dX4_putChair_19
theorem c4_putChair (l : Launch) (w : WE) (n : Nat) (o0 : Nat) (h0 : typ o0 = 4) (x1 : Int32) (M : Mem) : MV l w yX4_putChair (wz yX4_putChair cX4_putChair 3 none) rm4_putChair [.ref (wa w o0), .int x1] (s4_putChair n o0 x1 M) M :=
  mv_of_J (own := RX4) rfl (by decide) rfl rfl (Nat.le_of_ble_eq_true rfl) (fun _ _ C RT => b4_putChair C RT n o0 h0 x1 M)
theorem hdX4_putChair : yX4_putChair.cls = RX4 ∧ yOK yX4_putChair 1 := ⟨rfl, by decide, by decide, by decide⟩
abbrev rm2_addChair : Room := { frames := 1, cells := 0, slots := 0, locals := 22 }
def s2_addChair (n : Nat) (o0 : Nat) (x1 : Int32) (M : Mem) : Option Res := cb (s4_putChair n (link o0 0) x1 M) (fun _ M1 => mlet (mset M1 o0 9 (0 : Int32)) (fun M3 => some (M3 (link o0 0) 1, M3)))
set_option maxRecDepth 100000 in
set_option maxHeartbeats 4000000 in
theorem b2_addChair {w : WE} {g : GT} (C : CT w g RX2 cX2_addChair rm2_addChair 2) (RT : RTi w g cX2_addChair .int) (n : Nat) (o0 : Nat) (h0 : typ o0 = 2) (x1 : Int32) (M : Mem) : J w g (s2_addChair n o0 x1 M) M 0 [(0, .ref (wa w o0)), (1, .int x1)] [] := by
  rw [s2_addChair]
  refine J_aload_n C dX2_addChair_0 rfl 0 rfl ?_
  refine J_getr C fk2_0 W1_162 h0 dX2_addChair_1 ?_
  refine J_iload_n C dX2_addChair_4 rfl 1 rfl ?_
  refine J_cvv (As := [.int x1]) C (c4_putChair (gl g) w n (link o0 0) (tl_2_0 h0) x1 M) (gd_v W2_225 W2_226 W2_227 W1_4 W2_228) rfl (by decide) (hdX4_putChair) (tl_2_0 h0) (by decide) (cl_4) rfl (Nat.le_of_ble_eq_true rfl) dX2_addChair_5 rfl (fun r2 M1 => ?_)
  refine J_aload_n C dX2_addChair_8 rfl 0 rfl ?_
  refine J_iconst C dX2_addChair_9 kci_0 ?_
  refine J_putzc C (by decide) fk2_9 W1_191 fp2_9 h0 dX2_addChair_10 ?_
  refine J_mlet (fun M3 => ?_)
  refine J_aload_n C dX2_addChair_13 rfl 0 rfl ?_
  refine J_getr C fk2_0 W1_162 h0 dX2_addChair_14 ?_
  refine J_geti C fk4_1 W1_50 (tl_2_0 h0) dX2_addChair_17 ?_
  exact J_iret C RT rfl dX2_addChair_20
theorem c2_addChair (l : Launch) (w : WE) (n : Nat) (o0 : Nat) (h0 : typ o0 = 2) (x1 : Int32) (M : Mem) : MC l w yX2_addChair (wz yX2_addChair cX2_addChair 2 (some .int)) rm2_addChair [.ref (wa w o0), .int x1] (s2_addChair n o0 x1 M) M :=
  mc_of_J (own := RX2) rfl (by decide) rfl rfl (Nat.le_of_ble_eq_true rfl) (fun _ _ C RT => b2_addChair C RT n o0 h0 x1 M)
theorem hdX2_addChair : yX2_addChair.cls = RX2 ∧ yOK yX2_addChair 1 := ⟨rfl, by decide, by decide, by decide⟩
abbrev rm6_seatMore : Room := { frames := 2, cells := 0, slots := 0, locals := 43 }
def s6_seatMore_18 (n : Nat) (o0 : Nat) (o1 : Nat) (t0 : Int32) (M : Mem) : Option Res := if t0 = 0 then (if bz t0 then some (t0, M) else none) else (if inB (0 : Int32) (alen (link o0 1)) then cb (s2_addChair n o1 (M (link o0 1) (0 : Int32).toNatClampNeg) M) (fun r4 M3 => if bz t0 then some (t0, M3) else none) else none)
set_option maxRecDepth 100000 in
set_option maxHeartbeats 4000000 in
theorem b6_seatMore_18 {w : WE} {g : GT} (C : CT w g RX6 cX6_seatMore rm6_seatMore 3) (RT : RTi w g cX6_seatMore .boolean) (n : Nat) (o0 : Nat) (h0 : typ o0 = 6) (o1 : Nat) (h1 : typ o1 = 2) (t0 : Int32) (M : Mem) : J w g (s6_seatMore_18 n o0 o1 t0 M) M 18 [(0, .ref (wa w o0)), (1, .ref (wa w o1))] [.int t0] := by
  rw [s6_seatMore_18]
  refine J_istore_n (lv' := [(2, .int t0), (0, .ref (wa w o0)), (1, .ref (wa w o1))]) C dX6_seatMore_18 rfl (by decide) rfl ?_
  refine J_iload_n C dX6_seatMore_19 rfl 0 rfl ?_
  refine J_if_eq (tgt := 34) C dX6_seatMore_20 (by decide) (fun _ => ?_) (fun _ => ?_)
  · refine J_iload_n C dX6_seatMore_34 rfl 0 rfl ?_
    exact J_zret C RT dX6_seatMore_35
  · refine J_aload_n C dX6_seatMore_23 rfl 2 rfl ?_
    refine J_aload_n C dX6_seatMore_24 rfl 1 rfl ?_
    refine J_getr C fk6_1 W2_16 h0 dX6_seatMore_25 ?_
    refine J_iconst C dX6_seatMore_28 kci_0 ?_
    refine J_aload_ C (tl_6_1 h0) dX6_seatMore_29 ?_
    refine J_cvi (As := [.int (M (link o0 1) (0 : Int32).toNatClampNeg)]) C (c2_addChair (gl g) w n o1 h1 (M (link o0 1) (0 : Int32).toNatClampNeg) M) (gd_v W2_221 W2_222 W2_223 W1_3 W2_224) rfl (by decide) (hdX2_addChair) h1 (by decide) (cl_2) rfl (Nat.le_of_ble_eq_true rfl) dX6_seatMore_30 rfl (fun r4 M3 => ?_)
    refine J_pop C rfl dX6_seatMore_33 ?_
    refine J_iload_n C dX6_seatMore_34 rfl 0 rfl ?_
    exact J_zret C RT dX6_seatMore_35
def s6_seatMore (n : Nat) (o0 : Nat) (o1 : Nat) (M : Mem) : Option Res := if inB (0 : Int32) (alen (link o0 1)) then cb (s2_whyNoChair o1 (M (link o0 1) (0 : Int32).toNatClampNeg) M) (fun r2 M1 => if r2 = 0 then (s6_seatMore_18 n o0 o1 (1 : Int32) M1) else (s6_seatMore_18 n o0 o1 (0 : Int32) M1)) else none
set_option maxRecDepth 100000 in
set_option maxHeartbeats 4000000 in
theorem b6_seatMore {w : WE} {g : GT} (C : CT w g RX6 cX6_seatMore rm6_seatMore 3) (RT : RTi w g cX6_seatMore .boolean) (n : Nat) (o0 : Nat) (h0 : typ o0 = 6) (o1 : Nat) (h1 : typ o1 = 2) (M : Mem) : J w g (s6_seatMore n o0 o1 M) M 0 [(0, .ref (wa w o0)), (1, .ref (wa w o1))] [] := by
  rw [s6_seatMore]
  refine J_aload_n C dX6_seatMore_0 rfl 1 rfl ?_
  refine J_aload_n C dX6_seatMore_1 rfl 0 rfl ?_
  refine J_getr C fk6_1 W2_16 h0 dX6_seatMore_2 ?_
  refine J_iconst C dX6_seatMore_5 kci_0 ?_
  refine J_aload_ C (tl_6_1 h0) dX6_seatMore_6 ?_
  refine J_cvi (As := [.int (M (link o0 1) (0 : Int32).toNatClampNeg)]) C (c2_whyNoChair (gl g) w o1 h1 (M (link o0 1) (0 : Int32).toNatClampNeg) M) (gd_v W2_209 W2_210 W2_211 W1_3 W2_212) rfl (by decide) (hdX2_whyNoChair) h1 (by decide) (cl_2) rfl (Nat.le_of_ble_eq_true rfl) dX6_seatMore_7 rfl (fun r2 M1 => ?_)
  refine J_if_ne (tgt := 17) C dX6_seatMore_10 (by decide) (fun _ => ?_) (fun _ => ?_)
  · refine J_iconst C dX6_seatMore_17 kci_0 ?_
    exact b6_seatMore_18 C RT n o0 h0 o1 h1 (0 : Int32) M1
  · refine J_iconst C dX6_seatMore_13 kci_1 ?_
    refine J_goto (tgt := 18) C dX6_seatMore_14 (by decide) ?_
    exact b6_seatMore_18 C RT n o0 h0 o1 h1 (1 : Int32) M1
theorem c6_seatMore (l : Launch) (w : WE) (n : Nat) (o0 : Nat) (h0 : typ o0 = 6) (o1 : Nat) (h1 : typ o1 = 2) (M : Mem) : MC l w yX6_seatMore (wz yX6_seatMore cX6_seatMore 3 (some .boolean)) rm6_seatMore [.ref (wa w o0), .ref (wa w o1)] (s6_seatMore n o0 o1 M) M :=
  mc_of_J (own := RX6) rfl (by decide) rfl rfl (Nat.le_of_ble_eq_true rfl) (fun _ _ C RT => b6_seatMore C RT n o0 h0 o1 h1 M)
theorem hdX6_seatMore : yX6_seatMore.cls = RX6 ∧ yOK yX6_seatMore 1 := ⟨rfl, by decide, by decide, by decide⟩
abbrev rm2_isStoodOn : Room := { frames := 0, cells := 0, slots := 0, locals := 0 }
def s2_isStoodOn (o0 : Nat) (x1 : Int32) (M : Mem) : Option Res := if x1 < 0 then (some ((0 : Int32), M)) else (if (60 : Int32) ≤ x1 then (some ((0 : Int32), M)) else (if inB x1 (alen (link o0 4)) then if (M (link o0 4) x1.toNatClampNeg) = 0 then (some ((0 : Int32), M)) else (some ((1 : Int32), M)) else none))
set_option maxRecDepth 100000 in
set_option maxHeartbeats 4000000 in
theorem b2_isStoodOn {w : WE} {g : GT} (C : CT w g RX2 cX2_isStoodOn rm2_isStoodOn 2) (RT : RTi w g cX2_isStoodOn .boolean) (o0 : Nat) (h0 : typ o0 = 2) (x1 : Int32) (M : Mem) : J w g (s2_isStoodOn o0 x1 M) M 0 [(0, .ref (wa w o0)), (1, .int x1)] [] := by
  rw [s2_isStoodOn]
  refine J_iload_n C dX2_isStoodOn_0 rfl 1 rfl ?_
  refine J_if_lt (tgt := 23) C dX2_isStoodOn_1 (by decide) (fun _ => ?_) (fun _ => ?_)
  · refine J_iconst C dX2_isStoodOn_23 kci_0 ?_
    exact J_iret C RT (by decide) dX2_isStoodOn_24
  · refine J_iload_n C dX2_isStoodOn_4 rfl 1 rfl ?_
    refine J_bipush C dX2_isStoodOn_5 kcb_60 ?_
    refine J_icmp_ge (tgt := 23) C dX2_isStoodOn_7 (by decide) (fun _ => ?_) (fun _ => ?_)
    · refine J_iconst C dX2_isStoodOn_23 kci_0 ?_
      exact J_iret C RT (by decide) dX2_isStoodOn_24
    · refine J_aload_n C dX2_isStoodOn_10 rfl 0 rfl ?_
      refine J_getr C fk2_4 W1_178 h0 dX2_isStoodOn_11 ?_
      refine J_iload_n C dX2_isStoodOn_14 rfl 1 rfl ?_
      refine J_zaload C (tl_2_4 h0) dX2_isStoodOn_15 ?_
      refine J_if_eq (tgt := 23) C dX2_isStoodOn_16 (by decide) (fun _ => ?_) (fun _ => ?_)
      · refine J_iconst C dX2_isStoodOn_23 kci_0 ?_
        exact J_iret C RT (by decide) dX2_isStoodOn_24
      · refine J_iconst C dX2_isStoodOn_19 kci_1 ?_
        refine J_goto (tgt := 24) C dX2_isStoodOn_20 (by decide) ?_
        exact J_iret C RT (by decide) dX2_isStoodOn_24
theorem c2_isStoodOn (l : Launch) (w : WE) (o0 : Nat) (h0 : typ o0 = 2) (x1 : Int32) (M : Mem) : MC l w yX2_isStoodOn (wz yX2_isStoodOn cX2_isStoodOn 2 (some .boolean)) rm2_isStoodOn [.ref (wa w o0), .int x1] (s2_isStoodOn o0 x1 M) M :=
  mc_of_J (own := RX2) rfl (by decide) rfl rfl (Nat.le_of_ble_eq_true rfl) (fun _ _ C RT => b2_isStoodOn C RT o0 h0 x1 M)
theorem hdX2_isStoodOn : yX2_isStoodOn.cls = RX2 ∧ yOK yX2_isStoodOn 1 := ⟨rfl, by decide, by decide, by decide⟩
abbrev rm2_whyNoWalker : Room := { frames := 1, cells := 0, slots := 0, locals := 22 }
def s2_whyNoWalker (o0 : Nat) (x1 : Int32) (x2 : Int32) (x3 : Int32) (M : Mem) : Option Res := cb (s4_isPlace (link o0 0) x1 M) (fun r2 M1 => if r2 = 0 then (some ((1 : Int32), M1)) else (if x2 < 0 then (some ((1 : Int32), M1)) else (if x2 < (7 : Int32) then (cb (s8_whyNotWithin x3 (1 : Int32) (99 : Int32) M1) (fun r4 M3 => if r4 = 0 then (if (M3 o0 5) < (12 : Int32) then (cb (s2_isStoodOn o0 x1 M3) (fun r6 M5 => if r6 = 0 then (some ((0 : Int32), M5)) else (some ((3 : Int32), M5)))) else (some ((6 : Int32), M3))) else (some (r4, M3)))) else (some ((1 : Int32), M1)))))
set_option maxRecDepth 100000 in
set_option maxHeartbeats 4000000 in
theorem b2_whyNoWalker {w : WE} {g : GT} (C : CT w g RX2 cX2_whyNoWalker rm2_whyNoWalker 5) (RT : RTi w g cX2_whyNoWalker .int) (o0 : Nat) (h0 : typ o0 = 2) (x1 : Int32) (x2 : Int32) (x3 : Int32) (M : Mem) : J w g (s2_whyNoWalker o0 x1 x2 x3 M) M 0 [(0, .ref (wa w o0)), (1, .int x1), (2, .int x2), (3, .int x3)] [] := by
  rw [s2_whyNoWalker]
  refine J_aload_n C dX2_whyNoWalker_0 rfl 0 rfl ?_
  refine J_getr C fk2_0 W1_162 h0 dX2_whyNoWalker_1 ?_
  refine J_iload_n C dX2_whyNoWalker_4 rfl 1 rfl ?_
  refine J_cvi (As := [.int x1]) C (c4_isPlace (gl g) w (link o0 0) (tl_2_0 h0) x1 M) (gd_v W2_213 W2_214 W2_215 W1_4 W2_216) rfl (by decide) (hdX4_isPlace) (tl_2_0 h0) (by decide) (cl_4) rfl (Nat.le_of_ble_eq_true rfl) dX2_whyNoWalker_5 rfl (fun r2 M1 => ?_)
  refine J_if_eq (tgt := 21) C dX2_whyNoWalker_8 (by decide) (fun _ => ?_) (fun _ => ?_)
  · refine J_iconst C dX2_whyNoWalker_21 kci_1 ?_
    exact J_iret C RT rfl dX2_whyNoWalker_22
  · refine J_iload_n C dX2_whyNoWalker_11 rfl 2 rfl ?_
    refine J_if_lt (tgt := 21) C dX2_whyNoWalker_12 (by decide) (fun _ => ?_) (fun _ => ?_)
    · refine J_iconst C dX2_whyNoWalker_21 kci_1 ?_
      exact J_iret C RT rfl dX2_whyNoWalker_22
    · refine J_iload_n C dX2_whyNoWalker_15 rfl 2 rfl ?_
      refine J_bipush C dX2_whyNoWalker_16 kcb_7 ?_
      refine J_icmp_lt (tgt := 23) C dX2_whyNoWalker_18 (by decide) (fun _ => ?_) (fun _ => ?_)
      · refine J_iload_n C dX2_whyNoWalker_23 rfl 3 rfl ?_
        refine J_iconst C dX2_whyNoWalker_24 kci_1 ?_
        refine J_bipush C dX2_whyNoWalker_25 kcb_99 ?_
        refine J_cni (As := [.int x3, .int (1 : Int32), .int (99 : Int32)]) (dm := 0) C (c8_whyNotWithin (gl g) w x3 (1 : Int32) (99 : Int32) M1) (gd_z W2_204) rfl (by decide) (hdX8_whyNotWithin.2) rfl (by decide) W1_1 W2_203 rfl (Nat.le_of_ble_eq_true rfl) dX2_whyNoWalker_27 rfl (fun r4 M3 => ?_)
        refine J_istore (lv' := [(4, .int r4), (0, .ref (wa w o0)), (1, .int x1), (2, .int x2), (3, .int x3)]) C dX2_whyNoWalker_30 (by decide) rfl ?_
        refine J_iload C dX2_whyNoWalker_32 0 rfl ?_
        refine J_if_eq (tgt := 40) C dX2_whyNoWalker_34 (by decide) (fun _ => ?_) (fun _ => ?_)
        · refine J_aload_n C dX2_whyNoWalker_40 rfl 1 rfl ?_
          refine J_geti C fk2_5 W1_179 h0 dX2_whyNoWalker_41 ?_
          refine J_bipush C dX2_whyNoWalker_44 kcb_12 ?_
          refine J_icmp_lt (tgt := 52) C dX2_whyNoWalker_46 (by decide) (fun _ => ?_) (fun _ => ?_)
          · refine J_aload_n C dX2_whyNoWalker_52 rfl 1 rfl ?_
            refine J_iload_n C dX2_whyNoWalker_53 rfl 2 rfl ?_
            refine J_cvi (As := [.int x1]) C (c2_isStoodOn (gl g) w o0 h0 x1 M3) (gd_v W2_238 W2_239 W3_0 W1_3 W3_1) rfl (by decide) (hdX2_isStoodOn) h0 (by decide) (cl_2) rfl (Nat.le_of_ble_eq_true rfl) dX2_whyNoWalker_54 rfl (fun r6 M5 => ?_)
            refine J_if_eq (tgt := 64) C dX2_whyNoWalker_57 (by decide) (fun _ => ?_) (fun _ => ?_)
            · refine J_iconst C dX2_whyNoWalker_64 kci_0 ?_
              exact J_iret C RT rfl dX2_whyNoWalker_65
            · refine J_iconst C dX2_whyNoWalker_60 kci_3 ?_
              refine J_goto (tgt := 65) C dX2_whyNoWalker_61 (by decide) ?_
              exact J_iret C RT rfl dX2_whyNoWalker_65
          · refine J_bipush C dX2_whyNoWalker_49 kcb_6 ?_
            exact J_iret C RT rfl dX2_whyNoWalker_51
        · refine J_iload C dX2_whyNoWalker_37 0 rfl ?_
          exact J_iret C RT rfl dX2_whyNoWalker_39
      · refine J_iconst C dX2_whyNoWalker_21 kci_1 ?_
        exact J_iret C RT rfl dX2_whyNoWalker_22
theorem c2_whyNoWalker (l : Launch) (w : WE) (o0 : Nat) (h0 : typ o0 = 2) (x1 : Int32) (x2 : Int32) (x3 : Int32) (M : Mem) : MC l w yX2_whyNoWalker (wz yX2_whyNoWalker cX2_whyNoWalker 5 (some .int)) rm2_whyNoWalker [.ref (wa w o0), .int x1, .int x2, .int x3] (s2_whyNoWalker o0 x1 x2 x3 M) M :=
  mc_of_J (own := RX2) rfl (by decide) rfl rfl (Nat.le_of_ble_eq_true rfl) (fun _ _ C RT => b2_whyNoWalker C RT o0 h0 x1 x2 x3 M)
theorem hdX2_whyNoWalker : yX2_whyNoWalker.cls = RX2 ∧ yOK yX2_whyNoWalker 3 := ⟨rfl, by decide, by decide, by decide⟩
abbrev rm7_arrive : Room := { frames := 0, cells := 0, slots := 0, locals := 0 }
def s7_arrive_38 (n : Nat) (o0 : Nat) (t0 : Int32) (q1 : Nat) (M : Mem) : Option Res := mlet (mset M q1 5 t0) (fun M6 => mlet (mset M6 o0 6 (9 : Int32)) (fun M7 => mlet (mset M7 o0 7 (5 : Int32)) (fun M8 => mlet (mset M8 o0 8 (5 : Int32)) (fun M9 => some (0, M9)))))
set_option maxRecDepth 100000 in
set_option maxHeartbeats 4000000 in
theorem b7_arrive_38 {w : WE} {g : GT} (C : CT w g RX7 cX7_arrive rm7_arrive 4) (RT : RTv w g cX7_arrive) (n : Nat) (o0 : Nat) (h0 : typ o0 = 7) (t0 : Int32) (q1 : Nat) (hq1 : typ q1 = 7) (M : Mem) : J w g (s7_arrive_38 n o0 t0 q1 M) M 38 [(0, .ref (wa w o0))] [.int t0, .ref (wa w q1)] := by
  rw [s7_arrive_38]
  refine J_puti C fk7_5 W1_134 fp7_5 hq1 dX7_arrive_38 ?_
  refine J_mlet (fun M6 => ?_)
  refine J_aload_n C dX7_arrive_41 rfl 0 rfl ?_
  refine J_bipush C dX7_arrive_42 kcb_9 ?_
  refine J_puti C fk7_6 W1_138 fp7_6 h0 dX7_arrive_44 ?_
  refine J_mlet (fun M7 => ?_)
  refine J_aload_n C dX7_arrive_47 rfl 0 rfl ?_
  refine J_iconst C dX7_arrive_48 kci_5 ?_
  refine J_puti C fk7_7 W1_141 fp7_7 h0 dX7_arrive_49 ?_
  refine J_mlet (fun M8 => ?_)
  refine J_aload_n C dX7_arrive_52 rfl 0 rfl ?_
  refine J_iconst C dX7_arrive_53 kci_5 ?_
  refine J_puti C fk7_8 W1_142 fp7_8 h0 dX7_arrive_54 ?_
  refine J_mlet (fun M9 => ?_)
  exact J_vret C RT dX7_arrive_57
def s7_arrive (n : Nat) (o0 : Nat) (x1 : Int32) (x2 : Int32) (x3 : Int32) (M : Mem) : Option Res := mlet (mset M o0 0 x1) (fun M1 => mlet (mset M1 o0 1 (0 : Int32)) (fun M2 => mlet (mset M2 o0 2 (1 : Int32)) (fun M3 => mlet (mset M3 o0 3 x2) (fun M4 => mlet (mset M4 o0 4 x3) (fun M5 => if (2 : Int32) ≤ x3 then (s7_arrive_38 n o0 (x3 / (2 : Int32)) o0 M5) else (s7_arrive_38 n o0 (1 : Int32) o0 M5))))))
set_option maxRecDepth 100000 in
set_option maxHeartbeats 4000000 in
theorem b7_arrive {w : WE} {g : GT} (C : CT w g RX7 cX7_arrive rm7_arrive 4) (RT : RTv w g cX7_arrive) (n : Nat) (o0 : Nat) (h0 : typ o0 = 7) (x1 : Int32) (x2 : Int32) (x3 : Int32) (M : Mem) : J w g (s7_arrive n o0 x1 x2 x3 M) M 0 [(0, .ref (wa w o0)), (1, .int x1), (2, .int x2), (3, .int x3)] [] := by
  rw [s7_arrive]
  refine J_aload_n C dX7_arrive_0 rfl 0 rfl ?_
  refine J_iload_n C dX7_arrive_1 rfl 1 rfl ?_
  refine J_puti C fk7_0 W1_120 fp7_0 h0 dX7_arrive_2 ?_
  refine J_mlet (fun M1 => ?_)
  refine J_aload_n C dX7_arrive_5 rfl 0 rfl ?_
  refine J_iconst C dX7_arrive_6 kci_0 ?_
  refine J_puti C fk7_1 W1_125 fp7_1 h0 dX7_arrive_7 ?_
  refine J_mlet (fun M2 => ?_)
  refine J_aload_n C dX7_arrive_10 rfl 0 rfl ?_
  refine J_iconst C dX7_arrive_11 kci_1 ?_
  refine J_putzc C (by decide) fk7_2 W1_127 fp7_2 h0 dX7_arrive_12 ?_
  refine J_mlet (fun M3 => ?_)
  refine J_aload_n C dX7_arrive_15 rfl 0 rfl ?_
  refine J_iload_n C dX7_arrive_16 rfl 2 rfl ?_
  refine J_puti C fk7_3 W1_130 fp7_3 h0 dX7_arrive_17 ?_
  refine J_mlet (fun M4 => ?_)
  refine J_aload_n C dX7_arrive_20 rfl 0 rfl ?_
  refine J_iload_n C dX7_arrive_21 rfl 3 rfl ?_
  refine J_puti C fk7_4 W1_132 fp7_4 h0 dX7_arrive_22 ?_
  refine J_mlet (fun M5 => ?_)
  refine J_aload_n C dX7_arrive_25 rfl 0 rfl ?_
  refine J_iload_n C dX7_arrive_26 rfl 3 rfl ?_
  refine J_iconst C dX7_arrive_27 kci_2 ?_
  refine J_icmp_ge (tgt := 35) C dX7_arrive_28 (by decide) (fun _ => ?_) (fun _ => ?_)
  · refine J_iload_n C dX7_arrive_35 rfl 3 rfl ?_
    refine J_iconst C dX7_arrive_36 kci_2 ?_
    refine J_idiv_c C (by decide) dX7_arrive_37 ?_
    refine J_lv [0] rfl ?_
    exact b7_arrive_38 C RT n o0 h0 (x3 / (2 : Int32)) o0 h0 M5
  · refine J_iconst C dX7_arrive_31 kci_1 ?_
    refine J_goto (tgt := 38) C dX7_arrive_32 (by decide) ?_
    refine J_lv [0] rfl ?_
    exact b7_arrive_38 C RT n o0 h0 (1 : Int32) o0 h0 M5
theorem c7_arrive (l : Launch) (w : WE) (n : Nat) (o0 : Nat) (h0 : typ o0 = 7) (x1 : Int32) (x2 : Int32) (x3 : Int32) (M : Mem) : MV l w yX7_arrive (wz yX7_arrive cX7_arrive 4 none) rm7_arrive [.ref (wa w o0), .int x1, .int x2, .int x3] (s7_arrive n o0 x1 x2 x3 M) M :=
  mv_of_J (own := RX7) rfl (by decide) rfl rfl (Nat.le_of_ble_eq_true rfl) (fun _ _ C RT => b7_arrive C RT n o0 h0 x1 x2 x3 M)
theorem hdX7_arrive : yX7_arrive.cls = RX7 ∧ yOK yX7_arrive 3 := ⟨rfl, by decide, by decide, by decide⟩
