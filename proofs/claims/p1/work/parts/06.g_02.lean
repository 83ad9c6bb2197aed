abbrev rm2_mark : Room := { frames := 0, cells := 0, slots := 0, locals := 0 }
def s2_mark (o0 : Nat) (x1 : Int32) (x2 : Int32) (M : Mem) : Option Res := if x1 < 0 then (some (0, M)) else (if (60 : Int32) ≤ x1 then (some (0, M)) else (if inB x1 (alen (link o0 4)) then mlet (mset M (link o0 4) x1.toNatClampNeg (vp_nar .boolean x2)) (fun M1 => some (0, M1)) else none))
set_option maxRecDepth 100000 in
set_option maxHeartbeats 4000000 in
theorem b2_mark {w : WE} {g : GT} (C : CT w g RX2 cX2_mark rm2_mark 3) (RT : RTv w g cX2_mark) (o0 : Nat) (h0 : typ o0 = 2) (x1 : Int32) (x2 : Int32) (M : Mem) : J w g (s2_mark o0 x1 x2 M) M 0 [(0, .ref (wa w o0)), (1, .int x1), (2, .int x2)] [] := by
  rw [s2_mark]
  refine J_iload_n C dX2_mark_0 rfl 1 rfl ?_
  refine J_if_lt (tgt := 17) C dX2_mark_1 (by decide) (fun _ => ?_) (fun _ => ?_)
  · exact J_vret C RT dX2_mark_17
  · refine J_iload_n C dX2_mark_4 rfl 1 rfl ?_
    refine J_bipush C dX2_mark_5 kcb_60 ?_
    refine J_icmp_ge (tgt := 17) C dX2_mark_7 (by decide) (fun _ => ?_) (fun _ => ?_)
    · exact J_vret C RT dX2_mark_17
    · refine J_aload_n C dX2_mark_10 rfl 0 rfl ?_
      refine J_getr C fk2_4 W1_178 h0 dX2_mark_11 ?_
      refine J_iload_n C dX2_mark_14 rfl 1 rfl ?_
      refine J_iload_n C dX2_mark_15 rfl 2 rfl ?_
      refine J_zastore C (tl_2_4 h0) dX2_mark_16 ?_
      refine J_mlet (fun M1 => ?_)
      exact J_vret C RT dX2_mark_17
theorem c2_mark (l : Launch) (w : WE) (o0 : Nat) (h0 : typ o0 = 2) (x1 : Int32) (x2 : Int32) (M : Mem) : MV l w yX2_mark (wz yX2_mark cX2_mark 3 none) rm2_mark [.ref (wa w o0), .int x1, .int x2] (s2_mark o0 x1 x2 M) M :=
  mv_of_J (own := RX2) rfl (by decide) rfl rfl (Nat.le_of_ble_eq_true rfl) (fun _ _ C RT => b2_mark C RT o0 h0 x1 x2 M)
theorem hdX2_mark : yX2_mark.cls = RX2 ∧ yOK yX2_mark 2 := ⟨rfl, by decide, by decide, by decide⟩
abbrev rm2_addWalker : Room := { frames := 1, cells := 0, slots := 0, locals := 23 }
def s2_addWalker (n : Nat) (o0 : Nat) (x1 : Int32) (x2 : Int32) (x3 : Int32) (M : Mem) : Option Res := ilet (M o0 5) (fun v1 => if v1 < 0 then (some (v1, M)) else (if (12 : Int32) ≤ v1 then (some (v1, M)) else (if inB v1 (alen (link o0 3)) then cb (s7_arrive n (link (link o0 3) v1.toNatClampNeg) x1 x2 x3 M) (fun _ M3 => cb (s2_mark o0 x1 (1 : Int32) M3) (fun _ M5 => mlet (mset M5 o0 5 (v1 + (1 : Int32))) (fun M7 => mlet (mset M7 o0 9 (0 : Int32)) (fun M8 => some (v1, M8))))) else none)))
set_option maxRecDepth 100000 in
set_option maxHeartbeats 4000000 in
theorem b2_addWalker {w : WE} {g : GT} (C : CT w g RX2 cX2_addWalker rm2_addWalker 5) (RT : RTi w g cX2_addWalker .int) (n : Nat) (o0 : Nat) (h0 : typ o0 = 2) (x1 : Int32) (x2 : Int32) (x3 : Int32) (M : Mem) : J w g (s2_addWalker n o0 x1 x2 x3 M) M 0 [(0, .ref (wa w o0)), (1, .int x1), (2, .int x2), (3, .int x3)] [] := by
  rw [s2_addWalker]
  refine J_aload_n C dX2_addWalker_0 rfl 0 rfl ?_
  refine J_geti C fk2_5 W1_179 h0 dX2_addWalker_1 ?_
  refine J_ilet (fun v1 => ?_)
  refine J_istore (lv' := [(4, .int v1), (0, .ref (wa w o0)), (1, .int x1), (2, .int x2), (3, .int x3)]) C dX2_addWalker_4 (by decide) rfl ?_
  refine J_iload C dX2_addWalker_6 0 rfl ?_
  refine J_if_lt (tgt := 50) C dX2_addWalker_8 (by decide) (fun _ => ?_) (fun _ => ?_)
  · refine J_iload C dX2_addWalker_50 0 rfl ?_
    exact J_iret C RT rfl dX2_addWalker_52
  · refine J_iload C dX2_addWalker_11 0 rfl ?_
    refine J_bipush C dX2_addWalker_13 kcb_12 ?_
    refine J_icmp_ge (tgt := 50) C dX2_addWalker_15 (by decide) (fun _ => ?_) (fun _ => ?_)
    · refine J_iload C dX2_addWalker_50 0 rfl ?_
      exact J_iret C RT rfl dX2_addWalker_52
    · refine J_aload_n C dX2_addWalker_18 rfl 1 rfl ?_
      refine J_getr C fk2_3 W1_174 h0 dX2_addWalker_19 ?_
      refine J_iload C dX2_addWalker_22 0 rfl ?_
      refine J_aaload C (tl_2_3 h0) dX2_addWalker_24 (fun hb2 => ?_)
      refine J_iload_n C dX2_addWalker_25 rfl 2 rfl ?_
      refine J_iload_n C dX2_addWalker_26 rfl 3 rfl ?_
      refine J_iload_n C dX2_addWalker_27 rfl 4 rfl ?_
      refine J_cvv (As := [.int x1, .int x2, .int x3]) C (c7_arrive (gl g) w n (link (link o0 3) v1.toNatClampNeg) (t_wk (tl_2_3 h0) hb2) x1 x2 x3 M) (gd_v W3_6 W3_7 W3_8 W1_7 W3_9) rfl (by decide) (hdX7_arrive) (t_wk (tl_2_3 h0) hb2) (by decide) (cl_7) rfl (Nat.le_of_ble_eq_true rfl) dX2_addWalker_28 rfl (fun r4 M3 => ?_)
      refine J_aload_n C dX2_addWalker_31 rfl 1 rfl ?_
      refine J_iload_n C dX2_addWalker_32 rfl 2 rfl ?_
      refine J_iconst C dX2_addWalker_33 kci_1 ?_
      refine J_cvv (As := [.int x1, .int (1 : Int32)]) C (c2_mark (gl g) w o0 h0 x1 (1 : Int32) M3) (gd_v W3_10 W3_12 WP_10 W1_3 W3_13) rfl (by decide) (hdX2_mark) h0 (by decide) (cl_2) rfl (Nat.le_of_ble_eq_true rfl) dX2_addWalker_34 rfl (fun r6 M5 => ?_)
      refine J_aload_n C dX2_addWalker_37 rfl 1 rfl ?_
      refine J_iload C dX2_addWalker_38 0 rfl ?_
      refine J_iconst C dX2_addWalker_40 kci_1 ?_
      refine J_iadd C dX2_addWalker_41 ?_
      refine J_puti C fk2_5 W1_179 fp2_5 h0 dX2_addWalker_42 ?_
      refine J_mlet (fun M7 => ?_)
      refine J_aload_n C dX2_addWalker_45 rfl 1 rfl ?_
      refine J_iconst C dX2_addWalker_46 kci_0 ?_
      refine J_putzc C (by decide) fk2_9 W1_191 fp2_9 h0 dX2_addWalker_47 ?_
      refine J_mlet (fun M8 => ?_)
      refine J_iload C dX2_addWalker_50 0 rfl ?_
      exact J_iret C RT rfl dX2_addWalker_52
theorem c2_addWalker (l : Launch) (w : WE) (n : Nat) (o0 : Nat) (h0 : typ o0 = 2) (x1 : Int32) (x2 : Int32) (x3 : Int32) (M : Mem) : MC l w yX2_addWalker (wz yX2_addWalker cX2_addWalker 5 (some .int)) rm2_addWalker [.ref (wa w o0), .int x1, .int x2, .int x3] (s2_addWalker n o0 x1 x2 x3 M) M :=
  mc_of_J (own := RX2) rfl (by decide) rfl rfl (Nat.le_of_ble_eq_true rfl) (fun _ _ C RT => b2_addWalker C RT n o0 h0 x1 x2 x3 M)
theorem hdX2_addWalker : yX2_addWalker.cls = RX2 ∧ yOK yX2_addWalker 3 := ⟨rfl, by decide, by decide, by decide⟩
abbrev rm6_walkerMore : Room := { frames := 2, cells := 0, slots := 0, locals := 47 }
def s6_walkerMore_30 (n : Nat) (o0 : Nat) (o1 : Nat) (t0 : Int32) (M : Mem) : Option Res := if t0 = 0 then (if bz t0 then some (t0, M) else none) else (if inB (0 : Int32) (alen (link o0 1)) then if inB (1 : Int32) (alen (link o0 1)) then if inB (2 : Int32) (alen (link o0 1)) then cb (s2_addWalker n o1 (M (link o0 1) (0 : Int32).toNatClampNeg) (M (link o0 1) (1 : Int32).toNatClampNeg) (M (link o0 1) (2 : Int32).toNatClampNeg) M) (fun r4 M3 => if bz t0 then some (t0, M3) else none) else none else none else none)
set_option maxRecDepth 100000 in
set_option maxHeartbeats 4000000 in
theorem b6_walkerMore_30 {w : WE} {g : GT} (C : CT w g RX6 cX6_walkerMore rm6_walkerMore 3) (RT : RTi w g cX6_walkerMore .boolean) (n : Nat) (o0 : Nat) (h0 : typ o0 = 6) (o1 : Nat) (h1 : typ o1 = 2) (t0 : Int32) (M : Mem) : J w g (s6_walkerMore_30 n o0 o1 t0 M) M 30 [(0, .ref (wa w o0)), (1, .ref (wa w o1))] [.int t0] := by
  rw [s6_walkerMore_30]
  refine J_istore_n (lv' := [(2, .int t0), (0, .ref (wa w o0)), (1, .ref (wa w o1))]) C dX6_walkerMore_30 rfl (by decide) rfl ?_
  refine J_iload_n C dX6_walkerMore_31 rfl 0 rfl ?_
  refine J_if_eq (tgt := 58) C dX6_walkerMore_32 (by decide) (fun _ => ?_) (fun _ => ?_)
  · refine J_iload_n C dX6_walkerMore_58 rfl 0 rfl ?_
    exact J_zret C RT dX6_walkerMore_59
  · refine J_aload_n C dX6_walkerMore_35 rfl 2 rfl ?_
    refine J_aload_n C dX6_walkerMore_36 rfl 1 rfl ?_
    refine J_getr C fk6_1 W2_16 h0 dX6_walkerMore_37 ?_
    refine J_iconst C dX6_walkerMore_40 kci_0 ?_
    refine J_aload_ C (tl_6_1 h0) dX6_walkerMore_41 ?_
    refine J_aload_n C dX6_walkerMore_42 rfl 1 rfl ?_
    refine J_getr C fk6_1 W2_16 h0 dX6_walkerMore_43 ?_
    refine J_iconst C dX6_walkerMore_46 kci_1 ?_
    refine J_aload_ C (tl_6_1 h0) dX6_walkerMore_47 ?_
    refine J_aload_n C dX6_walkerMore_48 rfl 1 rfl ?_
    refine J_getr C fk6_1 W2_16 h0 dX6_walkerMore_49 ?_
    refine J_iconst C dX6_walkerMore_52 kci_2 ?_
    refine J_aload_ C (tl_6_1 h0) dX6_walkerMore_53 ?_
    refine J_cvi (As := [.int (M (link o0 1) (0 : Int32).toNatClampNeg), .int (M (link o0 1) (1 : Int32).toNatClampNeg), .int (M (link o0 1) (2 : Int32).toNatClampNeg)]) C (c2_addWalker (gl g) w n o1 h1 (M (link o0 1) (0 : Int32).toNatClampNeg) (M (link o0 1) (1 : Int32).toNatClampNeg) (M (link o0 1) (2 : Int32).toNatClampNeg) M) (gd_v W3_2 W3_3 W3_4 W1_3 W3_5) rfl (by decide) (hdX2_addWalker) h1 (by decide) (cl_2) rfl (Nat.le_of_ble_eq_true rfl) dX6_walkerMore_54 rfl (fun r4 M3 => ?_)
    refine J_pop C rfl dX6_walkerMore_57 ?_
    refine J_iload_n C dX6_walkerMore_58 rfl 0 rfl ?_
    exact J_zret C RT dX6_walkerMore_59
def s6_walkerMore (n : Nat) (o0 : Nat) (o1 : Nat) (M : Mem) : Option Res := if inB (0 : Int32) (alen (link o0 1)) then if inB (1 : Int32) (alen (link o0 1)) then if inB (2 : Int32) (alen (link o0 1)) then cb (s2_whyNoWalker o1 (M (link o0 1) (0 : Int32).toNatClampNeg) (M (link o0 1) (1 : Int32).toNatClampNeg) (M (link o0 1) (2 : Int32).toNatClampNeg) M) (fun r2 M1 => if r2 = 0 then (s6_walkerMore_30 n o0 o1 (1 : Int32) M1) else (s6_walkerMore_30 n o0 o1 (0 : Int32) M1)) else none else none else none
set_option maxRecDepth 100000 in
set_option maxHeartbeats 4000000 in
theorem b6_walkerMore {w : WE} {g : GT} (C : CT w g RX6 cX6_walkerMore rm6_walkerMore 3) (RT : RTi w g cX6_walkerMore .boolean) (n : Nat) (o0 : Nat) (h0 : typ o0 = 6) (o1 : Nat) (h1 : typ o1 = 2) (M : Mem) : J w g (s6_walkerMore n o0 o1 M) M 0 [(0, .ref (wa w o0)), (1, .ref (wa w o1))] [] := by
  rw [s6_walkerMore]
  refine J_aload_n C dX6_walkerMore_0 rfl 1 rfl ?_
  refine J_aload_n C dX6_walkerMore_1 rfl 0 rfl ?_
  refine J_getr C fk6_1 W2_16 h0 dX6_walkerMore_2 ?_
  refine J_iconst C dX6_walkerMore_5 kci_0 ?_
  refine J_aload_ C (tl_6_1 h0) dX6_walkerMore_6 ?_
  refine J_aload_n C dX6_walkerMore_7 rfl 0 rfl ?_
  refine J_getr C fk6_1 W2_16 h0 dX6_walkerMore_8 ?_
  refine J_iconst C dX6_walkerMore_11 kci_1 ?_
  refine J_aload_ C (tl_6_1 h0) dX6_walkerMore_12 ?_
  refine J_aload_n C dX6_walkerMore_13 rfl 0 rfl ?_
  refine J_getr C fk6_1 W2_16 h0 dX6_walkerMore_14 ?_
  refine J_iconst C dX6_walkerMore_17 kci_2 ?_
  refine J_aload_ C (tl_6_1 h0) dX6_walkerMore_18 ?_
  refine J_cvi (As := [.int (M (link o0 1) (0 : Int32).toNatClampNeg), .int (M (link o0 1) (1 : Int32).toNatClampNeg), .int (M (link o0 1) (2 : Int32).toNatClampNeg)]) C (c2_whyNoWalker (gl g) w o1 h1 (M (link o0 1) (0 : Int32).toNatClampNeg) (M (link o0 1) (1 : Int32).toNatClampNeg) (M (link o0 1) (2 : Int32).toNatClampNeg) M) (gd_v W2_233 W2_234 W2_235 W1_3 W2_236) rfl (by decide) (hdX2_whyNoWalker) h1 (by decide) (cl_2) rfl (Nat.le_of_ble_eq_true rfl) dX6_walkerMore_19 rfl (fun r2 M1 => ?_)
  refine J_if_ne (tgt := 29) C dX6_walkerMore_22 (by decide) (fun _ => ?_) (fun _ => ?_)
  · refine J_iconst C dX6_walkerMore_29 kci_0 ?_
    exact b6_walkerMore_30 C RT n o0 h0 o1 h1 (0 : Int32) M1
  · refine J_iconst C dX6_walkerMore_25 kci_1 ?_
    refine J_goto (tgt := 30) C dX6_walkerMore_26 (by decide) ?_
    exact b6_walkerMore_30 C RT n o0 h0 o1 h1 (1 : Int32) M1
theorem c6_walkerMore (l : Launch) (w : WE) (n : Nat) (o0 : Nat) (h0 : typ o0 = 6) (o1 : Nat) (h1 : typ o1 = 2) (M : Mem) : MC l w yX6_walkerMore (wz yX6_walkerMore cX6_walkerMore 3 (some .boolean)) rm6_walkerMore [.ref (wa w o0), .ref (wa w o1)] (s6_walkerMore n o0 o1 M) M :=
  mc_of_J (own := RX6) rfl (by decide) rfl rfl (Nat.le_of_ble_eq_true rfl) (fun _ _ C RT => b6_walkerMore C RT n o0 h0 o1 h1 M)
theorem hdX6_walkerMore : yX6_walkerMore.cls = RX6 ∧ yOK yX6_walkerMore 1 := ⟨rfl, by decide, by decide, by decide⟩
abbrev rm3_whyNot : Room := { frames := 1, cells := 0, slots := 0, locals := 22 }
def s3_whyNot (o0 : Nat) (x1 : Int32) (x2 : Int32) (M : Mem) : Option Res := if x1 < 0 then (some ((1 : Int32), M)) else (if x1 < (5 : Int32) then (cb (s8_whyNotWithin x2 (1 : Int32) (99 : Int32) M) (fun r2 M1 => some (r2, M1))) else (some ((1 : Int32), M)))
set_option maxRecDepth 100000 in
set_option maxHeartbeats 4000000 in
theorem b3_whyNot {w : WE} {g : GT} (C : CT w g RX3 cX3_whyNot rm3_whyNot 3) (RT : RTi w g cX3_whyNot .int) (o0 : Nat) (h0 : typ o0 = 3) (x1 : Int32) (x2 : Int32) (M : Mem) : J w g (s3_whyNot o0 x1 x2 M) M 0 [(0, .ref (wa w o0)), (1, .int x1), (2, .int x2)] [] := by
  rw [s3_whyNot]
  refine J_iload_n C dX3_whyNot_0 rfl 1 rfl ?_
  refine J_if_lt (tgt := 9) C dX3_whyNot_1 (by decide) (fun _ => ?_) (fun _ => ?_)
  · refine J_iconst C dX3_whyNot_9 kci_1 ?_
    exact J_iret C RT rfl dX3_whyNot_10
  · refine J_iload_n C dX3_whyNot_4 rfl 1 rfl ?_
    refine J_iconst C dX3_whyNot_5 kci_5 ?_
    refine J_icmp_lt (tgt := 11) C dX3_whyNot_6 (by decide) (fun _ => ?_) (fun _ => ?_)
    · refine J_iload_n C dX3_whyNot_11 rfl 2 rfl ?_
      refine J_iconst C dX3_whyNot_12 kci_1 ?_
      refine J_bipush C dX3_whyNot_13 kcb_99 ?_
      refine J_cni (As := [.int x2, .int (1 : Int32), .int (99 : Int32)]) (dm := 0) C (c8_whyNotWithin (gl g) w x2 (1 : Int32) (99 : Int32) M) (gd_z W2_204) rfl (by decide) (hdX8_whyNotWithin.2) rfl (by decide) W1_1 W2_203 rfl (Nat.le_of_ble_eq_true rfl) dX3_whyNot_15 rfl (fun r2 M1 => ?_)
      exact J_iret C RT rfl dX3_whyNot_18
    · refine J_iconst C dX3_whyNot_9 kci_1 ?_
      exact J_iret C RT rfl dX3_whyNot_10
theorem c3_whyNot (l : Launch) (w : WE) (o0 : Nat) (h0 : typ o0 = 3) (x1 : Int32) (x2 : Int32) (M : Mem) : MC l w yX3_whyNot (wz yX3_whyNot cX3_whyNot 3 (some .int)) rm3_whyNot [.ref (wa w o0), .int x1, .int x2] (s3_whyNot o0 x1 x2 M) M :=
  mc_of_J (own := RX3) rfl (by decide) rfl rfl (Nat.le_of_ble_eq_true rfl) (fun _ _ C RT => b3_whyNot C RT o0 h0 x1 x2 M)
theorem hdX3_whyNot : yX3_whyNot.cls = RX3 ∧ yOK yX3_whyNot 2 := ⟨rfl, by decide, by decide, by decide⟩
abbrev rm6_newPlayer : Room := { frames := 2, cells := 0, slots := 0, locals := 44 }
def s6_newPlayer_27 (n : Nat) (o0 : Nat) (o1 : Nat) (t0 : Int32) (M : Mem) : Option Res := if t0 = 0 then (if bz t0 then some (t0, M) else none) else (if inB (0 : Int32) (alen (link o0 1)) then mlet (mset M (link o1 1) 0 (M (link o0 1) (0 : Int32).toNatClampNeg)) (fun M3 => if inB (1 : Int32) (alen (link o0 1)) then mlet (mset M3 (link o1 1) 1 (M3 (link o0 1) (1 : Int32).toNatClampNeg)) (fun M4 => if bz t0 then some (t0, M4) else none) else none) else none)
set_option maxRecDepth 100000 in
set_option maxHeartbeats 4000000 in
theorem b6_newPlayer_27 {w : WE} {g : GT} (C : CT w g RX6 cX6_newPlayer rm6_newPlayer 3) (RT : RTi w g cX6_newPlayer .boolean) (n : Nat) (o0 : Nat) (h0 : typ o0 = 6) (o1 : Nat) (h1 : typ o1 = 2) (t0 : Int32) (M : Mem) : J w g (s6_newPlayer_27 n o0 o1 t0 M) M 27 [(0, .ref (wa w o0)), (1, .ref (wa w o1))] [.int t0] := by
  rw [s6_newPlayer_27]
  refine J_istore_n (lv' := [(2, .int t0), (0, .ref (wa w o0)), (1, .ref (wa w o1))]) C dX6_newPlayer_27 rfl (by decide) rfl ?_
  refine J_iload_n C dX6_newPlayer_28 rfl 0 rfl ?_
  refine J_if_eq (tgt := 58) C dX6_newPlayer_29 (by decide) (fun _ => ?_) (fun _ => ?_)
  · refine J_iload_n C dX6_newPlayer_58 rfl 0 rfl ?_
    exact J_zret C RT dX6_newPlayer_59
  · refine J_aload_n C dX6_newPlayer_32 rfl 2 rfl ?_
    refine J_getr C fk2_1 W1_170 h1 dX6_newPlayer_33 ?_
    refine J_aload_n C dX6_newPlayer_36 rfl 1 rfl ?_
    refine J_getr C fk6_1 W2_16 h0 dX6_newPlayer_37 ?_
    refine J_iconst C dX6_newPlayer_40 kci_0 ?_
    refine J_aload_ C (tl_6_1 h0) dX6_newPlayer_41 ?_
    refine J_puti C fk3_0 W1_76 fp3_0 (tl_2_1 h1) dX6_newPlayer_42 ?_
    refine J_mlet (fun M3 => ?_)
    refine J_aload_n C dX6_newPlayer_45 rfl 2 rfl ?_
    refine J_getr C fk2_1 W1_170 h1 dX6_newPlayer_46 ?_
    refine J_aload_n C dX6_newPlayer_49 rfl 1 rfl ?_
    refine J_getr C fk6_1 W2_16 h0 dX6_newPlayer_50 ?_
    refine J_iconst C dX6_newPlayer_53 kci_1 ?_
    refine J_aload_ C (tl_6_1 h0) dX6_newPlayer_54 ?_
    refine J_puti C fk3_1 W1_80 fp3_1 (tl_2_1 h1) dX6_newPlayer_55 ?_
    refine J_mlet (fun M4 => ?_)
    refine J_iload_n C dX6_newPlayer_58 rfl 0 rfl ?_
    exact J_zret C RT dX6_newPlayer_59
def s6_newPlayer (n : Nat) (o0 : Nat) (o1 : Nat) (M : Mem) : Option Res := if inB (0 : Int32) (alen (link o0 1)) then if inB (1 : Int32) (alen (link o0 1)) then cb (s3_whyNot (link o1 1) (M (link o0 1) (0 : Int32).toNatClampNeg) (M (link o0 1) (1 : Int32).toNatClampNeg) M) (fun r2 M1 => if r2 = 0 then (s6_newPlayer_27 n o0 o1 (1 : Int32) M1) else (s6_newPlayer_27 n o0 o1 (0 : Int32) M1)) else none else none
set_option maxRecDepth 100000 in
set_option maxHeartbeats 4000000 in
theorem b6_newPlayer {w : WE} {g : GT} (C : CT w g RX6 cX6_newPlayer rm6_newPlayer 3) (RT : RTi w g cX6_newPlayer .boolean) (n : Nat) (o0 : Nat) (h0 : typ o0 = 6) (o1 : Nat) (h1 : typ o1 = 2) (M : Mem) : J w g (s6_newPlayer n o0 o1 M) M 0 [(0, .ref (wa w o0)), (1, .ref (wa w o1))] [] := by
  rw [s6_newPlayer]
  refine J_aload_n C dX6_newPlayer_0 rfl 1 rfl ?_
  refine J_getr C fk2_1 W1_170 h1 dX6_newPlayer_1 ?_
  refine J_aload_n C dX6_newPlayer_4 rfl 0 rfl ?_
  refine J_getr C fk6_1 W2_16 h0 dX6_newPlayer_5 ?_
  refine J_iconst C dX6_newPlayer_8 kci_0 ?_
  refine J_aload_ C (tl_6_1 h0) dX6_newPlayer_9 ?_
  refine J_aload_n C dX6_newPlayer_10 rfl 0 rfl ?_
  refine J_getr C fk6_1 W2_16 h0 dX6_newPlayer_11 ?_
  refine J_iconst C dX6_newPlayer_14 kci_1 ?_
  refine J_aload_ C (tl_6_1 h0) dX6_newPlayer_15 ?_
  refine J_cvi (As := [.int (M (link o0 1) (0 : Int32).toNatClampNeg), .int (M (link o0 1) (1 : Int32).toNatClampNeg)]) C (c3_whyNot (gl g) w (link o1 1) (tl_2_1 h1) (M (link o0 1) (0 : Int32).toNatClampNeg) (M (link o0 1) (1 : Int32).toNatClampNeg) M) (gd_v W3_18 W3_19 W3_20 W1_5 W3_21) rfl (by decide) (hdX3_whyNot) (tl_2_1 h1) (by decide) (cl_3) rfl (Nat.le_of_ble_eq_true rfl) dX6_newPlayer_16 rfl (fun r2 M1 => ?_)
  refine J_if_ne (tgt := 26) C dX6_newPlayer_19 (by decide) (fun _ => ?_) (fun _ => ?_)
  · refine J_iconst C dX6_newPlayer_26 kci_0 ?_
    exact b6_newPlayer_27 C RT n o0 h0 o1 h1 (0 : Int32) M1
  · refine J_iconst C dX6_newPlayer_22 kci_1 ?_
    refine J_goto (tgt := 27) C dX6_newPlayer_23 (by decide) ?_
    exact b6_newPlayer_27 C RT n o0 h0 o1 h1 (1 : Int32) M1
theorem c6_newPlayer (l : Launch) (w : WE) (n : Nat) (o0 : Nat) (h0 : typ o0 = 6) (o1 : Nat) (h1 : typ o1 = 2) (M : Mem) : MC l w yX6_newPlayer (wz yX6_newPlayer cX6_newPlayer 3 (some .boolean)) rm6_newPlayer [.ref (wa w o0), .ref (wa w o1)] (s6_newPlayer n o0 o1 M) M :=
  mc_of_J (own := RX6) rfl (by decide) rfl rfl (Nat.le_of_ble_eq_true rfl) (fun _ _ C RT => b6_newPlayer C RT n o0 h0 o1 h1 M)
theorem hdX6_newPlayer : yX6_newPlayer.cls = RX6 ∧ yOK yX6_newPlayer 1 := ⟨rfl, by decide, by decide, by decide⟩
abbrev rm6_newForm : Room := { frames := 1, cells := 0, slots := 0, locals := 22 }
def s6_newForm_19 (n : Nat) (o0 : Nat) (o1 : Nat) (t0 : Int32) (M : Mem) : Option Res := if t0 = 0 then (if bz t0 then some (t0, M) else none) else (if inB (0 : Int32) (alen (link o0 1)) then mlet (mset M o1 6 (M (link o0 1) (0 : Int32).toNatClampNeg)) (fun M3 => if bz t0 then some (t0, M3) else none) else none)
set_option maxRecDepth 100000 in
set_option maxHeartbeats 4000000 in
theorem b6_newForm_19 {w : WE} {g : GT} (C : CT w g RX6 cX6_newForm rm6_newForm 3) (RT : RTi w g cX6_newForm .boolean) (n : Nat) (o0 : Nat) (h0 : typ o0 = 6) (o1 : Nat) (h1 : typ o1 = 2) (t0 : Int32) (M : Mem) : J w g (s6_newForm_19 n o0 o1 t0 M) M 19 [(0, .ref (wa w o0)), (1, .ref (wa w o1))] [.int t0] := by
  rw [s6_newForm_19]
  refine J_istore_n (lv' := [(2, .int t0), (0, .ref (wa w o0)), (1, .ref (wa w o1))]) C dX6_newForm_19 rfl (by decide) rfl ?_
  refine J_iload_n C dX6_newForm_20 rfl 0 rfl ?_
  refine J_if_eq (tgt := 34) C dX6_newForm_21 (by decide) (fun _ => ?_) (fun _ => ?_)
  · refine J_iload_n C dX6_newForm_34 rfl 0 rfl ?_
    exact J_zret C RT dX6_newForm_35
  · refine J_aload_n C dX6_newForm_24 rfl 2 rfl ?_
    refine J_aload_n C dX6_newForm_25 rfl 1 rfl ?_
    refine J_getr C fk6_1 W2_16 h0 dX6_newForm_26 ?_
    refine J_iconst C dX6_newForm_29 kci_0 ?_
    refine J_aload_ C (tl_6_1 h0) dX6_newForm_30 ?_
    refine J_puti C fk2_6 W1_186 fp2_6 h1 dX6_newForm_31 ?_
    refine J_mlet (fun M3 => ?_)
    refine J_iload_n C dX6_newForm_34 rfl 0 rfl ?_
    exact J_zret C RT dX6_newForm_35
def s6_newForm (n : Nat) (o0 : Nat) (o1 : Nat) (M : Mem) : Option Res := if inB (0 : Int32) (alen (link o0 1)) then cb (s8_whyNotWithin (M (link o0 1) (0 : Int32).toNatClampNeg) (0 : Int32) (2 : Int32) M) (fun r2 M1 => if r2 = 0 then (s6_newForm_19 n o0 o1 (1 : Int32) M1) else (s6_newForm_19 n o0 o1 (0 : Int32) M1)) else none
set_option maxRecDepth 100000 in
set_option maxHeartbeats 4000000 in
theorem b6_newForm {w : WE} {g : GT} (C : CT w g RX6 cX6_newForm rm6_newForm 3) (RT : RTi w g cX6_newForm .boolean) (n : Nat) (o0 : Nat) (h0 : typ o0 = 6) (o1 : Nat) (h1 : typ o1 = 2) (M : Mem) : J w g (s6_newForm n o0 o1 M) M 0 [(0, .ref (wa w o0)), (1, .ref (wa w o1))] [] := by
  rw [s6_newForm]
  refine J_aload_n C dX6_newForm_0 rfl 0 rfl ?_
  refine J_getr C fk6_1 W2_16 h0 dX6_newForm_1 ?_
  refine J_iconst C dX6_newForm_4 kci_0 ?_
  refine J_aload_ C (tl_6_1 h0) dX6_newForm_5 ?_
  refine J_iconst C dX6_newForm_6 kci_0 ?_
  refine J_iconst C dX6_newForm_7 kci_2 ?_
  refine J_cni (As := [.int (M (link o0 1) (0 : Int32).toNatClampNeg), .int (0 : Int32), .int (2 : Int32)]) (dm := 0) C (c8_whyNotWithin (gl g) w (M (link o0 1) (0 : Int32).toNatClampNeg) (0 : Int32) (2 : Int32) M) (gd_z W2_204) rfl (by decide) (hdX8_whyNotWithin.2) rfl (by decide) W1_1 W2_203 rfl (Nat.le_of_ble_eq_true rfl) dX6_newForm_8 rfl (fun r2 M1 => ?_)
  refine J_if_ne (tgt := 18) C dX6_newForm_11 (by decide) (fun _ => ?_) (fun _ => ?_)
  · refine J_iconst C dX6_newForm_18 kci_0 ?_
    exact b6_newForm_19 C RT n o0 h0 o1 h1 (0 : Int32) M1
  · refine J_iconst C dX6_newForm_14 kci_1 ?_
    refine J_goto (tgt := 19) C dX6_newForm_15 (by decide) ?_
    exact b6_newForm_19 C RT n o0 h0 o1 h1 (1 : Int32) M1
theorem c6_newForm (l : Launch) (w : WE) (n : Nat) (o0 : Nat) (h0 : typ o0 = 6) (o1 : Nat) (h1 : typ o1 = 2) (M : Mem) : MC l w yX6_newForm (wz yX6_newForm cX6_newForm 3 (some .boolean)) rm6_newForm [.ref (wa w o0), .ref (wa w o1)] (s6_newForm n o0 o1 M) M :=
  mc_of_J (own := RX6) rfl (by decide) rfl rfl (Nat.le_of_ble_eq_true rfl) (fun _ _ C RT => b6_newForm C RT n o0 h0 o1 h1 M)
theorem hdX6_newForm : yX6_newForm.cls = RX6 ∧ yOK yX6_newForm 1 := ⟨rfl, by decide, by decide, by decide⟩
abbrev rm6_comesTrue : Room := { frames := 3, cells := 0, slots := 0, locals := 69 }
def s6_comesTrue (n : Nat) (o0 : Nat) (x1 : Int32) (o2 : Nat) (M : Mem) : Option Res := if x1 = 99 then (cb (s6_seatMore n o0 o2 M) (fun r2 M1 => if bz r2 then some (r2, M1) else none)) else (if x1 = 110 then (cb (s6_resize n o0 o2 M) (fun r4 M3 => if bz r4 then some (r4, M3) else none)) else (if x1 = 112 then (cb (s6_newPlayer n o0 o2 M) (fun r6 M5 => if bz r6 then some (r6, M5) else none)) else (if x1 = 119 then (cb (s6_walkerMore n o0 o2 M) (fun r8 M7 => if bz r8 then some (r8, M7) else none)) else (cb (s6_newForm n o0 o2 M) (fun r10 M9 => if bz r10 then some (r10, M9) else none)))))
set_option maxRecDepth 100000 in
set_option maxHeartbeats 4000000 in
theorem b6_comesTrue {w : WE} {g : GT} (C : CT w g RX6 cX6_comesTrue rm6_comesTrue 3) (RT : RTi w g cX6_comesTrue .boolean) (n : Nat) (o0 : Nat) (h0 : typ o0 = 6) (x1 : Int32) (o2 : Nat) (h2 : typ o2 = 2) (M : Mem) : J w g (s6_comesTrue n o0 x1 o2 M) M 0 [(0, .ref (wa w o0)), (1, .int x1), (2, .ref (wa w o2))] [] := by
  rw [s6_comesTrue]
  refine J_iload_n C dX6_comesTrue_0 rfl 1 rfl ?_
  refine J_ite (fun hc0 => ?_) (fun hc0 => ?_)
  · refine J_lsw (tgt := 50) C dX6_comesTrue_1 (by decide) (off := 49) (by rw [hc0]; rfl) (by decide) ?_
    refine J_aload_n C dX6_comesTrue_50 rfl 0 rfl ?_
    refine J_aload_n C dX6_comesTrue_51 rfl 2 rfl ?_
    refine J_cvi (As := [.ref (wa w o2)]) C (c6_seatMore (gl g) w n o0 h0 o2 h2 M) (gd_v W2_205 W2_207 WP_8 W1_9 W2_208) rfl (by decide) (hdX6_seatMore) h0 (by decide) (cl_6) rfl (Nat.le_of_ble_eq_true rfl) dX6_comesTrue_52 rfl (fun r2 M1 => ?_)
    exact J_zret C RT dX6_comesTrue_55
  · refine J_ite (fun hc1 => ?_) (fun hc1 => ?_)
    · refine J_lsw (tgt := 44) C dX6_comesTrue_1 (by decide) (off := 43) (by rw [hc1]; rfl) (by decide) ?_
      refine J_aload_n C dX6_comesTrue_44 rfl 0 rfl ?_
      refine J_aload_n C dX6_comesTrue_45 rfl 2 rfl ?_
      refine J_cvi (As := [.ref (wa w o2)]) C (c6_resize (gl g) w n o0 h0 o2 h2 M) (gd_v W2_198 W2_200 WP_7 W1_9 W2_201) rfl (by decide) (hdX6_resize) h0 (by decide) (cl_6) rfl (Nat.le_of_ble_eq_true rfl) dX6_comesTrue_46 rfl (fun r4 M3 => ?_)
      exact J_zret C RT dX6_comesTrue_49
    · refine J_ite (fun hc2 => ?_) (fun hc2 => ?_)
      · refine J_lsw (tgt := 62) C dX6_comesTrue_1 (by decide) (off := 61) (by rw [hc2]; rfl) (by decide) ?_
        refine J_aload_n C dX6_comesTrue_62 rfl 0 rfl ?_
        refine J_aload_n C dX6_comesTrue_63 rfl 2 rfl ?_
        refine J_cvi (As := [.ref (wa w o2)]) C (c6_newPlayer (gl g) w n o0 h0 o2 h2 M) (gd_v W3_14 W3_16 WP_11 W1_9 W3_17) rfl (by decide) (hdX6_newPlayer) h0 (by decide) (cl_6) rfl (Nat.le_of_ble_eq_true rfl) dX6_comesTrue_64 rfl (fun r6 M5 => ?_)
        exact J_zret C RT dX6_comesTrue_67
      · refine J_ite (fun hc3 => ?_) (fun hc3 => ?_)
        · refine J_lsw (tgt := 56) C dX6_comesTrue_1 (by decide) (off := 55) (by rw [hc3]; rfl) (by decide) ?_
          refine J_aload_n C dX6_comesTrue_56 rfl 0 rfl ?_
          refine J_aload_n C dX6_comesTrue_57 rfl 2 rfl ?_
          refine J_cvi (As := [.ref (wa w o2)]) C (c6_walkerMore (gl g) w n o0 h0 o2 h2 M) (gd_v W2_229 W2_231 WP_9 W1_9 W2_232) rfl (by decide) (hdX6_walkerMore) h0 (by decide) (cl_6) rfl (Nat.le_of_ble_eq_true rfl) dX6_comesTrue_58 rfl (fun r8 M7 => ?_)
          exact J_zret C RT dX6_comesTrue_61
        · refine J_lsw (tgt := 68) C dX6_comesTrue_1 (by decide) (off := 67) ((lv_osw hc0 rfl).trans ((lv_osw hc1 rfl).trans ((lv_osw hc2 rfl).trans ((lv_osw hc3 rfl).trans rfl)))) (by decide) ?_
          refine J_aload_n C dX6_comesTrue_68 rfl 0 rfl ?_
          refine J_aload_n C dX6_comesTrue_69 rfl 2 rfl ?_
          refine J_cvi (As := [.ref (wa w o2)]) C (c6_newForm (gl g) w n o0 h0 o2 h2 M) (gd_v W3_23 W3_25 WP_12 W1_9 W3_26) rfl (by decide) (hdX6_newForm) h0 (by decide) (cl_6) rfl (Nat.le_of_ble_eq_true rfl) dX6_comesTrue_70 rfl (fun r10 M9 => ?_)
          exact J_zret C RT dX6_comesTrue_73
theorem c6_comesTrue (l : Launch) (w : WE) (n : Nat) (o0 : Nat) (h0 : typ o0 = 6) (x1 : Int32) (o2 : Nat) (h2 : typ o2 = 2) (M : Mem) : MC l w yX6_comesTrue (wz yX6_comesTrue cX6_comesTrue 3 (some .boolean)) rm6_comesTrue [.ref (wa w o0), .int x1, .ref (wa w o2)] (s6_comesTrue n o0 x1 o2 M) M :=
  mc_of_J (own := RX6) rfl (by decide) rfl rfl (Nat.le_of_ble_eq_true rfl) (fun _ _ C RT => b6_comesTrue C RT n o0 h0 x1 o2 h2 M)
theorem hdX6_comesTrue : yX6_comesTrue.cls = RX6 ∧ yOK yX6_comesTrue 2 := ⟨rfl, by decide, by decide, by decide⟩
abbrev rm2_knowsIn : Room := { frames := 0, cells := 0, slots := 0, locals := 0 }
def s2_knowsIn (o0 : Nat) (x1 : Int32) (M : Mem) : Option Res := if x1 < 0 then (some ((0 : Int32), M)) else (if (M o0 5) ≤ x1 then (some ((0 : Int32), M)) else (if (12 : Int32) ≤ x1 then (some ((0 : Int32), M)) else (if inB x1 (alen (link o0 3)) then if (M (link (link o0 3) x1.toNatClampNeg) 2) = 0 then (some ((0 : Int32), M)) else (some ((1 : Int32), M)) else none)))
set_option maxRecDepth 100000 in
set_option maxHeartbeats 4000000 in
theorem b2_knowsIn {w : WE} {g : GT} (C : CT w g RX2 cX2_knowsIn rm2_knowsIn 2) (RT : RTi w g cX2_knowsIn .boolean) (o0 : Nat) (h0 : typ o0 = 2) (x1 : Int32) (M : Mem) : J w g (s2_knowsIn o0 x1 M) M 0 [(0, .ref (wa w o0)), (1, .int x1)] [] := by
  rw [s2_knowsIn]
  refine J_iload_n C dX2_knowsIn_0 rfl 1 rfl ?_
  refine J_if_lt (tgt := 34) C dX2_knowsIn_1 (by decide) (fun _ => ?_) (fun _ => ?_)
  · refine J_iconst C dX2_knowsIn_34 kci_0 ?_
    exact J_iret C RT (by decide) dX2_knowsIn_35
  · refine J_iload_n C dX2_knowsIn_4 rfl 1 rfl ?_
    refine J_aload_n C dX2_knowsIn_5 rfl 0 rfl ?_
    refine J_geti C fk2_5 W1_179 h0 dX2_knowsIn_6 ?_
    refine J_icmp_ge (tgt := 34) C dX2_knowsIn_9 (by decide) (fun _ => ?_) (fun _ => ?_)
    · refine J_iconst C dX2_knowsIn_34 kci_0 ?_
      exact J_iret C RT (by decide) dX2_knowsIn_35
    · refine J_iload_n C dX2_knowsIn_12 rfl 1 rfl ?_
      refine J_bipush C dX2_knowsIn_13 kcb_12 ?_
      refine J_icmp_ge (tgt := 34) C dX2_knowsIn_15 (by decide) (fun _ => ?_) (fun _ => ?_)
      · refine J_iconst C dX2_knowsIn_34 kci_0 ?_
        exact J_iret C RT (by decide) dX2_knowsIn_35
      · refine J_aload_n C dX2_knowsIn_18 rfl 0 rfl ?_
        refine J_getr C fk2_3 W1_174 h0 dX2_knowsIn_19 ?_
        refine J_iload_n C dX2_knowsIn_22 rfl 1 rfl ?_
        refine J_aaload C (tl_2_3 h0) dX2_knowsIn_23 (fun hb1 => ?_)
        refine J_geti C fk7_2 W1_128 (t_wk (tl_2_3 h0) hb1) dX2_knowsIn_24 ?_
        refine J_if_eq (tgt := 34) C dX2_knowsIn_27 (by decide) (fun _ => ?_) (fun _ => ?_)
        · refine J_iconst C dX2_knowsIn_34 kci_0 ?_
          exact J_iret C RT (by decide) dX2_knowsIn_35
        · refine J_iconst C dX2_knowsIn_30 kci_1 ?_
          refine J_goto (tgt := 35) C dX2_knowsIn_31 (by decide) ?_
          exact J_iret C RT (by decide) dX2_knowsIn_35
theorem c2_knowsIn (l : Launch) (w : WE) (o0 : Nat) (h0 : typ o0 = 2) (x1 : Int32) (M : Mem) : MC l w yX2_knowsIn (wz yX2_knowsIn cX2_knowsIn 2 (some .boolean)) rm2_knowsIn [.ref (wa w o0), .int x1] (s2_knowsIn o0 x1 M) M :=
  mc_of_J (own := RX2) rfl (by decide) rfl rfl (Nat.le_of_ble_eq_true rfl) (fun _ _ C RT => b2_knowsIn C RT o0 h0 x1 M)
theorem hdX2_knowsIn : yX2_knowsIn.cls = RX2 ∧ yOK yX2_knowsIn 1 := ⟨rfl, by decide, by decide, by decide⟩
abbrev rm2_walk : Room := { frames := 1, cells := 0, slots := 0, locals := 22 }
def s2_walk_70 (n : Nat) (o0 : Nat) (o1 : Nat) (t0 : Int32) (M : Mem) : Option Res := cb (s2_isStoodOn o0 t0 M) (fun r5 M4 => if r5 = 0 then (cb (s2_mark o0 (M4 o1 0) (0 : Int32) M4) (fun _ M6 => cb (s2_mark o0 t0 (1 : Int32) M6) (fun _ M8 => mlet (mset M8 o1 1 ((M8 o1 1) - (100 : Int32))) (fun M10 => mlet (mset M10 o1 0 t0) (fun M11 => some (0, M11)))))) else (mlet (mset M4 o1 1 (99 : Int32)) (fun M12 => some (0, M12))))
set_option maxRecDepth 100000 in
set_option maxHeartbeats 4000000 in
theorem b2_walk_70 {w : WE} {g : GT} (C : CT w g RX2 cX2_walk rm2_walk 3) (RT : RTv w g cX2_walk) (n : Nat) (o0 : Nat) (h0 : typ o0 = 2) (o1 : Nat) (h1 : typ o1 = 7) (t0 : Int32) (M : Mem) : J w g (s2_walk_70 n o0 o1 t0 M) M 70 [(0, .ref (wa w o0)), (1, .ref (wa w o1))] [.int t0] := by
  rw [s2_walk_70]
  refine J_istore_n (lv' := [(2, .int t0), (0, .ref (wa w o0)), (1, .ref (wa w o1))]) C dX2_walk_70 rfl (by decide) rfl ?_
  refine J_aload_n C dX2_walk_71 rfl 1 rfl ?_
  refine J_iload_n C dX2_walk_72 rfl 0 rfl ?_
  refine J_cvi (As := [.int t0]) C (c2_isStoodOn (gl g) w o0 h0 t0 M) (gd_v W2_238 W2_239 W3_0 W1_3 W3_1) rfl (by decide) (hdX2_isStoodOn) h0 (by decide) (cl_2) rfl (Nat.le_of_ble_eq_true rfl) dX2_walk_73 rfl (fun r5 M4 => ?_)
  refine J_if_eq (tgt := 88) C dX2_walk_76 (by decide) (fun _ => ?_) (fun _ => ?_)
  · refine J_aload_n C dX2_walk_88 rfl 1 rfl ?_
    refine J_aload_n C dX2_walk_89 rfl 2 rfl ?_
    refine J_geti C fk7_0 W1_124 h1 dX2_walk_90 ?_
    refine J_iconst C dX2_walk_93 kci_0 ?_
    refine J_cvv (As := [.int (M4 o1 0), .int (0 : Int32)]) C (c2_mark (gl g) w o0 h0 (M4 o1 0) (0 : Int32) M4) (gd_v W3_10 W3_12 WP_10 W1_3 W3_13) rfl (by decide) (hdX2_mark) h0 (by decide) (cl_2) rfl (Nat.le_of_ble_eq_true rfl) dX2_walk_94 rfl (fun r7 M6 => ?_)
    refine J_aload_n C dX2_walk_97 rfl 1 rfl ?_
    refine J_iload_n C dX2_walk_98 rfl 0 rfl ?_
    refine J_iconst C dX2_walk_99 kci_1 ?_
    refine J_cvv (As := [.int t0, .int (1 : Int32)]) C (c2_mark (gl g) w o0 h0 t0 (1 : Int32) M6) (gd_v W3_10 W3_12 WP_10 W1_3 W3_13) rfl (by decide) (hdX2_mark) h0 (by decide) (cl_2) rfl (Nat.le_of_ble_eq_true rfl) dX2_walk_100 rfl (fun r9 M8 => ?_)
    refine J_aload_n C dX2_walk_103 rfl 2 rfl ?_
    refine J_dup C rfl dX2_walk_104 ?_
    refine J_geti C fk7_1 W1_126 h1 dX2_walk_105 ?_
    refine J_bipush C dX2_walk_108 kcb_100 ?_
    refine J_isub C dX2_walk_110 ?_
    refine J_puti C fk7_1 W1_126 fp7_1 h1 dX2_walk_111 ?_
    refine J_mlet (fun M10 => ?_)
    refine J_aload_n C dX2_walk_114 rfl 2 rfl ?_
    refine J_iload_n C dX2_walk_115 rfl 0 rfl ?_
    refine J_puti C fk7_0 W1_124 fp7_0 h1 dX2_walk_116 ?_
    refine J_mlet (fun M11 => ?_)
    exact J_vret C RT dX2_walk_119
  · refine J_aload_n C dX2_walk_79 rfl 2 rfl ?_
    refine J_bipush C dX2_walk_80 kcb_99 ?_
    refine J_puti C fk7_1 W1_126 fp7_1 h1 dX2_walk_82 ?_
    refine J_mlet (fun M12 => ?_)
    refine J_goto (tgt := 119) C dX2_walk_85 (by decide) ?_
    exact J_vret C RT dX2_walk_119
def s2_walk_30 (n : Nat) (o0 : Nat) (o1 : Nat) (t0 : Int32) (t1 : Int32) (q2 : Nat) (M : Mem) : Option Res := mlet (mset M q2 1 (t1 + t0)) (fun M3 => if (100 : Int32) ≤ (M3 o1 1) then (if (M3 (link o0 0) 0) ≤ ((M3 o1 0) + (1 : Int32)) then (s2_walk_70 n o0 o1 (0 : Int32) M3) else (s2_walk_70 n o0 o1 ((M3 o1 0) + (1 : Int32)) M3)) else (some (0, M3)))
set_option maxRecDepth 100000 in
set_option maxHeartbeats 4000000 in
theorem b2_walk_30 {w : WE} {g : GT} (C : CT w g RX2 cX2_walk rm2_walk 3) (RT : RTv w g cX2_walk) (n : Nat) (o0 : Nat) (h0 : typ o0 = 2) (o1 : Nat) (h1 : typ o1 = 7) (t0 : Int32) (t1 : Int32) (q2 : Nat) (hq2 : typ q2 = 7) (M : Mem) : J w g (s2_walk_30 n o0 o1 t0 t1 q2 M) M 30 [(0, .ref (wa w o0)), (1, .ref (wa w o1))] [.int t0, .int t1, .ref (wa w q2)] := by
  rw [s2_walk_30]
  refine J_iadd C dX2_walk_30 ?_
  refine J_puti C fk7_1 W1_126 fp7_1 hq2 dX2_walk_31 ?_
  refine J_mlet (fun M3 => ?_)
  refine J_aload_n C dX2_walk_34 rfl 1 rfl ?_
  refine J_geti C fk7_1 W1_126 h1 dX2_walk_35 ?_
  refine J_bipush C dX2_walk_38 kcb_100 ?_
  refine J_icmp_ge (tgt := 44) C dX2_walk_40 (by decide) (fun _ => ?_) (fun _ => ?_)
  · refine J_aload_n C dX2_walk_44 rfl 1 rfl ?_
    refine J_geti C fk7_0 W1_124 h1 dX2_walk_45 ?_
    refine J_iconst C dX2_walk_48 kci_1 ?_
    refine J_iadd C dX2_walk_49 ?_
    refine J_aload_n C dX2_walk_50 rfl 0 rfl ?_
    refine J_getr C fk2_0 W1_162 h0 dX2_walk_51 ?_
    refine J_geti C fk4_0 W1_46 (tl_2_0 h0) dX2_walk_54 ?_
    refine J_icmp_ge (tgt := 69) C dX2_walk_57 (by decide) (fun _ => ?_) (fun _ => ?_)
    · refine J_iconst C dX2_walk_69 kci_0 ?_
      exact b2_walk_70 C RT n o0 h0 o1 h1 (0 : Int32) M3
    · refine J_aload_n C dX2_walk_60 rfl 1 rfl ?_
      refine J_geti C fk7_0 W1_124 h1 dX2_walk_61 ?_
      refine J_iconst C dX2_walk_64 kci_1 ?_
      refine J_iadd C dX2_walk_65 ?_
      refine J_goto (tgt := 70) C dX2_walk_66 (by decide) ?_
      exact b2_walk_70 C RT n o0 h0 o1 h1 ((M3 o1 0) + (1 : Int32)) M3
  · exact J_vret C RT dX2_walk_43
def s2_walk (n : Nat) (o0 : Nat) (o1 : Nat) (M : Mem) : Option Res := cb (s4_hasChair (link o0 0) (M o1 0) M) (fun r2 M1 => if r2 = 0 then (s2_walk_30 n o0 o1 (M1 o1 4) (M o1 1) o1 M1) else (s2_walk_30 n o0 o1 (M1 o1 5) (M o1 1) o1 M1))
set_option maxRecDepth 100000 in
set_option maxHeartbeats 4000000 in
theorem b2_walk {w : WE} {g : GT} (C : CT w g RX2 cX2_walk rm2_walk 3) (RT : RTv w g cX2_walk) (n : Nat) (o0 : Nat) (h0 : typ o0 = 2) (o1 : Nat) (h1 : typ o1 = 7) (M : Mem) : J w g (s2_walk n o0 o1 M) M 0 [(0, .ref (wa w o0)), (1, .ref (wa w o1))] [] := by
  rw [s2_walk]
  refine J_aload_n C dX2_walk_0 rfl 1 rfl ?_
  refine J_dup C rfl dX2_walk_1 ?_
  refine J_geti C fk7_1 W1_126 h1 dX2_walk_2 ?_
  refine J_aload_n C dX2_walk_5 rfl 0 rfl ?_
  refine J_getr C fk2_0 W1_162 h0 dX2_walk_6 ?_
  refine J_aload_n C dX2_walk_9 rfl 1 rfl ?_
  refine J_geti C fk7_0 W1_124 h1 dX2_walk_10 ?_
  refine J_cvi (As := [.int (M o1 0)]) C (c4_hasChair (gl g) w (link o0 0) (tl_2_0 h0) (M o1 0) M) (gd_v W2_217 W2_218 W2_219 W1_4 W2_220) rfl (by decide) (hdX4_hasChair) (tl_2_0 h0) (by decide) (cl_4) rfl (Nat.le_of_ble_eq_true rfl) dX2_walk_13 rfl (fun r2 M1 => ?_)
  refine J_if_eq (tgt := 26) C dX2_walk_16 (by decide) (fun _ => ?_) (fun _ => ?_)
  · refine J_aload_n C dX2_walk_26 rfl 1 rfl ?_
    refine J_geti C fk7_4 W1_133 h1 dX2_walk_27 ?_
    exact b2_walk_30 C RT n o0 h0 o1 h1 (M1 o1 4) (M o1 1) o1 h1 M1
  · refine J_aload_n C dX2_walk_19 rfl 1 rfl ?_
    refine J_geti C fk7_5 W1_136 h1 dX2_walk_20 ?_
    refine J_goto (tgt := 30) C dX2_walk_23 (by decide) ?_
    exact b2_walk_30 C RT n o0 h0 o1 h1 (M1 o1 5) (M o1 1) o1 h1 M1
theorem c2_walk (l : Launch) (w : WE) (n : Nat) (o0 : Nat) (h0 : typ o0 = 2) (o1 : Nat) (h1 : typ o1 = 7) (M : Mem) : MV l w yX2_walk (wz yX2_walk cX2_walk 3 none) rm2_walk [.ref (wa w o0), .ref (wa w o1)] (s2_walk n o0 o1 M) M :=
  mv_of_J (own := RX2) rfl (by decide) rfl rfl (Nat.le_of_ble_eq_true rfl) (fun _ _ C RT => b2_walk C RT n o0 h0 o1 h1 M)
theorem hdX2_walk : yX2_walk.cls = RX2 ∧ yOK yX2_walk 1 := ⟨rfl, by decide, by decide, by decide⟩
abbrev rm2_walkAll : Room := { frames := 2, cells := 0, slots := 0, locals := 44 }
def s2_walkAll_2 (n : Nat) (o0 : Nat) : Nat → Int32 → Mem → Option Res
  | 0, _, _ => none
  | f + 1, x1, M => if (M o0 5) ≤ x1 then (some (0, M)) else (if (12 : Int32) ≤ x1 then (some (0, M)) else (if inB x1 (alen (link o0 3)) then if (M (link (link o0 3) x1.toNatClampNeg) 2) = 0 then (ilet (x1 + 1) (fun v2 => s2_walkAll_2 n o0 f v2 M)) else (if inB x1 (alen (link o0 3)) then cb (s2_walk n o0 (link (link o0 3) x1.toNatClampNeg) M) (fun _ M4 => ilet (x1 + 1) (fun v6 => s2_walkAll_2 n o0 f v6 M4)) else none) else none))
set_option maxRecDepth 100000 in
set_option maxHeartbeats 4000000 in
theorem b2_walkAll_2 {w : WE} {g : GT} (C : CT w g RX2 cX2_walkAll rm2_walkAll 2) (RT : RTv w g cX2_walkAll) (n : Nat) (o0 : Nat) (h0 : typ o0 = 2) : ∀ (f : Nat) (x1 : Int32) (M : Mem), J w g (s2_walkAll_2 n o0 f x1 M) M 2 [(0, .ref (wa w o0)), (1, .int x1)] [] := by
  intro f
  induction f with
  | zero =>
    intro x1 M
    rw [s2_walkAll_2]
    exact J_none
  | succ f ih =>
    intro x1 M
    rw [s2_walkAll_2]
    refine J_iload_n C dX2_walkAll_2 rfl 1 rfl ?_
    refine J_aload_n C dX2_walkAll_3 rfl 0 rfl ?_
    refine J_geti C fk2_5 W1_179 h0 dX2_walkAll_4 ?_
    refine J_icmp_ge (tgt := 44) C dX2_walkAll_7 (by decide) (fun _ => ?_) (fun _ => ?_)
    · exact J_vret C RT dX2_walkAll_44
    · refine J_iload_n C dX2_walkAll_10 rfl 1 rfl ?_
      refine J_bipush C dX2_walkAll_11 kcb_12 ?_
      refine J_icmp_ge (tgt := 44) C dX2_walkAll_13 (by decide) (fun _ => ?_) (fun _ => ?_)
      · exact J_vret C RT dX2_walkAll_44
      · refine J_aload_n C dX2_walkAll_16 rfl 0 rfl ?_
        refine J_getr C fk2_3 W1_174 h0 dX2_walkAll_17 ?_
        refine J_iload_n C dX2_walkAll_20 rfl 1 rfl ?_
        refine J_aaload C (tl_2_3 h0) dX2_walkAll_21 (fun hb1 => ?_)
        refine J_geti C fk7_2 W1_128 (t_wk (tl_2_3 h0) hb1) dX2_walkAll_22 ?_
        refine J_if_eq (tgt := 38) C dX2_walkAll_25 (by decide) (fun _ => ?_) (fun _ => ?_)
        · refine J_iinc (lw := fun v2 => [(1, .int v2), (0, .ref (wa w o0))]) (X := x1 + 1) C dX2_walkAll_38 (q := 1) rfl (by rw [kci_1]) (by decide) (fun _ => rfl) (fun v2 => ?_)
          refine J_goto (tgt := 2) C dX2_walkAll_41 (by decide) ?_
          refine J_lv [1, 0] rfl ?_
          exact ih v2 M
        · refine J_aload_n C dX2_walkAll_28 rfl 0 rfl ?_
          refine J_aload_n C dX2_walkAll_29 rfl 0 rfl ?_
          refine J_getr C fk2_3 W1_174 h0 dX2_walkAll_30 ?_
          refine J_iload_n C dX2_walkAll_33 rfl 1 rfl ?_
          refine J_aaload C (tl_2_3 h0) dX2_walkAll_34 (fun hb3 => ?_)
          refine J_cvv (As := [.ref (wa w (link (link o0 3) x1.toNatClampNeg))]) C (c2_walk (gl g) w n o0 h0 (link (link o0 3) x1.toNatClampNeg) (t_wk (tl_2_3 h0) hb3) M) (gd_v W3_121 W3_123 WP_13 W1_3 W3_124) rfl (by decide) (hdX2_walk) h0 (by decide) (cl_2) rfl (Nat.le_of_ble_eq_true rfl) dX2_walkAll_35 rfl (fun r5 M4 => ?_)
          refine J_iinc (lw := fun v6 => [(1, .int v6), (0, .ref (wa w o0))]) (X := x1 + 1) C dX2_walkAll_38 (q := 1) rfl (by rw [kci_1]) (by decide) (fun _ => rfl) (fun v6 => ?_)
          refine J_goto (tgt := 2) C dX2_walkAll_41 (by decide) ?_
          refine J_lv [1, 0] rfl ?_
          exact ih v6 M4
def s2_walkAll (n : Nat) (o0 : Nat) (M : Mem) : Option Res := s2_walkAll_2 n o0 n (0 : Int32) M
set_option maxRecDepth 100000 in
set_option maxHeartbeats 4000000 in
theorem b2_walkAll {w : WE} {g : GT} (C : CT w g RX2 cX2_walkAll rm2_walkAll 2) (RT : RTv w g cX2_walkAll) (n : Nat) (o0 : Nat) (h0 : typ o0 = 2) (M : Mem) : J w g (s2_walkAll n o0 M) M 0 [(0, .ref (wa w o0))] [] := by
  rw [s2_walkAll]
  refine J_iconst C dX2_walkAll_0 kci_0 ?_
  refine J_istore_n (lv' := [(1, .int (0 : Int32)), (0, .ref (wa w o0))]) C dX2_walkAll_1 rfl (by decide) rfl ?_
  refine J_lv [1, 0] rfl ?_
  exact b2_walkAll_2 C RT n o0 h0 n (0 : Int32) M
theorem c2_walkAll (l : Launch) (w : WE) (n : Nat) (o0 : Nat) (h0 : typ o0 = 2) (M : Mem) : MV l w yX2_walkAll (wz yX2_walkAll cX2_walkAll 2 none) rm2_walkAll [.ref (wa w o0)] (s2_walkAll n o0 M) M :=
  mv_of_J (own := RX2) rfl (by decide) rfl rfl (Nat.le_of_ble_eq_true rfl) (fun _ _ C RT => b2_walkAll C RT n o0 h0 M)
theorem hdX2_walkAll : yX2_walkAll.cls = RX2 ∧ yOK yX2_walkAll 0 := ⟨rfl, by decide, by decide, by decide⟩
abbrev rm4_placeOfChair : Room := { frames := 0, cells := 0, slots := 0, locals := 0 }
def s4_placeOfChair (o0 : Nat) (x1 : Int32) (M : Mem) : Option Res := if x1 < 0 then (some ((-9 : Int32), M)) else (if (M o0 1) ≤ x1 then (some ((-9 : Int32), M)) else (if (11 : Int32) ≤ x1 then (some ((-9 : Int32), M)) else (if inB x1 (alen (link o0 2)) then some (M (link o0 2) x1.toNatClampNeg, M) else none)))
set_option maxRecDepth 100000 in
set_option maxHeartbeats 4000000 in
theorem b4_placeOfChair {w : WE} {g : GT} (C : CT w g RX4 cX4_placeOfChair rm4_placeOfChair 2) (RT : RTi w g cX4_placeOfChair .int) (o0 : Nat) (h0 : typ o0 = 4) (x1 : Int32) (M : Mem) : J w g (s4_placeOfChair o0 x1 M) M 0 [(0, .ref (wa w o0)), (1, .int x1)] [] := by
  rw [s4_placeOfChair]
  refine J_iload_n C dX4_placeOfChair_0 rfl 1 rfl ?_
  refine J_if_lt (tgt := 27) C dX4_placeOfChair_1 (by decide) (fun _ => ?_) (fun _ => ?_)
  · refine J_bipush C dX4_placeOfChair_27 kcb_m9 ?_
    exact J_iret C RT rfl dX4_placeOfChair_29
  · refine J_iload_n C dX4_placeOfChair_4 rfl 1 rfl ?_
    refine J_aload_n C dX4_placeOfChair_5 rfl 0 rfl ?_
    refine J_geti C fk4_1 W1_48 h0 dX4_placeOfChair_6 ?_
    refine J_icmp_ge (tgt := 27) C dX4_placeOfChair_9 (by decide) (fun _ => ?_) (fun _ => ?_)
    · refine J_bipush C dX4_placeOfChair_27 kcb_m9 ?_
      exact J_iret C RT rfl dX4_placeOfChair_29
    · refine J_iload_n C dX4_placeOfChair_12 rfl 1 rfl ?_
      refine J_bipush C dX4_placeOfChair_13 kcb_11 ?_
      refine J_icmp_ge (tgt := 27) C dX4_placeOfChair_15 (by decide) (fun _ => ?_) (fun _ => ?_)
      · refine J_bipush C dX4_placeOfChair_27 kcb_m9 ?_
        exact J_iret C RT rfl dX4_placeOfChair_29
      · refine J_aload_n C dX4_placeOfChair_18 rfl 0 rfl ?_
        refine J_getr C fk4_2 W1_53 h0 dX4_placeOfChair_19 ?_
        refine J_iload_n C dX4_placeOfChair_22 rfl 1 rfl ?_
        refine J_aload_ C (tl_4_2 h0) dX4_placeOfChair_23 ?_
        refine J_goto (tgt := 29) C dX4_placeOfChair_24 (by decide) ?_
        exact J_iret C RT rfl dX4_placeOfChair_29
theorem c4_placeOfChair (l : Launch) (w : WE) (o0 : Nat) (h0 : typ o0 = 4) (x1 : Int32) (M : Mem) : MC l w yX4_placeOfChair (wz yX4_placeOfChair cX4_placeOfChair 2 (some .int)) rm4_placeOfChair [.ref (wa w o0), .int x1] (s4_placeOfChair o0 x1 M) M :=
  mc_of_J (own := RX4) rfl (by decide) rfl rfl (Nat.le_of_ble_eq_true rfl) (fun _ _ C RT => b4_placeOfChair C RT o0 h0 x1 M)
theorem hdX4_placeOfChair : yX4_placeOfChair.cls = RX4 ∧ yOK yX4_placeOfChair 1 := ⟨rfl, by decide, by decide, by decide⟩
abbrev rm4_far : Room := { frames := 0, cells := 0, slots := 0, locals := 0 }
def s4_far_14 (n : Nat) (o0 : Nat) (t0 : Int32) (M : Mem) : Option Res := if t0 ≤ ((M o0 0) - t0) then (some (t0, M)) else (some ((M o0 0) - t0, M))
set_option maxRecDepth 100000 in
set_option maxHeartbeats 4000000 in
theorem b4_far_14 {w : WE} {g : GT} (C : CT w g RX4 cX4_far rm4_far 4) (RT : RTi w g cX4_far .int) (n : Nat) (o0 : Nat) (h0 : typ o0 = 4) (t0 : Int32) (M : Mem) : J w g (s4_far_14 n o0 t0 M) M 14 [(0, .ref (wa w o0))] [.int t0] := by
  rw [s4_far_14]
  refine J_istore_n (lv' := [(3, .int t0), (0, .ref (wa w o0))]) C dX4_far_14 rfl (by decide) rfl ?_
  refine J_iload_n C dX4_far_15 rfl 0 rfl ?_
  refine J_aload_n C dX4_far_16 rfl 1 rfl ?_
  refine J_geti C fk4_0 W1_44 h0 dX4_far_17 ?_
  refine J_iload_n C dX4_far_20 rfl 0 rfl ?_
  refine J_isub C dX4_far_21 ?_
  refine J_icmp_le (tgt := 34) C dX4_far_22 (by decide) (fun _ => ?_) (fun _ => ?_)
  · refine J_iload_n C dX4_far_34 rfl 0 rfl ?_
    exact J_iret C RT rfl dX4_far_35
  · refine J_aload_n C dX4_far_25 rfl 1 rfl ?_
    refine J_geti C fk4_0 W1_44 h0 dX4_far_26 ?_
    refine J_iload_n C dX4_far_29 rfl 0 rfl ?_
    refine J_isub C dX4_far_30 ?_
    refine J_goto (tgt := 35) C dX4_far_31 (by decide) ?_
    exact J_iret C RT rfl dX4_far_35
def s4_far (n : Nat) (o0 : Nat) (x1 : Int32) (x2 : Int32) (M : Mem) : Option Res := if x2 ≤ x1 then (s4_far_14 n o0 (x1 - x2) M) else (s4_far_14 n o0 (x2 - x1) M)
set_option maxRecDepth 100000 in
set_option maxHeartbeats 4000000 in
theorem b4_far {w : WE} {g : GT} (C : CT w g RX4 cX4_far rm4_far 4) (RT : RTi w g cX4_far .int) (n : Nat) (o0 : Nat) (h0 : typ o0 = 4) (x1 : Int32) (x2 : Int32) (M : Mem) : J w g (s4_far n o0 x1 x2 M) M 0 [(0, .ref (wa w o0)), (1, .int x1), (2, .int x2)] [] := by
  rw [s4_far]
  refine J_iload_n C dX4_far_0 rfl 1 rfl ?_
  refine J_iload_n C dX4_far_1 rfl 2 rfl ?_
  refine J_icmp_ge (tgt := 11) C dX4_far_2 (by decide) (fun _ => ?_) (fun _ => ?_)
  · refine J_iload_n C dX4_far_11 rfl 1 rfl ?_
    refine J_iload_n C dX4_far_12 rfl 2 rfl ?_
    refine J_isub C dX4_far_13 ?_
    refine J_lv [0] rfl ?_
    exact b4_far_14 C RT n o0 h0 (x1 - x2) M
  · refine J_iload_n C dX4_far_5 rfl 2 rfl ?_
    refine J_iload_n C dX4_far_6 rfl 1 rfl ?_
    refine J_isub C dX4_far_7 ?_
    refine J_goto (tgt := 14) C dX4_far_8 (by decide) ?_
    refine J_lv [0] rfl ?_
    exact b4_far_14 C RT n o0 h0 (x2 - x1) M
theorem c4_far (l : Launch) (w : WE) (n : Nat) (o0 : Nat) (h0 : typ o0 = 4) (x1 : Int32) (x2 : Int32) (M : Mem) : MC l w yX4_far (wz yX4_far cX4_far 4 (some .int)) rm4_far [.ref (wa w o0), .int x1, .int x2] (s4_far n o0 x1 x2 M) M :=
  mc_of_J (own := RX4) rfl (by decide) rfl rfl (Nat.le_of_ble_eq_true rfl) (fun _ _ C RT => b4_far C RT n o0 h0 x1 x2 M)
theorem hdX4_far : yX4_far.cls = RX4 ∧ yOK yX4_far 2 := ⟨rfl, by decide, by decide, by decide⟩
abbrev rm7_hasteOver : Room := { frames := 0, cells := 0, slots := 0, locals := 0 }
def s7_hasteOver_138 (n : Nat) (x3 : Int32) (M : Mem) : Option Res := if 0 ≤ x3 then (some (x3, M)) else (some ((0 : Int32), M))
set_option maxRecDepth 100000 in
set_option maxHeartbeats 4000000 in
theorem b7_hasteOver_138 {w : WE} {g : GT} (C : CT w g RX7 cX7_hasteOver rm7_hasteOver 4) (RT : RTi w g cX7_hasteOver .int) (n : Nat) (x3 : Int32) (M : Mem) : J w g (s7_hasteOver_138 n x3 M) M 138 [(3, .int x3)] [] := by
  rw [s7_hasteOver_138]
  refine J_iload_n C dX7_hasteOver_138 rfl 0 rfl ?_
  refine J_if_ge (tgt := 146) C dX7_hasteOver_139 (by decide) (fun _ => ?_) (fun _ => ?_)
  · refine J_iload_n C dX7_hasteOver_146 rfl 0 rfl ?_
    exact J_iret C RT rfl dX7_hasteOver_147
  · refine J_iconst C dX7_hasteOver_142 kci_0 ?_
    refine J_goto (tgt := 147) C dX7_hasteOver_143 (by decide) ?_
    exact J_iret C RT rfl dX7_hasteOver_147
def s7_hasteOver_20 (n : Nat) (o0 : Nat) (t0 : Int32) (M : Mem) : Option Res := if (M o0 3) = 1 then (ilet (t0 - (M o0 7)) (fun v1 => s7_hasteOver_138 n v1 M)) else (if (M o0 3) = 2 then (ilet (t0 + (M o0 7)) (fun v2 => s7_hasteOver_138 n v2 M)) else (if (M o0 3) = 3 then (ilet ((t0 - (M o0 7)) - ((9 : Int32) - (M o0 8))) (fun v3 => s7_hasteOver_138 n v3 M)) else (if (M o0 3) = 4 then (ilet ((2 : Int32) * t0) (fun v4 => s7_hasteOver_138 n v4 M)) else (if (M o0 3) = 5 then (ilet ((t0 - (M o0 7)) / (2 : Int32)) (fun v5 => s7_hasteOver_138 n v5 M)) else (if (M o0 3) = 6 then (ilet ((t0 + (M o0 7)) + (M o0 8)) (fun v6 => s7_hasteOver_138 n v6 M)) else (s7_hasteOver_138 n t0 M))))))
set_option maxRecDepth 100000 in
set_option maxHeartbeats 4000000 in
theorem b7_hasteOver_20 {w : WE} {g : GT} (C : CT w g RX7 cX7_hasteOver rm7_hasteOver 4) (RT : RTi w g cX7_hasteOver .int) (n : Nat) (o0 : Nat) (h0 : typ o0 = 7) (t0 : Int32) (M : Mem) : J w g (s7_hasteOver_20 n o0 t0 M) M 20 [(0, .ref (wa w o0))] [.int t0] := by
  rw [s7_hasteOver_20]
  refine J_istore_n (lv' := [(2, .int t0), (0, .ref (wa w o0))]) C dX7_hasteOver_20 rfl (by decide) rfl ?_
  refine J_aload_n C dX7_hasteOver_21 rfl 1 rfl ?_
  refine J_geti C fk7_3 W1_130 h0 dX7_hasteOver_22 ?_
  refine J_ite (fun hc0 => ?_) (fun hc0 => ?_)
  · refine J_tsin (tgt := 64) C dX7_hasteOver_25 (by rw [hc0]; decide) (by rw [hc0]; decide) (off := 39) (by rw [hc0]; rfl) (by decide) ?_
    refine J_iload_n C dX7_hasteOver_64 rfl 0 rfl ?_
    refine J_aload_n C dX7_hasteOver_65 rfl 1 rfl ?_
    refine J_geti C fk7_7 W1_141 h0 dX7_hasteOver_66 ?_
    refine J_isub C dX7_hasteOver_69 ?_
    refine J_ilet (fun v1 => ?_)
    refine J_istore_n (lv' := [(3, .int v1), (2, .int t0), (0, .ref (wa w o0))]) C dX7_hasteOver_70 rfl (by decide) rfl ?_
    refine J_goto (tgt := 138) C dX7_hasteOver_71 (by decide) ?_
    refine J_lv [0] rfl ?_
    exact b7_hasteOver_138 C RT n v1 M
  · refine J_ite (fun hc1 => ?_) (fun hc1 => ?_)
    · refine J_tsin (tgt := 74) C dX7_hasteOver_25 (by rw [hc1]; decide) (by rw [hc1]; decide) (off := 49) (by rw [hc1]; rfl) (by decide) ?_
      refine J_iload_n C dX7_hasteOver_74 rfl 0 rfl ?_
      refine J_aload_n C dX7_hasteOver_75 rfl 1 rfl ?_
      refine J_geti C fk7_7 W1_141 h0 dX7_hasteOver_76 ?_
      refine J_iadd C dX7_hasteOver_79 ?_
      refine J_ilet (fun v2 => ?_)
      refine J_istore_n (lv' := [(3, .int v2), (2, .int t0), (0, .ref (wa w o0))]) C dX7_hasteOver_80 rfl (by decide) rfl ?_
      refine J_goto (tgt := 138) C dX7_hasteOver_81 (by decide) ?_
      refine J_lv [0] rfl ?_
      exact b7_hasteOver_138 C RT n v2 M
    · refine J_ite (fun hc2 => ?_) (fun hc2 => ?_)
      · refine J_tsin (tgt := 84) C dX7_hasteOver_25 (by rw [hc2]; decide) (by rw [hc2]; decide) (off := 59) (by rw [hc2]; rfl) (by decide) ?_
        refine J_iload_n C dX7_hasteOver_84 rfl 0 rfl ?_
        refine J_aload_n C dX7_hasteOver_85 rfl 1 rfl ?_
        refine J_geti C fk7_7 W1_141 h0 dX7_hasteOver_86 ?_
        refine J_isub C dX7_hasteOver_89 ?_
        refine J_bipush C dX7_hasteOver_90 kcb_9 ?_
        refine J_aload_n C dX7_hasteOver_92 rfl 1 rfl ?_
        refine J_geti C fk7_8 W1_142 h0 dX7_hasteOver_93 ?_
        refine J_isub C dX7_hasteOver_96 ?_
        refine J_isub C dX7_hasteOver_97 ?_
        refine J_ilet (fun v3 => ?_)
        refine J_istore_n (lv' := [(3, .int v3), (2, .int t0), (0, .ref (wa w o0))]) C dX7_hasteOver_98 rfl (by decide) rfl ?_
        refine J_goto (tgt := 138) C dX7_hasteOver_99 (by decide) ?_
        refine J_lv [0] rfl ?_
        exact b7_hasteOver_138 C RT n v3 M
      · refine J_ite (fun hc3 => ?_) (fun hc3 => ?_)
        · refine J_tsin (tgt := 102) C dX7_hasteOver_25 (by rw [hc3]; decide) (by rw [hc3]; decide) (off := 77) (by rw [hc3]; rfl) (by decide) ?_
          refine J_iconst C dX7_hasteOver_102 kci_2 ?_
          refine J_iload_n C dX7_hasteOver_103 rfl 0 rfl ?_
          refine J_imul C dX7_hasteOver_104 ?_
          refine J_ilet (fun v4 => ?_)
          refine J_istore_n (lv' := [(3, .int v4), (2, .int t0), (0, .ref (wa w o0))]) C dX7_hasteOver_105 rfl (by decide) rfl ?_
          refine J_goto (tgt := 138) C dX7_hasteOver_106 (by decide) ?_
          refine J_lv [0] rfl ?_
          exact b7_hasteOver_138 C RT n v4 M
        · refine J_ite (fun hc4 => ?_) (fun hc4 => ?_)
          · refine J_tsin (tgt := 109) C dX7_hasteOver_25 (by rw [hc4]; decide) (by rw [hc4]; decide) (off := 84) (by rw [hc4]; rfl) (by decide) ?_
            refine J_iload_n C dX7_hasteOver_109 rfl 0 rfl ?_
            refine J_aload_n C dX7_hasteOver_110 rfl 1 rfl ?_
            refine J_geti C fk7_7 W1_141 h0 dX7_hasteOver_111 ?_
            refine J_isub C dX7_hasteOver_114 ?_
            refine J_iconst C dX7_hasteOver_115 kci_2 ?_
            refine J_idiv_c C (by decide) dX7_hasteOver_116 ?_
            refine J_ilet (fun v5 => ?_)
            refine J_istore_n (lv' := [(3, .int v5), (2, .int t0), (0, .ref (wa w o0))]) C dX7_hasteOver_117 rfl (by decide) rfl ?_
            refine J_goto (tgt := 138) C dX7_hasteOver_118 (by decide) ?_
            refine J_lv [0] rfl ?_
            exact b7_hasteOver_138 C RT n v5 M
          · refine J_ite (fun hc5 => ?_) (fun hc5 => ?_)
            · refine J_tsin (tgt := 121) C dX7_hasteOver_25 (by rw [hc5]; decide) (by rw [hc5]; decide) (off := 96) (by rw [hc5]; rfl) (by decide) ?_
              refine J_iload_n C dX7_hasteOver_121 rfl 0 rfl ?_
              refine J_aload_n C dX7_hasteOver_122 rfl 1 rfl ?_
              refine J_geti C fk7_7 W1_141 h0 dX7_hasteOver_123 ?_
              refine J_iadd C dX7_hasteOver_126 ?_
              refine J_aload_n C dX7_hasteOver_127 rfl 1 rfl ?_
              refine J_geti C fk7_8 W1_142 h0 dX7_hasteOver_128 ?_
              refine J_iadd C dX7_hasteOver_131 ?_
              refine J_ilet (fun v6 => ?_)
              refine J_istore_n (lv' := [(3, .int v6), (2, .int t0), (0, .ref (wa w o0))]) C dX7_hasteOver_132 rfl (by decide) rfl ?_
              refine J_goto (tgt := 138) C dX7_hasteOver_133 (by decide) ?_
              refine J_lv [0] rfl ?_
              exact b7_hasteOver_138 C RT n v6 M
            · refine J_tsout (tgt := 136) C dX7_hasteOver_25 (by have q0 := lv_neT hc0 (a := 1) rfl; have q1 := lv_neT hc1 (a := 2) rfl; have q2 := lv_neT hc2 (a := 3) rfl; have q3 := lv_neT hc3 (a := 4) rfl; have q4 := lv_neT hc4 (a := 5) rfl; have q5 := lv_neT hc5 (a := 6) rfl; omega) (by decide) ?_
              refine J_iload_n C dX7_hasteOver_136 rfl 0 rfl ?_
              refine J_istore_n (lv' := [(3, .int t0), (2, .int t0), (0, .ref (wa w o0))]) C dX7_hasteOver_137 rfl (by decide) rfl ?_
              refine J_lv [0] rfl ?_
              exact b7_hasteOver_138 C RT n t0 M
def s7_hasteOver (n : Nat) (o0 : Nat) (x1 : Int32) (M : Mem) : Option Res := if (M o0 4) ≤ 0 then (s7_hasteOver_20 n o0 (0 : Int32) M) else (if (M o0 4) = 0 then none else s7_hasteOver_20 n o0 ((x1 * (100 : Int32)) / (M o0 4)) M)
set_option maxRecDepth 100000 in
set_option maxHeartbeats 4000000 in
theorem b7_hasteOver {w : WE} {g : GT} (C : CT w g RX7 cX7_hasteOver rm7_hasteOver 4) (RT : RTi w g cX7_hasteOver .int) (n : Nat) (o0 : Nat) (h0 : typ o0 = 7) (x1 : Int32) (M : Mem) : J w g (s7_hasteOver n o0 x1 M) M 0 [(0, .ref (wa w o0)), (1, .int x1)] [] := by
  rw [s7_hasteOver]
  refine J_aload_n C dX7_hasteOver_0 rfl 0 rfl ?_
  refine J_geti C fk7_4 W1_132 h0 dX7_hasteOver_1 ?_
  refine J_if_le (tgt := 19) C dX7_hasteOver_4 (by decide) (fun _ => ?_) (fun _ => ?_)
  · refine J_iconst C dX7_hasteOver_19 kci_0 ?_
    refine J_lv [0] rfl ?_
    exact b7_hasteOver_20 C RT n o0 h0 (0 : Int32) M
  · refine J_iload_n C dX7_hasteOver_7 rfl 1 rfl ?_
    refine J_bipush C dX7_hasteOver_8 kcb_100 ?_
    refine J_imul C dX7_hasteOver_10 ?_
    refine J_aload_n C dX7_hasteOver_11 rfl 0 rfl ?_
    refine J_geti C fk7_4 W1_132 h0 dX7_hasteOver_12 ?_
    refine J_idiv C dX7_hasteOver_15 ?_
    refine J_goto (tgt := 20) C dX7_hasteOver_16 (by decide) ?_
    refine J_lv [0] rfl ?_
    exact b7_hasteOver_20 C RT n o0 h0 ((x1 * (100 : Int32)) / (M o0 4)) M
theorem c7_hasteOver (l : Launch) (w : WE) (n : Nat) (o0 : Nat) (h0 : typ o0 = 7) (x1 : Int32) (M : Mem) : MC l w yX7_hasteOver (wz yX7_hasteOver cX7_hasteOver 4 (some .int)) rm7_hasteOver [.ref (wa w o0), .int x1] (s7_hasteOver n o0 x1 M) M :=
  mc_of_J (own := RX7) rfl (by decide) rfl rfl (Nat.le_of_ble_eq_true rfl) (fun _ _ C RT => b7_hasteOver C RT n o0 h0 x1 M)
theorem hdX7_hasteOver : yX7_hasteOver.cls = RX7 ∧ yOK yX7_hasteOver 1 := ⟨rfl, by decide, by decide, by decide⟩
abbrev rm5_measure : Room := { frames := 1, cells := 0, slots := 0, locals := 23 }
def s5_measure_152 (n : Nat) (k75 : Int32 → Mem → Option Res) (k100 : Int32 → Mem → Option Res) (o0 : Nat) (o1 : Nat) (x2 : Int32) (o3 : Nat) (x4 : Int32) (x5 : Int32) (t0 : Int32) (M : Mem) : Option Res := if t0 = 0 then (if inB ((x2 * (11 : Int32)) + x4) (alen (link o0 1)) then mlet (mset M (link o0 1) ((x2 * (11 : Int32)) + x4).toNatClampNeg (2147483647 : Int32)) (fun M10 => ilet (x4 + 1) (fun v11 => k100 v11 M10)) else none) else (cb (s7_hasteOver n o3 x5 M) (fun r13 M12 => if inB ((x2 * (11 : Int32)) + x4) (alen (link o0 1)) then mlet (mset M12 (link o0 1) ((x2 * (11 : Int32)) + x4).toNatClampNeg r13) (fun M14 => ilet (x4 + 1) (fun v15 => k100 v15 M14)) else none))
set_option maxRecDepth 100000 in
set_option maxHeartbeats 4000000 in
theorem b5_measure_152 {w : WE} {g : GT} (C : CT w g RX5 cX5_measure rm5_measure 7) (RT : RTv w g cX5_measure) (n : Nat) (k75 : Int32 → Mem → Option Res) (k100 : Int32 → Mem → Option Res) (o0 : Nat) (h0 : typ o0 = 5) (o1 : Nat) (h1 : typ o1 = 2) (x2 : Int32) (o3 : Nat) (h3 : typ o3 = 7) (x4 : Int32) (x5 : Int32) (t0 : Int32) (hk75 : ∀ (z2 : Int32) (M : Mem), J w g (k75 z2 M) M 75 [(0, .ref (wa w o0)), (1, .ref (wa w o1)), (2, .int z2)] []) (hk100 : ∀ (z4 : Int32) (M : Mem), J w g (k100 z4 M) M 100 [(0, .ref (wa w o0)), (1, .ref (wa w o1)), (2, .int x2), (3, .ref (wa w o3)), (4, .int z4)] []) (M : Mem) : J w g (s5_measure_152 n k75 k100 o0 o1 x2 o3 x4 x5 t0 M) M 152 [(0, .ref (wa w o0)), (1, .ref (wa w o1)), (2, .int x2), (3, .ref (wa w o3)), (4, .int x4), (5, .int x5)] [.int t0] := by
  rw [s5_measure_152]
  refine J_istore (lv' := [(6, .int t0), (0, .ref (wa w o0)), (1, .ref (wa w o1)), (2, .int x2), (3, .ref (wa w o3)), (4, .int x4), (5, .int x5)]) C dX5_measure_152 (by decide) rfl ?_
  refine J_aload_n C dX5_measure_154 rfl 1 rfl ?_
  refine J_getr C fk5_1 W1_98 h0 dX5_measure_155 ?_
  refine J_iload_n C dX5_measure_158 rfl 3 rfl ?_
  refine J_bipush C dX5_measure_159 kcb_11 ?_
  refine J_imul C dX5_measure_161 ?_
  refine J_iload C dX5_measure_162 5 rfl ?_
  refine J_iadd C dX5_measure_164 ?_
  refine J_iload C dX5_measure_165 0 rfl ?_
  refine J_if_eq (tgt := 179) C dX5_measure_167 (by decide) (fun _ => ?_) (fun _ => ?_)
  · refine J_ldc C W3_158 dX5_measure_179 ?_
    refine J_iastore C (tl_5_1 h0) dX5_measure_181 ?_
    refine J_mlet (fun M10 => ?_)
    refine J_iinc (lw := fun v11 => [(4, .int v11), (6, .int t0), (0, .ref (wa w o0)), (1, .ref (wa w o1)), (2, .int x2), (3, .ref (wa w o3)), (5, .int x5)]) (X := x4 + 1) C dX5_measure_182 (q := 5) rfl (by rw [kci_1]) (by decide) (fun _ => rfl) (fun v11 => ?_)
    refine J_goto (tgt := 100) C dX5_measure_185 (by decide) ?_
    refine J_lv [2, 3, 4, 5, 0] rfl ?_
    exact hk100 v11 M10
  · refine J_aload_n C dX5_measure_170 rfl 4 rfl ?_
    refine J_iload C dX5_measure_171 6 rfl ?_
    refine J_cvi (As := [.int x5]) C (c7_hasteOver (gl g) w n o3 h3 x5 M) (gd_v W3_157 W3_94 W3_95 W1_7 W3_96) rfl (by decide) (hdX7_hasteOver) h3 (by decide) (cl_7) rfl (Nat.le_of_ble_eq_true rfl) dX5_measure_173 rfl (fun r13 M12 => ?_)
    refine J_goto (tgt := 181) C dX5_measure_176 (by decide) ?_
    refine J_iastore C (tl_5_1 h0) dX5_measure_181 ?_
    refine J_mlet (fun M14 => ?_)
    refine J_iinc (lw := fun v15 => [(4, .int v15), (6, .int t0), (0, .ref (wa w o0)), (1, .ref (wa w o1)), (2, .int x2), (3, .ref (wa w o3)), (5, .int x5)]) (X := x4 + 1) C dX5_measure_182 (q := 5) rfl (by rw [kci_1]) (by decide) (fun _ => rfl) (fun v15 => ?_)
    refine J_goto (tgt := 100) C dX5_measure_185 (by decide) ?_
    refine J_lv [2, 3, 4, 5, 0] rfl ?_
    exact hk100 v15 M14
def s5_measure_151 (n : Nat) (k75 : Int32 → Mem → Option Res) (k100 : Int32 → Mem → Option Res) (o0 : Nat) (o1 : Nat) (x2 : Int32) (o3 : Nat) (x4 : Int32) (x5 : Int32) (M : Mem) : Option Res := s5_measure_152 n k75 k100 o0 o1 x2 o3 x4 x5 (0 : Int32) M
set_option maxRecDepth 100000 in
set_option maxHeartbeats 4000000 in
theorem b5_measure_151 {w : WE} {g : GT} (C : CT w g RX5 cX5_measure rm5_measure 7) (RT : RTv w g cX5_measure) (n : Nat) (k75 : Int32 → Mem → Option Res) (k100 : Int32 → Mem → Option Res) (o0 : Nat) (h0 : typ o0 = 5) (o1 : Nat) (h1 : typ o1 = 2) (x2 : Int32) (o3 : Nat) (h3 : typ o3 = 7) (x4 : Int32) (x5 : Int32) (hk75 : ∀ (z2 : Int32) (M : Mem), J w g (k75 z2 M) M 75 [(0, .ref (wa w o0)), (1, .ref (wa w o1)), (2, .int z2)] []) (hk100 : ∀ (z4 : Int32) (M : Mem), J w g (k100 z4 M) M 100 [(0, .ref (wa w o0)), (1, .ref (wa w o1)), (2, .int x2), (3, .ref (wa w o3)), (4, .int z4)] []) (M : Mem) : J w g (s5_measure_151 n k75 k100 o0 o1 x2 o3 x4 x5 M) M 151 [(0, .ref (wa w o0)), (1, .ref (wa w o1)), (2, .int x2), (3, .ref (wa w o3)), (4, .int x4), (5, .int x5)] [] := by
  rw [s5_measure_151]
  refine J_iconst C dX5_measure_151 kci_0 ?_
  exact b5_measure_152 C RT n k75 k100 o0 h0 o1 h1 x2 o3 h3 x4 x5 (0 : Int32) hk75 hk100 M
def s5_measure_100 (n : Nat) (k75 : Int32 → Mem → Option Res) (o0 : Nat) (o1 : Nat) (x2 : Int32) (o3 : Nat) : Nat → Int32 → Mem → Option Res
  | 0, _, _ => none
  | f + 1, x4, M => if (M o0 4) ≤ x4 then (ilet (x2 + 1) (fun v5 => k75 v5 M)) else (cb (s4_placeOfChair (link o1 0) x4 M) (fun r7 M6 => cb (s4_far n (link o1 0) (M o3 0) r7 M6) (fun r9 M8 => if (M8 o3 2) = 0 then (s5_measure_151 n k75 (s5_measure_100 n k75 o0 o1 x2 o3 f) o0 o1 x2 o3 x4 r9 M8) else (if (M8 o3 6) < r9 then (s5_measure_151 n k75 (s5_measure_100 n k75 o0 o1 x2 o3 f) o0 o1 x2 o3 x4 r9 M8) else (s5_measure_152 n k75 (s5_measure_100 n k75 o0 o1 x2 o3 f) o0 o1 x2 o3 x4 r9 (1 : Int32) M8)))))
set_option maxRecDepth 100000 in
set_option maxHeartbeats 4000000 in
theorem b5_measure_100 {w : WE} {g : GT} (C : CT w g RX5 cX5_measure rm5_measure 7) (RT : RTv w g cX5_measure) (n : Nat) (k75 : Int32 → Mem → Option Res) (o0 : Nat) (h0 : typ o0 = 5) (o1 : Nat) (h1 : typ o1 = 2) (x2 : Int32) (o3 : Nat) (h3 : typ o3 = 7) (hk75 : ∀ (z2 : Int32) (M : Mem), J w g (k75 z2 M) M 75 [(0, .ref (wa w o0)), (1, .ref (wa w o1)), (2, .int z2)] []) : ∀ (f : Nat) (x4 : Int32) (M : Mem), J w g (s5_measure_100 n k75 o0 o1 x2 o3 f x4 M) M 100 [(0, .ref (wa w o0)), (1, .ref (wa w o1)), (2, .int x2), (3, .ref (wa w o3)), (4, .int x4)] [] := by
  intro f
  induction f with
  | zero =>
    intro x4 M
    rw [s5_measure_100]
    exact J_none
  | succ f ih =>
    intro x4 M
    rw [s5_measure_100]
    refine J_iload C dX5_measure_100 4 rfl ?_
    refine J_aload_n C dX5_measure_102 rfl 0 rfl ?_
    refine J_geti C fk5_4 W1_101 h0 dX5_measure_103 ?_
    refine J_icmp_ge (tgt := 188) C dX5_measure_106 (by decide) (fun _ => ?_) (fun _ => ?_)
    · refine J_iinc (lw := fun v5 => [(2, .int v5), (0, .ref (wa w o0)), (1, .ref (wa w o1)), (3, .ref (wa w o3)), (4, .int x4)]) (X := x2 + 1) C dX5_measure_188 (q := 2) rfl (by rw [kci_1]) (by decide) (fun _ => rfl) (fun v5 => ?_)
      refine J_goto (tgt := 75) C dX5_measure_191 (by decide) ?_
      refine J_lv [1, 2, 0] rfl ?_
      exact hk75 v5 M
    · refine J_aload_n C dX5_measure_109 rfl 1 rfl ?_
      refine J_getr C fk2_0 W1_163 h1 dX5_measure_110 ?_
      refine J_aload_n C dX5_measure_113 rfl 3 rfl ?_
      refine J_geti C fk7_0 W1_121 h3 dX5_measure_114 ?_
      refine J_aload_n C dX5_measure_117 rfl 1 rfl ?_
      refine J_getr C fk2_0 W1_163 h1 dX5_measure_118 ?_
      refine J_iload C dX5_measure_121 4 rfl ?_
      refine J_cvi (As := [.int x4]) C (c4_placeOfChair (gl g) w (link o1 0) (tl_2_0 h1) x4 M) (gd_v W3_152 W3_153 W3_154 W1_4 W3_155) rfl (by decide) (hdX4_placeOfChair) (tl_2_0 h1) (by decide) (cl_4) rfl (Nat.le_of_ble_eq_true rfl) dX5_measure_123 rfl (fun r7 M6 => ?_)
      refine J_cvi (As := [.int (M o3 0), .int r7]) C (c4_far (gl g) w n (link o1 0) (tl_2_0 h1) (M o3 0) r7 M6) (gd_v W3_156 W3_90 W3_91 W1_4 W3_92) rfl (by decide) (hdX4_far) (tl_2_0 h1) (by decide) (cl_4) rfl (Nat.le_of_ble_eq_true rfl) dX5_measure_126 rfl (fun r9 M8 => ?_)
      refine J_istore (lv' := [(5, .int r9), (0, .ref (wa w o0)), (1, .ref (wa w o1)), (2, .int x2), (3, .ref (wa w o3)), (4, .int x4)]) C dX5_measure_129 (by decide) rfl ?_
      refine J_aload_n C dX5_measure_131 rfl 4 rfl ?_
      refine J_geti C fk7_2 W1_129 h3 dX5_measure_132 ?_
      refine J_if_eq (tgt := 151) C dX5_measure_135 (by decide) (fun _ => ?_) (fun _ => ?_)
      · refine J_lv [1, 2, 3, 4, 5, 0] rfl ?_
        exact b5_measure_151 C RT n k75 (s5_measure_100 n k75 o0 o1 x2 o3 f) o0 h0 o1 h1 x2 o3 h3 x4 r9 hk75 ih M8
      · refine J_iload C dX5_measure_138 0 rfl ?_
        refine J_aload_n C dX5_measure_140 rfl 4 rfl ?_
        refine J_geti C fk7_6 W1_139 h3 dX5_measure_141 ?_
        refine J_icmp_gt (tgt := 151) C dX5_measure_144 (by decide) (fun _ => ?_) (fun _ => ?_)
        · refine J_lv [1, 2, 3, 4, 5, 0] rfl ?_
          exact b5_measure_151 C RT n k75 (s5_measure_100 n k75 o0 o1 x2 o3 f) o0 h0 o1 h1 x2 o3 h3 x4 r9 hk75 ih M8
        · refine J_iconst C dX5_measure_147 kci_1 ?_
          refine J_goto (tgt := 152) C dX5_measure_148 (by decide) ?_
          refine J_lv [1, 2, 3, 4, 5, 0] rfl ?_
          exact b5_measure_152 C RT n k75 (s5_measure_100 n k75 o0 o1 x2 o3 f) o0 h0 o1 h1 x2 o3 h3 x4 r9 (1 : Int32) hk75 ih M8
def s5_measure_75 (n : Nat) (o0 : Nat) (o1 : Nat) : Nat → Int32 → Mem → Option Res
  | 0, _, _ => none
  | f + 1, x2, M => if (M o0 3) ≤ x2 then (some (0, M)) else (if inB x2 (alen (link o1 3)) then if inB x2 (alen (link o0 0)) then mlet (mset M (link o0 0) x2.toNatClampNeg (-1 : Int32)) (fun M4 => s5_measure_100 n (s5_measure_75 n o0 o1 f) o0 o1 x2 (link (link o1 3) x2.toNatClampNeg) n (0 : Int32) M4) else none else none)
set_option maxRecDepth 100000 in
set_option maxHeartbeats 4000000 in
theorem b5_measure_75 {w : WE} {g : GT} (C : CT w g RX5 cX5_measure rm5_measure 7) (RT : RTv w g cX5_measure) (n : Nat) (o0 : Nat) (h0 : typ o0 = 5) (o1 : Nat) (h1 : typ o1 = 2) : ∀ (f : Nat) (x2 : Int32) (M : Mem), J w g (s5_measure_75 n o0 o1 f x2 M) M 75 [(0, .ref (wa w o0)), (1, .ref (wa w o1)), (2, .int x2)] [] := by
  intro f
  induction f with
  | zero =>
    intro x2 M
    rw [s5_measure_75]
    exact J_none
  | succ f ih =>
    intro x2 M
    rw [s5_measure_75]
    refine J_iload_n C dX5_measure_75 rfl 2 rfl ?_
    refine J_aload_n C dX5_measure_76 rfl 0 rfl ?_
    refine J_geti C fk5_3 W1_100 h0 dX5_measure_77 ?_
    refine J_icmp_ge (tgt := 194) C dX5_measure_80 (by decide) (fun _ => ?_) (fun _ => ?_)
    · exact J_vret C RT dX5_measure_194
    · refine J_aload_n C dX5_measure_83 rfl 1 rfl ?_
      refine J_getr C fk2_3 W1_175 h1 dX5_measure_84 ?_
      refine J_iload_n C dX5_measure_87 rfl 2 rfl ?_
      refine J_aaload C (tl_2_3 h1) dX5_measure_88 (fun hb3 => ?_)
      refine J_astore_n (lv' := [(3, .ref (wa w (link (link o1 3) x2.toNatClampNeg))), (0, .ref (wa w o0)), (1, .ref (wa w o1)), (2, .int x2)]) C dX5_measure_89 rfl (by decide) rfl ?_
      refine J_aload_n C dX5_measure_90 rfl 1 rfl ?_
      refine J_getr C fk5_0 W1_97 h0 dX5_measure_91 ?_
      refine J_iload_n C dX5_measure_94 rfl 3 rfl ?_
      refine J_iconst C dX5_measure_95 kci_m1 ?_
      refine J_iastore C (tl_5_0 h0) dX5_measure_96 ?_
      refine J_mlet (fun M4 => ?_)
      refine J_iconst C dX5_measure_97 kci_0 ?_
      refine J_istore (lv' := [(4, .int (0 : Int32)), (3, .ref (wa w (link (link o1 3) x2.toNatClampNeg))), (0, .ref (wa w o0)), (1, .ref (wa w o1)), (2, .int x2)]) C dX5_measure_98 (by decide) rfl ?_
      refine J_lv [2, 3, 4, 1, 0] rfl ?_
      exact b5_measure_100 C RT n (s5_measure_75 n o0 o1 f) o0 h0 o1 h1 x2 (link (link o1 3) x2.toNatClampNeg) (t_wk (tl_2_3 h1) hb3) ih n (0 : Int32) M4
def s5_measure_52 (n : Nat) (o0 : Nat) (o1 : Nat) : Nat → Int32 → Mem → Option Res
  | 0, _, _ => none
  | f + 1, x2, M => if (M o0 4) ≤ x2 then (s5_measure_75 n o0 o1 n (0 : Int32) M) else (if inB x2 (alen (link o0 2)) then mlet (mset M (link o0 2) x2.toNatClampNeg (vp_nar .boolean (1 : Int32))) (fun M16 => ilet (x2 + 1) (fun v17 => s5_measure_52 n o0 o1 f v17 M16)) else none)
set_option maxRecDepth 100000 in
set_option maxHeartbeats 4000000 in
theorem b5_measure_52 {w : WE} {g : GT} (C : CT w g RX5 cX5_measure rm5_measure 7) (RT : RTv w g cX5_measure) (n : Nat) (o0 : Nat) (h0 : typ o0 = 5) (o1 : Nat) (h1 : typ o1 = 2) : ∀ (f : Nat) (x2 : Int32) (M : Mem), J w g (s5_measure_52 n o0 o1 f x2 M) M 52 [(0, .ref (wa w o0)), (1, .ref (wa w o1)), (2, .int x2)] [] := by
  intro f
  induction f with
  | zero =>
    intro x2 M
    rw [s5_measure_52]
    exact J_none
  | succ f ih =>
    intro x2 M
    rw [s5_measure_52]
    refine J_iload_n C dX5_measure_52 rfl 2 rfl ?_
    refine J_aload_n C dX5_measure_53 rfl 0 rfl ?_
    refine J_geti C fk5_4 W1_101 h0 dX5_measure_54 ?_
    refine J_icmp_ge (tgt := 73) C dX5_measure_57 (by decide) (fun _ => ?_) (fun _ => ?_)
    · refine J_iconst C dX5_measure_73 kci_0 ?_
      refine J_istore_n (lv' := [(2, .int (0 : Int32)), (0, .ref (wa w o0)), (1, .ref (wa w o1))]) C dX5_measure_74 rfl (by decide) rfl ?_
      refine J_lv [1, 2, 0] rfl ?_
      exact b5_measure_75 C RT n o0 h0 o1 h1 n (0 : Int32) M
    · refine J_aload_n C dX5_measure_60 rfl 0 rfl ?_
      refine J_getr C fk5_2 W1_99 h0 dX5_measure_61 ?_
      refine J_iload_n C dX5_measure_64 rfl 2 rfl ?_
      refine J_iconst C dX5_measure_65 kci_1 ?_
      refine J_zastore C (tl_5_2 h0) dX5_measure_66 ?_
      refine J_mlet (fun M16 => ?_)
      refine J_iinc (lw := fun v17 => [(2, .int v17), (0, .ref (wa w o0)), (1, .ref (wa w o1))]) (X := x2 + 1) C dX5_measure_67 (q := 2) rfl (by rw [kci_1]) (by decide) (fun _ => rfl) (fun v17 => ?_)
      refine J_goto (tgt := 52) C dX5_measure_70 (by decide) ?_
      refine J_lv [1, 2, 0] rfl ?_
      exact ih v17 M16
def s5_measure_19 (n : Nat) (o0 : Nat) (o1 : Nat) (t0 : Int32) (q1 : Nat) (M : Mem) : Option Res := mlet (mset M q1 3 t0) (fun M1 => if (11 : Int32) ≤ (M1 (link o1 0) 1) then (mlet (mset M1 o0 4 (11 : Int32)) (fun M2 => s5_measure_52 n o0 o1 n (0 : Int32) M2)) else (mlet (mset M1 o0 4 (M1 (link o1 0) 1)) (fun M18 => s5_measure_52 n o0 o1 n (0 : Int32) M18)))
set_option maxRecDepth 100000 in
set_option maxHeartbeats 4000000 in
theorem b5_measure_19 {w : WE} {g : GT} (C : CT w g RX5 cX5_measure rm5_measure 7) (RT : RTv w g cX5_measure) (n : Nat) (o0 : Nat) (h0 : typ o0 = 5) (o1 : Nat) (h1 : typ o1 = 2) (t0 : Int32) (q1 : Nat) (hq1 : typ q1 = 5) (M : Mem) : J w g (s5_measure_19 n o0 o1 t0 q1 M) M 19 [(0, .ref (wa w o0)), (1, .ref (wa w o1))] [.int t0, .ref (wa w q1)] := by
  rw [s5_measure_19]
  refine J_puti C fk5_3 W1_100 fp5_3 hq1 dX5_measure_19 ?_
  refine J_mlet (fun M1 => ?_)
  refine J_aload_n C dX5_measure_22 rfl 0 rfl ?_
  refine J_aload_n C dX5_measure_23 rfl 1 rfl ?_
  refine J_getr C fk2_0 W1_163 h1 dX5_measure_24 ?_
  refine J_geti C fk4_1 W1_49 (tl_2_0 h1) dX5_measure_27 ?_
  refine J_bipush C dX5_measure_30 kcb_11 ?_
  refine J_icmp_ge (tgt := 45) C dX5_measure_32 (by decide) (fun _ => ?_) (fun _ => ?_)
  · refine J_bipush C dX5_measure_45 kcb_11 ?_
    refine J_puti C fk5_4 W1_101 fp5_4 h0 dX5_measure_47 ?_
    refine J_mlet (fun M2 => ?_)
    refine J_iconst C dX5_measure_50 kci_0 ?_
    refine J_istore_n (lv' := [(2, .int (0 : Int32)), (0, .ref (wa w o0)), (1, .ref (wa w o1))]) C dX5_measure_51 rfl (by decide) rfl ?_
    refine J_lv [1, 2, 0] rfl ?_
    exact b5_measure_52 C RT n o0 h0 o1 h1 n (0 : Int32) M2
  · refine J_aload_n C dX5_measure_35 rfl 1 rfl ?_
    refine J_getr C fk2_0 W1_163 h1 dX5_measure_36 ?_
    refine J_geti C fk4_1 W1_49 (tl_2_0 h1) dX5_measure_39 ?_
    refine J_goto (tgt := 47) C dX5_measure_42 (by decide) ?_
    refine J_puti C fk5_4 W1_101 fp5_4 h0 dX5_measure_47 ?_
    refine J_mlet (fun M18 => ?_)
    refine J_iconst C dX5_measure_50 kci_0 ?_
    refine J_istore_n (lv' := [(2, .int (0 : Int32)), (0, .ref (wa w o0)), (1, .ref (wa w o1))]) C dX5_measure_51 rfl (by decide) rfl ?_
    refine J_lv [1, 2, 0] rfl ?_
    exact b5_measure_52 C RT n o0 h0 o1 h1 n (0 : Int32) M18
def s5_measure (n : Nat) (o0 : Nat) (o1 : Nat) (M : Mem) : Option Res := if (12 : Int32) ≤ (M o1 5) then (s5_measure_19 n o0 o1 (12 : Int32) o0 M) else (s5_measure_19 n o0 o1 (M o1 5) o0 M)
set_option maxRecDepth 100000 in
set_option maxHeartbeats 4000000 in
theorem b5_measure {w : WE} {g : GT} (C : CT w g RX5 cX5_measure rm5_measure 7) (RT : RTv w g cX5_measure) (n : Nat) (o0 : Nat) (h0 : typ o0 = 5) (o1 : Nat) (h1 : typ o1 = 2) (M : Mem) : J w g (s5_measure n o0 o1 M) M 0 [(0, .ref (wa w o0)), (1, .ref (wa w o1))] [] := by
  rw [s5_measure]
  refine J_aload_n C dX5_measure_0 rfl 0 rfl ?_
  refine J_aload_n C dX5_measure_1 rfl 1 rfl ?_
  refine J_geti C fk2_5 W1_180 h1 dX5_measure_2 ?_
  refine J_bipush C dX5_measure_5 kcb_12 ?_
  refine J_icmp_ge (tgt := 17) C dX5_measure_7 (by decide) (fun _ => ?_) (fun _ => ?_)
  · refine J_bipush C dX5_measure_17 kcb_12 ?_
    exact b5_measure_19 C RT n o0 h0 o1 h1 (12 : Int32) o0 h0 M
  · refine J_aload_n C dX5_measure_10 rfl 1 rfl ?_
    refine J_geti C fk2_5 W1_180 h1 dX5_measure_11 ?_
    refine J_goto (tgt := 19) C dX5_measure_14 (by decide) ?_
    exact b5_measure_19 C RT n o0 h0 o1 h1 (M o1 5) o0 h0 M
theorem c5_measure (l : Launch) (w : WE) (n : Nat) (o0 : Nat) (h0 : typ o0 = 5) (o1 : Nat) (h1 : typ o1 = 2) (M : Mem) : MV l w yX5_measure (wz yX5_measure cX5_measure 7 none) rm5_measure [.ref (wa w o0), .ref (wa w o1)] (s5_measure n o0 o1 M) M :=
  mv_of_J (own := RX5) rfl (by decide) rfl rfl (Nat.le_of_ble_eq_true rfl) (fun _ _ C RT => b5_measure C RT n o0 h0 o1 h1 M)
theorem hdX5_measure : yX5_measure.cls = RX5 ∧ yOK yX5_measure 1 := ⟨rfl, by decide, by decide, by decide⟩
