abbrev rm2_addChair : Room := { frames := 1, cells := 0, slots := 0, locals := 22 }
def s2_addChair (n : Nat) (o0 : Nat) (x1 : Int32) (M : Mem) : Option Res := cb (s4_putChair n (link o0 0) x1 M) (fun _ M1 => mlet (mset M1 o0 9 (0 : Int32)) (fun M3 => some (M3 (link o0 0) 1, M3)))
set_option maxRecDepth 100000 in
set_option maxHeartbeats 4000000 in
theorem b2_addChair {w : WE} {g : GT} (C : CT w g RX2 cX2_addChair rm2_addChair 2) (RT : RTi w g cX2_addChair .int) (n : Nat) (o0 : Nat) (h0 : typ o0 = 2) (x1 : Int32) (M : Mem) : J w g (s2_addChair n o0 x1 M) M 0 [(0, .ref (wa w o0)), (1, .int x1)] [] := by
  rw [s2_addChair]
  refine J_aload_n C dX2_addChair_0 rfl 0 rfl ?_
  refine J_getr C fk2_0 W1_162 h0 dX2_addChair_1 ?_
  refine J_iload_n C dX2_addChair_4 rfl 1 rfl ?_
  refine J_cvv (As := [.int x1]) C (c4_putChair (gl g) w n (link o0 0) (tl_2_0 h0) x1 M) (gd_v W2_225 W2_226 W2_227 W1_4 W2_228) rfl (by decide) (hdX4_putChair) (tl_2_0 h0) (by decide) (cl_4) rfl (Nat.le_of_ble_eq_true rfl) dX2_addChair_5 rfl (fun r2 M1 => ?_)
  refine J_aload_n C dX2_addChair_8 rfl 0 rfl ?_
  refine J_iconst C dX2_addChair_9 kci_0 ?_
  refine J_putzc C (by decide) fk2_9 W1_191 fp2_9 h0 dX2_addChair_10 ?_
  refine J_mlet (fun M3 => ?_)
  refine J_aload_n C dX2_addChair_13 rfl 0 rfl ?_
  refine J_getr C fk2_0 W1_162 h0 dX2_addChair_14 ?_
  refine J_geti C fk4_1 W1_50 (tl_2_0 h0) dX2_addChair_17 ?_
  exact J_iret C RT rfl dX2_addChair_20
theorem c2_addChair (l : Launch) (w : WE) (n : Nat) (o0 : Nat) (h0 : typ o0 = 2) (x1 : Int32) (M : Mem) : MC l w yX2_addChair (wz yX2_addChair cX2_addChair 2 (some .int)) rm2_addChair [.ref (wa w o0), .int x1] (s2_addChair n o0 x1 M) M :=
  mc_of_J (own := RX2) rfl (by decide) rfl rfl (Nat.le_of_ble_eq_true rfl) (fun _ _ C RT => b2_addChair C RT n o0 h0 x1 M)
theorem hdX2_addChair : yX2_addChair.cls = RX2 ∧ yOK yX2_addChair 1 := ⟨rfl, by decide, by decide, by decide⟩
abbrev rm6_seatMore : Room := { frames := 2, cells := 0, slots := 0, locals := 43 }
def s6_seatMore_18 (n : Nat) (o0 : Nat) (o1 : Nat) (t0 : Int32) (M : Mem) : Option Res := if t0 = 0 then (if bz t0 then some (t0, M) else none) else (if inB (0 : Int32) (alen (link o0 1)) then cb (s2_addChair n o1 (M (link o0 1) (0 : Int32).toNatClampNeg) M) (fun r4 M3 => if bz t0 then some (t0, M3) else none) else none)
set_option maxRecDepth 100000 in
set_option maxHeartbeats 4000000 in
theorem b6_seatMore_18 {w : WE} {g : GT} (C : CT w g RX6 cX6_seatMore rm6_seatMore 3) (RT : RTi w g cX6_seatMore .boolean) (n : Nat) (o0 : Nat) (h0 : typ o0 = 6) (o1 : Nat) (h1 : typ o1 = 2) (t0 : Int32) (M : Mem) : J w g (s6_seatMore_18 n o0 o1 t0 M) M 18 [(0, .ref (wa w o0)), (1, .ref (wa w o1))] [.int t0] := by
  rw [s6_seatMore_18]
  refine J_istore_n (lv' := [(2, .int t0), (0, .ref (wa w o0)), (1, .ref (wa w o1))]) C dX6_seatMore_18 rfl (by decide) rfl ?_
  refine J_iload_n C dX6_seatMore_19 rfl 0 rfl ?_
  refine J_if_eq (tgt := 34) C dX6_seatMore_20 (by decide) (fun _ => ?_) (fun _ => ?_)
  · refine J_iload_n C dX6_seatMore_34 rfl 0 rfl ?_
    exact J_zret C RT dX6_seatMore_35
  · refine J_aload_n C dX6_seatMore_23 rfl 2 rfl ?_
    refine J_aload_n C dX6_seatMore_24 rfl 1 rfl ?_
    refine J_getr C fk6_1 W2_16 h0 dX6_seatMore_25 ?_
    refine J_iconst C dX6_seatMore_28 kci_0 ?_
    refine J_aload_ C (tl_6_1 h0) dX6_seatMore_29 ?_
    refine J_cvi (As := [.int (M (link o0 1) (0 : Int32).toNatClampNeg)]) C (c2_addChair (gl g) w n o1 h1 (M (link o0 1) (0 : Int32).toNatClampNeg) M) (gd_v W2_221 W2_222 W2_223 W1_3 W2_224) rfl (by decide) (hdX2_addChair) h1 (by decide) (cl_2) rfl (Nat.le_of_ble_eq_true rfl) dX6_seatMore_30 rfl (fun r4 M3 => ?_)
    refine J_pop C rfl dX6_seatMore_33 ?_
    refine J_iload_n C dX6_seatMore_34 rfl 0 rfl ?_
    exact J_zret C RT dX6_seatMore_35
def s6_seatMore (n : Nat) (o0 : Nat) (o1 : Nat) (M : Mem) : Option Res := if inB (0 : Int32) (alen (link o0 1)) then cb (s2_whyNoChair o1 (M (link o0 1) (0 : Int32).toNatClampNeg) M) (fun r2 M1 => if r2 = 0 then (s6_seatMore_18 n o0 o1 (1 : Int32) M1) else (s6_seatMore_18 n o0 o1 (0 : Int32) M1)) else none
set_option maxRecDepth 100000 in
set_option maxHeartbeats 4000000 in
theorem b6_seatMore {w : WE} {g : GT} (C : CT w g RX6 cX6_seatMore rm6_seatMore 3) (RT : RTi w g cX6_seatMore .boolean) (n : Nat) (o0 : Nat) (h0 : typ o0 = 6) (o1 : Nat) (h1 : typ o1 = 2) (M : Mem) : J w g (s6_seatMore n o0 o1 M) M 0 [(0, .ref (wa w o0)), (1, .ref (wa w o1))] [] := by
  rw [s6_seatMore]
  refine J_aload_n C dX6_seatMore_0 rfl 1 rfl ?_
  refine J_aload_n C dX6_seatMore_1 rfl 0 rfl ?_
  refine J_getr C fk6_1 W2_16 h0 dX6_seatMore_2 ?_
  refine J_iconst C dX6_seatMore_5 kci_0 ?_
  refine J_aload_ C (tl_6_1 h0) dX6_seatMore_6 ?_
  refine J_cvi (As := [.int (M (link o0 1) (0 : Int32).toNatClampNeg)]) C (c2_whyNoChair (gl g) w o1 h1 (M (link o0 1) (0 : Int32).toNatClampNeg) M) (gd_v W2_209 W2_210 W2_211 W1_3 W2_212) rfl (by decide) (hdX2_whyNoChair) h1 (by decide) (cl_2) rfl (Nat.le_of_ble_eq_true rfl) dX6_seatMore_7 rfl (fun r2 M1 => ?_)
  refine J_if_ne (tgt := 17) C dX6_seatMore_10 (by decide) (fun _ => ?_) (fun _ => ?_)
  · refine J_iconst C dX6_seatMore_17 kci_0 ?_
    exact b6_seatMore_18 C RT n o0 h0 o1 h1 (0 : Int32) M1
  · refine J_iconst C dX6_seatMore_13 kci_1 ?_
    refine J_goto (tgt := 18) C dX6_seatMore_14 (by decide) ?_
    exact b6_seatMore_18 C RT n o0 h0 o1 h1 (1 : Int32) M1
theorem c6_seatMore (l : Launch) (w : WE) (n : Nat) (o0 : Nat) (h0 : typ o0 = 6) (o1 : Nat) (h1 : typ o1 = 2) (M : Mem) : MC l w yX6_seatMore (wz yX6_seatMore cX6_seatMore 3 (some .boolean)) rm6_seatMore [.ref (wa w o0), .ref (wa w o1)] (s6_seatMore n o0 o1 M) M :=
  mc_of_J (own := RX6) rfl (by decide) rfl rfl (Nat.le_of_ble_eq_true rfl) (fun _ _ C RT => b6_seatMore C RT n o0 h0 o1 h1 M)
theorem hdX6_seatMore : yX6_seatMore.cls = RX6 ∧ yOK yX6_seatMore 1 := ⟨rfl, by decide, by decide, by decide⟩
abbrev rm2_isStoodOn : Room := { frames := 0, cells := 0, slots := 0, locals := 0 }
def s2_isStoodOn (o0 : Nat) (x1 : Int32) (M : Mem) : Option Res := if x1 < 0 then (some ((0 : Int32), M)) else (if (60 : Int32) ≤ x1 then (some ((0 : Int32), M)) else (if inB x1 (alen (link o0 4)) then if (M (link o0 4) x1.toNatClampNeg) = 0 then (some ((0 : Int32), M)) else (some ((1 : Int32), M)) else none))
set_option maxRecDepth 100000 in
set_option maxHeartbeats 4000000 in
theorem b2_isStoodOn {w : WE} {g : GT} (C : CT w g RX2 cX2_isStoodOn rm2_isStoodOn 2) (RT : RTi w g cX2_isStoodOn .boolean) (o0 : Nat) (h0 : typ o0 = 2) (x1 : Int32) (M : Mem) : J w g (s2_isStoodOn o0 x1 M) M 0 [(0, .ref (wa w o0)), (1, .int x1)] [] := by
  rw [s2_isStoodOn]
  refine J_iload_n C dX2_isStoodOn_0 rfl 1 rfl ?_
  refine J_if_lt (tgt := 23) C dX2_isStoodOn_1 (by decide) (fun _ => ?_) (fun _ => ?_)
  · refine J_iconst C dX2_isStoodOn_23 kci_0 ?_
    exact J_iret C RT (by decide) dX2_isStoodOn_24
  · refine J_iload_n C dX2_isStoodOn_4 rfl 1 rfl ?_
    refine J_bipush C dX2_isStoodOn_5 kcb_60 ?_
    refine J_icmp_ge (tgt := 23) C dX2_isStoodOn_7 (by decide) (fun _ => ?_) (fun _ => ?_)
    · refine J_iconst C dX2_isStoodOn_23 kci_0 ?_
      exact J_iret C RT (by decide) dX2_isStoodOn_24
    · refine J_aload_n C dX2_isStoodOn_10 rfl 0 rfl ?_
      refine J_getr C fk2_4 W1_178 h0 dX2_isStoodOn_11 ?_
      refine J_iload_n C dX2_isStoodOn_14 rfl 1 rfl ?_
      refine J_zaload C (tl_2_4 h0) dX2_isStoodOn_15 ?_
      refine J_if_eq (tgt := 23) C dX2_isStoodOn_16 (by decide) (fun _ => ?_) (fun _ => ?_)
      · refine J_iconst C dX2_isStoodOn_23 kci_0 ?_
        exact J_iret C RT (by decide) dX2_isStoodOn_24
      · refine J_iconst C dX2_isStoodOn_19 kci_1 ?_
        refine J_goto (tgt := 24) C dX2_isStoodOn_20 (by decide) ?_
        exact J_iret C RT (by decide) dX2_isStoodOn_24
theorem c2_isStoodOn (l : Launch) (w : WE) (o0 : Nat) (h0 : typ o0 = 2) (x1 : Int32) (M : Mem) : MC l w yX2_isStoodOn (wz yX2_isStoodOn cX2_isStoodOn 2 (some .boolean)) rm2_isStoodOn [.ref (wa w o0), .int x1] (s2_isStoodOn o0 x1 M) M :=
  mc_of_J (own := RX2) rfl (by decide) rfl rfl (Nat.le_of_ble_eq_true rfl) (fun _ _ C RT => b2_isStoodOn C RT o0 h0 x1 M)
theorem hdX2_isStoodOn : yX2_isStoodOn.cls = RX2 ∧ yOK yX2_isStoodOn 1 := ⟨rfl, by decide, by decide, by decide⟩
abbrev rm2_whyNoWalker : Room := { frames := 1, cells := 0, slots := 0, locals := 22 }
def s2_whyNoWalker (o0 : Nat) (x1 : Int32) (x2 : Int32) (x3 : Int32) (M : Mem) : Option Res := cb (s4_isPlace (link o0 0) x1 M) (fun r2 M1 => if r2 = 0 then (some ((1 : Int32), M1)) else (if x2 < 0 then (some ((1 : Int32), M1)) else (if x2 < (7 : Int32) then (cb (s8_whyNotWithin x3 (1 : Int32) (99 : Int32) M1) (fun r4 M3 => if r4 = 0 then (if (M3 o0 5) < (12 : Int32) then (cb (s2_isStoodOn o0 x1 M3) (fun r6 M5 => if r6 = 0 then (some ((0 : Int32), M5)) else (some ((3 : Int32), M5)))) else (some ((6 : Int32), M3))) else (some (r4, M3)))) else (some ((1 : Int32), M1)))))
set_option maxRecDepth 100000 in
set_option maxHeartbeats 4000000 in
theorem b2_whyNoWalker {w : WE} {g : GT} (C : CT w g RX2 cX2_whyNoWalker rm2_whyNoWalker 5) (RT : RTi w g cX2_whyNoWalker .int) (o0 : Nat) (h0 : typ o0 = 2) (x1 : Int32) (x2 : Int32) (x3 : Int32) (M : Mem) : J w g (s2_whyNoWalker o0 x1 x2 x3 M) M 0 [(0, .ref (wa w o0)), (1, .int x1), (2, .int x2), (3, .int x3)] [] := by
  rw [s2_whyNoWalker]
  refine J_aload_n C dX2_whyNoWalker_0 rfl 0 rfl ?_
  refine J_getr C fk2_0 W1_162 h0 dX2_whyNoWalker_1 ?_
  refine J_iload_n C dX2_whyNoWalker_4 rfl 1 rfl ?_
  refine J_cvi (As := [.int x1]) C (c4_isPlace (gl g) w (link o0 0) (tl_2_0 h0) x1 M) (gd_v W2_213 W2_214 W2_215 W1_4 W2_216) rfl (by decide) (hdX4_isPlace) (tl_2_0 h0) (by decide) (cl_4) rfl (Nat.le_of_ble_eq_true rfl) dX2_whyNoWalker_5 rfl (fun r2 M1 => ?_)
  refine J_if_eq (tgt := 21) C dX2_whyNoWalker_8 (by decide) (fun _ => ?_) (fun _ => ?_)
  · refine J_iconst C dX2_whyNoWalker_21 kci_1 ?_
    exact J_iret C RT rfl dX2_whyNoWalker_22
  · refine J_iload_n C dX2_whyNoWalker_11 rfl 2 rfl ?_
    refine J_if_lt (tgt := 21) C dX2_whyNoWalker_12 (by decide) (fun _ => ?_) (fun _ => ?_)
    · refine J_iconst C dX2_whyNoWalker_21 kci_1 ?_
      exact J_iret C RT rfl dX2_whyNoWalker_22
    · refine J_iload_n C dX2_whyNoWalker_15 rfl 2 rfl ?_
      refine J_bipush C dX2_whyNoWalker_16 kcb_7 ?_
      refine J_icmp_lt (tgt := 23) C dX2_whyNoWalker_18 (by decide) (fun _ => ?_) (fun _ => ?_)
      · refine J_iload_n C dX2_whyNoWalker_23 rfl 3 rfl ?_
        refine J_iconst C dX2_whyNoWalker_24 kci_1 ?_
        refine J_bipush C dX2_whyNoWalker_25 kcb_99 ?_
        refine J_cni (As := [.int x3, .int (1 : Int32), .int (99 : Int32)]) (dm := 0) C (c8_whyNotWithin (gl g) w x3 (1 : Int32) (99 : Int32) M1) (gd_z W2_204) rfl (by decide) (hdX8_whyNotWithin.2) rfl (by decide) W1_1 W2_203 rfl (Nat.le_of_ble_eq_true rfl) dX2_whyNoWalker_27 rfl (fun r4 M3 => ?_)
        refine J_istore (lv' := [(4, .int r4), (0, .ref (wa w o0)), (1, .int x1), (2, .int x2), (3, .int x3)]) C dX2_whyNoWalker_30 (by decide) rfl ?_
        refine J_iload C dX2_whyNoWalker_32 0 rfl ?_
        refine J_if_eq (tgt := 40) C dX2_whyNoWalker_34 (by decide) (fun _ => ?_) (fun _ => ?_)
        · refine J_aload_n C dX2_whyNoWalker_40 rfl 1 rfl ?_
          refine J_geti C fk2_5 W1_179 h0 dX2_whyNoWalker_41 ?_
          refine J_bipush C dX2_whyNoWalker_44 kcb_12 ?_
          refine J_icmp_lt (tgt := 52) C dX2_whyNoWalker_46 (by decide) (fun _ => ?_) (fun _ => ?_)
          · refine J_aload_n C dX2_whyNoWalker_52 rfl 1 rfl ?_
            refine J_iload_n C dX2_whyNoWalker_53 rfl 2 rfl ?_
            refine J_cvi (As := [.int x1]) C (c2_isStoodOn (gl g) w o0 h0 x1 M3) (gd_v W2_238 W2_239 W3_0 W1_3 W3_1) rfl (by decide) (hdX2_isStoodOn) h0 (by decide) (cl_2) rfl (Nat.le_of_ble_eq_true rfl) dX2_whyNoWalker_54 rfl (fun r6 M5 => ?_)
            refine J_if_eq (tgt := 64) C dX2_whyNoWalker_57 (by decide) (fun _ => ?_) (fun _ => ?_)
            · refine J_iconst C dX2_whyNoWalker_64 kci_0 ?_
              exact J_iret C RT rfl dX2_whyNoWalker_65
            · refine J_iconst C dX2_whyNoWalker_60 kci_3 ?_
              refine J_goto (tgt := 65) C dX2_whyNoWalker_61 (by decide) ?_
              exact J_iret C RT rfl dX2_whyNoWalker_65
          · refine J_bipush C dX2_whyNoWalker_49 kcb_6 ?_
            exact J_iret C RT rfl dX2_whyNoWalker_51
        · refine J_iload C dX2_whyNoWalker_37 0 rfl ?_
          exact J_iret C RT rfl dX2_whyNoWalker_39
      · refine J_iconst C dX2_whyNoWalker_21 kci_1 ?_
        exact J_iret C RT rfl dX2_whyNoWalker_22
theorem c2_whyNoWalker (l : Launch) (w : WE) (o0 : Nat) (h0 : typ o0 = 2) (x1 : Int32) (x2 : Int32) (x3 : Int32) (M : Mem) : MC l w yX2_whyNoWalker (wz yX2_whyNoWalker cX2_whyNoWalker 5 (some .int)) rm2_whyNoWalker [.ref (wa w o0), .int x1, .int x2, .int x3] (s2_whyNoWalker o0 x1 x2 x3 M) M :=
  mc_of_J (own := RX2) rfl (by decide) rfl rfl (Nat.le_of_ble_eq_true rfl) (fun _ _ C RT => b2_whyNoWalker C RT o0 h0 x1 x2 x3 M)
theorem hdX2_whyNoWalker : yX2_whyNoWalker.cls = RX2 ∧ yOK yX2_whyNoWalker 3 := ⟨rfl, by decide, by decide, by decide⟩
abbrev rm7_arrive : Room := { frames := 0, cells := 0, slots := 0, locals := 0 }
def s7_arrive_38 (n : Nat) (o0 : Nat) (t0 : Int32) (q1 : Nat) (M : Mem) : Option Res := mlet (mset M q1 5 t0) (fun M6 => mlet (mset M6 o0 6 (9 : Int32)) (fun M7 => mlet (mset M7 o0 7 (5 : Int32)) (fun M8 => mlet (mset M8 o0 8 (5 : Int32)) (fun M9 => some (0, M9)))))
set_option maxRecDepth 100000 in
set_option maxHeartbeats 4000000 in
theorem b7_arrive_38 {w : WE} {g : GT} (C : CT w g RX7 cX7_arrive rm7_arrive 4) (RT : RTv w g cX7_arrive) (n : Nat) (o0 : Nat) (h0 : typ o0 = 7) (t0 : Int32) (q1 : Nat) (hq1 : typ q1 = 7) (M : Mem) : J w g (s7_arrive_38 n o0 t0 q1 M) M 38 [(0, .ref (wa w o0))] [.int t0, .ref (wa w q1)] := by
  rw [s7_arrive_38]
  refine J_puti C fk7_5 W1_134 fp7_5 hq1 dX7_arrive_38 ?_
  refine J_mlet (fun M6 => ?_)
  refine J_aload_n C dX7_arrive_41 rfl 0 rfl ?_
  refine J_bipush C dX7_arrive_42 kcb_9 ?_
  refine J_puti C fk7_6 W1_138 fp7_6 h0 dX7_arrive_44 ?_
  refine J_mlet (fun M7 => ?_)
  refine J_aload_n C dX7_arrive_47 rfl 0 rfl ?_
  refine J_iconst C dX7_arrive_48 kci_5 ?_
  refine J_puti C fk7_7 W1_141 fp7_7 h0 dX7_arrive_49 ?_
  refine J_mlet (fun M8 => ?_)
  refine J_aload_n C dX7_arrive_52 rfl 0 rfl ?_
  refine J_iconst C dX7_arrive_53 kci_5 ?_
  refine J_puti C fk7_8 W1_142 fp7_8 h0 dX7_arrive_54 ?_
  refine J_mlet (fun M9 => ?_)
  exact J_vret C RT dX7_arrive_57
def s7_arrive (n : Nat) (o0 : Nat) (x1 : Int32) (x2 : Int32) (x3 : Int32) (M : Mem) : Option Res := mlet (mset M o0 0 x1) (fun M1 => mlet (mset M1 o0 1 (0 : Int32)) (fun M2 => mlet (mset M2 o0 2 (1 : Int32)) (fun M3 => mlet (mset M3 o0 3 x2) (fun M4 => mlet (mset M4 o0 4 x3) (fun M5 => if (2 : Int32) ≤ x3 then (s7_arrive_38 n o0 (x3 / (2 : Int32)) o0 M5) else (s7_arrive_38 n o0 (1 : Int32) o0 M5))))))
set_option maxRecDepth 100000 in
set_option maxHeartbeats 4000000 in
theorem b7_arrive {w : WE} {g : GT} (C : CT w g RX7 cX7_arrive rm7_arrive 4) (RT : RTv w g cX7_arrive) (n : Nat) (o0 : Nat) (h0 : typ o0 = 7) (x1 : Int32) (x2 : Int32) (x3 : Int32) (M : Mem) : J w g (s7_arrive n o0 x1 x2 x3 M) M 0 [(0, .ref (wa w o0)), (1, .int x1), (2, .int x2), (3, .int x3)] [] := by
  rw [s7_arrive]
  refine J_aload_n C dX7_arrive_0 rfl 0 rfl ?_
  refine J_iload_n C dX7_arrive_1 rfl 1 rfl ?_
  refine J_puti C fk7_0 W1_120 fp7_0 h0 dX7_arrive_2 ?_
  refine J_mlet (fun M1 => ?_)
  refine J_aload_n C dX7_arrive_5 rfl 0 rfl ?_
  refine J_iconst C dX7_arrive_6 kci_0 ?_
  refine J_puti C fk7_1 W1_125 fp7_1 h0 dX7_arrive_7 ?_
  refine J_mlet (fun M2 => ?_)
  refine J_aload_n C dX7_arrive_10 rfl 0 rfl ?_
  refine J_iconst C dX7_arrive_11 kci_1 ?_
  refine J_putzc C (by decide) fk7_2 W1_127 fp7_2 h0 dX7_arrive_12 ?_
  refine J_mlet (fun M3 => ?_)
  refine J_aload_n C dX7_arrive_15 rfl 0 rfl ?_
  refine J_iload_n C dX7_arrive_16 rfl 2 rfl ?_
  refine J_puti C fk7_3 W1_130 fp7_3 h0 dX7_arrive_17 ?_
  refine J_mlet (fun M4 => ?_)
  refine J_aload_n C dX7_arrive_20 rfl 0 rfl ?_
  refine J_iload_n C dX7_arrive_21 rfl 3 rfl ?_
  refine J_puti C fk7_4 W1_132 fp7_4 h0 dX7_arrive_22 ?_
  refine J_mlet (fun M5 => ?_)
  refine J_aload_n C dX7_arrive_25 rfl 0 rfl ?_
  refine J_iload_n C dX7_arrive_26 rfl 3 rfl ?_
  refine J_iconst C dX7_arrive_27 kci_2 ?_
  refine J_icmp_ge (tgt := 35) C dX7_arrive_28 (by decide) (fun _ => ?_) (fun _ => ?_)
  · refine J_iload_n C dX7_arrive_35 rfl 3 rfl ?_
    refine J_iconst C dX7_arrive_36 kci_2 ?_
    refine J_idiv_c C (by decide) dX7_arrive_37 ?_
    refine J_lv [0] rfl ?_
    exact b7_arrive_38 C RT n o0 h0 (x3 / (2 : Int32)) o0 h0 M5
  · refine J_iconst C dX7_arrive_31 kci_1 ?_
    refine J_goto (tgt := 38) C dX7_arrive_32 (by decide) ?_
    refine J_lv [0] rfl ?_
    exact b7_arrive_38 C RT n o0 h0 (1 : Int32) o0 h0 M5
theorem c7_arrive (l : Launch) (w : WE) (n : Nat) (o0 : Nat) (h0 : typ o0 = 7) (x1 : Int32) (x2 : Int32) (x3 : Int32) (M : Mem) : MV l w yX7_arrive (wz yX7_arrive cX7_arrive 4 none) rm7_arrive [.ref (wa w o0), .int x1, .int x2, .int x3] (s7_arrive n o0 x1 x2 x3 M) M :=
  mv_of_J (own := RX7) rfl (by decide) rfl rfl (Nat.le_of_ble_eq_true rfl) (fun _ _ C RT => b7_arrive C RT n o0 h0 x1 x2 x3 M)
theorem hdX7_arrive : yX7_arrive.cls = RX7 ∧ yOK yX7_arrive 3 := ⟨rfl, by decide, by decide, by decide⟩
abbrev rm2_mark : Room := { frames := 0, cells := 0, slots := 0, locals := 0 }
def s2_mark (o0 : Nat) (x1 : Int32) (x2 : Int32) (M : Mem) : Option Res := if x1 < 0 then (some (0, M)) else (if (60 : Int32) ≤ x1 then (some (0, M)) else (if inB x1 (alen (link o0 4)) then mlet (mset M (link o0 4) x1.toNatClampNeg (vp_nar .boolean x2)) (fun M1 => some (0, M1)) else none))
set_option maxRecDepth 100000 in
set_option maxHeartbeats 4000000 in
theorem b2_mark {w : WE} {g : GT} (C : CT w g RX2 cX2_mark rm2_mark 3) (RT : RTv w g cX2_mark) (o0 : Nat) (h0 : typ o0 = 2) (x1 : Int32) (x2 : Int32) (M : Mem) : J w g (s2_mark o0 x1 x2 M) M 0 [(0, .ref (wa w o0)), (1, .int x1), (2, .int x2)] [] := by
  rw [s2_mark]
  refine J_iload_n C dX2_mark_0 rfl 1 rfl ?_
  refine J_if_lt (tgt := 17) C dX2_mark_1 (by decide) (fun _ => ?_) (fun _ => ?_)
  · exact J_vret C RT dX2_mark_17
  · refine J_iload_n C dX2_mark_4 rfl 1 rfl ?_
    refine J_bipush C dX2_mark_5 kcb_60 ?_
    refine J_icmp_ge (tgt := 17) C dX2_mark_7 (by decide) (fun _ => ?_) (fun _ => ?_)
    · exact J_vret C RT dX2_mark_17
    · refine J_aload_n C dX2_mark_10 rfl 0 rfl ?_
      refine J_getr C fk2_4 W1_178 h0 dX2_mark_11 ?_
      refine J_iload_n C dX2_mark_14 rfl 1 rfl ?_
      refine J_iload_n C dX2_mark_15 rfl 2 rfl ?_
      refine J_zastore C (tl_2_4 h0) dX2_mark_16 ?_
      refine J_mlet (fun M1 => ?_)
      exact J_vret C RT dX2_mark_17
theorem c2_mark (l : Launch) (w : WE) (o0 : Nat) (h0 : typ o0 = 2) (x1 : Int32) (x2 : Int32) (M : Mem) : MV l w yX2_mark (wz yX2_mark cX2_mark 3 none) rm2_mark [.ref (wa w o0), .int x1, .int x2] (s2_mark o0 x1 x2 M) M :=
  mv_of_J (own := RX2) rfl (by decide) rfl rfl (Nat.le_of_ble_eq_true rfl) (fun _ _ C RT => b2_mark C RT o0 h0 x1 x2 M)
theorem hdX2_mark : yX2_mark.cls = RX2 ∧ yOK yX2_mark 2 := ⟨rfl, by decide, by decide, by decide⟩
abbrev rm2_addWalker : Room := { frames := 1, cells := 0, slots := 0, locals := 23 }
def s2_addWalker (n : Nat) (o0 : Nat) (x1 : Int32) (x2 : Int32) (x3 : Int32) (M : Mem) : Option Res := ilet (M o0 5) (fun v1 => if v1 < 0 then (some (v1, M)) else (if (12 : Int32) ≤ v1 then (some (v1, M)) else (if inB v1 (alen (link o0 3)) then cb (s7_arrive n (link (link o0 3) v1.toNatClampNeg) x1 x2 x3 M) (fun _ M3 => cb (s2_mark o0 x1 (1 : Int32) M3) (fun _ M5 => mlet (mset M5 o0 5 (v1 + (1 : Int32))) (fun M7 => mlet (mset M7 o0 9 (0 : Int32)) (fun M8 => some (v1, M8))))) else none)))
set_option maxRecDepth 100000 in
set_option maxHeartbeats 4000000 in
theorem b2_addWalker {w : WE} {g : GT} (C : CT w g RX2 cX2_addWalker rm2_addWalker 5) (RT : RTi w g cX2_addWalker .int) (n : Nat) (o0 : Nat) (h0 : typ o0 = 2) (x1 : Int32) (x2 : Int32) (x3 : Int32) (M : Mem) : J w g (s2_addWalker n o0 x1 x2 x3 M) M 0 [(0, .ref (wa w o0)), (1, .int x1), (2, .int x2), (3, .int x3)] [] := by
  rw [s2_addWalker]
  refine J_aload_n C dX2_addWalker_0 rfl 0 rfl ?_
  refine J_geti C fk2_5 W1_179 h0 dX2_addWalker_1 ?_
  refine J_ilet (fun v1 => ?_)
  refine J_istore (lv' := [(4, .int v1), (0, .ref (wa w o0)), (1, .int x1), (2, .int x2), (3, .int x3)]) C dX2_addWalker_4 (by decide) rfl ?_
  refine J_iload C dX2_addWalker_6 0 rfl ?_
  refine J_if_lt (tgt := 50) C dX2_addWalker_8 (by decide) (fun _ => ?_) (fun _ => ?_)
  · refine J_iload C dX2_addWalker_50 0 rfl ?_
    exact J_iret C RT rfl dX2_addWalker_52
  · refine J_iload C dX2_addWalker_11 0 rfl ?_
    refine J_bipush C dX2_addWalker_13 kcb_12 ?_
    refine J_icmp_ge (tgt := 50) C dX2_addWalker_15 (by decide) (fun _ => ?_) (fun _ => ?_)
    · refine J_iload C dX2_addWalker_50 0 rfl ?_
      exact J_iret C RT rfl dX2_addWalker_52
    · refine J_aload_n C dX2_addWalker_18 rfl 1 rfl ?_
      refine J_getr C fk2_3 W1_174 h0 dX2_addWalker_19 ?_
      refine J_iload C dX2_addWalker_22 0 rfl ?_
      refine J_aaload C (tl_2_3 h0) dX2_addWalker_24 (fun hb2 => ?_)
      refine J_iload_n C dX2_addWalker_25 rfl 2 rfl ?_
      refine J_iload_n C dX2_addWalker_26 rfl 3 rfl ?_
      refine J_iload_n C dX2_addWalker_27 rfl 4 rfl ?_
      refine J_cvv (As := [.int x1, .int x2, .int x3]) C (c7_arrive (gl g) w n (link (link o0 3) v1.toNatClampNeg) (t_wk (tl_2_3 h0) hb2) x1 x2 x3 M) (gd_v W3_6 W3_7 W3_8 W1_7 W3_9) rfl (by decide) (hdX7_arrive) (t_wk (tl_2_3 h0) hb2) (by decide) (cl_7) rfl (Nat.le_of_ble_eq_true rfl) dX2_addWalker_28 rfl (fun r4 M3 => ?_)
      refine J_aload_n C dX2_addWalker_31 rfl 1 rfl ?_
      refine J_iload_n C dX2_addWalker_32 rfl 2 rfl ?_
      refine J_iconst C dX2_addWalker_33 kci_1 ?_
      refine J_cvv (As := [.int x1, .int (1 : Int32)]) C (c2_mark (gl g) w o0 h0 x1 (1 : Int32) M3) (gd_v W3_10 W3_12 WP_10 W1_3 W3_13) rfl (by decide) (hdX2_mark) h0 (by decide) (cl_2) rfl (Nat.le_of_ble_eq_true rfl) dX2_addWalker_34 rfl (fun r6 M5 => ?_)
      refine J_aload_n C dX2_addWalker_37 rfl 1 rfl ?_
      refine J_iload C dX2_addWalker_38 0 rfl ?_
      refine J_iconst C dX2_addWalker_40 kci_1 ?_
      refine J_iadd C dX2_addWalker_41 ?_
      refine J_puti C fk2_5 W1_179 fp2_5 h0 dX2_addWalker_42 ?_
      refine J_mlet (fun M7 => ?_)
      refine J_aload_n C dX2_addWalker_45 rfl 1 rfl ?_
      refine J_iconst C dX2_addWalker_46 kci_0 ?_
      refine J_putzc C (by decide) fk2_9 W1_191 fp2_9 h0 dX2_addWalker_47 ?_
      refine J_mlet (fun M8 => ?_)
      refine J_iload C dX2_addWalker_50 0 rfl ?_
      exact J_iret C RT rfl dX2_addWalker_52
theorem c2_addWalker (l : Launch) (w : WE) (n : Nat) (o0 : Nat) (h0 : typ o0 = 2) (x1 : Int32) (x2 : Int32) (x3 : Int32) (M : Mem) : MC l w yX2_addWalker (wz yX2_addWalker cX2_addWalker 5 (some .int)) rm2_addWalker [.ref (wa w o0), .int x1, .int x2, .int x3] (s2_addWalker n o0 x1 x2 x3 M) M :=
  mc_of_J (own := RX2) rfl (by decide) rfl rfl (Nat.le_of_ble_eq_true rfl) (fun _ _ C RT => b2_addWalker C RT n o0 h0 x1 x2 x3 M)
theorem hdX2_addWalker : yX2_addWalker.cls = RX2 ∧ yOK yX2_addWalker 3 := ⟨rfl, by decide, by decide, by decide⟩
abbrev rm6_walkerMore : Room := { frames := 2, cells := 0, slots := 0, locals := 47 }
def s6_walkerMore_30 (n : Nat) (o0 : Nat) (o1 : Nat) (t0 : Int32) (M : Mem) : Option Res := if t0 = 0 then (if bz t0 then some (t0, M) else none) else (if inB (0 : Int32) (alen (link o0 1)) then if inB (1 : Int32) (alen (link o0 1)) then if inB (2 : Int32) (alen (link o0 1)) then cb (s2_addWalker n o1 (M (link o0 1) (0 : Int32).toNatClampNeg) (M (link o0 1) (1 : Int32).toNatClampNeg) (M (link o0 1) (2 : Int32).toNatClampNeg) M) (fun r4 M3 => if bz t0 then some (t0, M3) else none) else none else none else none)
set_option maxRecDepth 100000 in
set_option maxHeartbeats 4000000 in
theorem b6_walkerMore_30 {w : WE} {g : GT} (C : CT w g RX6 cX6_walkerMore rm6_walkerMore 3) (RT : RTi w g cX6_walkerMore .boolean) (n : Nat) (o0 : Nat) (h0 : typ o0 = 6) (o1 : Nat) (h1 : typ o1 = 2) (t0 : Int32) (M : Mem) : J w g (s6_walkerMore_30 n o0 o1 t0 M) M 30 [(0, .ref (wa w o0)), (1, .ref (wa w o1))] [.int t0] := by
  rw [s6_walkerMore_30]
  refine J_istore_n (lv' := [(2, .int t0), (0, .ref (wa w o0)), (1, .ref (wa w o1))]) C dX6_walkerMore_30 rfl (by decide) rfl ?_
  refine J_iload_n C dX6_walkerMore_31 rfl 0 rfl ?_
  refine J_if_eq (tgt := 58) C dX6_walkerMore_32 (by decide) (fun _ => ?_) (fun _ => ?_)
  · refine J_iload_n C dX6_walkerMore_58 rfl 0 rfl ?_
    exact J_zret C RT dX6_walkerMore_59
  · refine J_aload_n C dX6_walkerMore_35 rfl 2 rfl ?_
    refine J_aload_n C dX6_walkerMore_36 rfl 1 rfl ?_
    refine J_getr C fk6_1 W2_16 h0 dX6_walkerMore_37 ?_
    refine J_iconst C dX6_walkerMore_40 kci_0 ?_
    refine J_aload_ C (tl_6_1 h0) dX6_walkerMore_41 ?_
    refine J_aload_n C dX6_walkerMore_42 rfl 1 rfl ?_
    refine J_getr C fk6_1 W2_16 h0 dX6_walkerMore_43 ?_
    refine J_iconst C dX6_walkerMore_46 kci_1 ?_
    refine J_aload_ C (tl_6_1 h0) dX6_walkerMore_47 ?_
    refine J_aload_n C dX6_walkerMore_48 rfl 1 rfl ?_
    refine J_getr C fk6_1 W2_16 h0 dX6_walkerMore_49 ?_
    refine J_iconst C dX6_walkerMore_52 kci_2 ?_
    refine J_aload_ C (tl_6_1 h0) dX6_walkerMore_53 ?_
    refine J_cvi (As := [.int (M (link o0 1) (0 : Int32).toNatClampNeg), .int (M (link o0 1) (1 : Int32).toNatClampNeg), .int (M (link o0 1) (2 : Int32).toNatClampNeg)]) C (c2_addWalker (gl g) w n o1 h1 (M (link o0 1) (0 : Int32).toNatClampNeg) (M (link o0 1) (1 : Int32).toNatClampNeg) (M (link o0 1) (2 : Int32).toNatClampNeg) M) (gd_v W3_2 W3_3 W3_4 W1_3 W3_5) rfl (by decide) (hdX2_addWalker) h1 (by decide) (cl_2) rfl (Nat.le_of_ble_eq_true rfl) dX6_walkerMore_54 rfl (fun r4 M3 => ?_)
    refine J_pop C rfl dX6_walkerMore_57 ?_
    refine J_iload_n C dX6_walkerMore_58 rfl 0 rfl ?_
    exact J_zret C RT dX6_walkerMore_59
def s6_walkerMore (n : Nat) (o0 : Nat) (o1 : Nat) (M : Mem) : Option Res := if inB (0 : Int32) (alen (link o0 1)) then if inB (1 : Int32) (alen (link o0 1)) then if inB (2 : Int32) (alen (link o0 1)) then cb (s2_whyNoWalker o1 (M (link o0 1) (0 : Int32).toNatClampNeg) (M (link o0 1) (1 : Int32).toNatClampNeg) (M (link o0 1) (2 : Int32).toNatClampNeg) M) (fun r2 M1 => if r2 = 0 then (s6_walkerMore_30 n o0 o1 (1 : Int32) M1) else (s6_walkerMore_30 n o0 o1 (0 : Int32) M1)) else none else none else none
set_option maxRecDepth 100000 in
set_option maxHeartbeats 4000000 in
theorem b6_walkerMore {w : WE} {g : GT} (C : CT w g RX6 cX6_walkerMore rm6_walkerMore 3) (RT : RTi w g cX6_walkerMore .boolean) (n : Nat) (o0 : Nat) (h0 : typ o0 = 6) (o1 : Nat) (h1 : typ o1 = 2) (M : Mem) : J w g (s6_walkerMore n o0 o1 M) M 0 [(0, .ref (wa w o0)), (1, .ref (wa w o1))] [] := by
  rw [s6_walkerMore]
  refine J_aload_n C dX6_walkerMore_0 rfl 1 rfl ?_
  refine J_aload_n C dX6_walkerMore_1 rfl 0 rfl ?_
  refine J_getr C fk6_1 W2_16 h0 dX6_walkerMore_2 ?_
  refine J_iconst C dX6_walkerMore_5 kci_0 ?_
  refine J_aload_ C (tl_6_1 h0) dX6_walkerMore_6 ?_
  refine J_aload_n C dX6_walkerMore_7 rfl 0 rfl ?_
  refine J_getr C fk6_1 W2_16 h0 dX6_walkerMore_8 ?_
  refine J_iconst C dX6_walkerMore_11 kci_1 ?_
  refine J_aload_ C (tl_6_1 h0) dX6_walkerMore_12 ?_
  refine J_aload_n C dX6_walkerMore_13 rfl 0 rfl ?_
  refine J_getr C fk6_1 W2_16 h0 dX6_walkerMore_14 ?_
  refine J_iconst C dX6_walkerMore_17 kci_2 ?_
  refine J_aload_ C (tl_6_1 h0) dX6_walkerMore_18 ?_
  refine J_cvi (As := [.int (M (link o0 1) (0 : Int32).toNatClampNeg), .int (M (link o0 1) (1 : Int32).toNatClampNeg), .int (M (link o0 1) (2 : Int32).toNatClampNeg)]) C (c2_whyNoWalker (gl g) w o1 h1 (M (link o0 1) (0 : Int32).toNatClampNeg) (M (link o0 1) (1 : Int32).toNatClampNeg) (M (link o0 1) (2 : Int32).toNatClampNeg) M) (gd_v W2_233 W2_234 W2_235 W1_3 W2_236) rfl (by decide) (hdX2_whyNoWalker) h1 (by decide) (cl_2) rfl (Nat.le_of_ble_eq_true rfl) dX6_walkerMore_19 rfl (fun r2 M1 => ?_)
  refine J_if_ne (tgt := 29) C dX6_walkerMore_22 (by decide) (fun _ => ?_) (fun _ => ?_)
  · refine J_iconst C dX6_walkerMore_29 kci_0 ?_
    exact b6_walkerMore_30 C RT n o0 h0 o1 h1 (0 : Int32) M1
  · refine J_iconst C dX6_walkerMore_25 kci_1 ?_
    refine J_goto (tgt := 30) C dX6_walkerMore_26 (by decide) ?_
    exact b6_walkerMore_30 C RT n o0 h0 o1 h1 (1 : Int32) M1
theorem c6_walkerMore (l : Launch) (w : WE) (n : Nat) (o0 : Nat) (h0 : typ o0 = 6) (o1 : Nat) (h1 : typ o1 = 2) (M : Mem) : MC l w yX6_walkerMore (wz yX6_walkerMore cX6_walkerMore 3 (some .boolean)) rm6_walkerMore [.ref (wa w o0), .ref (wa w o1)] (s6_walkerMore n o0 o1 M) M :=
  mc_of_J (own := RX6) rfl (by decide) rfl rfl (Nat.le_of_ble_eq_true rfl) (fun _ _ C RT => b6_walkerMore C RT n o0 h0 o1 h1 M)
theorem hdX6_walkerMore : yX6_walkerMore.cls = RX6 ∧ yOK yX6_walkerMore 1 := ⟨rfl, by decide, by decide, by decide⟩
abbrev rm3_whyNot : Room := { frames := 1, cells := 0, slots := 0, locals := 22 }
def s3_whyNot (o0 : Nat) (x1 : Int32) (x2 : Int32) (M : Mem) : Option Res := if x1 < 0 then (some ((1 : Int32), M)) else (if x1 < (5 : Int32) then (cb (s8_whyNotWithin x2 (1 : Int32) (99 : Int32) M) (fun r2 M1 => some (r2, M1))) else (some ((1 : Int32), M)))
set_option maxRecDepth 100000 in
set_option maxHeartbeats 4000000 in
theorem b3_whyNot {w : WE} {g : GT} (C : CT w g RX3 cX3_whyNot rm3_whyNot 3) (RT : RTi w g cX3_whyNot .int) (o0 : Nat) (h0 : typ o0 = 3) (x1 : Int32) (x2 : Int32) (M : Mem) : J w g (s3_whyNot o0 x1 x2 M) M 0 [(0, .ref (wa w o0)), (1, .int x1), (2, .int x2)] [] := by
  rw [s3_whyNot]
  refine J_iload_n C dX3_whyNot_0 rfl 1 rfl ?_
  refine J_if_lt (tgt := 9) C dX3_whyNot_1 (by decide) (fun _ => ?_) (fun _ => ?_)
  · refine J_iconst C dX3_whyNot_9 kci_1 ?_
    exact J_iret C RT rfl dX3_whyNot_10
  · refine J_iload_n C dX3_whyNot_4 rfl 1 rfl ?_
    refine J_iconst C dX3_whyNot_5 kci_5 ?_
    refine J_icmp_lt (tgt := 11) C dX3_whyNot_6 (by decide) (fun _ => ?_) (fun _ => ?_)
    · refine J_iload_n C dX3_whyNot_11 rfl 2 rfl ?_
      refine J_iconst C dX3_whyNot_12 kci_1 ?_
      refine J_bipush C dX3_whyNot_13 kcb_99 ?_
      refine J_cni (As := [.int x2, .int (1 : Int32), .int (99 : Int32)]) (dm := 0) C (c8_whyNotWithin (gl g) w x2 (1 : Int32) (99 : Int32) M) (gd_z W2_204) rfl (by decide) (hdX8_whyNotWithin.2) rfl (by decide) W1_1 W2_203 rfl (Nat.le_of_ble_eq_true rfl) dX3_whyNot_15 rfl (fun r2 M1 => ?_)
      exact J_iret C RT rfl dX3_whyNot_18
    · refine J_iconst C dX3_whyNot_9 kci_1 ?_
      exact J_iret C RT rfl dX3_whyNot_10
theorem c3_whyNot (l : Launch) (w : WE) (o0 : Nat) (h0 : typ o0 = 3) (x1 : Int32) (x2 : Int32) (M : Mem) : MC l w yX3_whyNot (wz yX3_whyNot cX3_whyNot 3 (some .int)) rm3_whyNot [.ref (wa w o0), .int x1, .int x2] (s3_whyNot o0 x1 x2 M) M :=
  mc_of_J (own := RX3) rfl (by decide) rfl rfl (Nat.le_of_ble_eq_true rfl) (fun _ _ C RT => b3_whyNot C RT o0 h0 x1 x2 M)
theorem hdX3_whyNot : yX3_whyNot.cls = RX3 ∧ yOK yX3_whyNot 2 := ⟨rfl, by decide, by decide, by decide⟩
abbrev rm6_newPlayer : Room := { frames := 2, cells := 0, slots := 0, locals := 44 }
def s6_newPlayer_27 (n : Nat) (o0 : Nat) (o1 : Nat) (t0 : Int32) (M : Mem) : Option Res := if t0 = 0 then (if bz t0 then some (t0, M) else none) else (if inB (0 : Int32) (alen (link o0 1)) then mlet (mset M (link o1 1) 0 (M (link o0 1) (0 : Int32).toNatClampNeg)) (fun M3 => if inB (1 : Int32) (alen (link o0 1)) then mlet (mset M3 (link o1 1) 1 (M3 (link o0 1) (1 : Int32).toNatClampNeg)) (fun M4 => if bz t0 then some (t0, M4) else none) else none) else none)
set_option maxRecDepth 100000 in
set_option maxHeartbeats 4000000 in
theorem b6_newPlayer_27 {w : WE} {g : GT} (C : CT w g RX6 cX6_newPlayer rm6_newPlayer 3) (RT : RTi w g cX6_newPlayer .boolean) (n : Nat) (o0 : Nat) (h0 : typ o0 = 6) (o1 : Nat) (h1 : typ o1 = 2) (t0 : Int32) (M : Mem) : J w g (s6_newPlayer_27 n o0 o1 t0 M) M 27 [(0, .ref (wa w o0)), (1, .ref (wa w o1))] [.int t0] := by
  rw [s6_newPlayer_27]
  refine J_istore_n (lv' := [(2, .int t0), (0, .ref (wa w o0)), (1, .ref (wa w o1))]) C dX6_newPlayer_27 rfl (by decide) rfl ?_
  refine J_iload_n C dX6_newPlayer_28 rfl 0 rfl ?_
  refine J_if_eq (tgt := 58) C dX6_newPlayer_29 (by decide) (fun _ => ?_) (fun _ => ?_)
  · refine J_iload_n C dX6_newPlayer_58 rfl 0 rfl ?_
    exact J_zret C RT dX6_newPlayer_59
  · refine J_aload_n C dX6_newPlayer_32 rfl 2 rfl ?_
    refine J_getr C fk2_1 W1_170 h1 dX6_newPlayer_33 ?_
    refine J_aload_n C dX6_newPlayer_36 rfl 1 rfl ?_
    refine J_getr C fk6_1 W2_16 h0 dX6_newPlayer_37 ?_
    refine J_iconst C dX6_newPlayer_40 kci_0 ?_
    refine J_aload_ C (tl_6_1 h0) dX6_newPlayer_41 ?_
    refine J_puti C fk3_0 W1_76 fp3_0 (tl_2_1 h1) dX6_newPlayer_42 ?_
    refine J_mlet (fun M3 => ?_)
    refine J_aload_n C dX6_newPlayer_45 rfl 2 rfl ?_
    refine J_getr C fk2_1 W1_170 h1 dX6_newPlayer_46 ?_
    refine J_aload_n C dX6_newPlayer_49 rfl 1 rfl ?_
    refine J_getr C fk6_1 W2_16 h0 dX6_newPlayer_50 ?_
    refine J_iconst C dX6_newPlayer_53 kci_1 ?_
    refine J_aload_ C (tl_6_1 h0) dX6_newPlayer_54 ?_
    refine J_puti C fk3_1 W1_80 fp3_1 (tl_2_1 h1) dX6_newPlayer_55 ?_
    refine J_mlet (fun M4 => ?_)
    refine J_iload_n C dX6_newPlayer_58 rfl 0 rfl ?_
    exact J_zret C RT dX6_newPlayer_59
def s6_newPlayer (n : Nat) (o0 : Nat) (o1 : Nat) (M : Mem) : Option Res := if inB (0 : Int32) (alen (link o0 1)) then if inB (1 : Int32) (alen (link o0 1)) then cb (s3_whyNot (link o1 1) (M (link o0 1) (0 : Int32).toNatClampNeg) (M (link o0 1) (1 : Int32).toNatClampNeg) M) (fun r2 M1 => if r2 = 0 then (s6_newPlayer_27 n o0 o1 (1 : Int32) M1) else (s6_newPlayer_27 n o0 o1 (0 : Int32) M1)) else none else none
set_option maxRecDepth 100000 in
set_option maxHeartbeats 4000000 in
theorem b6_newPlayer {w : WE} {g : GT} (C : CT w g RX6 cX6_newPlayer rm6_newPlayer 3) (RT : RTi w g cX6_newPlayer .boolean) (n : Nat) (o0 : Nat) (h0 : typ o0 = 6) (o1 : Nat) (h1 : typ o1 = 2) (M : Mem) : J w g (s6_newPlayer n o0 o1 M) M 0 [(0, .ref (wa w o0)), (1, .ref (wa w o1))] [] := by
  rw [s6_newPlayer]
  refine J_aload_n C dX6_newPlayer_0 rfl 1 rfl ?_
  refine J_getr C fk2_1 W1_170 h1 dX6_newPlayer_1 ?_
  refine J_aload_n C dX6_newPlayer_4 rfl 0 rfl ?_
  refine J_getr C fk6_1 W2_16 h0 dX6_newPlayer_5 ?_
  refine J_iconst C dX6_newPlayer_8 kci_0 ?_
  refine J_aload_ C (tl_6_1 h0) dX6_newPlayer_9 ?_
  refine J_aload_n C dX6_newPlayer_10 rfl 0 rfl ?_
  refine J_getr C fk6_1 W2_16 h0 dX6_newPlayer_11 ?_
  refine J_iconst C dX6_newPlayer_14 kci_1 ?_
  refine J_aload_ C (tl_6_1 h0) dX6_newPlayer_15 ?_
  refine J_cvi (As := [.int (M (link o0 1) (0 : Int32).toNatClampNeg), .int (M (link o0 1) (1 : Int32).toNatClampNeg)]) C (c3_whyNot (gl g) w (link o1 1) (tl_2_1 h1) (M (link o0 1) (0 : Int32).toNatClampNeg) (M (link o0 1) (1 : Int32).toNatClampNeg) M) (gd_v W3_18 W3_19 W3_20 W1_5 W3_21) rfl (by decide) (hdX3_whyNot) (tl_2_1 h1) (by decide) (cl_3) rfl (Nat.le_of_ble_eq_true rfl) dX6_newPlayer_16 rfl (fun r2 M1 => ?_)
  refine J_if_ne (tgt := 26) C dX6_newPlayer_19 (by decide) (fun _ => ?_) (fun _ => ?_)
  · refine J_iconst C dX6_newPlayer_26 kci_0 ?_
    exact b6_newPlayer_27 C RT n o0 h0 o1 h1 (0 : Int32) M1
  · refine J_iconst C dX6_newPlayer_22 kci_1 ?_
    refine J_goto (tgt := 27) C dX6_newPlayer_23 (by decide) ?_
    exact b6_newPlayer_27 C RT n o0 h0 o1 h1 (1 : Int32) M1
theorem c6_newPlayer (l : Launch) (w : WE) (n : Nat) (o0 : Nat) (h0 : typ o0 = 6) (o1 : Nat) (h1 : typ o1 = 2) (M : Mem) : MC l w yX6_newPlayer (wz yX6_newPlayer cX6_newPlayer 3 (some .boolean)) rm6_newPlayer [.ref (wa w o0), .ref (wa w o1)] (s6_newPlayer n o0 o1 M) M :=
  mc_of_J (own := RX6) rfl (by decide) rfl rfl (Nat.le_of_ble_eq_true rfl) (fun _ _ C RT => b6_newPlayer C RT n o0 h0 o1 h1 M)
theorem hdX6_newPlayer : yX6_newPlayer.cls = RX6 ∧ yOK yX6_newPlayer 1 := ⟨rfl, by decide, by decide, by decide⟩
abbrev rm6_newForm : Room := { frames := 1, cells := 0, slots := 0, locals := 22 }
def s6_newForm_19 (n : Nat) (o0 : Nat) (o1 : Nat) (t0 : Int32) (M : Mem) : Option Res := if t0 = 0 then (if bz t0 then some (t0, M) else none) else (if inB (0 : Int32) (alen (link o0 1)) then mlet (mset M o1 6 (M (link o0 1) (0 : Int32).toNatClampNeg)) (fun M3 => if bz t0 then some (t0, M3) else none) else none)
set_option maxRecDepth 100000 in
set_option maxHeartbeats 4000000 in
theorem b6_newForm_19 {w : WE} {g : GT} (C : CT w g RX6 cX6_newForm rm6_newForm 3) (RT : RTi w g cX6_newForm .boolean) (n : Nat) (o0 : Nat) (h0 : typ o0 = 6) (o1 : Nat) (h1 : typ o1 = 2) (t0 : Int32) (M : Mem) : J w g (s6_newForm_19 n o0 o1 t0 M) M 19 [(0, .ref (wa w o0)), (1, .ref (wa w o1))] [.int t0] := by
  rw [s6_newForm_19]
  refine J_istore_n (lv' := [(2, .int t0), (0, .ref (wa w o0)), (1, .ref (wa w o1))]) C dX6_newForm_19 rfl (by decide) rfl ?_
  refine J_iload_n C dX6_newForm_20 rfl 0 rfl ?_
  refine J_if_eq (tgt := 34) C dX6_newForm_21 (by decide) (fun _ => ?_) (fun _ => ?_)
  · refine J_iload_n C dX6_newForm_34 rfl 0 rfl ?_
    exact J_zret C RT dX6_newForm_35
  · refine J_aload_n C dX6_newForm_24 rfl 2 rfl ?_
    refine J_aload_n C dX6_newForm_25 rfl 1 rfl ?_
    refine J_getr C fk6_1 W2_16 h0 dX6_newForm_26 ?_
    refine J_iconst C dX6_newForm_29 kci_0 ?_
    refine J_aload_ C (tl_6_1 h0) dX6_newForm_30 ?_
    refine J_puti C fk2_6 W1_186 fp2_6 h1 dX6_newForm_31 ?_
    refine J_mlet (fun M3 => ?_)
    refine J_iload_n C dX6_newForm_34 rfl 0 rfl ?_
    exact J_zret C RT dX6_newForm_35
def s6_newForm (n : Nat) (o0 : Nat) (o1 : Nat) (M : Mem) : Option Res := if inB (0 : Int32) (alen (link o0 1)) then cb (s8_whyNotWithin (M (link o0 1) (0 : Int32).toNatClampNeg) (0 : Int32) (2 : Int32) M) (fun r2 M1 => if r2 = 0 then (s6_newForm_19 n o0 o1 (1 : Int32) M1) else (s6_newForm_19 n o0 o1 (0 : Int32) M1)) else none
set_option maxRecDepth 100000 in
set_option maxHeartbeats 4000000 in
theorem b6_newForm {w : WE} {g : GT} (C : CT w g RX6 cX6_newForm rm6_newForm 3) (RT : RTi w g cX6_newForm .boolean) (n : Nat) (o0 : Nat) (h0 : typ o0 = 6) (o1 : Nat) (h1 : typ o1 = 2) (M : Mem) : J w g (s6_newForm n o0 o1 M) M 0 [(0, .ref (wa w o0)), (1, .ref (wa w o1))] [] := by
  rw [s6_newForm]
  refine J_aload_n C dX6_newForm_0 rfl 0 rfl ?_
  refine J_getr C fk6_1 W2_16 h0 dX6_newForm_1 ?_
  refine J_iconst C dX6_newForm_4 kci_0 ?_
  refine J_aload_ C (tl_6_1 h0) dX6_newForm_5 ?_
  refine J_iconst C dX6_newForm_6 kci_0 ?_
  refine J_iconst C dX6_newForm_7 kci_2 ?_
  refine J_cni (As := [.int (M (link o0 1) (0 : Int32).toNatClampNeg), .int (0 : Int32), .int (2 : Int32)]) (dm := 0) C (c8_whyNotWithin (gl g) w (M (link o0 1) (0 : Int32).toNatClampNeg) (0 : Int32) (2 : Int32) M) (gd_z W2_204) rfl (by decide) (hdX8_whyNotWithin.2) rfl (by decide) W1_1 W2_203 rfl (Nat.le_of_ble_eq_true rfl) dX6_newForm_8 rfl (fun r2 M1 => ?_)
  refine J_if_ne (tgt := 18) C dX6_newForm_11 (by decide) (fun _ => ?_) (fun _ => ?_)
  · refine J_iconst C dX6_newForm_18 kci_0 ?_
    exact b6_newForm_19 C RT n o0 h0 o1 h1 (0 : Int32) M1
  · refine J_iconst C dX6_newForm_14 kci_1 ?_
    refine J_goto (tgt := 19) C dX6_newForm_15 (by decide) ?_
    exact b6_newForm_19 C RT n o0 h0 o1 h1 (1 : Int32) M1
theorem c6_newForm (l : Launch) (w : WE) (n : Nat) (o0 : Nat) (h0 : typ o0 = 6) (o1 : Nat) (h1 : typ o1 = 2) (M : Mem) : MC l w yX6_newForm (wz yX6_newForm cX6_newForm 3 (some .boolean)) rm6_newForm [.ref (wa w o0), .ref (wa w o1)] (s6_newForm n o0 o1 M) M :=
  mc_of_J (own := RX6) rfl (by decide) rfl rfl (Nat.le_of_ble_eq_true rfl) (fun _ _ C RT => b6_newForm C RT n o0 h0 o1 h1 M)
theorem hdX6_newForm : yX6_newForm.cls = RX6 ∧ yOK yX6_newForm 1 := ⟨rfl, by decide, by decide, by decide⟩
abbrev rm6_comesTrue : Room := { frames := 3, cells := 0, slots := 0, locals := 69 }
def s6_comesTrue (n : Nat) (o0 : Nat) (x1 : Int32) (o2 : Nat) (M : Mem) : Option Res := if x1 = 99 then (cb (s6_seatMore n o0 o2 M) (fun r2 M1 => if bz r2 then some (r2, M1) else none)) else (if x1 = 110 then (cb (s6_resize n o0 o2 M) (fun r4 M3 => if bz r4 then some (r4, M3) else none)) else (if x1 = 112 then (cb (s6_newPlayer n o0 o2 M) (fun r6 M5 => if bz r6 then some (r6, M5) else none)) else (if x1 = 119 then (cb (s6_walkerMore n o0 o2 M) (fun r8 M7 => if bz r8 then some (r8, M7) else none)) else (cb (s6_newForm n o0 o2 M) (fun r10 M9 => if bz r10 then some (r10, M9) else none)))))
set_option maxRecDepth 100000 in
set_option maxHeartbeats 4000000 in
theorem b6_comesTrue {w : WE} {g : GT} (C : CT w g RX6 cX6_comesTrue rm6_comesTrue 3) (RT : RTi w g cX6_comesTrue .boolean) (n : Nat) (o0 : Nat) (h0 : typ o0 = 6) (x1 : Int32) (o2 : Nat) (h2 : typ o2 = 2) (M : Mem) : J w g (s6_comesTrue n o0 x1 o2 M) M 0 [(0, .ref (wa w o0)), (1, .int x1), (2, .ref (wa w o2))] [] := by
  rw [s6_comesTrue]
  refine J_iload_n C dX6_comesTrue_0 rfl 1 rfl ?_
  refine J_ite (fun hc0 => ?_) (fun hc0 => ?_)
  · refine J_lsw (tgt := 50) C dX6_comesTrue_1 (by decide) (off := 49) (by rw [hc0]; rfl) (by decide) ?_
    refine J_aload_n C dX6_comesTrue_50 rfl 0 rfl ?_
    refine J_aload_n C dX6_comesTrue_51 rfl 2 rfl ?_
    refine J_cvi (As := [.ref (wa w o2)]) C (c6_seatMore (gl g) w n o0 h0 o2 h2 M) (gd_v W2_205 W2_207 WP_8 W1_9 W2_208) rfl (by decide) (hdX6_seatMore) h0 (by decide) (cl_6) rfl (Nat.le_of_ble_eq_true rfl) dX6_comesTrue_52 rfl (fun r2 M1 => ?_)
    exact J_zret C RT dX6_comesTrue_55
  · refine J_ite (fun hc1 => ?_) (fun hc1 => ?_)
    · refine J_lsw (tgt := 44) C dX6_comesTrue_1 (by decide) (off := 43) (by rw [hc1]; rfl) (by decide) ?_
      refine J_aload_n C dX6_comesTrue_44 rfl 0 rfl ?_
      refine J_aload_n C dX6_comesTrue_45 rfl 2 rfl ?_
      refine J_cvi (As := [.ref (wa w o2)]) C (c6_resize (gl g) w n o0 h0 o2 h2 M) (gd_v W2_198 W2_200 WP_7 W1_9 W2_201) rfl (by decide) (hdX6_resize) h0 (by decide) (cl_6) rfl (Nat.le_of_ble_eq_true rfl) dX6_comesTrue_46 rfl (fun r4 M3 => ?_)
      exact J_zret C RT dX6_comesTrue_49
    · refine J_ite (fun hc2 => ?_) (fun hc2 => ?_)
      · refine J_lsw (tgt := 62) C dX6_comesTrue_1 (by decide) (off := 61) (by rw [hc2]; rfl) (by decide) ?_
        refine J_aload_n C dX6_comesTrue_62 rfl 0 rfl ?_
        refine J_aload_n C dX6_comesTrue_63 rfl 2 rfl ?_
        refine J_cvi (As := [.ref (wa w o2)]) C (c6_newPlayer (gl g) w n o0 h0 o2 h2 M) (gd_v W3_14 W3_16 WP_11 W1_9 W3_17) rfl (by decide) (hdX6_newPlayer) h0 (by decide) (cl_6) rfl (Nat.le_of_ble_eq_true rfl) dX6_comesTrue_64 rfl (fun r6 M5 => ?_)
        exact J_zret C RT dX6_comesTrue_67
      · refine J_ite (fun hc3 => ?_) (fun hc3 => ?_)
        · refine J_lsw (tgt := 56) C dX6_comesTrue_1 (by decide) (off := 55) (by rw [hc3]; rfl) (by decide) ?_
          refine J_aload_n C dX6_comesTrue_56 rfl 0 rfl ?_
          refine J_aload_n C dX6_comesTrue_57 rfl 2 rfl ?_
          refine J_cvi (As := [.ref (wa w o2)]) C (c6_walkerMore (gl g) w n o0 h0 o2 h2 M) (gd_v W2_229 W2_231 WP_9 W1_9 W2_232) rfl (by decide) (hdX6_walkerMore) h0 (by decide) (cl_6) rfl (Nat.le_of_ble_eq_true rfl) dX6_comesTrue_58 rfl (fun r8 M7 => ?_)
          exact J_zret C RT dX6_comesTrue_61
        · refine J_lsw (tgt := 68) C dX6_comesTrue_1 (by decide) (off := 67) ((lv_osw hc0 rfl).trans ((lv_osw hc1 rfl).trans ((lv_osw hc2 rfl).trans ((lv_osw hc3 rfl).trans rfl)))) (by decide) ?_
          refine J_aload_n C dX6_comesTrue_68 rfl 0 rfl ?_
          refine J_aload_n C dX6_comesTrue_69 rfl 2 rfl ?_
          refine J_cvi (As := [.ref (wa w o2)]) C (c6_newForm (gl g) w n o0 h0 o2 h2 M) (gd_v W3_23 W3_25 WP_12 W1_9 W3_26) rfl (by decide) (hdX6_newForm) h0 (by decide) (cl_6) rfl (Nat.le_of_ble_eq_true rfl) dX6_comesTrue_70 rfl (fun r10 M9 => ?_)
          exact J_zret C RT dX6_comesTrue_73
theorem c6_comesTrue (l : Launch) (w : WE) (n : Nat) (o0 : Nat) (h0 : typ o0 = 6) (x1 : Int32) (o2 : Nat) (h2 : typ o2 = 2) (M : Mem) : MC l w yX6_comesTrue (wz yX6_comesTrue cX6_comesTrue 3 (some .boolean)) rm6_comesTrue [.ref (wa w o0), .int x1, .ref (wa w o2)] (s6_comesTrue n o0 x1 o2 M) M :=
  mc_of_J (own := RX6) rfl (by decide) rfl rfl (Nat.le_of_ble_eq_true rfl) (fun _ _ C RT => b6_comesTrue C RT n o0 h0 x1 o2 h2 M)
theorem hdX6_comesTrue : yX6_comesTrue.cls = RX6 ∧ yOK yX6_comesTrue 2 := ⟨rfl, by decide, by decide, by decide⟩
abbrev rm2_knowsIn : Room := { frames := 0, cells := 0, slots := 0, locals := 0 }
def s2_knowsIn (o0 : Nat) (x1 : Int32) (M : Mem) : Option Res := if x1 < 0 then (some ((0 : Int32), M)) else (if (M o0 5) ≤ x1 then (some ((0 : Int32), M)) else (if (12 : Int32) ≤ x1 then (some ((0 : Int32), M)) else (if inB x1 (alen (link o0 3)) then if (M (link (link o0 3) x1.toNatClampNeg) 2) = 0 then (some ((0 : Int32), M)) else (some ((1 : Int32), M)) else none)))
set_option maxRecDepth 100000 in
set_option maxHeartbeats 4000000 in
theorem b2_knowsIn {w : WE} {g : GT} (C : CT w g RX2 cX2_knowsIn rm2_knowsIn 2) (RT : RTi w g cX2_knowsIn .boolean) (o0 : Nat) (h0 : typ o0 = 2) (x1 : Int32) (M : Mem) : J w g (s2_knowsIn o0 x1 M) M 0 [(0, .ref (wa w o0)), (1, .int x1)] [] := by
  rw [s2_knowsIn]
  refine J_iload_n C dX2_knowsIn_0 rfl 1 rfl ?_
  refine J_if_lt (tgt := 34) C dX2_knowsIn_1 (by decide) (fun _ => ?_) (fun _ => ?_)
  · refine J_iconst C dX2_knowsIn_34 kci_0 ?_
    exact J_iret C RT (by decide) dX2_knowsIn_35
  · refine J_iload_n C dX2_knowsIn_4 rfl 1 rfl ?_
    refine J_aload_n C dX2_knowsIn_5 rfl 0 rfl ?_
    refine J_geti C fk2_5 W1_179 h0 dX2_knowsIn_6 ?_
    refine J_icmp_ge (tgt := 34) C dX2_knowsIn_9 (by decide) (fun _ => ?_) (fun _ => ?_)
    · refine J_iconst C dX2_knowsIn_34 kci_0 ?_
      exact J_iret C RT (by decide) dX2_knowsIn_35
    · refine J_iload_n C dX2_knowsIn_12 rfl 1 rfl ?_
      refine J_bipush C dX2_knowsIn_13 kcb_12 ?_
      refine J_icmp_ge (tgt := 34) C dX2_knowsIn_15 (by decide) (fun _ => ?_) (fun _ => ?_)
      · refine J_iconst C dX2_knowsIn_34 kci_0 ?_
        exact J_iret C RT (by decide) dX2_knowsIn_35
      · refine J_aload_n C dX2_knowsIn_18 rfl 0 rfl ?_
        refine J_getr C fk2_3 W1_174 h0 dX2_knowsIn_19 ?_
        refine J_iload_n C dX2_knowsIn_22 rfl 1 rfl ?_
        refine J_aaload C (tl_2_3 h0) dX2_knowsIn_23 (fun hb1 => ?_)
        refine J_geti C fk7_2 W1_128 (t_wk (tl_2_3 h0) hb1) dX2_knowsIn_24 ?_
        refine J_if_eq (tgt := 34) C dX2_knowsIn_27 (by decide) (fun _ => ?_) (fun _ => ?_)
        · refine J_iconst C dX2_knowsIn_34 kci_0 ?_
          exact J_iret C RT (by decide) dX2_knowsIn_35
        · refine J_iconst C dX2_knowsIn_30 kci_1 ?_
          refine J_goto (tgt := 35) C dX2_knowsIn_31 (by decide) ?_
          exact J_iret C RT (by decide) dX2_knowsIn_35
theorem c2_knowsIn (l : Launch) (w : WE) (o0 : Nat) (h0 : typ o0 = 2) (x1 : Int32) (M : Mem) : MC l w yX2_knowsIn (wz yX2_knowsIn cX2_knowsIn 2 (some .boolean)) rm2_knowsIn [.ref (wa w o0), .int x1] (s2_knowsIn o0 x1 M) M :=
  mc_of_J (own := RX2) rfl (by decide) rfl rfl (Nat.le_of_ble_eq_true rfl) (fun _ _ C RT => b2_knowsIn C RT o0 h0 x1 M)
theorem hdX2_knowsIn : yX2_knowsIn.cls = RX2 ∧ yOK yX2_knowsIn 1 := ⟨rfl, by decide, by decide, by decide⟩
abbrev rm2_walk : Room := { frames := 1, cells := 0, slots := 0, locals := 22 }
def s2_walk_70 (n : Nat) (o0 : Nat) (o1 : Nat) (t0 : Int32) (M : Mem) : Option Res := cb (s2_isStoodOn o0 t0 M) (fun r5 M4 => if r5 = 0 then (cb (s2_mark o0 (M4 o1 0) (0 : Int32) M4) (fun _ M6 => cb (s2_mark o0 t0 (1 : Int32) M6) (fun _ M8 => mlet (mset M8 o1 1 ((M8 o1 1) - (100 : Int32))) (fun M10 => mlet (mset M10 o1 0 t0) (fun M11 => some (0, M11)))))) else (mlet (mset M4 o1 1 (99 : Int32)) (fun M12 => some (0, M12))))
set_option maxRecDepth 100000 in
set_option maxHeartbeats 4000000 in
theorem b2_walk_70 {w : WE} {g : GT} (C : CT w g RX2 cX2_walk rm2_walk 3) (RT : RTv w g cX2_walk) (n : Nat) (o0 : Nat) (h0 : typ o0 = 2) (o1 : Nat) (h1 : typ o1 = 7) (t0 : Int32) (M : Mem) : J w g (s2_walk_70 n o0 o1 t0 M) M 70 [(0, .ref (wa w o0)), (1, .ref (wa w o1))] [.int t0] := by
  rw [s2_walk_70]
  refine J_istore_n (lv' := [(2, .int t0), (0, .ref (wa w o0)), (1, .ref (wa w o1))]) C dX2_walk_70 rfl (by decide) rfl ?_
  refine J_aload_n C dX2_walk_71 rfl 1 rfl ?_
  refine J_iload_n C dX2_walk_72 rfl 0 rfl ?_
  refine J_cvi (As := [.int t0]) C (c2_isStoodOn (gl g) w o0 h0 t0 M) (gd_v W2_238 W2_239 W3_0 W1_3 W3_1) rfl (by decide) (hdX2_isStoodOn) h0 (by decide) (cl_2) rfl (Nat.le_of_ble_eq_true rfl) dX2_walk_73 rfl (fun r5 M4 => ?_)
  refine J_if_eq (tgt := 88) C dX2_walk_76 (by decide) (fun _ => ?_) (fun _ => ?_)
  · refine J_aload_n C dX2_walk_88 rfl 1 rfl ?_
    refine J_aload_n C dX2_walk_89 rfl 2 rfl ?_
    refine J_geti C fk7_0 W1_124 h1 dX2_walk_90 ?_
    refine J_iconst C dX2_walk_93 kci_0 ?_
    refine J_cvv (As := [.int (M4 o1 0), .int (0 : Int32)]) C (c2_mark (gl g) w o0 h0 (M4 o1 0) (0 : Int32) M4) (gd_v W3_10 W3_12 WP_10 W1_3 W3_13) rfl (by decide) (hdX2_mark) h0 (by decide) (cl_2) rfl (Nat.le_of_ble_eq_true rfl) dX2_walk_94 rfl (fun r7 M6 => ?_)
    refine J_aload_n C dX2_walk_97 rfl 1 rfl ?_
    refine J_iload_n C dX2_walk_98 rfl 0 rfl ?_
    refine J_iconst C dX2_walk_99 kci_1 ?_
    refine J_cvv (As := [.int t0, .int (1 : Int32)]) C (c2_mark (gl g) w o0 h0 t0 (1 : Int32) M6) (gd_v W3_10 W3_12 WP_10 W1_3 W3_13) rfl (by decide) (hdX2_mark) h0 (by decide) (cl_2) rfl (Nat.le_of_ble_eq_true rfl) dX2_walk_100 rfl (fun r9 M8 => ?_)
    refine J_aload_n C dX2_walk_103 rfl 2 rfl ?_
    refine J_dup C rfl dX2_walk_104 ?_
    refine J_geti C fk7_1 W1_126 h1 dX2_walk_105 ?_
    refine J_bipush C dX2_walk_108 kcb_100 ?_
    refine J_isub C dX2_walk_110 ?_
    refine J_puti C fk7_1 W1_126 fp7_1 h1 dX2_walk_111 ?_
    refine J_mlet (fun M10 => ?_)
    refine J_aload_n C dX2_walk_114 rfl 2 rfl ?_
    refine J_iload_n C dX2_walk_115 rfl 0 rfl ?_
    refine J_puti C fk7_0 W1_124 fp7_0 h1 dX2_walk_116 ?_
    refine J_mlet (fun M11 => ?_)
    exact J_vret C RT dX2_walk_119
  · refine J_aload_n C dX2_walk_79 rfl 2 rfl ?_
    refine J_bipush C dX2_walk_80 kcb_99 ?_
    refine J_puti C fk7_1 W1_126 fp7_1 h1 dX2_walk_82 ?_
    refine J_mlet (fun M12 => ?_)
    refine J_goto (tgt := 119) C dX2_walk_85 (by decide) ?_
    exact J_vret C RT dX2_walk_119
def s2_walk_30 (n : Nat) (o0 : Nat) (o1 : Nat) (t0 : Int32) (t1 : Int32) (q2 : Nat) (M : Mem) : Option Res := mlet (mset M q2 1 (t1 + t0)) (fun M3 => if (100 : Int32) ≤ (M3 o1 1) then (if (M3 (link o0 0) 0) ≤ ((M3 o1 0) + (1 : Int32)) then (s2_walk_70 n o0 o1 (0 : Int32) M3) else (s2_walk_70 n o0 o1 ((M3 o1 0) + (1 : Int32)) M3)) else (some (0, M3)))
set_option maxRecDepth 100000 in
set_option maxHeartbeats 4000000 in
theorem b2_walk_30 {w : WE} {g : GT} (C : CT w g RX2 cX2_walk rm2_walk 3) (RT : RTv w g cX2_walk) (n : Nat) (o0 : Nat) (h0 : typ o0 = 2) (o1 : Nat) (h1 : typ o1 = 7) (t0 : Int32) (t1 : Int32) (q2 : Nat) (hq2 : typ q2 = 7) (M : Mem) : J w g (s2_walk_30 n o0 o1 t0 t1 q2 M) M 30 [(0, .ref (wa w o0)), (1, .ref (wa w o1))] [.int t0, .int t1, .ref (wa w q2)] := by
  rw [s2_walk_30]
  refine J_iadd C dX2_walk_30 ?_
  refine J_puti C fk7_1 W1_126 fp7_1 hq2 dX2_walk_31 ?_
  refine J_mlet (fun M3 => ?_)
  refine J_aload_n C dX2_walk_34 rfl 1 rfl ?_
  refine J_geti C fk7_1 W1_126 h1 dX2_walk_35 ?_
  refine J_bipush C dX2_walk_38 kcb_100 ?_
  refine J_icmp_ge (tgt := 44) C dX2_walk_40 (by decide) (fun _ => ?_) (fun _ => ?_)
  · refine J_aload_n C dX2_walk_44 rfl 1 rfl ?_
    refine J_geti C fk7_0 W1_124 h1 dX2_walk_45 ?_
    refine J_iconst C dX2_walk_48 kci_1 ?_
    refine J_iadd C dX2_walk_49 ?_
    refine J_aload_n C dX2_walk_50 rfl 0 rfl ?_
    refine J_getr C fk2_0 W1_162 h0 dX2_walk_51 ?_
    refine J_geti C fk4_0 W1_46 (tl_2_0 h0) dX2_walk_54 ?_
    refine J_icmp_ge (tgt := 69) C dX2_walk_57 (by decide) (fun _ => ?_) (fun _ => ?_)
    · refine J_iconst C dX2_walk_69 kci_0 ?_
      exact b2_walk_70 C RT n o0 h0 o1 h1 (0 : Int32) M3
    · refine J_aload_n C dX2_walk_60 rfl 1 rfl ?_
      refine J_geti C fk7_0 W1_124 h1 dX2_walk_61 ?_
      refine J_iconst C dX2_walk_64 kci_1 ?_
      refine J_iadd C dX2_walk_65 ?_
      refine J_goto (tgt := 70) C dX2_walk_66 (by decide) ?_
      exact b2_walk_70 C RT n o0 h0 o1 h1 ((M3 o1 0) + (1 : Int32)) M3
  · exact J_vret C RT dX2_walk_43
def s2_walk (n : Nat) (o0 : Nat) (o1 : Nat) (M : Mem) : Option Res := cb (s4_hasChair (link o0 0) (M o1 0) M) (fun r2 M1 => if r2 = 0 then (s2_walk_30 n o0 o1 (M1 o1 4) (M o1 1) o1 M1) else (s2_walk_30 n o0 o1 (M1 o1 5) (M o1 1) o1 M1))
set_option maxRecDepth 100000 in
set_option maxHeartbeats 4000000 in
theorem b2_walk {w : WE} {g : GT} (C : CT w g RX2 cX2_walk rm2_walk 3) (RT : RTv w g cX2_walk) (n : Nat) (o0 : Nat) (h0 : typ o0 = 2) (o1 : Nat) (h1 : typ o1 = 7) (M : Mem) : J w g (s2_walk n o0 o1 M) M 0 [(0, .ref (wa w o0)), (1, .ref (wa w o1))] [] := by
  rw [s2_walk]
  refine J_aload_n C dX2_walk_0 rfl 1 rfl ?_
  refine J_dup C rfl dX2_walk_1 ?_
  refine J_geti C fk7_1 W1_126 h1 dX2_walk_2 ?_
  refine J_aload_n C dX2_walk_5 rfl 0 rfl ?_
  refine J_getr C fk2_0 W1_162 h0 dX2_walk_6 ?_
  refine J_aload_n C dX2_walk_9 rfl 1 rfl ?_
  refine J_geti C fk7_0 W1_124 h1 dX2_walk_10 ?_
  refine J_cvi (As := [.int (M o1 0)]) C (c4_hasChair (gl g) w (link o0 0) (tl_2_0 h0) (M o1 0) M) (gd_v W2_217 W2_218 W2_219 W1_4 W2_220) rfl (by decide) (hdX4_hasChair) (tl_2_0 h0) (by decide) (cl_4) rfl (Nat.le_of_ble_eq_true rfl) dX2_walk_13 rfl (fun r2 M1 => ?_)
  refine J_if_eq (tgt := 26) C dX2_walk_16 (by decide) (fun _ => ?_) (fun _ => ?_)
  · refine J_aload_n C dX2_walk_26 rfl 1 rfl ?_
    refine J_geti C fk7_4 W1_133 h1 dX2_walk_27 ?_
    exact b2_walk_30 C RT n o0 h0 o1 h1 (M1 o1 4) (M o1 1) o1 h1 M1
  · refine J_aload_n C dX2_walk_19 rfl 1 rfl ?_
    refine J_geti C fk7_5 W1_136 h1 dX2_walk_20 ?_
    refine J_goto (tgt := 30) C dX2_walk_23 (by decide) ?_
    exact b2_walk_30 C RT n o0 h0 o1 h1 (M1 o1 5) (M o1 1) o1 h1 M1
theorem c2_walk (l : Launch) (w : WE) (n : Nat) (o0 : Nat) (h0 : typ o0 = 2) (o1 : Nat) (h1 : typ o1 = 7) (M : Mem) : MV l w yX2_walk (wz yX2_walk cX2_walk 3 none) rm2_walk [.ref (wa w o0), .ref (wa w o1)] (s2_walk n o0 o1 M) M :=
  mv_of_J (own := RX2) rfl (by decide) rfl rfl (Nat.le_of_ble_eq_true rfl) (fun _ _ C RT => b2_walk C RT n o0 h0 o1 h1 M)
theorem hdX2_walk : yX2_walk.cls = RX2 ∧ yOK yX2_walk 1 := ⟨rfl, by decide, by decide, by decide⟩
abbrev rm2_walkAll : Room := { frames := 2, cells := 0, slots := 0, locals := 44 }
def s2_walkAll_2 (n : Nat) (o0 : Nat) : Nat → Int32 → Mem → Option Res
  | 0, _, _ => none
  | f + 1, x1, M => if (M o0 5) ≤ x1 then (some (0, M)) else (if (12 : Int32) ≤ x1 then (some (0, M)) else (if inB x1 (alen (link o0 3)) then if (M (link (link o0 3) x1.toNatClampNeg) 2) = 0 then (ilet (x1 + 1) (fun v2 => s2_walkAll_2 n o0 f v2 M)) else (if inB x1 (alen (link o0 3)) then cb (s2_walk n o0 (link (link o0 3) x1.toNatClampNeg) M) (fun _ M4 => ilet (x1 + 1) (fun v6 => s2_walkAll_2 n o0 f v6 M4)) else none) else none))
set_option maxRecDepth 100000 in
set_option maxHeartbeats 4000000 in
theorem b2_walkAll_2 {w : WE} {g : GT} (C : CT w g RX2 cX2_walkAll rm2_walkAll 2) (RT : RTv w g cX2_walkAll) (n : Nat) (o0 : Nat) (h0 : typ o0 = 2) : ∀ (f : Nat) (x1 : Int32) (M : Mem), J w g (s2_walkAll_2 n o0 f x1 M) M 2 [(0, .ref (wa w o0)), (1, .int x1)] [] := by
  intro f
  induction f with
  | zero =>
    intro x1 M
    rw [s2_walkAll_2]
    exact J_none
  | succ f ih =>
    intro x1 M
    rw [s2_walkAll_2]
    refine J_iload_n C dX2_walkAll_2 rfl 1 rfl ?_
    refine J_aload_n C dX2_walkAll_3 rfl 0 rfl ?_
    refine J_geti C fk2_5 W1_179 h0 dX2_walkAll_4 ?_
    refine J_icmp_ge (tgt := 44) C dX2_walkAll_7 (by decide) (fun _ => ?_) (fun _ => ?_)
    · exact J_vret C RT dX2_walkAll_44
    · refine J_iload_n C dX2_walkAll_10 rfl 1 rfl ?_
      refine J_bipush C dX2_walkAll_11 kcb_12 ?_
      refine J_icmp_ge (tgt := 44) C dX2_walkAll_13 (by decide) (fun _ => ?_) (fun _ => ?_)
      · exact J_vret C RT dX2_walkAll_44
      · refine J_aload_n C dX2_walkAll_16 rfl 0 rfl ?_
        refine J_getr C fk2_3 W1_174 h0 dX2_walkAll_17 ?_
        refine J_iload_n C dX2_walkAll_20 rfl 1 rfl ?_
        refine J_aaload C (tl_2_3 h0) dX2_walkAll_21 (fun hb1 => ?_)
        refine J_geti C fk7_2 W1_128 (t_wk (tl_2_3 h0) hb1) dX2_walkAll_22 ?_
        refine J_if_eq (tgt := 38) C dX2_walkAll_25 (by decide) (fun _ => ?_) (fun _ => ?_)
        · refine J_iinc (lw := fun v2 => [(1, .int v2), (0, .ref (wa w o0))]) (X := x1 + 1) C dX2_walkAll_38 (q := 1) rfl (by rw [kci_1]) (by decide) (fun _ => rfl) (fun v2 => ?_)
          refine J_goto (tgt := 2) C dX2_walkAll_41 (by decide) ?_
          refine J_lv [1, 0] rfl ?_
          exact ih v2 M
        · refine J_aload_n C dX2_walkAll_28 rfl 0 rfl ?_
          refine J_aload_n C dX2_walkAll_29 rfl 0 rfl ?_
          refine J_getr C fk2_3 W1_174 h0 dX2_walkAll_30 ?_
          refine J_iload_n C dX2_walkAll_33 rfl 1 rfl ?_
          refine J_aaload C (tl_2_3 h0) dX2_walkAll_34 (fun hb3 => ?_)
          refine J_cvv (As := [.ref (wa w (link (link o0 3) x1.toNatClampNeg))]) C (c2_walk (gl g) w n o0 h0 (link (link o0 3) x1.toNatClampNeg) (t_wk (tl_2_3 h0) hb3) M) (gd_v W3_121 W3_123 WP_13 W1_3 W3_124) rfl (by decide) (hdX2_walk) h0 (by decide) (cl_2) rfl (Nat.le_of_ble_eq_true rfl) dX2_walkAll_35 rfl (fun r5 M4 => ?_)
          refine J_iinc (lw := fun v6 => [(1, .int v6), (0, .ref (wa w o0))]) (X := x1 + 1) C dX2_walkAll_38 (q := 1) rfl (by rw [kci_1]) (by decide) (fun _ => rfl) (fun v6 => ?_)
          refine J_goto (tgt := 2) C dX2_walkAll_41 (by decide) ?_
          refine J_lv [1, 0] rfl ?_
          exact ih v6 M4
def s2_walkAll (n : Nat) (o0 : Nat) (M : Mem) : Option Res := s2_walkAll_2 n o0 n (0 : Int32) M
set_option maxRecDepth 100000 in
set_option maxHeartbeats 4000000 in
theorem b2_walkAll {w : WE} {g : GT} (C : CT w g RX2 cX2_walkAll rm2_walkAll 2) (RT : RTv w g cX2_walkAll) (n : Nat) (o0 : Nat) (h0 : typ o0 = 2) (M : Mem) : J w g (s2_walkAll n o0 M) M 0 [(0, .ref (wa w o0))] [] := by
  rw [s2_walkAll]
  refine J_iconst C dX2_walkAll_0 kci_0 ?_
  refine J_istore_n (lv' := [(1, .int (0 : Int32)), (0, .ref (wa w o0))]) C dX2_walkAll_1 rfl (by decide) rfl ?_
  refine J_lv [1, 0] rfl ?_
  exact b2_walkAll_2 C RT n o0 h0 n (0 : Int32) M
theorem c2_walkAll (l : Launch) (w : WE) (n : Nat) (o0 : Nat) (h0 : typ o0 = 2) (M : Mem) : MV l w yX2_walkAll (wz yX2_walkAll cX2_walkAll 2 none) rm2_walkAll [.ref (wa w o0)] (s2_walkAll n o0 M) M :=
  mv_of_J (own := RX2) rfl (by decide) rfl rfl (Nat.le_of_ble_eq_true rfl) (fun _ _ C RT => b2_walkAll C RT n o0 h0 M)
theorem hdX2_walkAll : yX2_walkAll.cls = RX2 ∧ yOK yX2_walkAll 0 := ⟨rfl, by decide, by decide, by decide⟩
abbrev rm4_placeOfChair : Room := { frames := 0, cells := 0, slots := 0, locals := 0 }
def s4_placeOfChair (o0 : Nat) (x1 : Int32) (M : Mem) : Option Res := if x1 < 0 then (some ((-9 : Int32), M)) else (if (M o0 1) ≤ x1 then (some ((-9 : Int32), M)) else (if (11 : Int32) ≤ x1 then (some ((-9 : Int32), M)) else (if inB x1 (alen (link o0 2)) then some (M (link o0 2) x1.toNatClampNeg, M) else none)))
set_option maxRecDepth 100000 in
set_option maxHeartbeats 4000000 in
theorem b4_placeOfChair {w : WE} {g : GT} (C : CT w g RX4 cX4_placeOfChair rm4_placeOfChair 2) (RT : RTi w g cX4_placeOfChair .int) (o0 : Nat) (h0 : typ o0 = 4) (x1 : Int32) (M : Mem) : J w g (s4_placeOfChair o0 x1 M) M 0 [(0, .ref (wa w o0)), (1, .int x1)] [] := by
  rw [s4_placeOfChair]
  refine J_iload_n C dX4_placeOfChair_0 rfl 1 rfl ?_
  refine J_if_lt (tgt := 27) C dX4_placeOfChair_1 (by decide) (fun _ => ?_) (fun _ => ?_)
  · refine J_bipush C dX4_placeOfChair_27 kcb_m9 ?_
    exact J_iret C RT rfl dX4_placeOfChair_29
  · refine J_iload_n C dX4_placeOfChair_4 rfl 1 rfl ?_
    refine J_aload_n C dX4_placeOfChair_5 rfl 0 rfl ?_
    refine J_geti C fk4_1 W1_48 h0 dX4_placeOfChair_6 ?_
    refine J_icmp_ge (tgt := 27) C dX4_placeOfChair_9 (by decide) (fun _ => ?_) (fun _ => ?_)
    · refine J_bipush C dX4_placeOfChair_27 kcb_m9 ?_
      exact J_iret C RT rfl dX4_placeOfChair_29
    · refine J_iload_n C dX4_placeOfChair_12 rfl 1 rfl ?_
      refine J_bipush C dX4_placeOfChair_13 kcb_11 ?_
      refine J_icmp_ge (tgt := 27) C dX4_placeOfChair_15 (by decide) (fun _ => ?_) (fun _ => ?_)
      · refine J_bipush C dX4_placeOfChair_27 kcb_m9 ?_
        exact J_iret C RT rfl dX4_placeOfChair_29
      · refine J_aload_n C dX4_placeOfChair_18 rfl 0 rfl ?_
        refine J_getr C fk4_2 W1_53 h0 dX4_placeOfChair_19 ?_
        refine J_iload_n C dX4_placeOfChair_22 rfl 1 rfl ?_
        refine J_aload_ C (tl_4_2 h0) dX4_placeOfChair_23 ?_
        refine J_goto (tgt := 29) C dX4_placeOfChair_24 (by decide) ?_
        exact J_iret C RT rfl dX4_placeOfChair_29
theorem c4_placeOfChair (l : Launch) (w : WE) (o0 : Nat) (h0 : typ o0 = 4) (x1 : Int32) (M : Mem) : MC l w yX4_placeOfChair (wz yX4_placeOfChair cX4_placeOfChair 2 (some .int)) rm4_placeOfChair [.ref (wa w o0), .int x1] (s4_placeOfChair o0 x1 M) M :=
  mc_of_J (own := RX4) rfl (by decide) rfl rfl (Nat.le_of_ble_eq_true rfl) (fun _ _ C RT => b4_placeOfChair C RT o0 h0 x1 M)
theorem hdX4_placeOfChair : yX4_placeOfChair.cls = RX4 ∧ yOK yX4_placeOfChair 1 := ⟨rfl, by decide, by decide, by decide⟩
abbrev rm4_far : Room := { frames := 0, cells := 0, slots := 0, locals := 0 }
def s4_far_14 (n : Nat) (o0 : Nat) (t0 : Int32) (M : Mem) : Option Res := if t0 ≤ ((M o0 0) - t0) then (some (t0, M)) else (some ((M o0 0) - t0, M))
set_option maxRecDepth 100000 in
set_option maxHeartbeats 4000000 in
theorem b4_far_14 {w : WE} {g : GT} (C : CT w g RX4 cX4_far rm4_far 4) (RT : RTi w g cX4_far .int) (n : Nat) (o0 : Nat) (h0 : typ o0 = 4) (t0 : Int32) (M : Mem) : J w g (s4_far_14 n o0 t0 M) M 14 [(0, .ref (wa w o0))] [.int t0] := by
  rw [s4_far_14]
  refine J_istore_n (lv' := [(3, .int t0), (0, .ref (wa w o0))]) C dX4_far_14 rfl (by decide) rfl ?_
  refine J_iload_n C dX4_far_15 rfl 0 rfl ?_
  refine J_aload_n C dX4_far_16 rfl 1 rfl ?_
  refine J_geti C fk4_0 W1_44 h0 dX4_far_17 ?_
  refine J_iload_n C dX4_far_20 rfl 0 rfl ?_
  refine J_isub C dX4_far_21 ?_
  refine J_icmp_le (tgt := 34) C dX4_far_22 (by decide) (fun _ => ?_) (fun _ => ?_)
  · refine J_iload_n C dX4_far_34 rfl 0 rfl ?_
    exact J_iret C RT rfl dX4_far_35
  · refine J_aload_n C dX4_far_25 rfl 1 rfl ?_
    refine J_geti C fk4_0 W1_44 h0 dX4_far_26 ?_
    refine J_iload_n C dX4_far_29 rfl 0 rfl ?_
    refine J_isub C dX4_far_30 ?_
    refine J_goto (tgt := 35) C dX4_far_31 (by decide) ?_
    exact J_iret C RT rfl dX4_far_35
def s4_far (n : Nat) (o0 : Nat) (x1 : Int32) (x2 : Int32) (M : Mem) : Option Res := if x2 ≤ x1 then (s4_far_14 n o0 (x1 - x2) M) else (s4_far_14 n o0 (x2 - x1) M)
set_option maxRecDepth 100000 in
set_option maxHeartbeats 4000000 in
theorem b4_far {w : WE} {g : GT} (C : CT w g RX4 cX4_far rm4_far 4) (RT : RTi w g cX4_far .int) (n : Nat) (o0 : Nat) (h0 : typ o0 = 4) (x1 : Int32) (x2 : Int32) (M : Mem) : J w g (s4_far n o0 x1 x2 M) M 0 [(0, .ref (wa w o0)), (1, .int x1), (2, .int x2)] [] := by
  rw [s4_far]
  refine J_iload_n C dX4_far_0 rfl 1 rfl ?_
  refine J_iload_n C dX4_far_1 rfl 2 rfl ?_
  refine J_icmp_ge (tgt := 11) C dX4_far_2 (by decide) (fun _ => ?_) (fun _ => ?_)
  · refine J_iload_n C dX4_far_11 rfl 1 rfl ?_
    refine J_iload_n C dX4_far_12 rfl 2 rfl ?_
    refine J_isub C dX4_far_13 ?_
    refine J_lv [0] rfl ?_
    exact b4_far_14 C RT n o0 h0 (x1 - x2) M
  · refine J_iload_n C dX4_far_5 rfl 2 rfl ?_
    refine J_iload_n C dX4_far_6 rfl 1 rfl ?_
    refine J_isub C dX4_far_7 ?_
    refine J_goto (tgt := 14) C dX4_far_8 (by decide) ?_
    refine J_lv [0] rfl ?_
    exact b4_far_14 C RT n o0 h0 (x2 - x1) M
theorem c4_far (l : Launch) (w : WE) (n : Nat) (o0 : Nat) (h0 : typ o0 = 4) (x1 : Int32) (x2 : Int32) (M : Mem) : MC l w yX4_far (wz yX4_far cX4_far 4 (some .int)) rm4_far [.ref (wa w o0), .int x1, .int x2] (s4_far n o0 x1 x2 M) M :=
  mc_of_J (own := RX4) rfl (by decide) rfl rfl (Nat.le_of_ble_eq_true rfl) (fun _ _ C RT => b4_far C RT n o0 h0 x1 x2 M)
theorem hdX4_far : yX4_far.cls = RX4 ∧ yOK yX4_far 2 := ⟨rfl, by decide, by decide, by decide⟩
