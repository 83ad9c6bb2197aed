section SR
variable {w : WE} {g : GT} {own : String} {cc : ByteArray} {rm : Room} {n : Nat} {E E1 E2 : Option Res} {M : Mem} {pc : Nat} {lv lv' : List (Nat × Value)} {st : List Value}
def slenI (i : Nat) : Int32 := Int32.ofNat (slen.getD i 0)
theorem slen_len : ∀ i, i < 6 → (sbyt.getD i []).length = slen.getD i 0 := by decide
theorem OF_at {o n d : String} {v : Value} {t : Nat} {A B : Nat → Prop} {U : State} (h : va_OF o n d v t A U U.heap) (hAB : ∀ q, q < U.heap.size → B q → A q) : va_OF o n d v t B U U.heap := by
  obtain ⟨cf, k, i, f, cell, h1, h2, h3, h4, h5, h6⟩ := h
  exact ⟨cf, k, i, f, cell, h1, h2, h3, h4, h5, fun q => h6 (hAB t (Array.getElem?_eq_some_iff.mp h3).1 q)⟩
theorem T_at {ty : FieldType} {t N : Nat} {f : Nat → Value} {A B : Nat → Prop} {U : State} (h : va_T ty t N f A U U.heap) (hAB : ∀ q, q < U.heap.size → B q → A q) : va_T ty t N f B U U.heap := by
  obtain ⟨cell, h1, h2, h3, h4, h5, h6, h7⟩ := h
  exact ⟨cell, h1, h2, h3, h4, h5, h6, fun q => h7 (hAB t (Array.getElem?_eq_some_iff.mp h1).1 q)⟩
theorem Z_at {C n d : String} {v : Value} {A B : Nat → Prop} {U : State} (h : va_Z C n d v A U U.heap) (hAB : ∀ q, q < U.heap.size → B q → A q) : va_Z C n d v B U U.heap := by
  obtain ⟨cf, kf, fi, f, a, cell, h1, h2, h3, h4, h5, h6, h7, h8⟩ := h
  exact ⟨cf, kf, fi, f, a, cell, h1, h2, h3, h4, h5, h6, h7, fun q => h8 (hAB a (Array.getElem?_eq_some_iff.mp h5).1 q)⟩
theorem O_at {E : String} {t : Nat} {A B : Nat → Prop} {U : State} (h : va_O E t A U U.heap) (hAB : ∀ q, q < U.heap.size → B q → A q) : va_O E t B U U.heap := by
  obtain ⟨cell, h1, h2, h3, h4⟩ := h
  exact ⟨cell, h1, h2, h3, fun q => h4 (hAB t (Array.getElem?_eq_some_iff.mp h1).1 q)⟩
theorem J_getSv (C : CT w g own cc rm n) {i index : Nat} (hi : i < 6) (hlink : Cond.fieldLink own index "java/lang/String" "value" "[B" ∈ BIG) (hdg : decode cc pc = .ok (.getfield index, 3)) (kk : J w g E M (pc + 3) lv (.ref (wv w i) :: st)) : J w g E M pc lv (.ref (wk w i) :: st) := by
  obtain ⟨p, l, e, R, s, m, args, below, meth, c, ce, sl, Q, A, nL, res⟩ := g
  obtain ⟨hx, hb, hml, hown, hts, hK, hSE, hR, hce, hsl, hA, hA2, hn⟩ := C
  intro H locs ls hW hl hE
  exact vk_getf hx hb (OF_at (hSE.1.1 i hi).2.2.1 hA2) hW.2.2 hown (hts _ hlink) (fun x h => h) hdg (kk H locs ls hW hl hE)
theorem J_getSc (C : CT w g own cc rm n) {i index : Nat} (hi : i < 6) (hlink : Cond.fieldLink own index "java/lang/String" "coder" "B" ∈ BIG) (hdg : decode cc pc = .ok (.getfield index, 3)) (kk : J w g E M (pc + 3) lv (.int 0 :: st)) : J w g E M pc lv (.ref (wk w i) :: st) := by
  obtain ⟨p, l, e, R, s, m, args, below, meth, c, ce, sl, Q, A, nL, res⟩ := g
  obtain ⟨hx, hb, hml, hown, hts, hK, hSE, hR, hce, hsl, hA, hA2, hn⟩ := C
  intro H locs ls hW hl hE
  exact vk_getf hx hb (OF_at (hSE.1.1 i hi).2.1 hA2) hW.2.2 hown (hts _ hlink) (fun x h => h) hdg (kk H locs ls hW hl hE)
theorem J_alenS (C : CT w g own cc rm n) {i : Nat} (hi : i < 6) (hdg : decode cc pc = .ok (.arraylength, 1)) (kk : J w g E M (pc + 1) lv (.int (slenI i) :: st)) : J w g E M pc lv (.ref (wv w i) :: st) := by
  obtain ⟨p, l, e, R, s, m, args, below, meth, c, ce, sl, Q, A, nL, res⟩ := g
  obtain ⟨hx, hb, hml, hown, hts, hK, hSE, hR, hce, hsl, hA, hA2, hn⟩ := C
  intro H locs ls hW hl hE
  exact va_tlen hx hb (T_at (hSE.1.1 i hi).2.2.2 hA2) hW.2.2 rfl hdg (kk H locs ls hW hl hE)
theorem J_baloadS (C : CT w g own cc rm n) {i : Nat} {k : Int32} (hi : i < 6) (hdg : decode cc pc = .ok (.baload, 1)) (kk : J w g E M (pc + 1) lv (.int ((sbyt.getD i []).getD k.toNatClampNeg 0) :: st)) : J w g (if inB k (slen.getD i 0) then E else none) M pc lv (.int k :: .ref (wv w i) :: st) := by
  refine J_ite (fun hk => ?_) (fun _ => J_none)
  obtain ⟨p, l, e, R, s, m, args, below, meth, c, ce, sl, Q, A, nL, res⟩ := g
  obtain ⟨hx, hb, hml, hown, hts, hK, hSE, hR, hce, hsl, hA, hA2, hn⟩ := C
  intro H locs ls hW hl hE
  exact va_tb hx hb (T_at (hSE.1.1 i hi).2.2.2 hA2) hW.2.2 hk rfl hdg (kk H locs ls hW hl hE)
theorem J_getC (C : CT w g own cc rm n) {index : Nat} (hlink : Cond.fieldLink own index "java/lang/String" "COMPACT_STRINGS" "Z" ∈ BIG) (hdg : decode cc pc = .ok (.getstatic index, 3)) (kk : J w g E M (pc + 3) lv (.int 1 :: st)) : J w g E M pc lv st := by
  obtain ⟨p, l, e, R, s, m, args, below, meth, c, ce, sl, Q, A, nL, res⟩ := g
  obtain ⟨hx, hb, hml, hown, hts, hK, hSE, hR, hce, hsl, hA, hA2, hn⟩ := C
  intro H locs ls hW hl hE
  exact va_gets hx hb (Z_at hSE.2.2.1 hA2) hW.2.2 hown (hts _ hlink) (fun x h => h) hdg (kk H locs ls hW hl hE)
theorem J_getF (C : CT w g own cc rm n) {index : Nat} (hlink : Cond.fieldLink own index "jdk/internal/util/Preconditions" "SIOOBE_FORMATTER" "Ljava/util/function/BiFunction;" ∈ BIG) (hdg : decode cc pc = .ok (.getstatic index, 3)) (kk : ∀ v : Value, v = .null ∨ (∃ t, v = .ref t) → J w g E M (pc + 3) lv (v :: st)) : J w g E M pc lv st := by
  obtain ⟨p, l, e, R, s, m, args, below, meth, c, ce, sl, Q, A, nL, res⟩ := g
  obtain ⟨hx, hb, hml, hown, hts, hK, hSE, hR, hce, hsl, hA, hA2, hn⟩ := C
  intro H locs ls hW hl hE
  rcases hSE.2.2.2.1 with h | ⟨t, h⟩
  · exact va_gets hx hb (Z_at h hA2) hW.2.2 hown (hts _ hlink) (fun x h => h) hdg (kk _ (Or.inl rfl) H locs ls hW hl hE)
  · exact va_gets hx hb (Z_at h hA2) hW.2.2 hown (hts _ hlink) (fun x h => h) hdg (kk _ (Or.inr ⟨t, rfl⟩) H locs ls hW hl hE)
theorem J_ldcS (C : CT w g RX6 cc rm n) (i : Nat) {index : Nat} (hi : i < 6) (hidx : sidx.getD i 0 = index) (hdg : decode cc pc = .ok (.ldc index, 2)) (kk : J w g E M (pc + 2) lv (.ref (wk w i) :: st)) : J w g E M pc lv st := by
  obtain ⟨p, l, e, R, s, m, args, below, meth, c, ce, sl, Q, A, nL, res⟩ := g
  obtain ⟨hx, hb, hml, hown, hts, hK, hSE, hR, hce, hsl, hA, hA2, hn⟩ := C
  intro H locs ls hW hl hE
  subst hidx
  exact va_ldcS hx hb hown (hSE.2.1 i hi) hdg (kk H locs ls hW hl hE)
theorem J_cSi (C : CT w g own cc rm n) {y : MethodName} {ws2 ws' : List Cond} {rm2 : Room} {As : List Value} {E2 : Option Res} {i : Nat} {bytes : ByteArray} {maxL k index : Nat} {ret : Option FieldType} {K : Int32 → Mem → Option Res} {st0 : List Value} (hM : MC (gl g) w y ws2 rm2 (.ref (wk w i) :: As) E2 M) (hg : GoodIn BIG (wsV own index RJ0 y ws2)) (hw : ws2 = Cond.code y bytes maxL ret :: ws') (hr : rmOK rm2 rm maxL) (hy : y.cls = RJ0 ∧ yOK y k) (hi : i < 6) (hn : As.length = k) (hcat : (st.map fun v => v.category).sum ≤ 8) (hdg : decode cc pc = .ok (.invokevirtual index, 3)) (hst : As.reverse ++ .ref (wk w i) :: st = st0) (kk : ∀ (r : Int32) (M' : Mem), J w g (K r M') M' (pc + 3) lv (.int r :: st)) : J w g (cb E2 K) M pc lv st0 := by
  subst hst
  obtain ⟨p, l, e, R, s, m, args, below, meth, c, ce, sl, Q, A, nL, res⟩ := g
  obtain ⟨hx, hb, hml, hown, hts, hK, hSE, hR, hce, hsl, hA, hA2, hn2⟩ := C
  intro H locs ls hW hl hE
  subst hR
  obtain ⟨r, M', h2, h3⟩ := cb_spec hE
  have hrv : ∃ cell : Cell, H[wk w i]? = some cell ∧ cell.vm.isStatics = false ∧ s.vm.findClass RJ0 = some cell.cls := by
    obtain ⟨cell, h1, h2, h3, h4⟩ := O_at (hSE.1.1 i hi).1 hA2
    exact ⟨cell, by rw [hW.2.2.2.1 _ (Array.getElem?_eq_some_iff.mp h1).1 h4]; exact h1, h2, h3⟩
  refine va_calli (va_runV (C := RJ0) (As := As) (rest := st) ⟨hx, hb, hml, hown, hts⟩ (hM (r, M') h2) (cwV k hts hg hw hr.1 hr.2.1 hy hr.2.2) ⟨WD_blind w M _, hrv, fun U hU hw2 => ⟨rfl, WD_pre hK hSE hA hW hU hw2 hW.2.2 hA2⟩⟩ rfl hn hl.1 rfl (lv_room hcat) hdg ⟨hce, hsl⟩) hW.2.2 (fun q _ h => hA q h) hA (fun r1 M1 t H1 locs1 ht hvm hpost hB hz hk hS1 => ?_)
  cases hpost
  exact kk r M' H1 locs1 ls ⟨by rw [← ht]; exact hB.1, ⟨hB.2.1, fun k q h => hA _ (wsW_A w _ k q h)⟩, hS1⟩ hl h3
end SR
abbrev rmS_coder : Room := { frames := 0, cells := 0, slots := 0, locals := 0 }
def sS_coder (i : Nat) (M : Mem) : Option Res := if (1 : Int32) = 0 then none else some (0, M)
set_option maxRecDepth 100000 in
set_option maxHeartbeats 4000000 in
theorem bS_coder {w : WE} {g : GT} (C : CT w g RJ0 cJ0_coder_7d493 rmS_coder 1) (RT : RTi w g cJ0_coder_7d493 .byte) (i : Nat) (hi : i < 6) (M : Mem) : J w g (sS_coder i M) M 0 [(0, .ref (wk w i))] [] := by
  rw [sS_coder]
  refine J_getC C W2_115 dJ0_coder_7d493_0 ?_
  refine J_if_eq (tgt := 13) C dJ0_coder_7d493_3 (by decide) (fun h => absurd h (by decide)) (fun _ => ?_)
  refine J_aload_n C dJ0_coder_7d493_6 rfl 0 rfl ?_
  refine J_getSc C hi W6_126 dJ0_coder_7d493_7 ?_
  refine J_goto (tgt := 14) C dJ0_coder_7d493_10 (by decide) ?_
  exact J_iret C RT (by decide) dJ0_coder_7d493_14
theorem cS_coder (l : Launch) (w : WE) (i : Nat) (hi : i < 6) (M : Mem) : MC l w yJ0_coder_7d493 (wz yJ0_coder_7d493 cJ0_coder_7d493 1 (some .byte)) rmS_coder [.ref (wk w i)] (sS_coder i M) M :=
  mc_of_J (own := RJ0) rfl (by decide) rfl rfl (Nat.le_of_ble_eq_true rfl) (fun _ _ C RT => bS_coder C RT i hi M)
theorem hdJ0_coder_7d493 : yJ0_coder_7d493.cls = RJ0 ∧ yOK yJ0_coder_7d493 0 := ⟨rfl, by decide, by decide, by decide⟩
abbrev rmS_isLatin1 : Room := { frames := 0, cells := 0, slots := 0, locals := 0 }
def sS_isLatin1 (i : Nat) (M : Mem) : Option Res := if (1 : Int32) = 0 then none else if (0 : Int32) = 0 then some (1, M) else none
set_option maxRecDepth 100000 in
set_option maxHeartbeats 4000000 in
theorem bS_isLatin1 {w : WE} {g : GT} (C : CT w g RJ0 cJ0_isLatin1_aae02 rmS_isLatin1 1) (RT : RTi w g cJ0_isLatin1_aae02 .boolean) (i : Nat) (hi : i < 6) (M : Mem) : J w g (sS_isLatin1 i M) M 0 [(0, .ref (wk w i))] [] := by
  rw [sS_isLatin1]
  refine J_getC C W2_115 dJ0_isLatin1_aae02_0 ?_
  refine J_if_eq (tgt := 17) C dJ0_isLatin1_aae02_3 (by decide) (fun h => absurd h (by decide)) (fun _ => ?_)
  refine J_aload_n C dJ0_isLatin1_aae02_6 rfl 0 rfl ?_
  refine J_getSc C hi W6_126 dJ0_isLatin1_aae02_7 ?_
  refine J_if_ne (tgt := 17) C dJ0_isLatin1_aae02_10 (by decide) (fun h => absurd rfl h) (fun _ => ?_)
  refine J_iconst C dJ0_isLatin1_aae02_13 kci_1 ?_
  refine J_goto (tgt := 18) C dJ0_isLatin1_aae02_14 (by decide) ?_
  exact J_iret C RT (by decide) dJ0_isLatin1_aae02_18
theorem cS_isLatin1 (l : Launch) (w : WE) (i : Nat) (hi : i < 6) (M : Mem) : MC l w yJ0_isLatin1_aae02 (wz yJ0_isLatin1_aae02 cJ0_isLatin1_aae02 1 (some .boolean)) rmS_isLatin1 [.ref (wk w i)] (sS_isLatin1 i M) M :=
  mc_of_J (own := RJ0) rfl (by decide) rfl rfl (Nat.le_of_ble_eq_true rfl) (fun _ _ C RT => bS_isLatin1 C RT i hi M)
theorem hdJ0_isLatin1_aae02 : yJ0_isLatin1_aae02.cls = RJ0 ∧ yOK yJ0_isLatin1_aae02 0 := ⟨rfl, by decide, by decide, by decide⟩
abbrev rmS_length : Room := { frames := 1, cells := 0, slots := 0, locals := 20 }
def sS_length (i : Nat) (M : Mem) : Option Res := cb (sS_coder i M) (fun r M1 => some (slenI i >>> (r &&& 31), M1))
set_option maxRecDepth 100000 in
set_option maxHeartbeats 4000000 in
theorem bS_length {w : WE} {g : GT} (C : CT w g RJ0 cJ0_length_8abf5 rmS_length 1) (RT : RTi w g cJ0_length_8abf5 .int) (i : Nat) (hi : i < 6) (M : Mem) : J w g (sS_length i M) M 0 [(0, .ref (wk w i))] [] := by
  rw [sS_length]
  refine J_aload_n C dJ0_length_8abf5_0 rfl 0 rfl ?_
  refine J_getSv C hi W6_125 dJ0_length_8abf5_1 ?_
  refine J_alenS C hi dJ0_length_8abf5_4 ?_
  refine J_aload_n C dJ0_length_8abf5_5 rfl 0 rfl ?_
  refine J_cSi (As := []) C (cS_coder (gl g) w i hi M) (gd_v W2_111 W2_112 W2_113 W1_11 W2_114) rfl (by decide) hdJ0_coder_7d493 hi rfl (Nat.le_of_ble_eq_true rfl) dJ0_length_8abf5_6 rfl (fun r M1 => ?_)
  refine J_ishr C dJ0_length_8abf5_9 ?_
  exact J_iret C RT rfl dJ0_length_8abf5_10
theorem cS_length (l : Launch) (w : WE) (i : Nat) (hi : i < 6) (M : Mem) : MC l w yJ0_length_8abf5 (wz yJ0_length_8abf5 cJ0_length_8abf5 1 (some .int)) rmS_length [.ref (wk w i)] (sS_length i M) M :=
  mc_of_J (own := RJ0) rfl (by decide) rfl rfl (Nat.le_of_ble_eq_true rfl) (fun _ _ C RT => bS_length C RT i hi M)
theorem hdJ0_length_8abf5 : yJ0_length_8abf5.cls = RJ0 ∧ yOK yJ0_length_8abf5 0 := ⟨rfl, by decide, by decide, by decide⟩
abbrev rmS_isEmpty : Room := { frames := 0, cells := 0, slots := 0, locals := 0 }
def sS_isEmpty (i : Nat) (M : Mem) : Option Res := if slenI i = 0 then some (1, M) else some (0, M)
set_option maxRecDepth 100000 in
set_option maxHeartbeats 4000000 in
theorem bS_isEmpty {w : WE} {g : GT} (C : CT w g RJ0 cJ0_isEmpty_aae02 rmS_isEmpty 1) (RT : RTi w g cJ0_isEmpty_aae02 .boolean) (i : Nat) (hi : i < 6) (M : Mem) : J w g (sS_isEmpty i M) M 0 [(0, .ref (wk w i))] [] := by
  rw [sS_isEmpty]
  refine J_aload_n C dJ0_isEmpty_aae02_0 rfl 0 rfl ?_
  refine J_getSv C hi W6_125 dJ0_isEmpty_aae02_1 ?_
  refine J_alenS C hi dJ0_isEmpty_aae02_4 ?_
  refine J_if_ne (tgt := 12) C dJ0_isEmpty_aae02_5 (by decide) (fun _ => ?_) (fun _ => ?_)
  · refine J_iconst C dJ0_isEmpty_aae02_12 kci_0 ?_
    exact J_iret C RT (by decide) dJ0_isEmpty_aae02_13
  · refine J_iconst C dJ0_isEmpty_aae02_8 kci_1 ?_
    refine J_goto (tgt := 13) C dJ0_isEmpty_aae02_9 (by decide) ?_
    exact J_iret C RT (by decide) dJ0_isEmpty_aae02_13
theorem cS_isEmpty (l : Launch) (w : WE) (i : Nat) (hi : i < 6) (M : Mem) : MC l w yJ0_isEmpty_aae02 (wz yJ0_isEmpty_aae02 cJ0_isEmpty_aae02 1 (some .boolean)) rmS_isEmpty [.ref (wk w i)] (sS_isEmpty i M) M :=
  mc_of_J (own := RJ0) rfl (by decide) rfl rfl (Nat.le_of_ble_eq_true rfl) (fun _ _ C RT => bS_isEmpty C RT i hi M)
theorem hdJ0_isEmpty_aae02 : yJ0_isEmpty_aae02.cls = RJ0 ∧ yOK yJ0_isEmpty_aae02 0 := ⟨rfl, by decide, by decide, by decide⟩
abbrev rmS_pchk : Room := { frames := 0, cells := 0, slots := 0, locals := 0 }
def sS_pchk (k m : Int32) (M : Mem) : Option Res := if k < 0 then none else if k < m then some (k, M) else none
set_option maxRecDepth 100000 in
set_option maxHeartbeats 4000000 in
theorem bS_pchk {w : WE} {g : GT} (C : CT w g RJ3 cJ3_checkIndex_8e157 rmS_pchk 3) (RT : RTi w g cJ3_checkIndex_8e157 .int) (k m : Int32) (v : Value) (hv : v = .null ∨ ∃ t, v = .ref t) (M : Mem) : J w g (sS_pchk k m M) M 0 [(0, .int k), (1, .int m), (2, v)] [] := by
  rw [sS_pchk]
  refine J_iload_n C dJ3_checkIndex_8e157_0 rfl 0 rfl ?_
  refine J_if_lt (tgt := 9) C dJ3_checkIndex_8e157_1 (by decide) (fun _ => J_none) (fun _ => ?_)
  refine J_iload_n C dJ3_checkIndex_8e157_4 rfl 0 rfl ?_
  refine J_iload_n C dJ3_checkIndex_8e157_5 rfl 1 rfl ?_
  refine J_icmp_lt (tgt := 16) C dJ3_checkIndex_8e157_6 (by decide) (fun _ => ?_) (fun _ => J_none)
  refine J_iload_n C dJ3_checkIndex_8e157_16 rfl 0 rfl ?_
  exact J_iret C RT rfl dJ3_checkIndex_8e157_17
theorem cS_pchk (l : Launch) (w : WE) (k m : Int32) (v : Value) (hv : v = .null ∨ ∃ t, v = .ref t) (M : Mem) : MC l w yJ3_checkIndex_8e157 (wz yJ3_checkIndex_8e157 cJ3_checkIndex_8e157 3 (some .int)) rmS_pchk [.int k, .int m, v] (sS_pchk k m M) M :=
  mc_of_J (own := RJ3) rfl (by decide) rfl rfl (by rcases hv with rfl | ⟨t, rfl⟩ <;> exact Nat.le_of_ble_eq_true rfl) (fun _ _ C RT => by
    have hh := bS_pchk C RT k m v hv M
    rcases hv with rfl | ⟨t, rfl⟩ <;> exact hh)
theorem hdJ3_checkIndex_8e157 : yJ3_checkIndex_8e157.cls = RJ3 ∧ yOK yJ3_checkIndex_8e157 3 := ⟨rfl, by decide, by decide, by decide⟩
abbrev rmS_chk : Room := { frames := 1, cells := 0, slots := 0, locals := 22 }
def sS_chk (k m : Int32) (M : Mem) : Option Res := cb (sS_pchk k m M) (fun _ M1 => some (0, M1))
set_option maxRecDepth 100000 in
set_option maxHeartbeats 4000000 in
theorem bS_chk {w : WE} {g : GT} (C : CT w g RJ0 cJ0_checkIndex_df160 rmS_chk 2) (RT : RTv w g cJ0_checkIndex_df160) (k m : Int32) (M : Mem) : J w g (sS_chk k m M) M 0 [(0, .int k), (1, .int m)] [] := by
  rw [sS_chk]
  refine J_iload_n C dJ0_checkIndex_df160_0 rfl 0 rfl ?_
  refine J_iload_n C dJ0_checkIndex_df160_1 rfl 1 rfl ?_
  refine J_getF C W2_131 dJ0_checkIndex_df160_2 (fun v hv => ?_)
  refine J_csi (As := [.int k, .int m, v]) (dm := 0) C (cS_pchk (gl g) w k m v hv M) (gd_s W2_133 W2_134 W1_13 W2_135) rfl (by decide) hdJ3_checkIndex_8e157.2 rfl (Nat.le_of_ble_eq_true rfl) dJ0_checkIndex_df160_5 rfl (fun r M1 => ?_)
  refine J_pop C rfl dJ0_checkIndex_df160_8 ?_
  exact J_vret C RT dJ0_checkIndex_df160_9
theorem cS_chk (l : Launch) (w : WE) (k m : Int32) (M : Mem) : MV l w yJ0_checkIndex_df160 (wz yJ0_checkIndex_df160 cJ0_checkIndex_df160 2 none) rmS_chk [.int k, .int m] (sS_chk k m M) M :=
  mv_of_J (own := RJ0) rfl (by decide) rfl rfl (Nat.le_of_ble_eq_true rfl) (fun _ _ C RT => bS_chk C RT k m M)
theorem hdJ0_checkIndex_df160 : yJ0_checkIndex_df160.cls = RJ0 ∧ yOK yJ0_checkIndex_df160 2 := ⟨rfl, by decide, by decide, by decide⟩
abbrev rmS_lchar : Room := { frames := 2, cells := 0, slots := 0, locals := 43 }
def sS_lchar (i : Nat) (k : Int32) (M : Mem) : Option Res := cb (sS_chk k (slenI i) M) (fun _ M1 => if inB k (slen.getD i 0) then some (((((sbyt.getD i []).getD k.toNatClampNeg 0) &&& (255 : Int32)).toUInt32 % 65536).toInt32, M1) else none)
set_option maxRecDepth 100000 in
set_option maxHeartbeats 4000000 in
theorem bS_lchar {w : WE} {g : GT} (C : CT w g RJ1 cJ1_charAt_3b067 rmS_lchar 2) (RT : RTi w g cJ1_charAt_3b067 .char) (i : Nat) (hi : i < 6) (k : Int32) (M : Mem) : J w g (sS_lchar i k M) M 0 [(0, .ref (wv w i)), (1, .int k)] [] := by
  rw [sS_lchar]
  refine J_iload_n C dJ1_charAt_3b067_0 rfl 1 rfl ?_
  refine J_aload_n C dJ1_charAt_3b067_1 rfl 0 rfl ?_
  refine J_alenS C hi dJ1_charAt_3b067_2 ?_
  refine J_csv (As := [.int k, .int (slenI i)]) (dm := 0) C (cS_chk (gl g) w k (slenI i) M) (gd_s W2_128 W2_129 W1_11 W2_130) rfl (by decide) hdJ0_checkIndex_df160.2 rfl (Nat.le_of_ble_eq_true rfl) dJ1_charAt_3b067_3 rfl (fun _ M1 => ?_)
  refine J_aload_n C dJ1_charAt_3b067_6 rfl 0 rfl ?_
  refine J_iload_n C dJ1_charAt_3b067_7 rfl 1 rfl ?_
  refine J_baloadS C hi dJ1_charAt_3b067_8 ?_
  refine J_sipush C dJ1_charAt_3b067_9 kcs_255 ?_
  refine J_iand C dJ1_charAt_3b067_12 ?_
  refine J_i2c C dJ1_charAt_3b067_13 ?_
  exact J_iret C RT (pk_nc _) dJ1_charAt_3b067_14
theorem cS_lchar (l : Launch) (w : WE) (i : Nat) (hi : i < 6) (k : Int32) (M : Mem) : MC l w yJ1_charAt_3b067 (wz yJ1_charAt_3b067 cJ1_charAt_3b067 2 (some .char)) rmS_lchar [.ref (wv w i), .int k] (sS_lchar i k M) M :=
  mc_of_J (own := RJ1) rfl (by decide) rfl rfl (Nat.le_of_ble_eq_true rfl) (fun _ _ C RT => bS_lchar C RT i hi k M)
theorem hdJ1_charAt_3b067 : yJ1_charAt_3b067.cls = RJ1 ∧ yOK yJ1_charAt_3b067 2 := ⟨rfl, by decide, by decide, by decide⟩
abbrev rmS_charAt : Room := { frames := 3, cells := 0, slots := 0, locals := 64 }
def sS_charAt (i : Nat) (k : Int32) (M : Mem) : Option Res := cb (sS_isLatin1 i M) (fun r1 M1 => if r1 = 0 then none else cb (sS_lchar i k M1) (fun r2 M2 => if narrow .char (.int r2) = .int r2 then some (r2, M2) else none))
set_option maxRecDepth 100000 in
set_option maxHeartbeats 4000000 in
theorem bS_charAt {w : WE} {g : GT} (C : CT w g RJ0 cJ0_charAt_5068e rmS_charAt 2) (RT : RTi w g cJ0_charAt_5068e .char) (i : Nat) (hi : i < 6) (k : Int32) (M : Mem) : J w g (sS_charAt i k M) M 0 [(0, .ref (wk w i)), (1, .int k)] [] := by
  rw [sS_charAt]
  refine J_aload_n C dJ0_charAt_5068e_0 rfl 0 rfl ?_
  refine J_cSi (As := []) C (cS_isLatin1 (gl g) w i hi M) (gd_v W2_121 W2_122 W2_123 W1_11 W2_124) rfl (by decide) hdJ0_isLatin1_aae02 hi rfl (Nat.le_of_ble_eq_true rfl) dJ0_charAt_5068e_1 rfl (fun r1 M1 => ?_)
  refine J_if_eq (tgt := 16) C dJ0_charAt_5068e_4 (by decide) (fun _ => J_none) (fun _ => ?_)
  refine J_aload_n C dJ0_charAt_5068e_7 rfl 0 rfl ?_
  refine J_getSv C hi W6_125 dJ0_charAt_5068e_8 ?_
  refine J_iload_n C dJ0_charAt_5068e_11 rfl 1 rfl ?_
  refine J_csi (As := [.ref (wv w i), .int k]) (dm := 0) C (cS_lchar (gl g) w i hi k M1) (gd_s W2_125 W2_126 W1_12 W2_127) rfl (by decide) hdJ1_charAt_3b067.2 rfl (Nat.le_of_ble_eq_true rfl) dJ0_charAt_5068e_12 rfl (fun r2 M2 => ?_)
  exact J_ite (fun h => J_iret C RT h dJ0_charAt_5068e_15) (fun _ => J_none)
theorem cS_charAt (l : Launch) (w : WE) (i : Nat) (hi : i < 6) (k : Int32) (M : Mem) : MC l w yJ0_charAt_5068e (wz yJ0_charAt_5068e cJ0_charAt_5068e 2 (some .char)) rmS_charAt [.ref (wk w i), .int k] (sS_charAt i k M) M :=
  mc_of_J (own := RJ0) rfl (by decide) rfl rfl (Nat.le_of_ble_eq_true rfl) (fun _ _ C RT => bS_charAt C RT i hi k M)
theorem hdJ0_charAt_5068e : yJ0_charAt_5068e.cls = RJ0 ∧ yOK yJ0_charAt_5068e 1 := ⟨rfl, by decide, by decide, by decide⟩
/-- the shape of a letter's statement, by its place among the texts -/
def shp (x : Int32) : Nat := if x = 99 then 1 else if x = 102 then 4 else if x = 110 then 0 else if x = 112 then 3 else if x = 119 then 2 else 5
theorem shp_lt (x : Int32) : shp x < 6 := by
  unfold shp
  repeat' split
  all_goals decide
abbrev rmS_shapeOf : Room := { frames := 0, cells := 0, slots := 0, locals := 0 }
def RTr (w : WE) (g : GT) (cc : ByteArray) (a : Nat) : Prop :=
  match g with
  | (p, l, e, R, s, m, args, below, meth, c, ce, sl, Q, A, _, res) => ∀ (H : Heap) (locs : List Loc) (ls : Array Slot) (M : Mem) (pc : Nat), WH w A s M H locs → M = res.2 → decode cc pc = .ok (.areturn, 1) → W p l e R s m args below meth c H locs ce sl Q (F0 m pc ls [.ref a])
theorem J_rret {w : WE} {g : GT} {own : String} {cc : ByteArray} {rm : Room} {n pc a : Nat} {M : Mem} {lv : List (Nat × Value)} (C : CT w g own cc rm n) (r : RTr w g cc a) (hdg : decode cc pc = .ok (.areturn, 1)) : J w g (some (0, M)) M pc lv [.ref a] := by
  obtain ⟨p, l, e, R, s, m, args, below, meth, c, ce, sl, Q, A, nL, res⟩ := g
  intro H locs ls hW hl hE
  exact r H locs ls M pc hW (by rw [← Option.some.inj hE]) hdg
set_option maxRecDepth 100000 in
set_option maxHeartbeats 4000000 in
theorem bS_shapeOf {w : WE} {g : GT} (C : CT w g RX6 cX6_shapeOf rmS_shapeOf 1) (x : Int32) (RT : RTr w g cX6_shapeOf (wk w (shp x))) (M : Mem) : J w g (some (0, M)) M 0 [(0, .int x)] [] := by
  refine J_iload_n C dX6_shapeOf_0 rfl 0 rfl ?_
  by_cases hc0 : x = 99
  · refine J_lsw (tgt := 55) C dX6_shapeOf_1 (by decide) (off := 54) (by rw [hc0]; rfl) (by decide) ?_
    refine J_ldcS C 1 (by decide) rfl dX6_shapeOf_55 ?_
    exact J_rret C (by rw [show shp x = 1 by rw [hc0]; rfl] at RT; exact RT) dX6_shapeOf_57
  by_cases hc1 : x = 102
  · refine J_lsw (tgt := 64) C dX6_shapeOf_1 (by decide) (off := 63) (by rw [hc1]; rfl) (by decide) ?_
    refine J_ldcS C 4 (by decide) rfl dX6_shapeOf_64 ?_
    exact J_rret C (by rw [show shp x = 4 by rw [hc1]; rfl] at RT; exact RT) dX6_shapeOf_66
  by_cases hc2 : x = 110
  · refine J_lsw (tgt := 52) C dX6_shapeOf_1 (by decide) (off := 51) (by rw [hc2]; rfl) (by decide) ?_
    refine J_ldcS C 0 (by decide) rfl dX6_shapeOf_52 ?_
    exact J_rret C (by rw [show shp x = 0 by rw [hc2]; rfl] at RT; exact RT) dX6_shapeOf_54
  by_cases hc3 : x = 112
  · refine J_lsw (tgt := 61) C dX6_shapeOf_1 (by decide) (off := 60) (by rw [hc3]; rfl) (by decide) ?_
    refine J_ldcS C 3 (by decide) rfl dX6_shapeOf_61 ?_
    exact J_rret C (by rw [show shp x = 3 by rw [hc3]; rfl] at RT; exact RT) dX6_shapeOf_63
  by_cases hc4 : x = 119
  · refine J_lsw (tgt := 58) C dX6_shapeOf_1 (by decide) (off := 57) (by rw [hc4]; rfl) (by decide) ?_
    refine J_ldcS C 2 (by decide) rfl dX6_shapeOf_58 ?_
    exact J_rret C (by rw [show shp x = 2 by rw [hc4]; rfl] at RT; exact RT) dX6_shapeOf_60
  · refine J_lsw (tgt := 67) C dX6_shapeOf_1 (by decide) (off := 66) ((lv_osw hc0 rfl).trans ((lv_osw hc1 rfl).trans ((lv_osw hc2 rfl).trans ((lv_osw hc3 rfl).trans ((lv_osw hc4 rfl).trans rfl))))) (by decide) ?_
    refine J_ldcS C 5 (by decide) rfl dX6_shapeOf_67 ?_
    exact J_rret C (by rw [show shp x = 5 by unfold shp; rw [if_neg hc0, if_neg hc1, if_neg hc2, if_neg hc3, if_neg hc4]] at RT; exact RT) dX6_shapeOf_69
theorem cS_shapeOf (l : Launch) (w : WE) (x : Int32) (M : Mem) : Met l yX6_shapeOf (wz yX6_shapeOf cX6_shapeOf 1 (some (.object "java/lang/String"))) rmS_shapeOf (va_Pc [.int x] (fun U => WD w M U)) (va_Qr (fun M' : Mem => M' = M) (fun M' a t => a = wk w (shp x) ∧ WB w M' t) (AW w)) 0 0 (AW w) := by
  refine Met.ofW (cc := cX6_shapeOf) (maxL := 1) (ret := some (.object "java/lang/String")) (by decide) rfl ?_
  intro p e s m args below meth c s₁ B hml hv
  obtain ⟨rfl, hP, hK, hD0, hSE⟩ := hv
  have hx := B.exec
  have hb := B.bytes
  have hr := B.returns
  have hts0 := atoms_spec B.pre
  have hts : ∀ x ∈ BIG, x.before _ s = true := fun x h => hts0 x (List.mem_cons_of_mem _ h)
  have hown' : s.vm.findClass RX6 = some m.cls := findClass_of_methodNamed B.named
  have hlocks := B.notSynchronized
  have hl := lv_entry [.int x] (n := 1) (Nat.le_of_ble_eq_true rfl)
  rw [lg_entry_eq]
  refine bS_shapeOf (w := w) (g := (p, l, e, rmS_shapeOf, s, m, _, below, meth, c, 0, 0, _, AW w, 1, (0, M))) ⟨hx, hb, hml, hown', hts, hK, hSE, rfl, Nat.zero_le _, Nat.zero_le _, fun _ h => h, fun _ _ h => h, rfl⟩ x ?_ M s.heap [] _ ⟨hP, ⟨hD0.1, wsW_A w M⟩, va_S.rf⟩ hl rfl
  intro H locs ls M1 pc hW hres hd
  exact W.aret (v := .ref (wk w (shp x))) hx hb hr (Or.inl ⟨_, rfl⟩) (Or.inr ⟨_, rfl⟩) (fun t ht _ => ⟨⟨M1, _, rfl, hres, rfl, by rw [ht]; exact hW.1, ⟨hW.2.1.1, fun _ _ _ => trivial⟩⟩, hW.2.2.F ht⟩) hW.2.2.2.2 hd hlocks
theorem hdX6_shapeOf : yX6_shapeOf.cls = RX6 ∧ yOK yX6_shapeOf 1 := ⟨rfl, by decide, by decide, by decide⟩
theorem J_shape {w : WE} {g : GT} {own : String} {cc : ByteArray} {rm : Room} {n pc index : Nat} {E : Option Res} {M : Mem} {lv : List (Nat × Value)} {st : List Value} {x : Int32} (C : CT w g own cc rm n) (hg : GoodIn BIG (va_wsS own index yX6_shapeOf (wz yX6_shapeOf cX6_shapeOf 1 (some (.object "java/lang/String"))))) (hr : rmOK rmS_shapeOf rm 1) (hcat : (st.map fun v => v.category).sum ≤ 8) (hdg : decode cc pc = .ok (.invokestatic index, 3)) (kk : J w g E M (pc + 3) lv (.ref (wk w (shp x)) :: st)) : J w g E M pc lv (.int x :: st) := by
  obtain ⟨p, l, e, R, s, m, args, below, meth, c, ce, sl, Q, A, nL, res⟩ := g
  obtain ⟨hx, hb, hml, hown, hts, hK, hSE, hR, hce, hsl, hA, hA2, hn2⟩ := C
  intro H locs ls hW hl hE
  subst hR
  refine va_callr (va_runS (As := [.int x]) (rest := st) ⟨hx, hb, hml, hown, hts⟩ (cS_shapeOf l w x M) (va_cwS 1 hts hg rfl hr.1 hr.2.1 hdX6_shapeOf.2 hr.2.2) ⟨WD_blind w M _, fun U hU hw2 => ⟨rfl, WD_pre hK hSE hA hW hU hw2 hW.2.2 hA2⟩⟩ rfl rfl hl.1 rfl (lv_room hcat) hdg ⟨hce, hsl⟩) hW.2.2 (fun q _ h => hA q h) hA (fun M1 ra t H1 locs1 ht hvm hpost hB hz hk hS1 => ?_)
  subst hpost
  obtain ⟨rfl, hB1, hB2⟩ := hB
  exact kk H1 locs1 ls ⟨by rw [← ht]; exact hB1, ⟨hB2.1, fun k q h => hA _ (wsW_A w _ k q h)⟩, hS1⟩ hl hE
