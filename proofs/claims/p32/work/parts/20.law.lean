def SCR (w : WE) (g : GT) (bS LS : Nat) (xs : Nat → Int32) : Prop :=
  match g with
  | (_, _, _, _, s, _, _, _, _, _, _, _, _, A, _, _) => va_X bS LS xs s s.heap ∧ bS < s.heap.size ∧ ¬ A bS
section LJ
variable {w : WE} {g : GT} {own : String} {cc : ByteArray} {rm : Room} {n bS LS : Nat} {xs : Nat → Int32} {E : Option Res} {M : Mem} {pc : Nat} {lv : List (Nat × Value)} {st : List Value}
theorem J_sld (C : CT w g own cc rm n) (S : SCR w g bS LS xs) {i : Int32} (hdg : decode cc pc = .ok (.iaload, 1)) (kk : J w g E M (pc + 1) lv (.int (xs i.toNatClampNeg) :: st)) : J w g (if inB i LS then E else none) M pc lv (.int i :: .ref bS :: st) := by
  refine J_ite (fun hi => ?_) (fun _ => J_none)
  obtain ⟨p, l, e, R, s, m, args, below, meth, c, ce, sl, Q, A, nL, res⟩ := g
  obtain ⟨hx, hb, hml, hown, hts, hK, hSE, hR, hce, hsl, hA, hA2, hn⟩ := C
  intro H locs ls hW hl hE
  exact va_sld hx hb S.1 S.2.1 S.2.2 hW.2.2 hi hdg (kk H locs ls hW hl hE)
theorem J_slen (C : CT w g own cc rm n) (S : SCR w g bS LS xs) (hdg : decode cc pc = .ok (.arraylength, 1)) (kk : J w g E M (pc + 1) lv (.int (Int32.ofNat LS) :: st)) : J w g E M pc lv (.ref bS :: st) := by
  obtain ⟨p, l, e, R, s, m, args, below, meth, c, ce, sl, Q, A, nL, res⟩ := g
  obtain ⟨hx, hb, hml, hown, hts, hK, hSE, hR, hce, hsl, hA, hA2, hn⟩ := C
  intro H locs ls hW hl hE
  exact va_slen hx hb S.1 S.2.1 S.2.2 hW.2.2 hdg (kk H locs ls hW hl hE)
end LJ
def sz_law_18 (n LS : Nat) (xs : Nat → Int32) (o1 : Nat) (o2 : Nat) : Nat → Int32 → Mem → Option Res
  | 0, _, _ => none
  | f + 1, x3, M => if ((Int32.ofNat LS) - (5 : Int32)) < x3 then (some ((1 : Int32), M)) else (if inB x3 LS then if ((xs x3.toNatClampNeg) &&& (31 : Int32)) = 0 then (if inB (x3 + (1 : Int32)) LS then if inB (x3 + (2 : Int32)) LS then if inB (x3 + (3 : Int32)) LS then cb (s8_feed n o1 (xs (x3 + (1 : Int32)).toNatClampNeg) ((((xs (x3 + (2 : Int32)).toNatClampNeg).toInt64) <<< ((32 : Int32).toInt64 &&& 63)) ||| (((xs (x3 + (3 : Int32)).toNatClampNeg).toInt64) &&& (4294967295 : Int64))) M) (fun r2 M1 => if inB (x3 + (1 : Int32)) LS then if inB (x3 + (2 : Int32)) LS then if inB (x3 + (3 : Int32)) LS then cb (s9_feed n o2 (xs (x3 + (1 : Int32)).toNatClampNeg) ((((xs (x3 + (2 : Int32)).toNatClampNeg).toInt64) <<< ((32 : Int32).toInt64 &&& 63)) ||| (((xs (x3 + (3 : Int32)).toNatClampNeg).toInt64) &&& (4294967295 : Int64))) M1) (fun r4 M3 => ilet (x3 + 5) (fun v5 => sz_law_18 n LS xs o1 o2 f v5 M3)) else none else none else none) else none else none else none) else (if ((xs x3.toNatClampNeg) &&& (31 : Int32)) = 1 then (cb (s8_party n o1 M) (fun r7 M6 => cb (s9_party n o2 M6) (fun r9 M8 => ilet (x3 + 5) (fun v10 => sz_law_18 n LS xs o1 o2 f v10 M8)))) else (if ((xs x3.toNatClampNeg) &&& (31 : Int32)) = 2 then (if inB (x3 + (1 : Int32)) LS then cb (s8_chair n o1 (xs (x3 + (1 : Int32)).toNatClampNeg) M) (fun r12 M11 => if inB (x3 + (1 : Int32)) LS then cb (s9_chair n o2 (xs (x3 + (1 : Int32)).toNatClampNeg) M11) (fun r14 M13 => ilet (x3 + 5) (fun v15 => sz_law_18 n LS xs o1 o2 f v15 M13)) else none) else none) else (if ((xs x3.toNatClampNeg) &&& (31 : Int32)) = 3 then (if inB (x3 + (1 : Int32)) LS then if inB (x3 + (2 : Int32)) LS then if inB (x3 + (3 : Int32)) LS then cb (s8_walker n o1 (xs (x3 + (1 : Int32)).toNatClampNeg) (xs (x3 + (2 : Int32)).toNatClampNeg) (xs (x3 + (3 : Int32)).toNatClampNeg) M) (fun r17 M16 => if inB (x3 + (1 : Int32)) LS then if inB (x3 + (2 : Int32)) LS then if inB (x3 + (3 : Int32)) LS then cb (s9_walker n o2 (xs (x3 + (1 : Int32)).toNatClampNeg) (xs (x3 + (2 : Int32)).toNatClampNeg) (xs (x3 + (3 : Int32)).toNatClampNeg) M16) (fun r19 M18 => ilet (x3 + 5) (fun v20 => sz_law_18 n LS xs o1 o2 f v20 M18)) else none else none else none) else none else none else none) else (if ((xs x3.toNatClampNeg) &&& (31 : Int32)) = 4 then (if inB (x3 + (1 : Int32)) LS then if inB (x3 + (2 : Int32)) LS then if inB (x3 + (3 : Int32)) LS then cb (s8_set o1 (xs (x3 + (1 : Int32)).toNatClampNeg) (xs (x3 + (2 : Int32)).toNatClampNeg) (xs (x3 + (3 : Int32)).toNatClampNeg) M) (fun r22 M21 => if inB (x3 + (1 : Int32)) LS then if inB (x3 + (2 : Int32)) LS then if inB (x3 + (3 : Int32)) LS then cb (s9_set n o2 (xs (x3 + (1 : Int32)).toNatClampNeg) (xs (x3 + (2 : Int32)).toNatClampNeg) (xs (x3 + (3 : Int32)).toNatClampNeg) M21) (fun r24 M23 => ilet (x3 + 5) (fun v25 => sz_law_18 n LS xs o1 o2 f v25 M23)) else none else none else none) else none else none else none) else (if ((xs x3.toNatClampNeg) &&& (31 : Int32)) = 5 then (if inB (x3 + (1 : Int32)) LS then if inB (x3 + (2 : Int32)) LS then cb (s8_player o1 (xs (x3 + (1 : Int32)).toNatClampNeg) (xs (x3 + (2 : Int32)).toNatClampNeg) M) (fun r27 M26 => if inB (x3 + (1 : Int32)) LS then if inB (x3 + (2 : Int32)) LS then cb (s9_player o2 (xs (x3 + (1 : Int32)).toNatClampNeg) (xs (x3 + (2 : Int32)).toNatClampNeg) M26) (fun r29 M28 => ilet (x3 + 5) (fun v30 => sz_law_18 n LS xs o1 o2 f v30 M28)) else none else none) else none else none) else (if ((xs x3.toNatClampNeg) &&& (31 : Int32)) = 6 then (if inB (x3 + (1 : Int32)) LS then cb (s8_form o1 (xs (x3 + (1 : Int32)).toNatClampNeg) M) (fun r32 M31 => if inB (x3 + (1 : Int32)) LS then cb (s9_form o2 (xs (x3 + (1 : Int32)).toNatClampNeg) M31) (fun r34 M33 => ilet (x3 + 5) (fun v35 => sz_law_18 n LS xs o1 o2 f v35 M33)) else none) else none) else (if ((xs x3.toNatClampNeg) &&& (31 : Int32)) = 7 then (if inB (x3 + (1 : Int32)) LS then cb (s8_seed o1 (xs (x3 + (1 : Int32)).toNatClampNeg) M) (fun r37 M36 => if inB (x3 + (1 : Int32)) LS then cb (s9_seed o2 (xs (x3 + (1 : Int32)).toNatClampNeg) M36) (fun r39 M38 => ilet (x3 + 5) (fun v40 => sz_law_18 n LS xs o1 o2 f v40 M38)) else none) else none) else (if ((xs x3.toNatClampNeg) &&& (31 : Int32)) = 8 then (if inB (x3 + (1 : Int32)) LS then if inB (x3 + (2 : Int32)) LS then cb (s8_of o1 (xs (x3 + (1 : Int32)).toNatClampNeg) (xs (x3 + (2 : Int32)).toNatClampNeg) M) (fun r42 M41 => if inB (x3 + (1 : Int32)) LS then if inB (x3 + (2 : Int32)) LS then cb (s9_of o2 (xs (x3 + (1 : Int32)).toNatClampNeg) (xs (x3 + (2 : Int32)).toNatClampNeg) M41) (fun r44 M43 => ilet (x3 + 5) (fun v45 => sz_law_18 n LS xs o1 o2 f v45 M43)) else none else none) else none else none) else (if ((xs x3.toNatClampNeg) &&& (31 : Int32)) = 9 then (if inB (x3 + (1 : Int32)) LS then cb (s8_has o1 (xs (x3 + (1 : Int32)).toNatClampNeg) M) (fun r47 M46 => if inB (x3 + (1 : Int32)) LS then cb (s9_has o2 (xs (x3 + (1 : Int32)).toNatClampNeg) M46) (fun r49 M48 => ilet (x3 + 5) (fun v50 => sz_law_18 n LS xs o1 o2 f v50 M48)) else none) else none) else (if ((xs x3.toNatClampNeg) &&& (31 : Int32)) = 10 then (if inB (x3 + (1 : Int32)) LS then if inB (x3 + (2 : Int32)) LS then cb (s8_haste n o1 (xs (x3 + (1 : Int32)).toNatClampNeg) (xs (x3 + (2 : Int32)).toNatClampNeg) M) (fun r52 M51 => if inB (x3 + (1 : Int32)) LS then if inB (x3 + (2 : Int32)) LS then cb (s9_haste n o2 (xs (x3 + (1 : Int32)).toNatClampNeg) (xs (x3 + (2 : Int32)).toNatClampNeg) M51) (fun r54 M53 => ilet (x3 + 5) (fun v55 => sz_law_18 n LS xs o1 o2 f v55 M53)) else none else none) else none else none) else (if ((xs x3.toNatClampNeg) &&& (31 : Int32)) = 11 then (if inB (x3 + (1 : Int32)) LS then cb (s8_go n o1 (xs (x3 + (1 : Int32)).toNatClampNeg) M) (fun r57 M56 => if inB (x3 + (1 : Int32)) LS then cb (s9_go n o2 (xs (x3 + (1 : Int32)).toNatClampNeg) M56) (fun r59 M58 => ilet (x3 + 5) (fun v60 => sz_law_18 n LS xs o1 o2 f v60 M58)) else none) else none) else (if ((xs x3.toNatClampNeg) &&& (31 : Int32)) = 12 then (cb (s8_stop n o1 M) (fun r62 M61 => cb (s9_stop n o2 M61) (fun r64 M63 => ilet (x3 + 5) (fun v65 => sz_law_18 n LS xs o1 o2 f v65 M63)))) else (if ((xs x3.toNatClampNeg) &&& (31 : Int32)) = 13 then (if inB (x3 + (1 : Int32)) LS then cb (s8_sits n o1 (xs (x3 + (1 : Int32)).toNatClampNeg) M) (fun r67 M66 => if inB (x3 + (1 : Int32)) LS then cb (s9_sits n o2 (xs (x3 + (1 : Int32)).toNatClampNeg) M66) (fun r69 M68 => ilet (x3 + 5) (fun v70 => sz_law_18 n LS xs o1 o2 f v70 M68)) else none) else none) else (if ((xs x3.toNatClampNeg) &&& (31 : Int32)) = 14 then (if inB (x3 + (1 : Int32)) LS then cb (s8_would n o1 (xs (x3 + (1 : Int32)).toNatClampNeg) M) (fun r72 M71 => if inB (x3 + (1 : Int32)) LS then cb (s9_would n o2 (xs (x3 + (1 : Int32)).toNatClampNeg) M71) (fun r74 M73 => ilet (x3 + 5) (fun v75 => sz_law_18 n LS xs o1 o2 f v75 M73)) else none) else none) else (if ((xs x3.toNatClampNeg) &&& (31 : Int32)) = 15 then (if inB (x3 + (1 : Int32)) LS then if inB (x3 + (2 : Int32)) LS then cb (s8_odds n o1 (xs (x3 + (1 : Int32)).toNatClampNeg) (xs (x3 + (2 : Int32)).toNatClampNeg) M) (fun r77 M76 => if inB (x3 + (1 : Int32)) LS then if inB (x3 + (2 : Int32)) LS then cb (s9_odds n o2 (xs (x3 + (1 : Int32)).toNatClampNeg) (xs (x3 + (2 : Int32)).toNatClampNeg) M76) (fun r79 M78 => ilet (x3 + 5) (fun v80 => sz_law_18 n LS xs o1 o2 f v80 M78)) else none else none) else none else none) else (if ((xs x3.toNatClampNeg) &&& (31 : Int32)) = 16 then (if inB (x3 + (1 : Int32)) LS then cb (s8_fair n o1 (xs (x3 + (1 : Int32)).toNatClampNeg) M) (fun r82 M81 => if inB (x3 + (1 : Int32)) LS then cb (s9_fair n o2 (xs (x3 + (1 : Int32)).toNatClampNeg) M81) (fun r84 M83 => ilet (x3 + 5) (fun v85 => sz_law_18 n LS xs o1 o2 f v85 M83)) else none) else none) else (if ((xs x3.toNatClampNeg) &&& (31 : Int32)) = 17 then (if inB (x3 + (1 : Int32)) LS then if inB (x3 + (2 : Int32)) LS then cb (s8_bestSlow n o1 (xs (x3 + (1 : Int32)).toNatClampNeg) (xs (x3 + (2 : Int32)).toNatClampNeg) M) (fun r87 M86 => if inB (x3 + (1 : Int32)) LS then if inB (x3 + (2 : Int32)) LS then cb (s9_bestSlow n o2 (xs (x3 + (1 : Int32)).toNatClampNeg) (xs (x3 + (2 : Int32)).toNatClampNeg) M86) (fun r89 M88 => ilet (x3 + 5) (fun v90 => sz_law_18 n LS xs o1 o2 f v90 M88)) else none else none) else none else none) else (if ((xs x3.toNatClampNeg) &&& (31 : Int32)) = 18 then (if inB (x3 + (1 : Int32)) LS then if inB (x3 + (2 : Int32)) LS then cb (s8_cheat n o1 (xs (x3 + (1 : Int32)).toNatClampNeg) (xs (x3 + (2 : Int32)).toNatClampNeg) M) (fun r92 M91 => if inB (x3 + (1 : Int32)) LS then if inB (x3 + (2 : Int32)) LS then cb (s9_cheat n o2 (xs (x3 + (1 : Int32)).toNatClampNeg) (xs (x3 + (2 : Int32)).toNatClampNeg) M91) (fun r94 M93 => ilet (x3 + 5) (fun v95 => sz_law_18 n LS xs o1 o2 f v95 M93)) else none else none) else none else none) else (if ((xs x3.toNatClampNeg) &&& (31 : Int32)) = 19 then (if inB (x3 + (1 : Int32)) LS then cb (s8_lasts n o1 (xs (x3 + (1 : Int32)).toNatClampNeg) M) (fun r97 M96 => if inB (x3 + (1 : Int32)) LS then cb (s9_lasts n o2 (xs (x3 + (1 : Int32)).toNatClampNeg) M96) (fun r99 M98 => ilet (x3 + 5) (fun v100 => sz_law_18 n LS xs o1 o2 f v100 M98)) else none) else none) else (if ((xs x3.toNatClampNeg) &&& (31 : Int32)) = 20 then (if inB (x3 + (1 : Int32)) LS then if inB (x3 + (2 : Int32)) LS then if inB (x3 + (3 : Int32)) LS then cb (s8_wins n o1 (xs (x3 + (1 : Int32)).toNatClampNeg) (xs (x3 + (2 : Int32)).toNatClampNeg) (xs (x3 + (3 : Int32)).toNatClampNeg) M) (fun r102 M101 => if inB (x3 + (1 : Int32)) LS then if inB (x3 + (2 : Int32)) LS then if inB (x3 + (3 : Int32)) LS then cb (s9_wins n o2 (xs (x3 + (1 : Int32)).toNatClampNeg) (xs (x3 + (2 : Int32)).toNatClampNeg) (xs (x3 + (3 : Int32)).toNatClampNeg) M101) (fun r104 M103 => ilet (x3 + 5) (fun v105 => sz_law_18 n LS xs o1 o2 f v105 M103)) else none else none else none) else none else none else none) else (if ((xs x3.toNatClampNeg) &&& (31 : Int32)) = 21 then (if inB (x3 + (1 : Int32)) LS then if inB (x3 + (2 : Int32)) LS then cb (s8_fairest n o1 (xs (x3 + (1 : Int32)).toNatClampNeg) (xs (x3 + (2 : Int32)).toNatClampNeg) M) (fun r107 M106 => if inB (x3 + (1 : Int32)) LS then if inB (x3 + (2 : Int32)) LS then cb (s9_fairest n o2 (xs (x3 + (1 : Int32)).toNatClampNeg) (xs (x3 + (2 : Int32)).toNatClampNeg) M106) (fun r109 M108 => ilet (x3 + 5) (fun v110 => sz_law_18 n LS xs o1 o2 f v110 M108)) else none else none) else none else none) else (if ((xs x3.toNatClampNeg) &&& (31 : Int32)) = 22 then (cb (s8_shortest n o1 M) (fun r112 M111 => cb (s9_shortest n o2 M111) (fun r114 M113 => ilet (x3 + 5) (fun v115 => sz_law_18 n LS xs o1 o2 f v115 M113)))) else (if ((xs x3.toNatClampNeg) &&& (31 : Int32)) = 23 then (if inB (x3 + (1 : Int32)) LS then cb (s8_row n o1 (xs (x3 + (1 : Int32)).toNatClampNeg) M) (fun r117 M116 => if inB (x3 + (1 : Int32)) LS then cb (s9_row n o2 (xs (x3 + (1 : Int32)).toNatClampNeg) M116) (fun r119 M118 => ilet (x3 + 5) (fun v120 => sz_law_18 n LS xs o1 o2 f v120 M118)) else none) else none) else (if ((xs x3.toNatClampNeg) &&& (31 : Int32)) = 24 then (cb (s8_could n o1 M) (fun r122 M121 => cb (s9_could n o2 M121) (fun r124 M123 => ilet (x3 + 5) (fun v125 => sz_law_18 n LS xs o1 o2 f v125 M123)))) else (if ((xs x3.toNatClampNeg) &&& (31 : Int32)) = 25 then (if inB (x3 + (1 : Int32)) LS then cb (s8_next n o1 (xs (x3 + (1 : Int32)).toNatClampNeg) M) (fun r127 M126 => if inB (x3 + (1 : Int32)) LS then cb (s9_next n o2 (xs (x3 + (1 : Int32)).toNatClampNeg) M126) (fun r129 M128 => ilet (x3 + 5) (fun v130 => sz_law_18 n LS xs o1 o2 f v130 M128)) else none) else none) else (if ((xs x3.toNatClampNeg) &&& (31 : Int32)) = 26 then (if inB (x3 + (1 : Int32)) LS then if inB (x3 + (2 : Int32)) LS then if inB (x3 + (3 : Int32)) LS then if inB (x3 + (4 : Int32)) LS then cb (s8_team n o1 (xs (x3 + (1 : Int32)).toNatClampNeg) (xs (x3 + (2 : Int32)).toNatClampNeg) (xs (x3 + (3 : Int32)).toNatClampNeg) (xs (x3 + (4 : Int32)).toNatClampNeg) M) (fun r132 M131 => if inB (x3 + (1 : Int32)) LS then if inB (x3 + (2 : Int32)) LS then if inB (x3 + (3 : Int32)) LS then if inB (x3 + (4 : Int32)) LS then cb (s9_team n o2 (xs (x3 + (1 : Int32)).toNatClampNeg) (xs (x3 + (2 : Int32)).toNatClampNeg) (xs (x3 + (3 : Int32)).toNatClampNeg) (xs (x3 + (4 : Int32)).toNatClampNeg) M131) (fun r134 M133 => ilet (x3 + 5) (fun v135 => sz_law_18 n LS xs o1 o2 f v135 M133)) else none else none else none else none) else none else none else none else none) else (if ((xs x3.toNatClampNeg) &&& (31 : Int32)) = 27 then (if inB (x3 + (1 : Int32)) LS then cb (s8_film o1 (xs (x3 + (1 : Int32)).toNatClampNeg) M) (fun r137 M136 => if inB (x3 + (1 : Int32)) LS then cb (s9_film o2 (xs (x3 + (1 : Int32)).toNatClampNeg) M136) (fun r139 M138 => ilet (x3 + 5) (fun v140 => sz_law_18 n LS xs o1 o2 f v140 M138)) else none) else none) else (if ((xs x3.toNatClampNeg) &&& (31 : Int32)) = 28 then (if inB (x3 + (1 : Int32)) LS then cb (s8_judge n o1 (xs (x3 + (1 : Int32)).toNatClampNeg) M) (fun r142 M141 => if inB (x3 + (1 : Int32)) LS then cb (s9_judge n o2 (xs (x3 + (1 : Int32)).toNatClampNeg) M141) (fun r144 M143 => ilet (x3 + 5) (fun v145 => sz_law_18 n LS xs o1 o2 f v145 M143)) else none) else none) else (if ((xs x3.toNatClampNeg) &&& (31 : Int32)) = 29 then (cb (s8_image n o1 M) (fun r147 M146 => cb (s9_image n o2 M146) (fun r149 M148 => ilet (x3 + 5) (fun v150 => sz_law_18 n LS xs o1 o2 f v150 M148)))) else (if ((xs x3.toNatClampNeg) &&& (31 : Int32)) = 30 then (cb (s8_restore n o1 M) (fun r152 M151 => cb (s9_restore n o2 M151) (fun r154 M153 => if r152 = r154 then (ilet (x3 + 5) (fun v155 => sz_law_18 n LS xs o1 o2 f v155 M153)) else (some ((0 : Int32), M153))))) else (if ((xs x3.toNatClampNeg) &&& (31 : Int32)) = 31 then (if inB (x3 + (1 : Int32)) LS then cb (s8_count n o1 (xs (x3 + (1 : Int32)).toNatClampNeg) M) (fun r157 M156 => if inB (x3 + (1 : Int32)) LS then cb (s9_count n o2 (xs (x3 + (1 : Int32)).toNatClampNeg) M156) (fun r159 M158 => ilet (x3 + 5) (fun v160 => sz_law_18 n LS xs o1 o2 f v160 M158)) else none) else none) else (ilet (x3 + 5) (fun v161 => sz_law_18 n LS xs o1 o2 f v161 M))))))))))))))))))))))))))))))))) else none)
set_option maxRecDepth 100000 in
set_option maxHeartbeats 4000000 in
theorem bz_law_18 {w : WE} {g : GT} {bS LS : Nat} {xs : Nat → Int32} (C : CT w g RL cL_law room_1 4) (RT : RTi w g cL_law .boolean) (SC : SCR w g bS LS xs) (n : Nat) (o1 : Nat) (h1 : typ o1 = 8) (o2 : Nat) (h2 : typ o2 = 9) : ∀ (f : Nat) (x3 : Int32) (M : Mem), J w g (sz_law_18 n LS xs o1 o2 f x3 M) M 18 [(0, .ref bS), (1, .ref (wa w o1)), (2, .ref (wa w o2)), (3, .int x3)] [] := by
  intro f
  induction f with
  | zero =>
    intro x3 M
    rw [sz_law_18]
    exact J_none
  | succ f ih =>
    intro x3 M
    rw [sz_law_18]
    refine J_iload_n C dL_law_18 rfl 3 rfl ?_
    refine J_aload_n C dL_law_19 rfl 0 rfl ?_
    refine J_slen C SC dL_law_20 ?_
    refine J_iconst C dL_law_21 kci_5 ?_
    refine J_isub C dL_law_22 ?_
    refine J_icmp_gt (tgt := 1058) C dL_law_23 (by decide) (fun _ => ?_) (fun _ => ?_)
    · refine J_iconst C dL_law_1058 kci_1 ?_
      exact J_iret C RT (by decide) dL_law_1059
    · refine J_aload_n C dL_law_26 rfl 0 rfl ?_
      refine J_iload_n C dL_law_27 rfl 3 rfl ?_
      refine J_sld C SC dL_law_28 ?_
      refine J_bipush C dL_law_29 kcb_31 ?_
      refine J_iand C dL_law_31 ?_
      refine J_ite (fun hc0 => ?_) (fun hc0 => ?_)
      · refine J_tsin (tgt := 176) C dL_law_32 (by rw [hc0]; decide) (by rw [hc0]; decide) (off := 144) (by rw [hc0]; rfl) (by decide) ?_
        refine J_aload_n C dL_law_176 rfl 1 rfl ?_
        refine J_aload_n C dL_law_177 rfl 0 rfl ?_
        refine J_iload_n C dL_law_178 rfl 3 rfl ?_
        refine J_iconst C dL_law_179 kci_1 ?_
        refine J_iadd C dL_law_180 ?_
        refine J_sld C SC dL_law_181 ?_
        refine J_aload_n C dL_law_182 rfl 0 rfl ?_
        refine J_iload_n C dL_law_183 rfl 3 rfl ?_
        refine J_iconst C dL_law_184 kci_2 ?_
        refine J_iadd C dL_law_185 ?_
        refine J_sld C SC dL_law_186 ?_
        refine J_i2l C dL_law_187 ?_
        refine J_bipush C dL_law_188 kcb_32 ?_
        refine J_lshl C dL_law_190 ?_
        refine J_aload_n C dL_law_191 rfl 0 rfl ?_
        refine J_iload_n C dL_law_192 rfl 3 rfl ?_
        refine J_iconst C dL_law_193 kci_3 ?_
        refine J_iadd C dL_law_194 ?_
        refine J_sld C SC dL_law_195 ?_
        refine J_i2l C dL_law_196 ?_
        refine J_ldc2 C W6_124 dL_law_197 ?_
        refine J_land C dL_law_200 ?_
        refine J_lor C dL_law_201 ?_
        refine J_cvi (As := [.int (xs (x3 + (1 : Int32)).toNatClampNeg), .long ((((xs (x3 + (2 : Int32)).toNatClampNeg).toInt64) <<< ((32 : Int32).toInt64 &&& 63)) ||| (((xs (x3 + (3 : Int32)).toNatClampNeg).toInt64) &&& (4294967295 : Int64)))]) C (c8_feed (gl g) w n o1 h1 (xs (x3 + (1 : Int32)).toNatClampNeg) ((((xs (x3 + (2 : Int32)).toNatClampNeg).toInt64) <<< ((32 : Int32).toInt64 &&& 63)) ||| (((xs (x3 + (3 : Int32)).toNatClampNeg).toInt64) &&& (4294967295 : Int64))) M) (gd_v W2_62 W2_63 W2_64 W1_1 W2_65) rfl (by decide) (hdX8_feed) h1 (by decide) (cl_8) rfl (Nat.le_of_ble_eq_true rfl) dL_law_202 rfl (fun r2 M1 => ?_)
        refine J_pop C rfl dL_law_205 ?_
        refine J_aload_n C dL_law_206 rfl 2 rfl ?_
        refine J_aload_n C dL_law_207 rfl 0 rfl ?_
        refine J_iload_n C dL_law_208 rfl 3 rfl ?_
        refine J_iconst C dL_law_209 kci_1 ?_
        refine J_iadd C dL_law_210 ?_
        refine J_sld C SC dL_law_211 ?_
        refine J_aload_n C dL_law_212 rfl 0 rfl ?_
        refine J_iload_n C dL_law_213 rfl 3 rfl ?_
        refine J_iconst C dL_law_214 kci_2 ?_
        refine J_iadd C dL_law_215 ?_
        refine J_sld C SC dL_law_216 ?_
        refine J_i2l C dL_law_217 ?_
        refine J_bipush C dL_law_218 kcb_32 ?_
        refine J_lshl C dL_law_220 ?_
        refine J_aload_n C dL_law_221 rfl 0 rfl ?_
        refine J_iload_n C dL_law_222 rfl 3 rfl ?_
        refine J_iconst C dL_law_223 kci_3 ?_
        refine J_iadd C dL_law_224 ?_
        refine J_sld C SC dL_law_225 ?_
        refine J_i2l C dL_law_226 ?_
        refine J_ldc2 C W6_124 dL_law_227 ?_
        refine J_land C dL_law_230 ?_
        refine J_lor C dL_law_231 ?_
        refine J_cvi (As := [.int (xs (x3 + (1 : Int32)).toNatClampNeg), .long ((((xs (x3 + (2 : Int32)).toNatClampNeg).toInt64) <<< ((32 : Int32).toInt64 &&& 63)) ||| (((xs (x3 + (3 : Int32)).toNatClampNeg).toInt64) &&& (4294967295 : Int64)))]) C (c9_feed (gl g) w n o2 h2 (xs (x3 + (1 : Int32)).toNatClampNeg) ((((xs (x3 + (2 : Int32)).toNatClampNeg).toInt64) <<< ((32 : Int32).toInt64 &&& 63)) ||| (((xs (x3 + (3 : Int32)).toNatClampNeg).toInt64) &&& (4294967295 : Int64))) M1) (gd_v W5_148 W5_149 W5_150 W1_10 W5_151) rfl (by decide) (hdX9_feed) h2 (by decide) (cl_9) rfl (Nat.le_of_ble_eq_true rfl) dL_law_232 rfl (fun r4 M3 => ?_)
        refine J_pop C rfl dL_law_235 ?_
        refine J_goto (tgt := 1052) C dL_law_236 (by decide) ?_
        refine J_iinc (lw := fun v5 => [(3, .int v5), (0, .ref bS), (1, .ref (wa w o1)), (2, .ref (wa w o2))]) (X := x3 + 5) C dL_law_1052 (q := 3) rfl (by rw [kci_5]) (by decide) (fun _ => rfl) (fun v5 => ?_)
        refine J_goto (tgt := 18) C dL_law_1055 (by decide) ?_
        refine J_lv [1, 2, 3, 0] rfl ?_
        exact ih v5 M3
      · refine J_ite (fun hc1 => ?_) (fun hc1 => ?_)
        · refine J_tsin (tgt := 239) C dL_law_32 (by rw [hc1]; decide) (by rw [hc1]; decide) (off := 207) (by rw [hc1]; rfl) (by decide) ?_
          refine J_aload_n C dL_law_239 rfl 1 rfl ?_
          refine J_cvi (As := []) C (c8_party (gl g) w n o1 h1 M) (gd_v W2_74 W2_75 W2_76 W1_1 W2_77) rfl (by decide) (hdX8_party) h1 (by decide) (cl_8) rfl (Nat.le_of_ble_eq_true rfl) dL_law_240 rfl (fun r7 M6 => ?_)
          refine J_pop C rfl dL_law_243 ?_
          refine J_aload_n C dL_law_244 rfl 2 rfl ?_
          refine J_cvi (As := []) C (c9_party (gl g) w n o2 h2 M6) (gd_v W5_153 W5_154 W5_155 W1_10 W5_156) rfl (by decide) (hdX9_party) h2 (by decide) (cl_9) rfl (Nat.le_of_ble_eq_true rfl) dL_law_245 rfl (fun r9 M8 => ?_)
          refine J_pop C rfl dL_law_248 ?_
          refine J_goto (tgt := 1052) C dL_law_249 (by decide) ?_
          refine J_iinc (lw := fun v10 => [(3, .int v10), (0, .ref bS), (1, .ref (wa w o1)), (2, .ref (wa w o2))]) (X := x3 + 5) C dL_law_1052 (q := 3) rfl (by rw [kci_5]) (by decide) (fun _ => rfl) (fun v10 => ?_)
          refine J_goto (tgt := 18) C dL_law_1055 (by decide) ?_
          refine J_lv [1, 2, 3, 0] rfl ?_
          exact ih v10 M8
        · refine J_ite (fun hc2 => ?_) (fun hc2 => ?_)
          · refine J_tsin (tgt := 252) C dL_law_32 (by rw [hc2]; decide) (by rw [hc2]; decide) (off := 220) (by rw [hc2]; rfl) (by decide) ?_
            refine J_aload_n C dL_law_252 rfl 1 rfl ?_
            refine J_aload_n C dL_law_253 rfl 0 rfl ?_
            refine J_iload_n C dL_law_254 rfl 3 rfl ?_
            refine J_iconst C dL_law_255 kci_1 ?_
            refine J_iadd C dL_law_256 ?_
            refine J_sld C SC dL_law_257 ?_
            refine J_cvi (As := [.int (xs (x3 + (1 : Int32)).toNatClampNeg)]) C (c8_chair (gl g) w n o1 h1 (xs (x3 + (1 : Int32)).toNatClampNeg) M) (gd_v W3_27 W3_28 W3_29 W1_1 W3_30) rfl (by decide) (hdX8_chair) h1 (by decide) (cl_8) rfl (Nat.le_of_ble_eq_true rfl) dL_law_258 rfl (fun r12 M11 => ?_)
            refine J_pop C rfl dL_law_261 ?_
            refine J_aload_n C dL_law_262 rfl 2 rfl ?_
            refine J_aload_n C dL_law_263 rfl 0 rfl ?_
            refine J_iload_n C dL_law_264 rfl 3 rfl ?_
            refine J_iconst C dL_law_265 kci_1 ?_
            refine J_iadd C dL_law_266 ?_
            refine J_sld C SC dL_law_267 ?_
            refine J_cvi (As := [.int (xs (x3 + (1 : Int32)).toNatClampNeg)]) C (c9_chair (gl g) w n o2 h2 (xs (x3 + (1 : Int32)).toNatClampNeg) M11) (gd_v W5_70 W5_71 W5_72 W1_10 W5_73) rfl (by decide) (hdX9_chair) h2 (by decide) (cl_9) rfl (Nat.le_of_ble_eq_true rfl) dL_law_268 rfl (fun r14 M13 => ?_)
            refine J_pop C rfl dL_law_271 ?_
            refine J_goto (tgt := 1052) C dL_law_272 (by decide) ?_
            refine J_iinc (lw := fun v15 => [(3, .int v15), (0, .ref bS), (1, .ref (wa w o1)), (2, .ref (wa w o2))]) (X := x3 + 5) C dL_law_1052 (q := 3) rfl (by rw [kci_5]) (by decide) (fun _ => rfl) (fun v15 => ?_)
            refine J_goto (tgt := 18) C dL_law_1055 (by decide) ?_
            refine J_lv [1, 2, 3, 0] rfl ?_
            exact ih v15 M13
          · refine J_ite (fun hc3 => ?_) (fun hc3 => ?_)
            · refine J_tsin (tgt := 275) C dL_law_32 (by rw [hc3]; decide) (by rw [hc3]; decide) (off := 243) (by rw [hc3]; rfl) (by decide) ?_
              refine J_aload_n C dL_law_275 rfl 1 rfl ?_
              refine J_aload_n C dL_law_276 rfl 0 rfl ?_
              refine J_iload_n C dL_law_277 rfl 3 rfl ?_
              refine J_iconst C dL_law_278 kci_1 ?_
              refine J_iadd C dL_law_279 ?_
              refine J_sld C SC dL_law_280 ?_
              refine J_aload_n C dL_law_281 rfl 0 rfl ?_
              refine J_iload_n C dL_law_282 rfl 3 rfl ?_
              refine J_iconst C dL_law_283 kci_2 ?_
              refine J_iadd C dL_law_284 ?_
              refine J_sld C SC dL_law_285 ?_
              refine J_aload_n C dL_law_286 rfl 0 rfl ?_
              refine J_iload_n C dL_law_287 rfl 3 rfl ?_
              refine J_iconst C dL_law_288 kci_3 ?_
              refine J_iadd C dL_law_289 ?_
              refine J_sld C SC dL_law_290 ?_
              refine J_cvi (As := [.int (xs (x3 + (1 : Int32)).toNatClampNeg), .int (xs (x3 + (2 : Int32)).toNatClampNeg), .int (xs (x3 + (3 : Int32)).toNatClampNeg)]) C (c8_walker (gl g) w n o1 h1 (xs (x3 + (1 : Int32)).toNatClampNeg) (xs (x3 + (2 : Int32)).toNatClampNeg) (xs (x3 + (3 : Int32)).toNatClampNeg) M) (gd_v W3_33 W3_34 W3_35 W1_1 W3_36) rfl (by decide) (hdX8_walker) h1 (by decide) (cl_8) rfl (Nat.le_of_ble_eq_true rfl) dL_law_291 rfl (fun r17 M16 => ?_)
              refine J_pop C rfl dL_law_294 ?_
              refine J_aload_n C dL_law_295 rfl 2 rfl ?_
              refine J_aload_n C dL_law_296 rfl 0 rfl ?_
              refine J_iload_n C dL_law_297 rfl 3 rfl ?_
              refine J_iconst C dL_law_298 kci_1 ?_
              refine J_iadd C dL_law_299 ?_
              refine J_sld C SC dL_law_300 ?_
              refine J_aload_n C dL_law_301 rfl 0 rfl ?_
              refine J_iload_n C dL_law_302 rfl 3 rfl ?_
              refine J_iconst C dL_law_303 kci_2 ?_
              refine J_iadd C dL_law_304 ?_
              refine J_sld C SC dL_law_305 ?_
              refine J_aload_n C dL_law_306 rfl 0 rfl ?_
              refine J_iload_n C dL_law_307 rfl 3 rfl ?_
              refine J_iconst C dL_law_308 kci_3 ?_
              refine J_iadd C dL_law_309 ?_
              refine J_sld C SC dL_law_310 ?_
              refine J_cvi (As := [.int (xs (x3 + (1 : Int32)).toNatClampNeg), .int (xs (x3 + (2 : Int32)).toNatClampNeg), .int (xs (x3 + (3 : Int32)).toNatClampNeg)]) C (c9_walker (gl g) w n o2 h2 (xs (x3 + (1 : Int32)).toNatClampNeg) (xs (x3 + (2 : Int32)).toNatClampNeg) (xs (x3 + (3 : Int32)).toNatClampNeg) M16) (gd_v W5_90 W5_91 W5_92 W1_10 W5_93) rfl (by decide) (hdX9_walker) h2 (by decide) (cl_9) rfl (Nat.le_of_ble_eq_true rfl) dL_law_311 rfl (fun r19 M18 => ?_)
              refine J_pop C rfl dL_law_314 ?_
              refine J_goto (tgt := 1052) C dL_law_315 (by decide) ?_
              refine J_iinc (lw := fun v20 => [(3, .int v20), (0, .ref bS), (1, .ref (wa w o1)), (2, .ref (wa w o2))]) (X := x3 + 5) C dL_law_1052 (q := 3) rfl (by rw [kci_5]) (by decide) (fun _ => rfl) (fun v20 => ?_)
              refine J_goto (tgt := 18) C dL_law_1055 (by decide) ?_
              refine J_lv [1, 2, 3, 0] rfl ?_
              exact ih v20 M18
            · refine J_ite (fun hc4 => ?_) (fun hc4 => ?_)
              · refine J_tsin (tgt := 318) C dL_law_32 (by rw [hc4]; decide) (by rw [hc4]; decide) (off := 286) (by rw [hc4]; rfl) (by decide) ?_
                refine J_aload_n C dL_law_318 rfl 1 rfl ?_
                refine J_aload_n C dL_law_319 rfl 0 rfl ?_
                refine J_iload_n C dL_law_320 rfl 3 rfl ?_
                refine J_iconst C dL_law_321 kci_1 ?_
                refine J_iadd C dL_law_322 ?_
                refine J_sld C SC dL_law_323 ?_
                refine J_aload_n C dL_law_324 rfl 0 rfl ?_
                refine J_iload_n C dL_law_325 rfl 3 rfl ?_
                refine J_iconst C dL_law_326 kci_2 ?_
                refine J_iadd C dL_law_327 ?_
                refine J_sld C SC dL_law_328 ?_
                refine J_aload_n C dL_law_329 rfl 0 rfl ?_
                refine J_iload_n C dL_law_330 rfl 3 rfl ?_
                refine J_iconst C dL_law_331 kci_3 ?_
                refine J_iadd C dL_law_332 ?_
                refine J_sld C SC dL_law_333 ?_
                refine J_cvi (As := [.int (xs (x3 + (1 : Int32)).toNatClampNeg), .int (xs (x3 + (2 : Int32)).toNatClampNeg), .int (xs (x3 + (3 : Int32)).toNatClampNeg)]) C (c8_set (gl g) w o1 h1 (xs (x3 + (1 : Int32)).toNatClampNeg) (xs (x3 + (2 : Int32)).toNatClampNeg) (xs (x3 + (3 : Int32)).toNatClampNeg) M) (gd_v W3_39 W3_40 W3_41 W1_1 W3_42) rfl (by decide) (hdX8_set) h1 (by decide) (cl_8) rfl (Nat.le_of_ble_eq_true rfl) dL_law_334 rfl (fun r22 M21 => ?_)
                refine J_pop C rfl dL_law_337 ?_
                refine J_aload_n C dL_law_338 rfl 2 rfl ?_
                refine J_aload_n C dL_law_339 rfl 0 rfl ?_
                refine J_iload_n C dL_law_340 rfl 3 rfl ?_
                refine J_iconst C dL_law_341 kci_1 ?_
                refine J_iadd C dL_law_342 ?_
                refine J_sld C SC dL_law_343 ?_
                refine J_aload_n C dL_law_344 rfl 0 rfl ?_
                refine J_iload_n C dL_law_345 rfl 3 rfl ?_
                refine J_iconst C dL_law_346 kci_2 ?_
                refine J_iadd C dL_law_347 ?_
                refine J_sld C SC dL_law_348 ?_
                refine J_aload_n C dL_law_349 rfl 0 rfl ?_
                refine J_iload_n C dL_law_350 rfl 3 rfl ?_
                refine J_iconst C dL_law_351 kci_3 ?_
                refine J_iadd C dL_law_352 ?_
                refine J_sld C SC dL_law_353 ?_
                refine J_cvi (As := [.int (xs (x3 + (1 : Int32)).toNatClampNeg), .int (xs (x3 + (2 : Int32)).toNatClampNeg), .int (xs (x3 + (3 : Int32)).toNatClampNeg)]) C (c9_set (gl g) w n o2 h2 (xs (x3 + (1 : Int32)).toNatClampNeg) (xs (x3 + (2 : Int32)).toNatClampNeg) (xs (x3 + (3 : Int32)).toNatClampNeg) M21) (gd_v W5_108 W5_109 W5_110 W1_10 W5_111) rfl (by decide) (hdX9_set) h2 (by decide) (cl_9) rfl (Nat.le_of_ble_eq_true rfl) dL_law_354 rfl (fun r24 M23 => ?_)
                refine J_pop C rfl dL_law_357 ?_
                refine J_goto (tgt := 1052) C dL_law_358 (by decide) ?_
                refine J_iinc (lw := fun v25 => [(3, .int v25), (0, .ref bS), (1, .ref (wa w o1)), (2, .ref (wa w o2))]) (X := x3 + 5) C dL_law_1052 (q := 3) rfl (by rw [kci_5]) (by decide) (fun _ => rfl) (fun v25 => ?_)
                refine J_goto (tgt := 18) C dL_law_1055 (by decide) ?_
                refine J_lv [1, 2, 3, 0] rfl ?_
                exact ih v25 M23
              · refine J_ite (fun hc5 => ?_) (fun hc5 => ?_)
                · refine J_tsin (tgt := 361) C dL_law_32 (by rw [hc5]; decide) (by rw [hc5]; decide) (off := 329) (by rw [hc5]; rfl) (by decide) ?_
                  refine J_aload_n C dL_law_361 rfl 1 rfl ?_
                  refine J_aload_n C dL_law_362 rfl 0 rfl ?_
                  refine J_iload_n C dL_law_363 rfl 3 rfl ?_
                  refine J_iconst C dL_law_364 kci_1 ?_
                  refine J_iadd C dL_law_365 ?_
                  refine J_sld C SC dL_law_366 ?_
                  refine J_aload_n C dL_law_367 rfl 0 rfl ?_
                  refine J_iload_n C dL_law_368 rfl 3 rfl ?_
                  refine J_iconst C dL_law_369 kci_2 ?_
                  refine J_iadd C dL_law_370 ?_
                  refine J_sld C SC dL_law_371 ?_
                  refine J_cvi (As := [.int (xs (x3 + (1 : Int32)).toNatClampNeg), .int (xs (x3 + (2 : Int32)).toNatClampNeg)]) C (c8_player (gl g) w o1 h1 (xs (x3 + (1 : Int32)).toNatClampNeg) (xs (x3 + (2 : Int32)).toNatClampNeg) M) (gd_v W3_57 W3_58 W3_59 W1_1 W3_60) rfl (by decide) (hdX8_player) h1 (by decide) (cl_8) rfl (Nat.le_of_ble_eq_true rfl) dL_law_372 rfl (fun r27 M26 => ?_)
                  refine J_pop C rfl dL_law_375 ?_
                  refine J_aload_n C dL_law_376 rfl 2 rfl ?_
                  refine J_aload_n C dL_law_377 rfl 0 rfl ?_
                  refine J_iload_n C dL_law_378 rfl 3 rfl ?_
                  refine J_iconst C dL_law_379 kci_1 ?_
                  refine J_iadd C dL_law_380 ?_
                  refine J_sld C SC dL_law_381 ?_
                  refine J_aload_n C dL_law_382 rfl 0 rfl ?_
                  refine J_iload_n C dL_law_383 rfl 3 rfl ?_
                  refine J_iconst C dL_law_384 kci_2 ?_
                  refine J_iadd C dL_law_385 ?_
                  refine J_sld C SC dL_law_386 ?_
                  refine J_cvi (As := [.int (xs (x3 + (1 : Int32)).toNatClampNeg), .int (xs (x3 + (2 : Int32)).toNatClampNeg)]) C (c9_player (gl g) w o2 h2 (xs (x3 + (1 : Int32)).toNatClampNeg) (xs (x3 + (2 : Int32)).toNatClampNeg) M26) (gd_v W5_116 W5_117 W5_118 W1_10 W5_119) rfl (by decide) (hdX9_player) h2 (by decide) (cl_9) rfl (Nat.le_of_ble_eq_true rfl) dL_law_387 rfl (fun r29 M28 => ?_)
                  refine J_pop C rfl dL_law_390 ?_
                  refine J_goto (tgt := 1052) C dL_law_391 (by decide) ?_
                  refine J_iinc (lw := fun v30 => [(3, .int v30), (0, .ref bS), (1, .ref (wa w o1)), (2, .ref (wa w o2))]) (X := x3 + 5) C dL_law_1052 (q := 3) rfl (by rw [kci_5]) (by decide) (fun _ => rfl) (fun v30 => ?_)
                  refine J_goto (tgt := 18) C dL_law_1055 (by decide) ?_
                  refine J_lv [1, 2, 3, 0] rfl ?_
                  exact ih v30 M28
                · refine J_ite (fun hc6 => ?_) (fun hc6 => ?_)
                  · refine J_tsin (tgt := 394) C dL_law_32 (by rw [hc6]; decide) (by rw [hc6]; decide) (off := 362) (by rw [hc6]; rfl) (by decide) ?_
                    refine J_aload_n C dL_law_394 rfl 1 rfl ?_
                    refine J_aload_n C dL_law_395 rfl 0 rfl ?_
                    refine J_iload_n C dL_law_396 rfl 3 rfl ?_
                    refine J_iconst C dL_law_397 kci_1 ?_
                    refine J_iadd C dL_law_398 ?_
                    refine J_sld C SC dL_law_399 ?_
                    refine J_cvi (As := [.int (xs (x3 + (1 : Int32)).toNatClampNeg)]) C (c8_form (gl g) w o1 h1 (xs (x3 + (1 : Int32)).toNatClampNeg) M) (gd_v W3_62 W3_63 W3_64 W1_1 W3_65) rfl (by decide) (hdX8_form) h1 (by decide) (cl_8) rfl (Nat.le_of_ble_eq_true rfl) dL_law_400 rfl (fun r32 M31 => ?_)
                    refine J_pop C rfl dL_law_403 ?_
                    refine J_aload_n C dL_law_404 rfl 2 rfl ?_
                    refine J_aload_n C dL_law_405 rfl 0 rfl ?_
                    refine J_iload_n C dL_law_406 rfl 3 rfl ?_
                    refine J_iconst C dL_law_407 kci_1 ?_
                    refine J_iadd C dL_law_408 ?_
                    refine J_sld C SC dL_law_409 ?_
                    refine J_cvi (As := [.int (xs (x3 + (1 : Int32)).toNatClampNeg)]) C (c9_form (gl g) w o2 h2 (xs (x3 + (1 : Int32)).toNatClampNeg) M31) (gd_v W5_120 W5_121 W5_122 W1_10 W5_123) rfl (by decide) (hdX9_form) h2 (by decide) (cl_9) rfl (Nat.le_of_ble_eq_true rfl) dL_law_410 rfl (fun r34 M33 => ?_)
                    refine J_pop C rfl dL_law_413 ?_
                    refine J_goto (tgt := 1052) C dL_law_414 (by decide) ?_
                    refine J_iinc (lw := fun v35 => [(3, .int v35), (0, .ref bS), (1, .ref (wa w o1)), (2, .ref (wa w o2))]) (X := x3 + 5) C dL_law_1052 (q := 3) rfl (by rw [kci_5]) (by decide) (fun _ => rfl) (fun v35 => ?_)
                    refine J_goto (tgt := 18) C dL_law_1055 (by decide) ?_
                    refine J_lv [1, 2, 3, 0] rfl ?_
                    exact ih v35 M33
                  · refine J_ite (fun hc7 => ?_) (fun hc7 => ?_)
                    · refine J_tsin (tgt := 417) C dL_law_32 (by rw [hc7]; decide) (by rw [hc7]; decide) (off := 385) (by rw [hc7]; rfl) (by decide) ?_
                      refine J_aload_n C dL_law_417 rfl 1 rfl ?_
                      refine J_aload_n C dL_law_418 rfl 0 rfl ?_
                      refine J_iload_n C dL_law_419 rfl 3 rfl ?_
                      refine J_iconst C dL_law_420 kci_1 ?_
                      refine J_iadd C dL_law_421 ?_
                      refine J_sld C SC dL_law_422 ?_
                      refine J_cvi (As := [.int (xs (x3 + (1 : Int32)).toNatClampNeg)]) C (c8_seed (gl g) w o1 h1 (xs (x3 + (1 : Int32)).toNatClampNeg) M) (gd_v W3_67 W3_68 W3_69 W1_1 W3_70) rfl (by decide) (hdX8_seed) h1 (by decide) (cl_8) rfl (Nat.le_of_ble_eq_true rfl) dL_law_423 rfl (fun r37 M36 => ?_)
                      refine J_pop C rfl dL_law_426 ?_
                      refine J_aload_n C dL_law_427 rfl 2 rfl ?_
                      refine J_aload_n C dL_law_428 rfl 0 rfl ?_
                      refine J_iload_n C dL_law_429 rfl 3 rfl ?_
                      refine J_iconst C dL_law_430 kci_1 ?_
                      refine J_iadd C dL_law_431 ?_
                      refine J_sld C SC dL_law_432 ?_
                      refine J_cvi (As := [.int (xs (x3 + (1 : Int32)).toNatClampNeg)]) C (c9_seed (gl g) w o2 h2 (xs (x3 + (1 : Int32)).toNatClampNeg) M36) (gd_v W5_124 W5_125 W5_126 W1_10 W5_127) rfl (by decide) (hdX9_seed) h2 (by decide) (cl_9) rfl (Nat.le_of_ble_eq_true rfl) dL_law_433 rfl (fun r39 M38 => ?_)
                      refine J_pop C rfl dL_law_436 ?_
                      refine J_goto (tgt := 1052) C dL_law_437 (by decide) ?_
                      refine J_iinc (lw := fun v40 => [(3, .int v40), (0, .ref bS), (1, .ref (wa w o1)), (2, .ref (wa w o2))]) (X := x3 + 5) C dL_law_1052 (q := 3) rfl (by rw [kci_5]) (by decide) (fun _ => rfl) (fun v40 => ?_)
                      refine J_goto (tgt := 18) C dL_law_1055 (by decide) ?_
                      refine J_lv [1, 2, 3, 0] rfl ?_
                      exact ih v40 M38
                    · refine J_ite (fun hc8 => ?_) (fun hc8 => ?_)
                      · refine J_tsin (tgt := 440) C dL_law_32 (by rw [hc8]; decide) (by rw [hc8]; decide) (off := 408) (by rw [hc8]; rfl) (by decide) ?_
                        refine J_aload_n C dL_law_440 rfl 1 rfl ?_
                        refine J_aload_n C dL_law_441 rfl 0 rfl ?_
                        refine J_iload_n C dL_law_442 rfl 3 rfl ?_
                        refine J_iconst C dL_law_443 kci_1 ?_
                        refine J_iadd C dL_law_444 ?_
                        refine J_sld C SC dL_law_445 ?_
                        refine J_aload_n C dL_law_446 rfl 0 rfl ?_
                        refine J_iload_n C dL_law_447 rfl 3 rfl ?_
                        refine J_iconst C dL_law_448 kci_2 ?_
                        refine J_iadd C dL_law_449 ?_
                        refine J_sld C SC dL_law_450 ?_
                        refine J_cvi (As := [.int (xs (x3 + (1 : Int32)).toNatClampNeg), .int (xs (x3 + (2 : Int32)).toNatClampNeg)]) C (c8_of (gl g) w o1 h1 (xs (x3 + (1 : Int32)).toNatClampNeg) (xs (x3 + (2 : Int32)).toNatClampNeg) M) (gd_v W3_71 W3_72 W3_73 W1_1 W3_74) rfl (by decide) (hdX8_of) h1 (by decide) (cl_8) rfl (Nat.le_of_ble_eq_true rfl) dL_law_451 rfl (fun r42 M41 => ?_)
                        refine J_pop C rfl dL_law_454 ?_
                        refine J_aload_n C dL_law_455 rfl 2 rfl ?_
                        refine J_aload_n C dL_law_456 rfl 0 rfl ?_
                        refine J_iload_n C dL_law_457 rfl 3 rfl ?_
                        refine J_iconst C dL_law_458 kci_1 ?_
                        refine J_iadd C dL_law_459 ?_
                        refine J_sld C SC dL_law_460 ?_
                        refine J_aload_n C dL_law_461 rfl 0 rfl ?_
                        refine J_iload_n C dL_law_462 rfl 3 rfl ?_
                        refine J_iconst C dL_law_463 kci_2 ?_
                        refine J_iadd C dL_law_464 ?_
                        refine J_sld C SC dL_law_465 ?_
                        refine J_cvi (As := [.int (xs (x3 + (1 : Int32)).toNatClampNeg), .int (xs (x3 + (2 : Int32)).toNatClampNeg)]) C (c9_of (gl g) w o2 h2 (xs (x3 + (1 : Int32)).toNatClampNeg) (xs (x3 + (2 : Int32)).toNatClampNeg) M41) (gd_v W5_128 W5_129 W5_130 W1_10 W5_131) rfl (by decide) (hdX9_of) h2 (by decide) (cl_9) rfl (Nat.le_of_ble_eq_true rfl) dL_law_466 rfl (fun r44 M43 => ?_)
                        refine J_pop C rfl dL_law_469 ?_
                        refine J_goto (tgt := 1052) C dL_law_470 (by decide) ?_
                        refine J_iinc (lw := fun v45 => [(3, .int v45), (0, .ref bS), (1, .ref (wa w o1)), (2, .ref (wa w o2))]) (X := x3 + 5) C dL_law_1052 (q := 3) rfl (by rw [kci_5]) (by decide) (fun _ => rfl) (fun v45 => ?_)
                        refine J_goto (tgt := 18) C dL_law_1055 (by decide) ?_
                        refine J_lv [1, 2, 3, 0] rfl ?_
                        exact ih v45 M43
                      · refine J_ite (fun hc9 => ?_) (fun hc9 => ?_)
                        · refine J_tsin (tgt := 473) C dL_law_32 (by rw [hc9]; decide) (by rw [hc9]; decide) (off := 441) (by rw [hc9]; rfl) (by decide) ?_
                          refine J_aload_n C dL_law_473 rfl 1 rfl ?_
                          refine J_aload_n C dL_law_474 rfl 0 rfl ?_
                          refine J_iload_n C dL_law_475 rfl 3 rfl ?_
                          refine J_iconst C dL_law_476 kci_1 ?_
                          refine J_iadd C dL_law_477 ?_
                          refine J_sld C SC dL_law_478 ?_
                          refine J_cvi (As := [.int (xs (x3 + (1 : Int32)).toNatClampNeg)]) C (c8_has (gl g) w o1 h1 (xs (x3 + (1 : Int32)).toNatClampNeg) M) (gd_v W3_79 W3_80 W3_81 W1_1 W3_82) rfl (by decide) (hdX8_has) h1 (by decide) (cl_8) rfl (Nat.le_of_ble_eq_true rfl) dL_law_479 rfl (fun r47 M46 => ?_)
                          refine J_pop C rfl dL_law_482 ?_
                          refine J_aload_n C dL_law_483 rfl 2 rfl ?_
                          refine J_aload_n C dL_law_484 rfl 0 rfl ?_
                          refine J_iload_n C dL_law_485 rfl 3 rfl ?_
                          refine J_iconst C dL_law_486 kci_1 ?_
                          refine J_iadd C dL_law_487 ?_
                          refine J_sld C SC dL_law_488 ?_
                          refine J_cvi (As := [.int (xs (x3 + (1 : Int32)).toNatClampNeg)]) C (c9_has (gl g) w o2 h2 (xs (x3 + (1 : Int32)).toNatClampNeg) M46) (gd_v W5_132 W5_133 W5_134 W1_10 W5_135) rfl (by decide) (hdX9_has) h2 (by decide) (cl_9) rfl (Nat.le_of_ble_eq_true rfl) dL_law_489 rfl (fun r49 M48 => ?_)
                          refine J_pop C rfl dL_law_492 ?_
                          refine J_goto (tgt := 1052) C dL_law_493 (by decide) ?_
                          refine J_iinc (lw := fun v50 => [(3, .int v50), (0, .ref bS), (1, .ref (wa w o1)), (2, .ref (wa w o2))]) (X := x3 + 5) C dL_law_1052 (q := 3) rfl (by rw [kci_5]) (by decide) (fun _ => rfl) (fun v50 => ?_)
                          refine J_goto (tgt := 18) C dL_law_1055 (by decide) ?_
                          refine J_lv [1, 2, 3, 0] rfl ?_
                          exact ih v50 M48
                        · refine J_ite (fun hc10 => ?_) (fun hc10 => ?_)
                          · refine J_tsin (tgt := 496) C dL_law_32 (by rw [hc10]; decide) (by rw [hc10]; decide) (off := 464) (by rw [hc10]; rfl) (by decide) ?_
                            refine J_aload_n C dL_law_496 rfl 1 rfl ?_
                            refine J_aload_n C dL_law_497 rfl 0 rfl ?_
                            refine J_iload_n C dL_law_498 rfl 3 rfl ?_
                            refine J_iconst C dL_law_499 kci_1 ?_
                            refine J_iadd C dL_law_500 ?_
                            refine J_sld C SC dL_law_501 ?_
                            refine J_aload_n C dL_law_502 rfl 0 rfl ?_
                            refine J_iload_n C dL_law_503 rfl 3 rfl ?_
                            refine J_iconst C dL_law_504 kci_2 ?_
                            refine J_iadd C dL_law_505 ?_
                            refine J_sld C SC dL_law_506 ?_
                            refine J_cvi (As := [.int (xs (x3 + (1 : Int32)).toNatClampNeg), .int (xs (x3 + (2 : Int32)).toNatClampNeg)]) C (c8_haste (gl g) w n o1 h1 (xs (x3 + (1 : Int32)).toNatClampNeg) (xs (x3 + (2 : Int32)).toNatClampNeg) M) (gd_v W3_85 W3_86 W3_87 W1_1 W3_88) rfl (by decide) (hdX8_haste) h1 (by decide) (cl_8) rfl (Nat.le_of_ble_eq_true rfl) dL_law_507 rfl (fun r52 M51 => ?_)
                            refine J_pop C rfl dL_law_510 ?_
                            refine J_aload_n C dL_law_511 rfl 2 rfl ?_
                            refine J_aload_n C dL_law_512 rfl 0 rfl ?_
                            refine J_iload_n C dL_law_513 rfl 3 rfl ?_
                            refine J_iconst C dL_law_514 kci_1 ?_
                            refine J_iadd C dL_law_515 ?_
                            refine J_sld C SC dL_law_516 ?_
                            refine J_aload_n C dL_law_517 rfl 0 rfl ?_
                            refine J_iload_n C dL_law_518 rfl 3 rfl ?_
                            refine J_iconst C dL_law_519 kci_2 ?_
                            refine J_iadd C dL_law_520 ?_
                            refine J_sld C SC dL_law_521 ?_
                            refine J_cvi (As := [.int (xs (x3 + (1 : Int32)).toNatClampNeg), .int (xs (x3 + (2 : Int32)).toNatClampNeg)]) C (c9_haste (gl g) w n o2 h2 (xs (x3 + (1 : Int32)).toNatClampNeg) (xs (x3 + (2 : Int32)).toNatClampNeg) M51) (gd_v W5_136 W5_137 W5_138 W1_10 W5_139) rfl (by decide) (hdX9_haste) h2 (by decide) (cl_9) rfl (Nat.le_of_ble_eq_true rfl) dL_law_522 rfl (fun r54 M53 => ?_)
                            refine J_pop C rfl dL_law_525 ?_
                            refine J_goto (tgt := 1052) C dL_law_526 (by decide) ?_
                            refine J_iinc (lw := fun v55 => [(3, .int v55), (0, .ref bS), (1, .ref (wa w o1)), (2, .ref (wa w o2))]) (X := x3 + 5) C dL_law_1052 (q := 3) rfl (by rw [kci_5]) (by decide) (fun _ => rfl) (fun v55 => ?_)
                            refine J_goto (tgt := 18) C dL_law_1055 (by decide) ?_
                            refine J_lv [1, 2, 3, 0] rfl ?_
                            exact ih v55 M53
                          · refine J_ite (fun hc11 => ?_) (fun hc11 => ?_)
                            · refine J_tsin (tgt := 529) C dL_law_32 (by rw [hc11]; decide) (by rw [hc11]; decide) (off := 497) (by rw [hc11]; rfl) (by decide) ?_
                              refine J_aload_n C dL_law_529 rfl 1 rfl ?_
                              refine J_aload_n C dL_law_530 rfl 0 rfl ?_
                              refine J_iload_n C dL_law_531 rfl 3 rfl ?_
                              refine J_iconst C dL_law_532 kci_1 ?_
                              refine J_iadd C dL_law_533 ?_
                              refine J_sld C SC dL_law_534 ?_
                              refine J_cvi (As := [.int (xs (x3 + (1 : Int32)).toNatClampNeg)]) C (c8_go (gl g) w n o1 h1 (xs (x3 + (1 : Int32)).toNatClampNeg) M) (gd_v W3_97 W3_98 W3_99 W1_1 W3_100) rfl (by decide) (hdX8_go) h1 (by decide) (cl_8) rfl (Nat.le_of_ble_eq_true rfl) dL_law_535 rfl (fun r57 M56 => ?_)
                              refine J_pop C rfl dL_law_538 ?_
                              refine J_aload_n C dL_law_539 rfl 2 rfl ?_
                              refine J_aload_n C dL_law_540 rfl 0 rfl ?_
                              refine J_iload_n C dL_law_541 rfl 3 rfl ?_
                              refine J_iconst C dL_law_542 kci_1 ?_
                              refine J_iadd C dL_law_543 ?_
                              refine J_sld C SC dL_law_544 ?_
                              refine J_cvi (As := [.int (xs (x3 + (1 : Int32)).toNatClampNeg)]) C (c9_go (gl g) w n o2 h2 (xs (x3 + (1 : Int32)).toNatClampNeg) M56) (gd_v W5_189 W5_190 W5_191 W1_10 W5_192) rfl (by decide) (hdX9_go) h2 (by decide) (cl_9) rfl (Nat.le_of_ble_eq_true rfl) dL_law_545 rfl (fun r59 M58 => ?_)
                              refine J_pop C rfl dL_law_548 ?_
                              refine J_goto (tgt := 1052) C dL_law_549 (by decide) ?_
                              refine J_iinc (lw := fun v60 => [(3, .int v60), (0, .ref bS), (1, .ref (wa w o1)), (2, .ref (wa w o2))]) (X := x3 + 5) C dL_law_1052 (q := 3) rfl (by rw [kci_5]) (by decide) (fun _ => rfl) (fun v60 => ?_)
                              refine J_goto (tgt := 18) C dL_law_1055 (by decide) ?_
                              refine J_lv [1, 2, 3, 0] rfl ?_
                              exact ih v60 M58
                            · refine J_ite (fun hc12 => ?_) (fun hc12 => ?_)
                              · refine J_tsin (tgt := 552) C dL_law_32 (by rw [hc12]; decide) (by rw [hc12]; decide) (off := 520) (by rw [hc12]; rfl) (by decide) ?_
                                refine J_aload_n C dL_law_552 rfl 1 rfl ?_
                                refine J_cvi (As := []) C (c8_stop (gl g) w n o1 h1 M) (gd_v W3_204 W3_205 W3_206 W1_1 W3_207) rfl (by decide) (hdX8_stop) h1 (by decide) (cl_8) rfl (Nat.le_of_ble_eq_true rfl) dL_law_553 rfl (fun r62 M61 => ?_)
                                refine J_pop C rfl dL_law_556 ?_
                                refine J_aload_n C dL_law_557 rfl 2 rfl ?_
                                refine J_cvi (As := []) C (c9_stop (gl g) w n o2 h2 M61) (gd_v W6_16 W6_17 W6_18 W1_10 W6_19) rfl (by decide) (hdX9_stop) h2 (by decide) (cl_9) rfl (Nat.le_of_ble_eq_true rfl) dL_law_558 rfl (fun r64 M63 => ?_)
                                refine J_pop C rfl dL_law_561 ?_
                                refine J_goto (tgt := 1052) C dL_law_562 (by decide) ?_
                                refine J_iinc (lw := fun v65 => [(3, .int v65), (0, .ref bS), (1, .ref (wa w o1)), (2, .ref (wa w o2))]) (X := x3 + 5) C dL_law_1052 (q := 3) rfl (by rw [kci_5]) (by decide) (fun _ => rfl) (fun v65 => ?_)
                                refine J_goto (tgt := 18) C dL_law_1055 (by decide) ?_
                                refine J_lv [1, 2, 3, 0] rfl ?_
                                exact ih v65 M63
                              · refine J_ite (fun hc13 => ?_) (fun hc13 => ?_)
                                · refine J_tsin (tgt := 565) C dL_law_32 (by rw [hc13]; decide) (by rw [hc13]; decide) (off := 533) (by rw [hc13]; rfl) (by decide) ?_
                                  refine J_aload_n C dL_law_565 rfl 1 rfl ?_
                                  refine J_aload_n C dL_law_566 rfl 0 rfl ?_
                                  refine J_iload_n C dL_law_567 rfl 3 rfl ?_
                                  refine J_iconst C dL_law_568 kci_1 ?_
                                  refine J_iadd C dL_law_569 ?_
                                  refine J_sld C SC dL_law_570 ?_
                                  refine J_cvi (As := [.int (xs (x3 + (1 : Int32)).toNatClampNeg)]) C (c8_sits (gl g) w n o1 h1 (xs (x3 + (1 : Int32)).toNatClampNeg) M) (gd_v W3_208 W3_209 W3_210 W1_1 W3_211) rfl (by decide) (hdX8_sits) h1 (by decide) (cl_8) rfl (Nat.le_of_ble_eq_true rfl) dL_law_571 rfl (fun r67 M66 => ?_)
                                  refine J_pop C rfl dL_law_574 ?_
                                  refine J_aload_n C dL_law_575 rfl 2 rfl ?_
                                  refine J_aload_n C dL_law_576 rfl 0 rfl ?_
                                  refine J_iload_n C dL_law_577 rfl 3 rfl ?_
                                  refine J_iconst C dL_law_578 kci_1 ?_
                                  refine J_iadd C dL_law_579 ?_
                                  refine J_sld C SC dL_law_580 ?_
                                  refine J_cvi (As := [.int (xs (x3 + (1 : Int32)).toNatClampNeg)]) C (c9_sits (gl g) w n o2 h2 (xs (x3 + (1 : Int32)).toNatClampNeg) M66) (gd_v W6_20 W6_21 W6_22 W1_10 W6_23) rfl (by decide) (hdX9_sits) h2 (by decide) (cl_9) rfl (Nat.le_of_ble_eq_true rfl) dL_law_581 rfl (fun r69 M68 => ?_)
                                  refine J_pop C rfl dL_law_584 ?_
                                  refine J_goto (tgt := 1052) C dL_law_585 (by decide) ?_
                                  refine J_iinc (lw := fun v70 => [(3, .int v70), (0, .ref bS), (1, .ref (wa w o1)), (2, .ref (wa w o2))]) (X := x3 + 5) C dL_law_1052 (q := 3) rfl (by rw [kci_5]) (by decide) (fun _ => rfl) (fun v70 => ?_)
                                  refine J_goto (tgt := 18) C dL_law_1055 (by decide) ?_
                                  refine J_lv [1, 2, 3, 0] rfl ?_
                                  exact ih v70 M68
                                · refine J_ite (fun hc14 => ?_) (fun hc14 => ?_)
                                  · refine J_tsin (tgt := 588) C dL_law_32 (by rw [hc14]; decide) (by rw [hc14]; decide) (off := 556) (by rw [hc14]; rfl) (by decide) ?_
                                    refine J_aload_n C dL_law_588 rfl 1 rfl ?_
                                    refine J_aload_n C dL_law_589 rfl 0 rfl ?_
                                    refine J_iload_n C dL_law_590 rfl 3 rfl ?_
                                    refine J_iconst C dL_law_591 kci_1 ?_
                                    refine J_iadd C dL_law_592 ?_
                                    refine J_sld C SC dL_law_593 ?_
                                    refine J_cvi (As := [.int (xs (x3 + (1 : Int32)).toNatClampNeg)]) C (c8_would (gl g) w n o1 h1 (xs (x3 + (1 : Int32)).toNatClampNeg) M) (gd_v W3_219 W3_220 W3_221 W1_1 W3_222) rfl (by decide) (hdX8_would) h1 (by decide) (cl_8) rfl (Nat.le_of_ble_eq_true rfl) dL_law_594 rfl (fun r72 M71 => ?_)
                                    refine J_pop C rfl dL_law_597 ?_
                                    refine J_aload_n C dL_law_598 rfl 2 rfl ?_
                                    refine J_aload_n C dL_law_599 rfl 0 rfl ?_
                                    refine J_iload_n C dL_law_600 rfl 3 rfl ?_
                                    refine J_iconst C dL_law_601 kci_1 ?_
                                    refine J_iadd C dL_law_602 ?_
                                    refine J_sld C SC dL_law_603 ?_
                                    refine J_cvi (As := [.int (xs (x3 + (1 : Int32)).toNatClampNeg)]) C (c9_would (gl g) w n o2 h2 (xs (x3 + (1 : Int32)).toNatClampNeg) M71) (gd_v W6_28 W6_29 W6_30 W1_10 W6_31) rfl (by decide) (hdX9_would) h2 (by decide) (cl_9) rfl (Nat.le_of_ble_eq_true rfl) dL_law_604 rfl (fun r74 M73 => ?_)
                                    refine J_pop C rfl dL_law_607 ?_
                                    refine J_goto (tgt := 1052) C dL_law_608 (by decide) ?_
                                    refine J_iinc (lw := fun v75 => [(3, .int v75), (0, .ref bS), (1, .ref (wa w o1)), (2, .ref (wa w o2))]) (X := x3 + 5) C dL_law_1052 (q := 3) rfl (by rw [kci_5]) (by decide) (fun _ => rfl) (fun v75 => ?_)
                                    refine J_goto (tgt := 18) C dL_law_1055 (by decide) ?_
                                    refine J_lv [1, 2, 3, 0] rfl ?_
                                    exact ih v75 M73
                                  · refine J_ite (fun hc15 => ?_) (fun hc15 => ?_)
                                    · refine J_tsin (tgt := 611) C dL_law_32 (by rw [hc15]; decide) (by rw [hc15]; decide) (off := 579) (by rw [hc15]; rfl) (by decide) ?_
                                      refine J_aload_n C dL_law_611 rfl 1 rfl ?_
                                      refine J_aload_n C dL_law_612 rfl 0 rfl ?_
                                      refine J_iload_n C dL_law_613 rfl 3 rfl ?_
                                      refine J_iconst C dL_law_614 kci_1 ?_
                                      refine J_iadd C dL_law_615 ?_
                                      refine J_sld C SC dL_law_616 ?_
                                      refine J_aload_n C dL_law_617 rfl 0 rfl ?_
                                      refine J_iload_n C dL_law_618 rfl 3 rfl ?_
                                      refine J_iconst C dL_law_619 kci_2 ?_
                                      refine J_iadd C dL_law_620 ?_
                                      refine J_sld C SC dL_law_621 ?_
                                      refine J_cvi (As := [.int (xs (x3 + (1 : Int32)).toNatClampNeg), .int (xs (x3 + (2 : Int32)).toNatClampNeg)]) C (c8_odds (gl g) w n o1 h1 (xs (x3 + (1 : Int32)).toNatClampNeg) (xs (x3 + (2 : Int32)).toNatClampNeg) M) (gd_v W3_226 W3_227 W3_228 W1_1 W3_229) rfl (by decide) (hdX8_odds) h1 (by decide) (cl_8) rfl (Nat.le_of_ble_eq_true rfl) dL_law_622 rfl (fun r77 M76 => ?_)
                                      refine J_pop C rfl dL_law_625 ?_
                                      refine J_aload_n C dL_law_626 rfl 2 rfl ?_
                                      refine J_aload_n C dL_law_627 rfl 0 rfl ?_
                                      refine J_iload_n C dL_law_628 rfl 3 rfl ?_
                                      refine J_iconst C dL_law_629 kci_1 ?_
                                      refine J_iadd C dL_law_630 ?_
                                      refine J_sld C SC dL_law_631 ?_
                                      refine J_aload_n C dL_law_632 rfl 0 rfl ?_
                                      refine J_iload_n C dL_law_633 rfl 3 rfl ?_
                                      refine J_iconst C dL_law_634 kci_2 ?_
                                      refine J_iadd C dL_law_635 ?_
                                      refine J_sld C SC dL_law_636 ?_
                                      refine J_cvi (As := [.int (xs (x3 + (1 : Int32)).toNatClampNeg), .int (xs (x3 + (2 : Int32)).toNatClampNeg)]) C (c9_odds (gl g) w n o2 h2 (xs (x3 + (1 : Int32)).toNatClampNeg) (xs (x3 + (2 : Int32)).toNatClampNeg) M76) (gd_v W6_32 W6_33 W6_34 W1_10 W6_35) rfl (by decide) (hdX9_odds) h2 (by decide) (cl_9) rfl (Nat.le_of_ble_eq_true rfl) dL_law_637 rfl (fun r79 M78 => ?_)
                                      refine J_pop C rfl dL_law_640 ?_
                                      refine J_goto (tgt := 1052) C dL_law_641 (by decide) ?_
                                      refine J_iinc (lw := fun v80 => [(3, .int v80), (0, .ref bS), (1, .ref (wa w o1)), (2, .ref (wa w o2))]) (X := x3 + 5) C dL_law_1052 (q := 3) rfl (by rw [kci_5]) (by decide) (fun _ => rfl) (fun v80 => ?_)
                                      refine J_goto (tgt := 18) C dL_law_1055 (by decide) ?_
                                      refine J_lv [1, 2, 3, 0] rfl ?_
                                      exact ih v80 M78
                                    · refine J_ite (fun hc16 => ?_) (fun hc16 => ?_)
                                      · refine J_tsin (tgt := 644) C dL_law_32 (by rw [hc16]; decide) (by rw [hc16]; decide) (off := 612) (by rw [hc16]; rfl) (by decide) ?_
                                        refine J_aload_n C dL_law_644 rfl 1 rfl ?_
                                        refine J_aload_n C dL_law_645 rfl 0 rfl ?_
                                        refine J_iload_n C dL_law_646 rfl 3 rfl ?_
                                        refine J_iconst C dL_law_647 kci_1 ?_
                                        refine J_iadd C dL_law_648 ?_
                                        refine J_sld C SC dL_law_649 ?_
                                        refine J_cvi (As := [.int (xs (x3 + (1 : Int32)).toNatClampNeg)]) C (c8_fair (gl g) w n o1 h1 (xs (x3 + (1 : Int32)).toNatClampNeg) M) (gd_v W4_2 W4_3 W4_4 W1_1 W4_5) rfl (by decide) (hdX8_fair) h1 (by decide) (cl_8) rfl (Nat.le_of_ble_eq_true rfl) dL_law_650 rfl (fun r82 M81 => ?_)
                                        refine J_pop C rfl dL_law_653 ?_
                                        refine J_aload_n C dL_law_654 rfl 2 rfl ?_
                                        refine J_aload_n C dL_law_655 rfl 0 rfl ?_
                                        refine J_iload_n C dL_law_656 rfl 3 rfl ?_
                                        refine J_iconst C dL_law_657 kci_1 ?_
                                        refine J_iadd C dL_law_658 ?_
                                        refine J_sld C SC dL_law_659 ?_
                                        refine J_cvi (As := [.int (xs (x3 + (1 : Int32)).toNatClampNeg)]) C (c9_fair (gl g) w n o2 h2 (xs (x3 + (1 : Int32)).toNatClampNeg) M81) (gd_v W6_48 W6_49 W6_50 W1_10 W6_51) rfl (by decide) (hdX9_fair) h2 (by decide) (cl_9) rfl (Nat.le_of_ble_eq_true rfl) dL_law_660 rfl (fun r84 M83 => ?_)
                                        refine J_pop C rfl dL_law_663 ?_
                                        refine J_goto (tgt := 1052) C dL_law_664 (by decide) ?_
                                        refine J_iinc (lw := fun v85 => [(3, .int v85), (0, .ref bS), (1, .ref (wa w o1)), (2, .ref (wa w o2))]) (X := x3 + 5) C dL_law_1052 (q := 3) rfl (by rw [kci_5]) (by decide) (fun _ => rfl) (fun v85 => ?_)
                                        refine J_goto (tgt := 18) C dL_law_1055 (by decide) ?_
                                        refine J_lv [1, 2, 3, 0] rfl ?_
                                        exact ih v85 M83
                                      · refine J_ite (fun hc17 => ?_) (fun hc17 => ?_)
                                        · refine J_tsin (tgt := 667) C dL_law_32 (by rw [hc17]; decide) (by rw [hc17]; decide) (off := 635) (by rw [hc17]; rfl) (by decide) ?_
                                          refine J_aload_n C dL_law_667 rfl 1 rfl ?_
                                          refine J_aload_n C dL_law_668 rfl 0 rfl ?_
                                          refine J_iload_n C dL_law_669 rfl 3 rfl ?_
                                          refine J_iconst C dL_law_670 kci_1 ?_
                                          refine J_iadd C dL_law_671 ?_
                                          refine J_sld C SC dL_law_672 ?_
                                          refine J_aload_n C dL_law_673 rfl 0 rfl ?_
                                          refine J_iload_n C dL_law_674 rfl 3 rfl ?_
                                          refine J_iconst C dL_law_675 kci_2 ?_
                                          refine J_iadd C dL_law_676 ?_
                                          refine J_sld C SC dL_law_677 ?_
                                          refine J_cvi (As := [.int (xs (x3 + (1 : Int32)).toNatClampNeg), .int (xs (x3 + (2 : Int32)).toNatClampNeg)]) C (c8_bestSlow (gl g) w n o1 h1 (xs (x3 + (1 : Int32)).toNatClampNeg) (xs (x3 + (2 : Int32)).toNatClampNeg) M) (gd_v W4_20 W4_21 W4_22 W1_1 W4_23) rfl (by decide) (hdX8_bestSlow) h1 (by decide) (cl_8) rfl (Nat.le_of_ble_eq_true rfl) dL_law_678 rfl (fun r87 M86 => ?_)
                                          refine J_pop C rfl dL_law_681 ?_
                                          refine J_aload_n C dL_law_682 rfl 2 rfl ?_
                                          refine J_aload_n C dL_law_683 rfl 0 rfl ?_
                                          refine J_iload_n C dL_law_684 rfl 3 rfl ?_
                                          refine J_iconst C dL_law_685 kci_1 ?_
                                          refine J_iadd C dL_law_686 ?_
                                          refine J_sld C SC dL_law_687 ?_
                                          refine J_aload_n C dL_law_688 rfl 0 rfl ?_
                                          refine J_iload_n C dL_law_689 rfl 3 rfl ?_
                                          refine J_iconst C dL_law_690 kci_2 ?_
                                          refine J_iadd C dL_law_691 ?_
                                          refine J_sld C SC dL_law_692 ?_
                                          refine J_cvi (As := [.int (xs (x3 + (1 : Int32)).toNatClampNeg), .int (xs (x3 + (2 : Int32)).toNatClampNeg)]) C (c9_bestSlow (gl g) w n o2 h2 (xs (x3 + (1 : Int32)).toNatClampNeg) (xs (x3 + (2 : Int32)).toNatClampNeg) M86) (gd_v W6_52 W6_53 W6_54 W1_10 W6_55) rfl (by decide) (hdX9_bestSlow) h2 (by decide) (cl_9) rfl (Nat.le_of_ble_eq_true rfl) dL_law_693 rfl (fun r89 M88 => ?_)
                                          refine J_pop C rfl dL_law_696 ?_
                                          refine J_goto (tgt := 1052) C dL_law_697 (by decide) ?_
                                          refine J_iinc (lw := fun v90 => [(3, .int v90), (0, .ref bS), (1, .ref (wa w o1)), (2, .ref (wa w o2))]) (X := x3 + 5) C dL_law_1052 (q := 3) rfl (by rw [kci_5]) (by decide) (fun _ => rfl) (fun v90 => ?_)
                                          refine J_goto (tgt := 18) C dL_law_1055 (by decide) ?_
                                          refine J_lv [1, 2, 3, 0] rfl ?_
                                          exact ih v90 M88
                                        · refine J_ite (fun hc18 => ?_) (fun hc18 => ?_)
                                          · refine J_tsin (tgt := 700) C dL_law_32 (by rw [hc18]; decide) (by rw [hc18]; decide) (off := 668) (by rw [hc18]; rfl) (by decide) ?_
                                            refine J_aload_n C dL_law_700 rfl 1 rfl ?_
                                            refine J_aload_n C dL_law_701 rfl 0 rfl ?_
                                            refine J_iload_n C dL_law_702 rfl 3 rfl ?_
                                            refine J_iconst C dL_law_703 kci_1 ?_
                                            refine J_iadd C dL_law_704 ?_
                                            refine J_sld C SC dL_law_705 ?_
                                            refine J_aload_n C dL_law_706 rfl 0 rfl ?_
                                            refine J_iload_n C dL_law_707 rfl 3 rfl ?_
                                            refine J_iconst C dL_law_708 kci_2 ?_
                                            refine J_iadd C dL_law_709 ?_
                                            refine J_sld C SC dL_law_710 ?_
                                            refine J_cvi (As := [.int (xs (x3 + (1 : Int32)).toNatClampNeg), .int (xs (x3 + (2 : Int32)).toNatClampNeg)]) C (c8_cheat (gl g) w n o1 h1 (xs (x3 + (1 : Int32)).toNatClampNeg) (xs (x3 + (2 : Int32)).toNatClampNeg) M) (gd_v W4_29 W4_30 W4_31 W1_1 W4_32) rfl (by decide) (hdX8_cheat) h1 (by decide) (cl_8) rfl (Nat.le_of_ble_eq_true rfl) dL_law_711 rfl (fun r92 M91 => ?_)
                                            refine J_pop C rfl dL_law_714 ?_
                                            refine J_aload_n C dL_law_715 rfl 2 rfl ?_
                                            refine J_aload_n C dL_law_716 rfl 0 rfl ?_
                                            refine J_iload_n C dL_law_717 rfl 3 rfl ?_
                                            refine J_iconst C dL_law_718 kci_1 ?_
                                            refine J_iadd C dL_law_719 ?_
                                            refine J_sld C SC dL_law_720 ?_
                                            refine J_aload_n C dL_law_721 rfl 0 rfl ?_
                                            refine J_iload_n C dL_law_722 rfl 3 rfl ?_
                                            refine J_iconst C dL_law_723 kci_2 ?_
                                            refine J_iadd C dL_law_724 ?_
                                            refine J_sld C SC dL_law_725 ?_
                                            refine J_cvi (As := [.int (xs (x3 + (1 : Int32)).toNatClampNeg), .int (xs (x3 + (2 : Int32)).toNatClampNeg)]) C (c9_cheat (gl g) w n o2 h2 (xs (x3 + (1 : Int32)).toNatClampNeg) (xs (x3 + (2 : Int32)).toNatClampNeg) M91) (gd_v W6_60 W6_61 W6_62 W1_10 W6_63) rfl (by decide) (hdX9_cheat) h2 (by decide) (cl_9) rfl (Nat.le_of_ble_eq_true rfl) dL_law_726 rfl (fun r94 M93 => ?_)
                                            refine J_pop C rfl dL_law_729 ?_
                                            refine J_goto (tgt := 1052) C dL_law_730 (by decide) ?_
                                            refine J_iinc (lw := fun v95 => [(3, .int v95), (0, .ref bS), (1, .ref (wa w o1)), (2, .ref (wa w o2))]) (X := x3 + 5) C dL_law_1052 (q := 3) rfl (by rw [kci_5]) (by decide) (fun _ => rfl) (fun v95 => ?_)
                                            refine J_goto (tgt := 18) C dL_law_1055 (by decide) ?_
                                            refine J_lv [1, 2, 3, 0] rfl ?_
                                            exact ih v95 M93
                                          · refine J_ite (fun hc19 => ?_) (fun hc19 => ?_)
                                            · refine J_tsin (tgt := 733) C dL_law_32 (by rw [hc19]; decide) (by rw [hc19]; decide) (off := 701) (by rw [hc19]; rfl) (by decide) ?_
                                              refine J_aload_n C dL_law_733 rfl 1 rfl ?_
                                              refine J_aload_n C dL_law_734 rfl 0 rfl ?_
                                              refine J_iload_n C dL_law_735 rfl 3 rfl ?_
                                              refine J_iconst C dL_law_736 kci_1 ?_
                                              refine J_iadd C dL_law_737 ?_
                                              refine J_sld C SC dL_law_738 ?_
                                              refine J_cvi (As := [.int (xs (x3 + (1 : Int32)).toNatClampNeg)]) C (c8_lasts (gl g) w n o1 h1 (xs (x3 + (1 : Int32)).toNatClampNeg) M) (gd_v W4_37 W4_38 W4_39 W1_1 W4_40) rfl (by decide) (hdX8_lasts) h1 (by decide) (cl_8) rfl (Nat.le_of_ble_eq_true rfl) dL_law_739 rfl (fun r97 M96 => ?_)
                                              refine J_pop C rfl dL_law_742 ?_
                                              refine J_aload_n C dL_law_743 rfl 2 rfl ?_
                                              refine J_aload_n C dL_law_744 rfl 0 rfl ?_
                                              refine J_iload_n C dL_law_745 rfl 3 rfl ?_
                                              refine J_iconst C dL_law_746 kci_1 ?_
                                              refine J_iadd C dL_law_747 ?_
                                              refine J_sld C SC dL_law_748 ?_
                                              refine J_cvi (As := [.int (xs (x3 + (1 : Int32)).toNatClampNeg)]) C (c9_lasts (gl g) w n o2 h2 (xs (x3 + (1 : Int32)).toNatClampNeg) M96) (gd_v W6_64 W6_65 W6_66 W1_10 W6_67) rfl (by decide) (hdX9_lasts) h2 (by decide) (cl_9) rfl (Nat.le_of_ble_eq_true rfl) dL_law_749 rfl (fun r99 M98 => ?_)
                                              refine J_pop C rfl dL_law_752 ?_
                                              refine J_goto (tgt := 1052) C dL_law_753 (by decide) ?_
                                              refine J_iinc (lw := fun v100 => [(3, .int v100), (0, .ref bS), (1, .ref (wa w o1)), (2, .ref (wa w o2))]) (X := x3 + 5) C dL_law_1052 (q := 3) rfl (by rw [kci_5]) (by decide) (fun _ => rfl) (fun v100 => ?_)
                                              refine J_goto (tgt := 18) C dL_law_1055 (by decide) ?_
                                              refine J_lv [1, 2, 3, 0] rfl ?_
                                              exact ih v100 M98
                                            · refine J_ite (fun hc20 => ?_) (fun hc20 => ?_)
                                              · refine J_tsin (tgt := 756) C dL_law_32 (by rw [hc20]; decide) (by rw [hc20]; decide) (off := 724) (by rw [hc20]; rfl) (by decide) ?_
                                                refine J_aload_n C dL_law_756 rfl 1 rfl ?_
                                                refine J_aload_n C dL_law_757 rfl 0 rfl ?_
                                                refine J_iload_n C dL_law_758 rfl 3 rfl ?_
                                                refine J_iconst C dL_law_759 kci_1 ?_
                                                refine J_iadd C dL_law_760 ?_
                                                refine J_sld C SC dL_law_761 ?_
                                                refine J_aload_n C dL_law_762 rfl 0 rfl ?_
                                                refine J_iload_n C dL_law_763 rfl 3 rfl ?_
                                                refine J_iconst C dL_law_764 kci_2 ?_
                                                refine J_iadd C dL_law_765 ?_
                                                refine J_sld C SC dL_law_766 ?_
                                                refine J_aload_n C dL_law_767 rfl 0 rfl ?_
                                                refine J_iload_n C dL_law_768 rfl 3 rfl ?_
                                                refine J_iconst C dL_law_769 kci_3 ?_
                                                refine J_iadd C dL_law_770 ?_
                                                refine J_sld C SC dL_law_771 ?_
                                                refine J_cvi (As := [.int (xs (x3 + (1 : Int32)).toNatClampNeg), .int (xs (x3 + (2 : Int32)).toNatClampNeg), .int (xs (x3 + (3 : Int32)).toNatClampNeg)]) C (c8_wins (gl g) w n o1 h1 (xs (x3 + (1 : Int32)).toNatClampNeg) (xs (x3 + (2 : Int32)).toNatClampNeg) (xs (x3 + (3 : Int32)).toNatClampNeg) M) (gd_v W4_55 W4_56 W4_57 W1_1 W4_58) rfl (by decide) (hdX8_wins) h1 (by decide) (cl_8) rfl (Nat.le_of_ble_eq_true rfl) dL_law_772 rfl (fun r102 M101 => ?_)
                                                refine J_pop C rfl dL_law_775 ?_
                                                refine J_aload_n C dL_law_776 rfl 2 rfl ?_
                                                refine J_aload_n C dL_law_777 rfl 0 rfl ?_
                                                refine J_iload_n C dL_law_778 rfl 3 rfl ?_
                                                refine J_iconst C dL_law_779 kci_1 ?_
                                                refine J_iadd C dL_law_780 ?_
                                                refine J_sld C SC dL_law_781 ?_
                                                refine J_aload_n C dL_law_782 rfl 0 rfl ?_
                                                refine J_iload_n C dL_law_783 rfl 3 rfl ?_
                                                refine J_iconst C dL_law_784 kci_2 ?_
                                                refine J_iadd C dL_law_785 ?_
                                                refine J_sld C SC dL_law_786 ?_
                                                refine J_aload_n C dL_law_787 rfl 0 rfl ?_
                                                refine J_iload_n C dL_law_788 rfl 3 rfl ?_
                                                refine J_iconst C dL_law_789 kci_3 ?_
                                                refine J_iadd C dL_law_790 ?_
                                                refine J_sld C SC dL_law_791 ?_
                                                refine J_cvi (As := [.int (xs (x3 + (1 : Int32)).toNatClampNeg), .int (xs (x3 + (2 : Int32)).toNatClampNeg), .int (xs (x3 + (3 : Int32)).toNatClampNeg)]) C (c9_wins (gl g) w n o2 h2 (xs (x3 + (1 : Int32)).toNatClampNeg) (xs (x3 + (2 : Int32)).toNatClampNeg) (xs (x3 + (3 : Int32)).toNatClampNeg) M101) (gd_v W6_76 W6_77 W6_78 W1_10 W6_79) rfl (by decide) (hdX9_wins) h2 (by decide) (cl_9) rfl (Nat.le_of_ble_eq_true rfl) dL_law_792 rfl (fun r104 M103 => ?_)
                                                refine J_pop C rfl dL_law_795 ?_
                                                refine J_goto (tgt := 1052) C dL_law_796 (by decide) ?_
                                                refine J_iinc (lw := fun v105 => [(3, .int v105), (0, .ref bS), (1, .ref (wa w o1)), (2, .ref (wa w o2))]) (X := x3 + 5) C dL_law_1052 (q := 3) rfl (by rw [kci_5]) (by decide) (fun _ => rfl) (fun v105 => ?_)
                                                refine J_goto (tgt := 18) C dL_law_1055 (by decide) ?_
                                                refine J_lv [1, 2, 3, 0] rfl ?_
                                                exact ih v105 M103
                                              · refine J_ite (fun hc21 => ?_) (fun hc21 => ?_)
                                                · refine J_tsin (tgt := 799) C dL_law_32 (by rw [hc21]; decide) (by rw [hc21]; decide) (off := 767) (by rw [hc21]; rfl) (by decide) ?_
                                                  refine J_aload_n C dL_law_799 rfl 1 rfl ?_
                                                  refine J_aload_n C dL_law_800 rfl 0 rfl ?_
                                                  refine J_iload_n C dL_law_801 rfl 3 rfl ?_
                                                  refine J_iconst C dL_law_802 kci_1 ?_
                                                  refine J_iadd C dL_law_803 ?_
                                                  refine J_sld C SC dL_law_804 ?_
                                                  refine J_aload_n C dL_law_805 rfl 0 rfl ?_
                                                  refine J_iload_n C dL_law_806 rfl 3 rfl ?_
                                                  refine J_iconst C dL_law_807 kci_2 ?_
                                                  refine J_iadd C dL_law_808 ?_
                                                  refine J_sld C SC dL_law_809 ?_
                                                  refine J_cvi (As := [.int (xs (x3 + (1 : Int32)).toNatClampNeg), .int (xs (x3 + (2 : Int32)).toNatClampNeg)]) C (c8_fairest (gl g) w n o1 h1 (xs (x3 + (1 : Int32)).toNatClampNeg) (xs (x3 + (2 : Int32)).toNatClampNeg) M) (gd_v W4_67 W4_68 W4_69 W1_1 W4_70) rfl (by decide) (hdX8_fairest) h1 (by decide) (cl_8) rfl (Nat.le_of_ble_eq_true rfl) dL_law_810 rfl (fun r107 M106 => ?_)
                                                  refine J_pop C rfl dL_law_813 ?_
                                                  refine J_aload_n C dL_law_814 rfl 2 rfl ?_
                                                  refine J_aload_n C dL_law_815 rfl 0 rfl ?_
                                                  refine J_iload_n C dL_law_816 rfl 3 rfl ?_
                                                  refine J_iconst C dL_law_817 kci_1 ?_
                                                  refine J_iadd C dL_law_818 ?_
                                                  refine J_sld C SC dL_law_819 ?_
                                                  refine J_aload_n C dL_law_820 rfl 0 rfl ?_
                                                  refine J_iload_n C dL_law_821 rfl 3 rfl ?_
                                                  refine J_iconst C dL_law_822 kci_2 ?_
                                                  refine J_iadd C dL_law_823 ?_
                                                  refine J_sld C SC dL_law_824 ?_
                                                  refine J_cvi (As := [.int (xs (x3 + (1 : Int32)).toNatClampNeg), .int (xs (x3 + (2 : Int32)).toNatClampNeg)]) C (c9_fairest (gl g) w n o2 h2 (xs (x3 + (1 : Int32)).toNatClampNeg) (xs (x3 + (2 : Int32)).toNatClampNeg) M106) (gd_v W6_80 W6_81 W6_82 W1_10 W6_83) rfl (by decide) (hdX9_fairest) h2 (by decide) (cl_9) rfl (Nat.le_of_ble_eq_true rfl) dL_law_825 rfl (fun r109 M108 => ?_)
                                                  refine J_pop C rfl dL_law_828 ?_
                                                  refine J_goto (tgt := 1052) C dL_law_829 (by decide) ?_
                                                  refine J_iinc (lw := fun v110 => [(3, .int v110), (0, .ref bS), (1, .ref (wa w o1)), (2, .ref (wa w o2))]) (X := x3 + 5) C dL_law_1052 (q := 3) rfl (by rw [kci_5]) (by decide) (fun _ => rfl) (fun v110 => ?_)
                                                  refine J_goto (tgt := 18) C dL_law_1055 (by decide) ?_
                                                  refine J_lv [1, 2, 3, 0] rfl ?_
                                                  exact ih v110 M108
                                                · refine J_ite (fun hc22 => ?_) (fun hc22 => ?_)
                                                  · refine J_tsin (tgt := 832) C dL_law_32 (by rw [hc22]; decide) (by rw [hc22]; decide) (off := 800) (by rw [hc22]; rfl) (by decide) ?_
                                                    refine J_aload_n C dL_law_832 rfl 1 rfl ?_
                                                    refine J_cvi (As := []) C (c8_shortest (gl g) w n o1 h1 M) (gd_v W4_84 W4_85 W4_86 W1_1 W4_87) rfl (by decide) (hdX8_shortest) h1 (by decide) (cl_8) rfl (Nat.le_of_ble_eq_true rfl) dL_law_833 rfl (fun r112 M111 => ?_)
                                                    refine J_pop C rfl dL_law_836 ?_
                                                    refine J_aload_n C dL_law_837 rfl 2 rfl ?_
                                                    refine J_cvi (As := []) C (c9_shortest (gl g) w n o2 h2 M111) (gd_v W6_84 W6_85 W6_86 W1_10 W6_87) rfl (by decide) (hdX9_shortest) h2 (by decide) (cl_9) rfl (Nat.le_of_ble_eq_true rfl) dL_law_838 rfl (fun r114 M113 => ?_)
                                                    refine J_pop C rfl dL_law_841 ?_
                                                    refine J_goto (tgt := 1052) C dL_law_842 (by decide) ?_
                                                    refine J_iinc (lw := fun v115 => [(3, .int v115), (0, .ref bS), (1, .ref (wa w o1)), (2, .ref (wa w o2))]) (X := x3 + 5) C dL_law_1052 (q := 3) rfl (by rw [kci_5]) (by decide) (fun _ => rfl) (fun v115 => ?_)
                                                    refine J_goto (tgt := 18) C dL_law_1055 (by decide) ?_
                                                    refine J_lv [1, 2, 3, 0] rfl ?_
                                                    exact ih v115 M113
                                                  · refine J_ite (fun hc23 => ?_) (fun hc23 => ?_)
                                                    · refine J_tsin (tgt := 845) C dL_law_32 (by rw [hc23]; decide) (by rw [hc23]; decide) (off := 813) (by rw [hc23]; rfl) (by decide) ?_
                                                      refine J_aload_n C dL_law_845 rfl 1 rfl ?_
                                                      refine J_aload_n C dL_law_846 rfl 0 rfl ?_
                                                      refine J_iload_n C dL_law_847 rfl 3 rfl ?_
                                                      refine J_iconst C dL_law_848 kci_1 ?_
                                                      refine J_iadd C dL_law_849 ?_
                                                      refine J_sld C SC dL_law_850 ?_
                                                      refine J_cvi (As := [.int (xs (x3 + (1 : Int32)).toNatClampNeg)]) C (c8_row (gl g) w n o1 h1 (xs (x3 + (1 : Int32)).toNatClampNeg) M) (gd_v W4_93 W4_94 W4_95 W1_1 W4_96) rfl (by decide) (hdX8_row) h1 (by decide) (cl_8) rfl (Nat.le_of_ble_eq_true rfl) dL_law_851 rfl (fun r117 M116 => ?_)
                                                      refine J_pop C rfl dL_law_854 ?_
                                                      refine J_aload_n C dL_law_855 rfl 2 rfl ?_
                                                      refine J_aload_n C dL_law_856 rfl 0 rfl ?_
                                                      refine J_iload_n C dL_law_857 rfl 3 rfl ?_
                                                      refine J_iconst C dL_law_858 kci_1 ?_
                                                      refine J_iadd C dL_law_859 ?_
                                                      refine J_sld C SC dL_law_860 ?_
                                                      refine J_cvi (As := [.int (xs (x3 + (1 : Int32)).toNatClampNeg)]) C (c9_row (gl g) w n o2 h2 (xs (x3 + (1 : Int32)).toNatClampNeg) M116) (gd_v W6_88 W6_89 W6_90 W1_10 W6_91) rfl (by decide) (hdX9_row) h2 (by decide) (cl_9) rfl (Nat.le_of_ble_eq_true rfl) dL_law_861 rfl (fun r119 M118 => ?_)
                                                      refine J_pop C rfl dL_law_864 ?_
                                                      refine J_goto (tgt := 1052) C dL_law_865 (by decide) ?_
                                                      refine J_iinc (lw := fun v120 => [(3, .int v120), (0, .ref bS), (1, .ref (wa w o1)), (2, .ref (wa w o2))]) (X := x3 + 5) C dL_law_1052 (q := 3) rfl (by rw [kci_5]) (by decide) (fun _ => rfl) (fun v120 => ?_)
                                                      refine J_goto (tgt := 18) C dL_law_1055 (by decide) ?_
                                                      refine J_lv [1, 2, 3, 0] rfl ?_
                                                      exact ih v120 M118
                                                    · refine J_ite (fun hc24 => ?_) (fun hc24 => ?_)
                                                      · refine J_tsin (tgt := 868) C dL_law_32 (by rw [hc24]; decide) (by rw [hc24]; decide) (off := 836) (by rw [hc24]; rfl) (by decide) ?_
                                                        refine J_aload_n C dL_law_868 rfl 1 rfl ?_
                                                        refine J_cvi (As := []) C (c8_could (gl g) w n o1 h1 M) (gd_v W4_106 W4_107 W4_108 W1_1 W4_109) rfl (by decide) (hdX8_could) h1 (by decide) (cl_8) rfl (Nat.le_of_ble_eq_true rfl) dL_law_869 rfl (fun r122 M121 => ?_)
                                                        refine J_pop C rfl dL_law_872 ?_
                                                        refine J_aload_n C dL_law_873 rfl 2 rfl ?_
                                                        refine J_cvi (As := []) C (c9_could (gl g) w n o2 h2 M121) (gd_v W6_92 W6_93 W6_94 W1_10 W6_95) rfl (by decide) (hdX9_could) h2 (by decide) (cl_9) rfl (Nat.le_of_ble_eq_true rfl) dL_law_874 rfl (fun r124 M123 => ?_)
                                                        refine J_pop C rfl dL_law_877 ?_
                                                        refine J_goto (tgt := 1052) C dL_law_878 (by decide) ?_
                                                        refine J_iinc (lw := fun v125 => [(3, .int v125), (0, .ref bS), (1, .ref (wa w o1)), (2, .ref (wa w o2))]) (X := x3 + 5) C dL_law_1052 (q := 3) rfl (by rw [kci_5]) (by decide) (fun _ => rfl) (fun v125 => ?_)
                                                        refine J_goto (tgt := 18) C dL_law_1055 (by decide) ?_
                                                        refine J_lv [1, 2, 3, 0] rfl ?_
                                                        exact ih v125 M123
                                                      · refine J_ite (fun hc25 => ?_) (fun hc25 => ?_)
                                                        · refine J_tsin (tgt := 881) C dL_law_32 (by rw [hc25]; decide) (by rw [hc25]; decide) (off := 849) (by rw [hc25]; rfl) (by decide) ?_
                                                          refine J_aload_n C dL_law_881 rfl 1 rfl ?_
                                                          refine J_aload_n C dL_law_882 rfl 0 rfl ?_
                                                          refine J_iload_n C dL_law_883 rfl 3 rfl ?_
                                                          refine J_iconst C dL_law_884 kci_1 ?_
                                                          refine J_iadd C dL_law_885 ?_
                                                          refine J_sld C SC dL_law_886 ?_
                                                          refine J_cvi (As := [.int (xs (x3 + (1 : Int32)).toNatClampNeg)]) C (c8_next (gl g) w n o1 h1 (xs (x3 + (1 : Int32)).toNatClampNeg) M) (gd_v W4_122 W4_123 W4_124 W1_1 W4_125) rfl (by decide) (hdX8_next) h1 (by decide) (cl_8) rfl (Nat.le_of_ble_eq_true rfl) dL_law_887 rfl (fun r127 M126 => ?_)
                                                          refine J_pop C rfl dL_law_890 ?_
                                                          refine J_aload_n C dL_law_891 rfl 2 rfl ?_
                                                          refine J_aload_n C dL_law_892 rfl 0 rfl ?_
                                                          refine J_iload_n C dL_law_893 rfl 3 rfl ?_
                                                          refine J_iconst C dL_law_894 kci_1 ?_
                                                          refine J_iadd C dL_law_895 ?_
                                                          refine J_sld C SC dL_law_896 ?_
                                                          refine J_cvi (As := [.int (xs (x3 + (1 : Int32)).toNatClampNeg)]) C (c9_next (gl g) w n o2 h2 (xs (x3 + (1 : Int32)).toNatClampNeg) M126) (gd_v W6_96 W6_97 W6_98 W1_10 W6_99) rfl (by decide) (hdX9_next) h2 (by decide) (cl_9) rfl (Nat.le_of_ble_eq_true rfl) dL_law_897 rfl (fun r129 M128 => ?_)
                                                          refine J_pop C rfl dL_law_900 ?_
                                                          refine J_goto (tgt := 1052) C dL_law_901 (by decide) ?_
                                                          refine J_iinc (lw := fun v130 => [(3, .int v130), (0, .ref bS), (1, .ref (wa w o1)), (2, .ref (wa w o2))]) (X := x3 + 5) C dL_law_1052 (q := 3) rfl (by rw [kci_5]) (by decide) (fun _ => rfl) (fun v130 => ?_)
                                                          refine J_goto (tgt := 18) C dL_law_1055 (by decide) ?_
                                                          refine J_lv [1, 2, 3, 0] rfl ?_
                                                          exact ih v130 M128
                                                        · refine J_ite (fun hc26 => ?_) (fun hc26 => ?_)
                                                          · refine J_tsin (tgt := 904) C dL_law_32 (by rw [hc26]; decide) (by rw [hc26]; decide) (off := 872) (by rw [hc26]; rfl) (by decide) ?_
                                                            refine J_aload_n C dL_law_904 rfl 1 rfl ?_
                                                            refine J_aload_n C dL_law_905 rfl 0 rfl ?_
                                                            refine J_iload_n C dL_law_906 rfl 3 rfl ?_
                                                            refine J_iconst C dL_law_907 kci_1 ?_
                                                            refine J_iadd C dL_law_908 ?_
                                                            refine J_sld C SC dL_law_909 ?_
                                                            refine J_aload_n C dL_law_910 rfl 0 rfl ?_
                                                            refine J_iload_n C dL_law_911 rfl 3 rfl ?_
                                                            refine J_iconst C dL_law_912 kci_2 ?_
                                                            refine J_iadd C dL_law_913 ?_
                                                            refine J_sld C SC dL_law_914 ?_
                                                            refine J_aload_n C dL_law_915 rfl 0 rfl ?_
                                                            refine J_iload_n C dL_law_916 rfl 3 rfl ?_
                                                            refine J_iconst C dL_law_917 kci_3 ?_
                                                            refine J_iadd C dL_law_918 ?_
                                                            refine J_sld C SC dL_law_919 ?_
                                                            refine J_aload_n C dL_law_920 rfl 0 rfl ?_
                                                            refine J_iload_n C dL_law_921 rfl 3 rfl ?_
                                                            refine J_iconst C dL_law_922 kci_4 ?_
                                                            refine J_iadd C dL_law_923 ?_
                                                            refine J_sld C SC dL_law_924 ?_
                                                            refine J_cvi (As := [.int (xs (x3 + (1 : Int32)).toNatClampNeg), .int (xs (x3 + (2 : Int32)).toNatClampNeg), .int (xs (x3 + (3 : Int32)).toNatClampNeg), .int (xs (x3 + (4 : Int32)).toNatClampNeg)]) C (c8_team (gl g) w n o1 h1 (xs (x3 + (1 : Int32)).toNatClampNeg) (xs (x3 + (2 : Int32)).toNatClampNeg) (xs (x3 + (3 : Int32)).toNatClampNeg) (xs (x3 + (4 : Int32)).toNatClampNeg) M) (gd_v W4_130 W4_131 W4_132 W1_1 W4_133) rfl (by decide) (hdX8_team) h1 (by decide) (cl_8) rfl (Nat.le_of_ble_eq_true rfl) dL_law_925 rfl (fun r132 M131 => ?_)
                                                            refine J_pop C rfl dL_law_928 ?_
                                                            refine J_aload_n C dL_law_929 rfl 2 rfl ?_
                                                            refine J_aload_n C dL_law_930 rfl 0 rfl ?_
                                                            refine J_iload_n C dL_law_931 rfl 3 rfl ?_
                                                            refine J_iconst C dL_law_932 kci_1 ?_
                                                            refine J_iadd C dL_law_933 ?_
                                                            refine J_sld C SC dL_law_934 ?_
                                                            refine J_aload_n C dL_law_935 rfl 0 rfl ?_
                                                            refine J_iload_n C dL_law_936 rfl 3 rfl ?_
                                                            refine J_iconst C dL_law_937 kci_2 ?_
                                                            refine J_iadd C dL_law_938 ?_
                                                            refine J_sld C SC dL_law_939 ?_
                                                            refine J_aload_n C dL_law_940 rfl 0 rfl ?_
                                                            refine J_iload_n C dL_law_941 rfl 3 rfl ?_
                                                            refine J_iconst C dL_law_942 kci_3 ?_
                                                            refine J_iadd C dL_law_943 ?_
                                                            refine J_sld C SC dL_law_944 ?_
                                                            refine J_aload_n C dL_law_945 rfl 0 rfl ?_
                                                            refine J_iload_n C dL_law_946 rfl 3 rfl ?_
                                                            refine J_iconst C dL_law_947 kci_4 ?_
                                                            refine J_iadd C dL_law_948 ?_
                                                            refine J_sld C SC dL_law_949 ?_
                                                            refine J_cvi (As := [.int (xs (x3 + (1 : Int32)).toNatClampNeg), .int (xs (x3 + (2 : Int32)).toNatClampNeg), .int (xs (x3 + (3 : Int32)).toNatClampNeg), .int (xs (x3 + (4 : Int32)).toNatClampNeg)]) C (c9_team (gl g) w n o2 h2 (xs (x3 + (1 : Int32)).toNatClampNeg) (xs (x3 + (2 : Int32)).toNatClampNeg) (xs (x3 + (3 : Int32)).toNatClampNeg) (xs (x3 + (4 : Int32)).toNatClampNeg) M131) (gd_v W6_100 W6_101 W6_102 W1_10 W6_103) rfl (by decide) (hdX9_team) h2 (by decide) (cl_9) rfl (Nat.le_of_ble_eq_true rfl) dL_law_950 rfl (fun r134 M133 => ?_)
                                                            refine J_pop C rfl dL_law_953 ?_
                                                            refine J_goto (tgt := 1052) C dL_law_954 (by decide) ?_
                                                            refine J_iinc (lw := fun v135 => [(3, .int v135), (0, .ref bS), (1, .ref (wa w o1)), (2, .ref (wa w o2))]) (X := x3 + 5) C dL_law_1052 (q := 3) rfl (by rw [kci_5]) (by decide) (fun _ => rfl) (fun v135 => ?_)
                                                            refine J_goto (tgt := 18) C dL_law_1055 (by decide) ?_
                                                            refine J_lv [1, 2, 3, 0] rfl ?_
                                                            exact ih v135 M133
                                                          · refine J_ite (fun hc27 => ?_) (fun hc27 => ?_)
                                                            · refine J_tsin (tgt := 957) C dL_law_32 (by rw [hc27]; decide) (by rw [hc27]; decide) (off := 925) (by rw [hc27]; rfl) (by decide) ?_
                                                              refine J_aload_n C dL_law_957 rfl 1 rfl ?_
                                                              refine J_aload_n C dL_law_958 rfl 0 rfl ?_
                                                              refine J_iload_n C dL_law_959 rfl 3 rfl ?_
                                                              refine J_iconst C dL_law_960 kci_1 ?_
                                                              refine J_iadd C dL_law_961 ?_
                                                              refine J_sld C SC dL_law_962 ?_
                                                              refine J_cvi (As := [.int (xs (x3 + (1 : Int32)).toNatClampNeg)]) C (c8_film (gl g) w o1 h1 (xs (x3 + (1 : Int32)).toNatClampNeg) M) (gd_v W4_144 W4_145 W4_146 W1_1 W4_147) rfl (by decide) (hdX8_film) h1 (by decide) (cl_8) rfl (Nat.le_of_ble_eq_true rfl) dL_law_963 rfl (fun r137 M136 => ?_)
                                                              refine J_pop C rfl dL_law_966 ?_
                                                              refine J_aload_n C dL_law_967 rfl 2 rfl ?_
                                                              refine J_aload_n C dL_law_968 rfl 0 rfl ?_
                                                              refine J_iload_n C dL_law_969 rfl 3 rfl ?_
                                                              refine J_iconst C dL_law_970 kci_1 ?_
                                                              refine J_iadd C dL_law_971 ?_
                                                              refine J_sld C SC dL_law_972 ?_
                                                              refine J_cvi (As := [.int (xs (x3 + (1 : Int32)).toNatClampNeg)]) C (c9_film (gl g) w o2 h2 (xs (x3 + (1 : Int32)).toNatClampNeg) M136) (gd_v W6_104 W6_105 W6_106 W1_10 W6_107) rfl (by decide) (hdX9_film) h2 (by decide) (cl_9) rfl (Nat.le_of_ble_eq_true rfl) dL_law_973 rfl (fun r139 M138 => ?_)
                                                              refine J_pop C rfl dL_law_976 ?_
                                                              refine J_goto (tgt := 1052) C dL_law_977 (by decide) ?_
                                                              refine J_iinc (lw := fun v140 => [(3, .int v140), (0, .ref bS), (1, .ref (wa w o1)), (2, .ref (wa w o2))]) (X := x3 + 5) C dL_law_1052 (q := 3) rfl (by rw [kci_5]) (by decide) (fun _ => rfl) (fun v140 => ?_)
                                                              refine J_goto (tgt := 18) C dL_law_1055 (by decide) ?_
                                                              refine J_lv [1, 2, 3, 0] rfl ?_
                                                              exact ih v140 M138
                                                            · refine J_ite (fun hc28 => ?_) (fun hc28 => ?_)
                                                              · refine J_tsin (tgt := 980) C dL_law_32 (by rw [hc28]; decide) (by rw [hc28]; decide) (off := 948) (by rw [hc28]; rfl) (by decide) ?_
                                                                refine J_aload_n C dL_law_980 rfl 1 rfl ?_
                                                                refine J_aload_n C dL_law_981 rfl 0 rfl ?_
                                                                refine J_iload_n C dL_law_982 rfl 3 rfl ?_
                                                                refine J_iconst C dL_law_983 kci_1 ?_
                                                                refine J_iadd C dL_law_984 ?_
                                                                refine J_sld C SC dL_law_985 ?_
                                                                refine J_cvi (As := [.int (xs (x3 + (1 : Int32)).toNatClampNeg)]) C (c8_judge (gl g) w n o1 h1 (xs (x3 + (1 : Int32)).toNatClampNeg) M) (gd_v W4_148 W4_149 W4_150 W1_1 W4_151) rfl (by decide) (hdX8_judge) h1 (by decide) (cl_8) rfl (Nat.le_of_ble_eq_true rfl) dL_law_986 rfl (fun r142 M141 => ?_)
                                                                refine J_pop C rfl dL_law_989 ?_
                                                                refine J_aload_n C dL_law_990 rfl 2 rfl ?_
                                                                refine J_aload_n C dL_law_991 rfl 0 rfl ?_
                                                                refine J_iload_n C dL_law_992 rfl 3 rfl ?_
                                                                refine J_iconst C dL_law_993 kci_1 ?_
                                                                refine J_iadd C dL_law_994 ?_
                                                                refine J_sld C SC dL_law_995 ?_
                                                                refine J_cvi (As := [.int (xs (x3 + (1 : Int32)).toNatClampNeg)]) C (c9_judge (gl g) w n o2 h2 (xs (x3 + (1 : Int32)).toNatClampNeg) M141) (gd_v W6_108 W6_109 W6_110 W1_10 W6_111) rfl (by decide) (hdX9_judge) h2 (by decide) (cl_9) rfl (Nat.le_of_ble_eq_true rfl) dL_law_996 rfl (fun r144 M143 => ?_)
                                                                refine J_pop C rfl dL_law_999 ?_
                                                                refine J_goto (tgt := 1052) C dL_law_1000 (by decide) ?_
                                                                refine J_iinc (lw := fun v145 => [(3, .int v145), (0, .ref bS), (1, .ref (wa w o1)), (2, .ref (wa w o2))]) (X := x3 + 5) C dL_law_1052 (q := 3) rfl (by rw [kci_5]) (by decide) (fun _ => rfl) (fun v145 => ?_)
                                                                refine J_goto (tgt := 18) C dL_law_1055 (by decide) ?_
                                                                refine J_lv [1, 2, 3, 0] rfl ?_
                                                                exact ih v145 M143
                                                              · refine J_ite (fun hc29 => ?_) (fun hc29 => ?_)
                                                                · refine J_tsin (tgt := 1003) C dL_law_32 (by rw [hc29]; decide) (by rw [hc29]; decide) (off := 971) (by rw [hc29]; rfl) (by decide) ?_
                                                                  refine J_aload_n C dL_law_1003 rfl 1 rfl ?_
                                                                  refine J_cvi (As := []) C (c8_image (gl g) w n o1 h1 M) (gd_v W4_157 W4_158 W4_159 W1_1 W4_160) rfl (by decide) (hdX8_image) h1 (by decide) (cl_8) rfl (Nat.le_of_ble_eq_true rfl) dL_law_1004 rfl (fun r147 M146 => ?_)
                                                                  refine J_pop C rfl dL_law_1007 ?_
                                                                  refine J_aload_n C dL_law_1008 rfl 2 rfl ?_
                                                                  refine J_cvi (As := []) C (c9_image (gl g) w n o2 h2 M146) (gd_v W6_112 W6_113 W6_114 W1_10 W6_115) rfl (by decide) (hdX9_image) h2 (by decide) (cl_9) rfl (Nat.le_of_ble_eq_true rfl) dL_law_1009 rfl (fun r149 M148 => ?_)
                                                                  refine J_pop C rfl dL_law_1012 ?_
                                                                  refine J_goto (tgt := 1052) C dL_law_1013 (by decide) ?_
                                                                  refine J_iinc (lw := fun v150 => [(3, .int v150), (0, .ref bS), (1, .ref (wa w o1)), (2, .ref (wa w o2))]) (X := x3 + 5) C dL_law_1052 (q := 3) rfl (by rw [kci_5]) (by decide) (fun _ => rfl) (fun v150 => ?_)
                                                                  refine J_goto (tgt := 18) C dL_law_1055 (by decide) ?_
                                                                  refine J_lv [1, 2, 3, 0] rfl ?_
                                                                  exact ih v150 M148
                                                                · refine J_ite (fun hc30 => ?_) (fun hc30 => ?_)
                                                                  · refine J_tsin (tgt := 1016) C dL_law_32 (by rw [hc30]; decide) (by rw [hc30]; decide) (off := 984) (by rw [hc30]; rfl) (by decide) ?_
                                                                    refine J_aload_n C dL_law_1016 rfl 1 rfl ?_
                                                                    refine J_cvi (As := []) C (c8_restore (gl g) w n o1 h1 M) (gd_v W4_162 W4_163 W4_164 W1_1 W4_165) rfl (by decide) (hdX8_restore) h1 (by decide) (cl_8) rfl (Nat.le_of_ble_eq_true rfl) dL_law_1017 rfl (fun r152 M151 => ?_)
                                                                    refine J_aload_n C dL_law_1020 rfl 2 rfl ?_
                                                                    refine J_cvi (As := []) C (c9_restore (gl g) w n o2 h2 M151) (gd_v W6_116 W6_117 W6_118 W1_10 W6_119) rfl (by decide) (hdX9_restore) h2 (by decide) (cl_9) rfl (Nat.le_of_ble_eq_true rfl) dL_law_1021 rfl (fun r154 M153 => ?_)
                                                                    refine J_icmp_eq (tgt := 1052) C dL_law_1024 (by decide) (fun _ => ?_) (fun _ => ?_)
                                                                    · refine J_iinc (lw := fun v155 => [(3, .int v155), (0, .ref bS), (1, .ref (wa w o1)), (2, .ref (wa w o2))]) (X := x3 + 5) C dL_law_1052 (q := 3) rfl (by rw [kci_5]) (by decide) (fun _ => rfl) (fun v155 => ?_)
                                                                      refine J_goto (tgt := 18) C dL_law_1055 (by decide) ?_
                                                                      refine J_lv [1, 2, 3, 0] rfl ?_
                                                                      exact ih v155 M153
                                                                    · refine J_iconst C dL_law_1027 kci_0 ?_
                                                                      exact J_iret C RT (by decide) dL_law_1028
                                                                  · refine J_ite (fun hc31 => ?_) (fun hc31 => ?_)
                                                                    · refine J_tsin (tgt := 1029) C dL_law_32 (by rw [hc31]; decide) (by rw [hc31]; decide) (off := 997) (by rw [hc31]; rfl) (by decide) ?_
                                                                      refine J_aload_n C dL_law_1029 rfl 1 rfl ?_
                                                                      refine J_aload_n C dL_law_1030 rfl 0 rfl ?_
                                                                      refine J_iload_n C dL_law_1031 rfl 3 rfl ?_
                                                                      refine J_iconst C dL_law_1032 kci_1 ?_
                                                                      refine J_iadd C dL_law_1033 ?_
                                                                      refine J_sld C SC dL_law_1034 ?_
                                                                      refine J_cvi (As := [.int (xs (x3 + (1 : Int32)).toNatClampNeg)]) C (c8_count (gl g) w n o1 h1 (xs (x3 + (1 : Int32)).toNatClampNeg) M) (gd_v W4_166 W4_167 W4_168 W1_1 W4_169) rfl (by decide) (hdX8_count) h1 (by decide) (cl_8) rfl (Nat.le_of_ble_eq_true rfl) dL_law_1035 rfl (fun r157 M156 => ?_)
                                                                      refine J_pop C rfl dL_law_1038 ?_
                                                                      refine J_aload_n C dL_law_1039 rfl 2 rfl ?_
                                                                      refine J_aload_n C dL_law_1040 rfl 0 rfl ?_
                                                                      refine J_iload_n C dL_law_1041 rfl 3 rfl ?_
                                                                      refine J_iconst C dL_law_1042 kci_1 ?_
                                                                      refine J_iadd C dL_law_1043 ?_
                                                                      refine J_sld C SC dL_law_1044 ?_
                                                                      refine J_cvi (As := [.int (xs (x3 + (1 : Int32)).toNatClampNeg)]) C (c9_count (gl g) w n o2 h2 (xs (x3 + (1 : Int32)).toNatClampNeg) M156) (gd_v W6_120 W6_121 W6_122 W1_10 W6_123) rfl (by decide) (hdX9_count) h2 (by decide) (cl_9) rfl (Nat.le_of_ble_eq_true rfl) dL_law_1045 rfl (fun r159 M158 => ?_)
                                                                      refine J_pop C rfl dL_law_1048 ?_
                                                                      refine J_goto (tgt := 1052) C dL_law_1049 (by decide) ?_
                                                                      refine J_iinc (lw := fun v160 => [(3, .int v160), (0, .ref bS), (1, .ref (wa w o1)), (2, .ref (wa w o2))]) (X := x3 + 5) C dL_law_1052 (q := 3) rfl (by rw [kci_5]) (by decide) (fun _ => rfl) (fun v160 => ?_)
                                                                      refine J_goto (tgt := 18) C dL_law_1055 (by decide) ?_
                                                                      refine J_lv [1, 2, 3, 0] rfl ?_
                                                                      exact ih v160 M158
                                                                    · refine J_tsout (tgt := 1052) C dL_law_32 (by have q0 := lv_neT hc0 (a := 0) rfl; have q1 := lv_neT hc1 (a := 1) rfl; have q2 := lv_neT hc2 (a := 2) rfl; have q3 := lv_neT hc3 (a := 3) rfl; have q4 := lv_neT hc4 (a := 4) rfl; have q5 := lv_neT hc5 (a := 5) rfl; have q6 := lv_neT hc6 (a := 6) rfl; have q7 := lv_neT hc7 (a := 7) rfl; have q8 := lv_neT hc8 (a := 8) rfl; have q9 := lv_neT hc9 (a := 9) rfl; have q10 := lv_neT hc10 (a := 10) rfl; have q11 := lv_neT hc11 (a := 11) rfl; have q12 := lv_neT hc12 (a := 12) rfl; have q13 := lv_neT hc13 (a := 13) rfl; have q14 := lv_neT hc14 (a := 14) rfl; have q15 := lv_neT hc15 (a := 15) rfl; have q16 := lv_neT hc16 (a := 16) rfl; have q17 := lv_neT hc17 (a := 17) rfl; have q18 := lv_neT hc18 (a := 18) rfl; have q19 := lv_neT hc19 (a := 19) rfl; have q20 := lv_neT hc20 (a := 20) rfl; have q21 := lv_neT hc21 (a := 21) rfl; have q22 := lv_neT hc22 (a := 22) rfl; have q23 := lv_neT hc23 (a := 23) rfl; have q24 := lv_neT hc24 (a := 24) rfl; have q25 := lv_neT hc25 (a := 25) rfl; have q26 := lv_neT hc26 (a := 26) rfl; have q27 := lv_neT hc27 (a := 27) rfl; have q28 := lv_neT hc28 (a := 28) rfl; have q29 := lv_neT hc29 (a := 29) rfl; have q30 := lv_neT hc30 (a := 30) rfl; have q31 := lv_neT hc31 (a := 31) rfl; omega) (by decide) ?_
                                                                      refine J_iinc (lw := fun v161 => [(3, .int v161), (0, .ref bS), (1, .ref (wa w o1)), (2, .ref (wa w o2))]) (X := x3 + 5) C dL_law_1052 (q := 3) rfl (by rw [kci_5]) (by decide) (fun _ => rfl) (fun v161 => ?_)
                                                                      refine J_goto (tgt := 18) C dL_law_1055 (by decide) ?_
                                                                      refine J_lv [1, 2, 3, 0] rfl ?_
                                                                      exact ih v161 M
