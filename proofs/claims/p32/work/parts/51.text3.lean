/-! ===== texts: the reference's statement, all statements ===== -/
theorem r_tailE {L a u : Nat} {T W : Nat → Nat} {M : Mem} (hT : T256 T) (hL : L ≤ 64) (ha : a ≤ 64) (c : RTx L T M) (e2 : M 80 27 = nI a) : Sp (cb (s9_takes 80 (59 : Int32) M) (fun r M' => if bz r then some (r, M') else none)) (fun r M' => R27 M M' ∧ M' 80 27 = nI (prs T L [59] a u W).2.1 ∧ ((r = 0 ∧ (prs T L [59] a u W).1 = 0) ∨ (r = 1 ∧ (prs T L [59] a u W).1 = 1 ∧ (prs T L [59] a u W).2.2 = W))) := by
  have e : prs T L [59] a u W = cif (a < L ∧ T a = 59) (1, a + 1, W) (0, a, W) := prs_lit (by decide) (by decide)
  refine Sp.cb (r_takes (x := 59) hT hL (by decide) ha c e2) (fun r M1 t => ?_)
  obtain ⟨t1, t2⟩ := t
  rcases t2 with ⟨r1, z, t3⟩ | ⟨r1, z, t3⟩
  · rw [e, cif_pos z, r1]
    exact Sp.pos (Or.inr rfl) (Sp.ret ⟨t1, t3, Or.inr ⟨rfl, rfl, rfl⟩⟩)
  · rw [e, cif_neg z, r1]
    exact Sp.pos (Or.inl rfl) (Sp.ret ⟨t1, t3, Or.inl ⟨rfl, rfl⟩⟩)
theorem r_tailT {n L a u k : Nat} {T W : Nat → Nat} {M : Mem} (hT : T256 T) (hL : L ≤ 64) (ha : a ≤ L) (hk : k < 32) (hn : 60 < n) (c : RTx L T M) (e2 : M 80 27 = nI a) : Sp (s9_statement_158 n 80 (nI k) M) (fun r M' => RK k M M' ∧ (∀ q, q ≠ 80 → q ≠ 97 → M' q = M q) ∧ M' 80 27 = nI (prs T L [44, 35, 59] a u W).2.1 ∧ ((r = 0 ∧ (prs T L [44, 35, 59] a u W).1 = 0) ∨ (r = 1 ∧ (prs T L [44, 35, 59] a u W).1 = 1 ∧ M' 97 k = nI ((prs T L [44, 35, 59] a u W).2.2 u) ∧ ∀ j, j ≠ u → (prs T L [44, 35, 59] a u W).2.2 j = W j))) := by
  have e : prs T L [44, 35, 59] a u W = cif (a < L ∧ T a = 44) (prs T L [35, 59] (a + 1) u W) (0, a, W) := prs_lit (by decide) (by decide)
  have ik : inB (nI k) (alen (link 80 25)) := vp_in_nI (N := 32) hk (by decide)
  unfold s9_statement_158
  refine Sp.cb (r_takes (x := 44) hT hL (by decide) (by omega) c e2) (fun r M1 t => ?_)
  obtain ⟨t1, t2⟩ := t
  rcases t2 with ⟨r1, z, t3⟩ | ⟨r1, z, t3⟩
  · rw [e, cif_pos z, r1, prs_35]
    refine Sp.neg (by decide) (Sp.cb (r_number (m := 3) hT hL (by decide) (by decide) (by omega) hn (t1.rt c) t3) (fun r2 M2 s => Sp.pos ik (Sp.mlet (Sp.pos ik ?_))))
    obtain ⟨s1, s2, s3⟩ := s
    have e5 : mset M2 (link 80 25) (nI k).toNatClampNeg r2 (link 80 25) (nI k).toNatClampNeg = r2 := ms_eq
    rw [e5]
    have f2 : RK k M (mset M2 (link 80 25) (nI k).toNatClampNeg r2) := by
      rw [nI_clamp (by omega)]
      exact (t1.rk.tr s3.rk).tr (RK.st (by decide) (by decide))
    have g2 : ∀ q, q ≠ 80 → q ≠ 97 → mset M2 (link 80 25) (nI k).toNatClampNeg r2 q = M q := fun q q1 q2 => by
      rw [ms_ne (show q ≠ link 80 25 from q2), s3.1 q q1, t1.1 q q1]
    have e27 : mset M2 (link 80 25) (nI k).toNatClampNeg r2 80 27 = nI (nmA T L 3 (a + 1)).1 := by rw [ms_ne (by decide)]; exact s2
    obtain ⟨n1, n2, n3, n4⟩ := nmA_f (L := L) (m := 3) (a := a + 1) hT
    by_cases y : (nmA T L 3 (a + 1)).2.2 = 0
    · rw [if_pos y] at s1
      rw [if_pos y, s1]
      rw [s1] at f2 g2 e27
      exact Sp.neg (by decide) (Sp.ret ⟨f2, g2, e27, Or.inl ⟨rfl, rfl⟩⟩)
    · rw [if_neg y] at s1
      have hv := nmA_lt (L := L) (m := 3) (a := a + 1) hT
      rw [if_neg y, s1]
      rw [s1] at f2 g2 e27
      refine Sp.pos (nI_pos' (by omega)) ?_
      refine (r_tailE (u := u + 1) (W := fun j => if j = u then (nmA T L 3 (a + 1)).2.1 else W j) hT hL (by have := (n3 y).2; omega) (f2.rt c) e27).mono (fun r M' w => ⟨f2.tr w.1.rk, fun q q1 q2 => by rw [w.1.1 q q1]; exact g2 q q1 q2, w.2.1, ?_⟩)
      rcases w.2.2 with w3 | ⟨w3, w4, w5⟩
      · exact Or.inl w3
      · refine Or.inr ⟨w3, w4, ?_, fun j hj => by rw [w5]; exact if_neg hj⟩
        rw [w5, w.1.1 97 (by decide), nI_clamp (by omega)]
        show mset M2 (link 80 25) k (nI (nmA T L 3 (a + 1)).2.1) 97 k = nI (if u = u then (nmA T L 3 (a + 1)).2.1 else W u)
        rw [if_pos rfl]
        exact ms_eq
  · rw [e, cif_neg z, r1]
    exact Sp.pos rfl (Sp.ret ⟨t1.rk, fun q q1 _ => t1.1 q q1, t3, Or.inl ⟨rfl, rfl⟩⟩)
/-- what is kept of a statement -/
def Std (T : Nat → Nat) (L a k : Nat) (M : Mem) : Prop := M 93 k = nI (ltA T L a) ∧ M 94 k = nI a ∧ M 95 k = nI ((sdA T L a).2.2 0) ∧ (ltA T L a = 119 → M 96 k = nI ((sdA T L a).2.2 1) ∧ M 97 k = nI ((sdA T L a).2.2 2)) ∧ (ltA T L a = 112 → M 97 k = nI ((sdA T L a).2.2 1))
theorem r_statement {n L a k : Nat} {T : Nat → Nat} {M : Mem} (hT : T256 T) (hL : L ≤ 64) (ha : a ≤ 64) (hk : k < 32) (hn : 60 < n) (c : RTx L T M) (e2 : M 80 27 = nI a) (e28 : M 80 28 = nI k) : Sp (s9_statement n 80 M) (fun r M' => RK k M M' ∧ M' 80 27 = nI (sdA T L a).2.1 ∧ ((r = 0 ∧ (sdA T L a).1 = 0) ∨ (r = 1 ∧ (sdA T L a).1 = 1 ∧ Std T L a k M'))) := by
  have i21 : inB (nI k) (alen (link 80 21)) := vp_in_nI (N := 32) hk (by decide)
  have i22 : inB (nI k) (alen (link 80 22)) := vp_in_nI (N := 32) hk (by decide)
  have i23 : inB (nI k) (alen (link 80 23)) := vp_in_nI (N := 32) hk (by decide)
  have i24 : inB (nI k) (alen (link 80 24)) := vp_in_nI (N := 32) hk (by decide)
  -- behind a letter
  have letter : ∀ b cs, b < 256 → b ≠ 35 → b ≠ 100 → a < L → T a = b → cdsA b = b :: cs → (∀ N : Mem, RK k M N → N 80 27 = nI (a + 1) → N 93 k = nI b → N 94 k = nI a → Sp (if nI b = (112 : Int32) then (s9_statement_87 n 80 (nI b) (nI k) 80 (nI k) (link 80 23) N) else (if nI b = (102 : Int32) then (s9_statement_87 n 80 (nI b) (nI k) 80 (nI k) (link 80 23) N) else (s9_statement_92 n 80 (nI b) (nI k) (3 : Int32) 80 (nI k) (link 80 23) N))) (fun r M' => RK k M M' ∧ M' 80 27 = nI (prs T L cs (a + 1) 0 (fun _ => 0)).2.1 ∧ ((r = 0 ∧ (prs T L cs (a + 1) 0 (fun _ => 0)).1 = 0) ∨ (r = 1 ∧ (prs T L cs (a + 1) 0 (fun _ => 0)).1 = 1 ∧ M' 93 k = nI b ∧ M' 94 k = nI a ∧ M' 95 k = nI ((prs T L cs (a + 1) 0 (fun _ => 0)).2.2 0) ∧ (b = 119 → M' 96 k = nI ((prs T L cs (a + 1) 0 (fun _ => 0)).2.2 1) ∧ M' 97 k = nI ((prs T L cs (a + 1) 0 (fun _ => 0)).2.2 2)) ∧ (b = 112 → M' 97 k = nI ((prs T L cs (a + 1) 0 (fun _ => 0)).2.2 1)))))) → Sp (s9_statement_37 n 80 (nI b) M) (fun r M' => RK k M M' ∧ M' 80 27 = nI (sdA T L a).2.1 ∧ ((r = 0 ∧ (sdA T L a).1 = 0) ∨ (r = 1 ∧ (sdA T L a).1 = 1 ∧ Std T L a k M'))) := fun b cs hb h35 h100 hal hTa hcs hk2 => by
    have el : ltA T L a = b := by unfold ltA; rw [if_pos hal]; exact hTa
    have es : sdA T L a = prs T L cs (a + 1) 0 (fun _ => 0) := by
      unfold sdA
      rw [el, hcs, if_neg (by exact List.cons_ne_nil _ _), prs_lit h35 h100, cif_pos ⟨hal, hTa⟩]
    unfold s9_statement_37
    refine Sp.ilet ?_
    rw [e28]
    refine Sp.pos i21 (Sp.mlet (Sp.pos i22 (Sp.mlet (Sp.mlet ?_))))
    have e27 : mset M (link 80 21) (nI k).toNatClampNeg (nI b) 80 27 = nI a := by rw [ms_ne (by decide)]; exact e2
    rw [e27]
    have e27' : mset (mset M (link 80 21) (nI k).toNatClampNeg (nI b)) (link 80 22) (nI k).toNatClampNeg (nI a) 80 27 = nI a := by rw [ms_ne (by decide)]; exact e27
    rw [e27', nI_1, nI_clamp (by omega)]
    unfold Std
    rw [es, el]
    refine hk2 _ ?_ ms_eq ?_ ?_
    · exact ((RK.st (M := M) (q := 93) (by decide) (by decide)).tr (RK.st (q := 94) (by decide) (by decide))).tr R27.st.rk
    · rw [ms_ne (by decide), ms_ne (by decide)]; exact ms_eq
    · rw [ms_ne (by decide)]; exact ms_eq
  -- a number, then the rest
  have first : ∀ (b m : Nat) (rest : List Nat) (N : Mem), 1 ≤ m → m ≤ 3 → a < L → RK k M N → N 80 27 = nI (a + 1) → N 93 k = nI b → N 94 k = nI a → (∀ (c1 : Nat), prs T L (c1 :: rest) (a + 1) 0 (fun _ => 0) = (if (nmA T L m (a + 1)).2.2 = 0 then (0, (nmA T L m (a + 1)).1, fun _ => 0) else prs T L rest (nmA T L m (a + 1)).1 1 (fun j => if j = 0 then (nmA T L m (a + 1)).2.1 else 0)) → (∀ N2 : Mem, RK k M N2 → N2 80 27 = nI (nmA T L m (a + 1)).1 → (nmA T L m (a + 1)).1 ≤ L → N2 93 k = nI b → N2 94 k = nI a → N2 95 k = nI (nmA T L m (a + 1)).2.1 → Sp (if nI b = (119 : Int32) then (cb (s9_takes 80 (44 : Int32) N2) (fun r20 M19 => if r20 = 0 then (some (0, M19)) else (cb (s9_number n 80 (1 : Int32) M19) (fun r22 M21 => if inB (nI k) (alen (link 80 24)) then mlet (mset M21 (link 80 24) (nI k).toNatClampNeg r22) (fun M23 => if inB (nI k) (alen (link 80 24)) then if 0 ≤ (M23 (link 80 24) (nI k).toNatClampNeg) then (s9_statement_146 n 80 (nI b) (nI k) M23) else (some (0, M23)) else none) else none)))) else (s9_statement_146 n 80 (nI b) (nI k) N2)) (fun r M' => RK k M M' ∧ M' 80 27 = nI (prs T L rest (nmA T L m (a + 1)).1 1 (fun j => if j = 0 then (nmA T L m (a + 1)).2.1 else 0)).2.1 ∧ ((r = 0 ∧ (prs T L rest (nmA T L m (a + 1)).1 1 (fun j => if j = 0 then (nmA T L m (a + 1)).2.1 else 0)).1 = 0) ∨ (r = 1 ∧ (prs T L rest (nmA T L m (a + 1)).1 1 (fun j => if j = 0 then (nmA T L m (a + 1)).2.1 else 0)).1 = 1 ∧ M' 93 k = nI b ∧ M' 94 k = nI a ∧ M' 95 k = nI ((prs T L rest (nmA T L m (a + 1)).1 1 (fun j => if j = 0 then (nmA T L m (a + 1)).2.1 else 0)).2.2 0) ∧ (b = 119 → M' 96 k = nI ((prs T L rest (nmA T L m (a + 1)).1 1 (fun j => if j = 0 then (nmA T L m (a + 1)).2.1 else 0)).2.2 1) ∧ M' 97 k = nI ((prs T L rest (nmA T L m (a + 1)).1 1 (fun j => if j = 0 then (nmA T L m (a + 1)).2.1 else 0)).2.2 2)) ∧ (b = 112 → M' 97 k = nI ((prs T L rest (nmA T L m (a + 1)).1 1 (fun j => if j = 0 then (nmA T L m (a + 1)).2.1 else 0)).2.2 1)))))) → Sp (s9_statement_92 n 80 (nI b) (nI k) (nI m) 80 (nI k) (link 80 23) N) (fun r M' => RK k M M' ∧ M' 80 27 = nI (prs T L (c1 :: rest) (a + 1) 0 (fun _ => 0)).2.1 ∧ ((r = 0 ∧ (prs T L (c1 :: rest) (a + 1) 0 (fun _ => 0)).1 = 0) ∨ (r = 1 ∧ (prs T L (c1 :: rest) (a + 1) 0 (fun _ => 0)).1 = 1 ∧ M' 93 k = nI b ∧ M' 94 k = nI a ∧ M' 95 k = nI ((prs T L (c1 :: rest) (a + 1) 0 (fun _ => 0)).2.2 0) ∧ (b = 119 → M' 96 k = nI ((prs T L (c1 :: rest) (a + 1) 0 (fun _ => 0)).2.2 1) ∧ M' 97 k = nI ((prs T L (c1 :: rest) (a + 1) 0 (fun _ => 0)).2.2 2)) ∧ (b = 112 → M' 97 k = nI ((prs T L (c1 :: rest) (a + 1) 0 (fun _ => 0)).2.2 1)))))) := fun b m rest N hm1 hm hal fN e27 e93 e94 c1 he hk2 => by
    unfold s9_statement_92
    refine Sp.cb (r_number hT hL hm1 hm (by omega) hn (fN.rt c) e27) (fun r M1 s => Sp.pos i23 (Sp.mlet (Sp.pos i23 ?_)))
    obtain ⟨s1, s2, s3⟩ := s
    have ev : mset M1 (link 80 23) (nI k).toNatClampNeg r (link 80 23) (nI k).toNatClampNeg = r := ms_eq
    rw [ev]
    have ek : (nI k).toNatClampNeg = k := nI_clamp (by omega)
    have f2 : RK k M (mset M1 (link 80 23) (nI k).toNatClampNeg r) := by
      rw [ek]; exact (fN.tr s3.rk).tr (RK.st (by decide) (by decide))
    have g27 : mset M1 (link 80 23) (nI k).toNatClampNeg r 80 27 = nI (nmA T L m (a + 1)).1 := by rw [ms_ne (by decide)]; exact s2
    have g93 : mset M1 (link 80 23) (nI k).toNatClampNeg r 93 k = nI b := by rw [ms_ne (by decide), s3.1 93 (by decide)]; exact e93
    have g94 : mset M1 (link 80 23) (nI k).toNatClampNeg r 94 k = nI a := by rw [ms_ne (by decide), s3.1 94 (by decide)]; exact e94
    have g95 : mset M1 (link 80 23) (nI k).toNatClampNeg r 95 k = r := by rw [ek]; exact ms_eq
    obtain ⟨n1, n2, n3, n4⟩ := nmA_f (L := L) (m := m) (a := a + 1) hT
    by_cases y : (nmA T L m (a + 1)).2.2 = 0
    · rw [if_pos y] at s1 he
      rw [s1] at f2 g27 ⊢
      rw [he]
      exact Sp.neg (by decide) (Sp.ret ⟨f2, g27, Or.inl ⟨rfl, rfl⟩⟩)
    · rw [if_neg y] at s1 he
      have hv := nmA_lt (L := L) (m := m) (a := a + 1) hT
      rw [s1] at f2 g27 g93 g94 g95 ⊢
      rw [he]
      exact Sp.pos (nI_pos' (by omega)) (hk2 _ f2 g27 (n3 y).2 g93 g94 g95)
  -- the letters
  unfold s9_statement
  refine Sp_cbe (r_sign c hL ha e2) ?_
  have done : ∀ b cs m rest c1, (b = 110 ∨ b = 99 ∨ b = 102) → b < 256 → cdsA b = b :: cs → cs = c1 :: rest → rest = [59] → (c1 = 35 ∧ m = 3 ∧ b ≠ 102 ∨ c1 = 100 ∧ m = 1 ∧ b = 102) → a < L → T a = b → Sp (s9_statement_37 n 80 (nI b) M) (fun r M' => RK k M M' ∧ M' 80 27 = nI (sdA T L a).2.1 ∧ ((r = 0 ∧ (sdA T L a).1 = 0) ∨ (r = 1 ∧ (sdA T L a).1 = 1 ∧ Std T L a k M'))) := fun b cs m rest c1 hb hb2 hcs hc1 hrest hm hal hTa => by
    refine letter b cs hb2 (by omega) (by omega) hal hTa hcs (fun N f e27 e93 e94 => ?_)
    have he : prs T L (c1 :: rest) (a + 1) 0 (fun _ => 0) = (if (nmA T L m (a + 1)).2.2 = 0 then (0, (nmA T L m (a + 1)).1, fun _ => 0) else prs T L rest (nmA T L m (a + 1)).1 1 (fun j => if j = 0 then (nmA T L m (a + 1)).2.1 else 0)) := by
      rcases hm with ⟨h1, h2, -⟩ | ⟨h1, h2, -⟩
      · rw [h1, h2]; exact prs_35
      · rw [h1, h2]; exact prs_100
    have core := first b m rest N (by omega) (by omega) hal f e27 e93 e94 c1 he (fun N2 f2 g27 gL g93 g94 g95 => by
      refine Sp.neg (fun z => by have := (nI_eq (b := 119) (by omega) (by decide)).mp z; omega) ?_
      unfold s9_statement_146
      refine Sp.neg (fun z => by have := (nI_eq (b := 119) (by omega) (by decide)).mp z; omega) (Sp.neg (fun z => by have := (nI_eq (b := 112) (by omega) (by decide)).mp z; omega) ?_)
      rw [hrest]
      refine (r_tailE (u := 1) (W := fun j => if j = 0 then (nmA T L m (a + 1)).2.1 else 0) hT hL (by omega) (f2.rt c) g27).mono (fun r M' w => ⟨f2.tr w.1.rk, w.2.1, ?_⟩)
      rcases w.2.2 with w3 | ⟨w3, w4, w5⟩
      · exact Or.inl w3
      · refine Or.inr ⟨w3, w4, ?_, ?_, ?_, fun z => by omega, fun z => by omega⟩
        · rw [w.1.1 93 (by decide)]; exact g93
        · rw [w.1.1 94 (by decide)]; exact g94
        · rw [w.1.1 95 (by decide), w5]; exact g95)
    rw [hc1]
    rcases hm with ⟨h1, h2, h3⟩ | ⟨h1, h2, h3⟩
    · rw [h2] at core
      exact Sp.neg (fun z => by have := (nI_eq (b := 112) (by omega) (by decide)).mp z; omega) (Sp.neg (fun z => by have := (nI_eq (b := 102) (by omega) (by decide)).mp z; omega) core)
    · rw [h2] at core
      refine Sp.neg (fun z => by have := (nI_eq (b := 112) (by omega) (by decide)).mp z; omega) (Sp.pos (by rw [h3]; rfl) ?_)
      unfold s9_statement_87
      exact core
  have isb : ∀ b, b < 256 → (sgI T L a = nI b ↔ a < L ∧ T a = b) := fun b hb => sg_is hT hb
  by_cases h1 : a < L ∧ T a = 110
  · have e := (isb 110 (by decide)).mpr h1
    rw [e]
    exact Sp.pos rfl (done 110 [35, 59] 3 [59] 35 (Or.inl rfl) (by decide) (by decide) rfl rfl (Or.inl ⟨rfl, rfl, by decide⟩) h1.1 h1.2)
  refine Sp.neg (fun z => h1 ((isb 110 (by decide)).mp z)) ?_
  by_cases h2 : a < L ∧ T a = 99
  · have e := (isb 99 (by decide)).mpr h2
    rw [e]
    exact Sp.pos rfl (done 99 [35, 59] 3 [59] 35 (Or.inr (Or.inl rfl)) (by decide) (by decide) rfl rfl (Or.inl ⟨rfl, rfl, by decide⟩) h2.1 h2.2)
  refine Sp.neg (fun z => h2 ((isb 99 (by decide)).mp z)) ?_
  by_cases h3 : a < L ∧ T a = 119
  · have e := (isb 119 (by decide)).mpr h3
    rw [e]
    refine Sp.pos rfl (letter 119 [35, 44, 100, 44, 35, 59] (by decide) (by decide) (by decide) h3.1 h3.2 (by decide) (fun N f e27 e93 e94 => ?_))
    refine Sp.neg (by decide) (Sp.neg (by decide) ?_)
    refine first 119 3 [44, 100, 44, 35, 59] N (by decide) (by decide) h3.1 f e27 e93 e94 35 prs_35 (fun N2 f2 g27 gL g93 g94 g95 => ?_)
    have eP : prs T L [44, 100, 44, 35, 59] (nmA T L 3 (a + 1)).1 1 (fun j => if j = 0 then (nmA T L 3 (a + 1)).2.1 else 0) = cif ((nmA T L 3 (a + 1)).1 < L ∧ T (nmA T L 3 (a + 1)).1 = 44) (prs T L [100, 44, 35, 59] ((nmA T L 3 (a + 1)).1 + 1) 1 (fun j => if j = 0 then (nmA T L 3 (a + 1)).2.1 else 0)) (0, (nmA T L 3 (a + 1)).1, fun j => if j = 0 then (nmA T L 3 (a + 1)).2.1 else 0) := prs_lit (by decide) (by decide)
    refine Sp.pos rfl (Sp.cb (r_takes (x := 44) hT hL (by decide) (by omega) (f2.rt c) g27) (fun r M1 t => ?_))
    obtain ⟨t1, t2⟩ := t
    rcases t2 with ⟨r1, z, t3⟩ | ⟨r1, z, t3⟩
    · rw [eP, cif_pos z, r1, prs_100]
      refine Sp.neg (by decide) (Sp.cb (r_number (m := 1) hT hL (by decide) (by decide) (by omega) hn ((f2.tr t1.rk).rt c) t3) (fun r2 M2 s => Sp.pos i24 (Sp.mlet (Sp.pos i24 ?_))))
      obtain ⟨s1, s2, s3⟩ := s
      have ev : mset M2 (link 80 24) (nI k).toNatClampNeg r2 (link 80 24) (nI k).toNatClampNeg = r2 := ms_eq
      rw [ev]
      have ek : (nI k).toNatClampNeg = k := nI_clamp (by omega)
      have f3 : RK k M (mset M2 (link 80 24) (nI k).toNatClampNeg r2) := by
        rw [ek]; exact ((f2.tr t1.rk).tr s3.rk).tr (RK.st (by decide) (by decide))
      have q27 : mset M2 (link 80 24) (nI k).toNatClampNeg r2 80 27 = nI (nmA T L 1 ((nmA T L 3 (a + 1)).1 + 1)).1 := by rw [ms_ne (by decide)]; exact s2
      have q93 : mset M2 (link 80 24) (nI k).toNatClampNeg r2 93 k = nI 119 := by rw [ms_ne (by decide), s3.1 93 (by decide), t1.1 93 (by decide)]; exact g93
      have q94 : mset M2 (link 80 24) (nI k).toNatClampNeg r2 94 k = nI a := by rw [ms_ne (by decide), s3.1 94 (by decide), t1.1 94 (by decide)]; exact g94
      have q95 : mset M2 (link 80 24) (nI k).toNatClampNeg r2 95 k = nI (nmA T L 3 (a + 1)).2.1 := by rw [ms_ne (by decide), s3.1 95 (by decide), t1.1 95 (by decide)]; exact g95
      have q96 : mset M2 (link 80 24) (nI k).toNatClampNeg r2 96 k = r2 := by rw [ek]; exact ms_eq
      obtain ⟨n1, n2, n3, n4⟩ := nmA_f (L := L) (m := 1) (a := (nmA T L 3 (a + 1)).1 + 1) hT
      by_cases y : (nmA T L 1 ((nmA T L 3 (a + 1)).1 + 1)).2.2 = 0
      · rw [if_pos y] at s1
        rw [if_pos y]
        rw [s1] at f3 q27 ⊢
        exact Sp.neg (by decide) (Sp.ret ⟨f3, q27, Or.inl ⟨rfl, rfl⟩⟩)
      · rw [if_neg y] at s1
        have hv := nmA_lt (L := L) (m := 1) (a := (nmA T L 3 (a + 1)).1 + 1) hT
        rw [if_neg y]
        rw [s1] at f3 q27 q93 q94 q95 q96 ⊢
        refine Sp.pos (nI_pos' (by omega)) ?_
        unfold s9_statement_146
        refine Sp.pos rfl ?_
        refine (r_tailT (u := 2) (W := fun j => if j = 1 then (nmA T L 1 ((nmA T L 3 (a + 1)).1 + 1)).2.1 else if j = 0 then (nmA T L 3 (a + 1)).2.1 else 0) hT hL (n3 y).2 hk hn (f3.rt c) q27).mono (fun r M' w => ⟨f3.tr w.1, w.2.2.1, ?_⟩)
        rcases w.2.2.2 with w3 | ⟨w3, w4, w5, w6⟩
        · exact Or.inl w3
        · refine Or.inr ⟨w3, w4, ?_, ?_, ?_, fun _ => ⟨?_, w5⟩, fun z => by omega⟩
          · rw [w.2.1 93 (by decide) (by decide)]; exact q93
          · rw [w.2.1 94 (by decide) (by decide)]; exact q94
          · rw [w.2.1 95 (by decide) (by decide), w6 0 (by decide), q95]; rfl
          · rw [w.2.1 96 (by decide) (by decide), w6 1 (by decide), q96]; rfl
    · rw [eP, cif_neg z, r1]
      exact Sp.pos rfl (Sp.ret ⟨f2.tr t1.rk, t3, Or.inl ⟨rfl, rfl⟩⟩)
  refine Sp.neg (fun z => h3 ((isb 119 (by decide)).mp z)) ?_
  by_cases h4 : a < L ∧ T a = 112
  · have e := (isb 112 (by decide)).mpr h4
    rw [e]
    refine Sp.pos rfl (letter 112 [100, 44, 35, 59] (by decide) (by decide) (by decide) h4.1 h4.2 (by decide) (fun N f e27 e93 e94 => ?_))
    refine Sp.pos rfl ?_
    unfold s9_statement_87
    refine first 112 1 [44, 35, 59] N (by decide) (by decide) h4.1 f e27 e93 e94 100 prs_100 (fun N2 f2 g27 gL g93 g94 g95 => ?_)
    refine Sp.neg (by decide) ?_
    unfold s9_statement_146
    refine Sp.neg (by decide) (Sp.pos rfl ?_)
    refine (r_tailT (u := 1) (W := fun j => if j = 0 then (nmA T L 1 (a + 1)).2.1 else 0) hT hL gL hk hn (f2.rt c) g27).mono (fun r M' w => ⟨f2.tr w.1, w.2.2.1, ?_⟩)
    rcases w.2.2.2 with w3 | ⟨w3, w4, w5, w6⟩
    · exact Or.inl w3
    · refine Or.inr ⟨w3, w4, ?_, ?_, ?_, fun z => by omega, fun _ => w5⟩
      · rw [w.2.1 93 (by decide) (by decide)]; exact g93
      · rw [w.2.1 94 (by decide) (by decide)]; exact g94
      · rw [w.2.1 95 (by decide) (by decide), w6 0 (by decide), g95]; rfl
  refine Sp.neg (fun z => h4 ((isb 112 (by decide)).mp z)) ?_
  by_cases h5 : a < L ∧ T a = 102
  · have e := (isb 102 (by decide)).mpr h5
    rw [e]
    exact Sp.pos rfl (done 102 [100, 59] 1 [59] 100 (Or.inr (Or.inr rfl)) (by decide) (by decide) rfl rfl (Or.inr ⟨rfl, rfl, rfl⟩) h5.1 h5.2)
  refine Sp.neg (fun z => h5 ((isb 102 (by decide)).mp z)) (Sp.ret ⟨R27.rf.rk, ?_⟩)
  have e0 : cdsA (ltA T L a) = [] := by
    by_cases z : cdsA (ltA T L a) = []
    · exact z
    · have hl := cdsA_ne.mp z
      unfold ltA at hl
      by_cases y : a < L
      · rw [if_pos y] at hl
        rcases hl with h | h | h | h | h
        · exact absurd ⟨y, h⟩ h1
        · exact absurd ⟨y, h⟩ h2
        · exact absurd ⟨y, h⟩ h3
        · exact absurd ⟨y, h⟩ h4
        · exact absurd ⟨y, h⟩ h5
      · rw [if_neg y] at hl
        rcases hl with h | h | h | h | h <;> exact absurd h (by decide)
  have es : sdA T L a = (0, a, fun _ => 0) := if_pos e0
  rw [es]
  exact ⟨e2, Or.inl ⟨rfl, rfl⟩⟩
