/-! ===== the reference: haste, reach, who goes, which chair ===== -/
theorem hov_sub {x s : Nat} (hx : x < 2 ^ 30) (hs : s < 2 ^ 30) (M : Mem) (f : Int32 → Mem → Option Res) (hf : ∀ y, f y M = if 0 ≤ y then some (y, M) else some (0, M)) : f (nI x - nI s) M = some (nI (x - s), M) := by
  rw [hf]
  by_cases q : s ≤ x
  · rw [sub_e q, if_pos (nI_pos' (by omega))]
  · have e : x - s = 0 := by omega
    rw [if_neg (Int32.not_le.mpr (pk_sneg (by omega) (by omega))), e]; rfl
theorem hov_pos {x : Nat} (hx : x < 2 ^ 31) (M : Mem) (f : Int32 → Mem → Option Res) (hf : ∀ y, f y M = if 0 ≤ y then some (y, M) else some (0, M)) : f (nI x) M = some (nI x, M) := by
  rw [hf, if_pos (nI_pos' hx)]
theorem toInt_sub2 {x s m : Nat} (hx : x < 2 ^ 20) (hs : s ≤ 9) (hm : m ≤ 9) : ((nI x - nI s) - ((9 : Int32) - nI m)).toInt = (x : Int) - s - (9 - m) := by
  have e : (9 : Int32) - nI m = nI (9 - m) := sub_e (a := 9) hm
  have e2 : (nI x - nI s) - nI (9 - m) = nI x - nI (s + (9 - m)) := by
    have : nI (s + (9 - m)) = nI s + nI (9 - m) := (nI_add _ _).symm
    rw [this, Int32.sub_sub]
  rw [e, e2, pk_sub_toInt (by omega) (by omega)]
  omega
theorem hov_sub2 {x s m : Nat} (hx : x < 2 ^ 20) (hs : s ≤ 9) (hm : m ≤ 9) (M : Mem) (f : Int32 → Mem → Option Res) (hf : ∀ y, f y M = if 0 ≤ y then some (y, M) else some (0, M)) : f ((nI x - nI s) - ((9 : Int32) - nI m)) M = some (nI (x - s - (9 - m)), M) := by
  have e : (9 : Int32) - nI m = nI (9 - m) := sub_e (a := 9) hm
  have e2 : (nI x - nI s) - nI (9 - m) = nI x - nI (s + (9 - m)) := by
    have : nI (s + (9 - m)) = nI s + nI (9 - m) := (nI_add _ _).symm
    rw [this, Int32.sub_sub]
  rw [e, e2, hov_sub (by omega) (by omega) M f hf, Nat.sub_sub]
theorem hov_half {x s : Nat} (hx : x < 2 ^ 20) (hs : s ≤ 9) (M : Mem) (f : Int32 → Mem → Option Res) (hf : ∀ y, f y M = if 0 ≤ y then some (y, M) else some (0, M)) : f ((nI x - nI s) / (2 : Int32)) M = some (nI ((x - s) / 2), M) := by
  by_cases q : s ≤ x
  · have e : (nI (x - s)) / (2 : Int32) = nI ((x - s) / 2) := pk_div (d := 2) (by omega) (by decide) (by decide)
    rw [sub_e q, e]
    exact hov_pos (by omega) M f hf
  · have e0 : (x - s) / 2 = 0 := by omega
    have e1 : nI x - nI s = -nI (s - x) := by
      have h1 : nI (s - x) = nI s - nI x := (sub_e (by omega)).symm
      rw [h1, Int32.neg_sub]
    have key : ∀ d : Nat, d < 10 → ((-nI d) / (2 : Int32) ≤ 0) ∧ (0 ≤ (-nI d) / (2 : Int32) → (-nI d) / (2 : Int32) = 0) := by decide
    obtain ⟨k1, k2⟩ := key (s - x) (by omega)
    rw [hf, e1, e0]
    by_cases z : 0 ≤ (-nI (s - x)) / (2 : Int32)
    · rw [if_pos z, k2 z]; rfl
    · rw [if_neg z]; rfl
/-- a haste out of its parts, as both programs reckon it -/
theorem hov_e {k x s m : Nat} (hk : k ≤ 6) (hx : x < 2 ^ 20) (hs : s ≤ 9) (hm : m ≤ 9) (M : Mem) (f : Int32 → Mem → Option Res) (hf : ∀ y, f y M = if 0 ≤ y then some (y, M) else some (0, M)) :
    (if nI k = 1 then f (nI x - nI s) M else if nI k = 2 then f (nI x + nI s) M else if nI k = 3 then f ((nI x - nI s) - ((9 : Int32) - nI m)) M else if nI k = 4 then f ((2 : Int32) * nI x) M else if nI k = 5 then f ((nI x - nI s) / (2 : Int32)) M else if nI k = 6 then f ((nI x + nI s) + nI m) M else f (nI x) M) = some (nI (hov k x s m), M) := by
  have e : ∀ a : Nat, a < 7 → (nI k = nI a ↔ k = a) := fun a ha => nI_eq (by omega) (by omega)
  have a1 : nI k = 1 ↔ k = 1 := e 1 (by decide)
  have a2 : nI k = 2 ↔ k = 2 := e 2 (by decide)
  have a3 : nI k = 3 ↔ k = 3 := e 3 (by decide)
  have a4 : nI k = 4 ↔ k = 4 := e 4 (by decide)
  have a5 : nI k = 5 ↔ k = 5 := e 5 (by decide)
  have a6 : nI k = 6 ↔ k = 6 := e 6 (by decide)
  unfold hov
  by_cases h1 : k = 1
  · rw [if_pos (a1.mpr h1), if_pos h1]; exact hov_sub (by omega) (by omega) M f hf
  rw [if_neg (fun z => h1 (a1.mp z)), if_neg h1]
  by_cases h2 : k = 2
  · rw [if_pos (a2.mpr h2), if_pos h2, nI_add]; exact hov_pos (by omega) M f hf
  rw [if_neg (fun z => h2 (a2.mp z)), if_neg h2]
  by_cases h3 : k = 3
  · rw [if_pos (a3.mpr h3), if_pos h3]; exact hov_sub2 hx hs hm M f hf
  rw [if_neg (fun z => h3 (a3.mp z)), if_neg h3]
  by_cases h4 : k = 4
  · rw [if_pos (a4.mpr h4), if_pos h4, show (2 : Int32) = nI 2 from rfl, pk_mul]; exact hov_pos (by omega) M f hf
  rw [if_neg (fun z => h4 (a4.mp z)), if_neg h4]
  by_cases h5 : k = 5
  · rw [if_pos (a5.mpr h5), if_pos h5]; exact hov_half hx hs M f hf
  rw [if_neg (fun z => h5 (a5.mp z)), if_neg h5]
  by_cases h6 : k = 6
  · rw [if_pos (a6.mpr h6), if_pos h6, nI_add, nI_add]; exact hov_pos (by omega) M f hf
  rw [if_neg (fun z => h6 (a6.mp z)), if_neg h6]
  exact hov_pos (by omega) M f hf
theorem r_hasteOf {P : PAy} {M : Mem} {n w p : Nat} (h : RP P M) (hV : VA P) (hw : w < P 10 1) (hp : p < P 10 0) : s9_hasteOf n 80 (nI w) (nI p) M = some (nI (hst P w p), M) := by
  have h12 := hV.w12
  have h60 := hV.n60
  obtain ⟨b1, b2, b3, b4, b5, b6, b7, b8, b9⟩ := hV.w hw
  have i2 : inB (nI w) (alen (link 80 2)) := vp_in_nI (N := 12) (by omega) (by decide)
  have i5 : inB (nI w) (alen (link 80 5)) := vp_in_nI (N := 12) (by omega) (by decide)
  have i6 : inB (nI w) (alen (link 80 6)) := vp_in_nI (N := 12) (by omega) (by decide)
  have i9 : inB (nI w) (alen (link 80 9)) := vp_in_nI (N := 12) (by omega) (by decide)
  have i10 : inB (nI w) (alen (link 80 10)) := vp_in_nI (N := 12) (by omega) (by decide)
  have e2 : M (link 80 2) (nI w).toNatClampNeg = nI (P 1 w) := h.rowc 0 (by decide) (by omega)
  have e5 : M (link 80 5) (nI w).toNatClampNeg = nI (P 4 w) := h.rowc 3 (by decide) (by omega)
  have e6 : M (link 80 6) (nI w).toNatClampNeg = nI (P 5 w) := h.rowc 4 (by decide) (by omega)
  have e9 : M (link 80 9) (nI w).toNatClampNeg = nI (P 8 w) := h.rowc 7 (by decide) (by omega)
  have e10 : M (link 80 10) (nI w).toNatClampNeg = nI (P 9 w) := h.rowc 8 (by decide) (by omega)
  have hf := fr_lt b1 hp h60
  have hd : frA (P 10 0) (P 1 w) p * 100 / P 5 w ≤ frA (P 10 0) (P 1 w) p * 100 := Nat.div_le_self _ _
  have ed : (nI (frA (P 10 0) (P 1 w) p) * (100 : Int32)) / nI (P 5 w) = nI (frA (P 10 0) (P 1 w) p * 100 / P 5 w) := by
    rw [show (100 : Int32) = nI 100 from rfl, pk_mul]
    exact pk_div (by omega) (by omega) (by omega)
  unfold s9_hasteOf
  rw [if_pos i2, e2, r_far h hV b1 hp, cb_some, if_pos i6, e6, if_neg (nI_ne0 (by omega) (by omega)), ilet_e, ed, if_pos i5, e5]
  simp only [if_pos i9, if_pos i10, e9, e10, ilet_e]
  exact hov_e b4 (by omega) b8 b9 M (fun y M => s9_hasteOf_160 n y M) (fun y => rfl)
theorem r_mayReach {P : PAy} {M : Mem} {n w p : Nat} (h : RP P M) (hV : VA P) (hw : w < P 10 1) (hp : p < P 10 0) : s9_mayReach n 80 (nI w) (nI p) M = some (if frA (P 10 0) (P 1 w) p ≤ P 7 w then 1 else 0, M) := by
  have h12 := hV.w12
  have h60 := hV.n60
  obtain ⟨b1, b2, b3, b4, b5, b6, b7, b8, b9⟩ := hV.w hw
  have i2 : inB (nI w) (alen (link 80 2)) := vp_in_nI (N := 12) (by omega) (by decide)
  have i8 : inB (nI w) (alen (link 80 8)) := vp_in_nI (N := 12) (by omega) (by decide)
  have e2 : M (link 80 2) (nI w).toNatClampNeg = nI (P 1 w) := h.rowc 0 (by decide) (by omega)
  have e8 : M (link 80 8) (nI w).toNatClampNeg = nI (P 7 w) := h.rowc 6 (by decide) (by omega)
  have hf := fr_lt b1 hp h60
  unfold s9_mayReach
  rw [if_pos i2, e2, r_far h hV b1 hp, cb_some, if_pos i8, e8]
  by_cases q : frA (P 10 0) (P 1 w) p ≤ P 7 w
  · rw [if_neg (nI_nlt q (by omega)), if_pos q]
  · rw [if_pos (nI_lt (by omega) (by omega)), if_neg q]
/-- the seats of the reference -/
def sI (x : Nat) : Int32 := if x = 0 then -1 else nI (x - 1)
def RS (P : PAy) (S : Nat → Nat) (M : Mem) : Prop := ∀ w, w < P 10 1 → M 99 w = sI (S w)
theorem sI_neg {x : Nat} (h : x ≤ 60) : sI x < 0 ↔ x = 0 := by
  unfold sI
  by_cases q : x = 0
  · rw [if_pos q]; exact ⟨fun _ => q, fun _ => by decide⟩
  · rw [if_neg q]; exact ⟨fun z => absurd z (nI_pos (by omega)), fun z => absurd z q⟩
theorem sI_nn {x : Nat} (h : x ≤ 60) : 0 ≤ sI x ↔ x ≠ 0 := by
  rw [← Int32.not_lt, sI_neg h]
theorem sI_eq {x p : Nat} (h : x ≤ 60) (hp : p < 60) : sI x = nI p ↔ x = p + 1 := by
  unfold sI
  by_cases q : x = 0
  · rw [if_pos q]
    constructor
    · intro z
      exact absurd (show (-1 : Int32) < 0 by decide) (by rw [z]; exact nI_pos (by omega))
    · intro z; omega
  · rw [if_neg q, nI_eq (by omega) (by omega)]
    omega
/-- seats that are at places -/
def S60 (S : Nat → Nat) : Prop := ∀ w, S w ≤ 60
theorem SV.s60 {P : PAy} {S : Nat → Nat} (h : SV P S) (hV : VA P) : S60 S := fun w => by
  by_cases q : S w = 0
  · omega
  · have := hV.c60 (h w q).2.2
    omega
theorem r_isSeat2 {P : PAy} {M : Mem} {S : Nat → Nat} {n p : Nat} (h : RP P M) (hV : VA P) (hs : RS P S M) (h6 : S60 S) (hp : p < 60) : ∀ (f i : Nat), i ≤ P 10 1 → P 10 1 < i + f → (∀ v, v < i → S v ≠ p + 1) → (s9_isSeat_2 n 80 (nI p) f (nI i) M = some (1, M) ∧ ∃ v, v < P 10 1 ∧ S v = p + 1) ∨ (s9_isSeat_2 n 80 (nI p) f (nI i) M = some (0, M) ∧ ∀ v, v < P 10 1 → S v ≠ p + 1) := by
  have hN : M 80 12 = nI (P 10 1) := h.one 1 (by decide)
  have h12 := hV.w12
  intro f
  induction f with
  | zero => intro i h1 h2; omega
  | succ f ih =>
    intro i h1 h2 h3
    rw [s9_isSeat_2, hN]
    by_cases q : i < P 10 1
    · have hin : inB (nI i) (alen (link 80 33)) := vp_in_nI (N := 12) (by omega) (by decide)
      have e : M (link 80 33) (nI i).toNatClampNeg = sI (S i) := by rw [nI_clamp (by omega)]; exact hs i q
      rw [ite_nge q (by omega), if_pos hin, e]
      by_cases q4 : S i = p + 1
      · rw [if_pos ((sI_eq (h6 i) hp).mpr q4)]
        exact Or.inl ⟨rfl, i, q, q4⟩
      · rw [if_neg (fun z => q4 ((sI_eq (h6 i) hp).mp z)), ilet_e, nI_1]
        exact ih (i + 1) (by omega) (by omega) (fun v hv => by
            by_cases e : v = i
            · subst e; exact q4
            · exact h3 v (by omega))
    · rw [ite_ge (by omega) (by omega)]
      exact Or.inr ⟨rfl, fun v hv => h3 v (by omega)⟩
theorem r_isSeat {P : PAy} {M : Mem} {S : Nat → Nat} {n p : Nat} (h : RP P M) (hV : VA P) (hs : RS P S M) (h6 : S60 S) (hp : p < 60) (hn : 60 < n) : (s9_isSeat n 80 (nI p) M = some (1, M) ∧ ∃ v, v < P 10 1 ∧ S v = p + 1) ∨ (s9_isSeat n 80 (nI p) M = some (0, M) ∧ ∀ v, v < P 10 1 → S v ≠ p + 1) :=
  r_isSeat2 h hV hs h6 hp n 0 (Nat.zero_le _) (by have := hV.w12; omega) (fun v hv => by omega)
theorem r_nearest5 {P : PAy} {M : Mem} {n w : Nat} (h : RP P M) (hV : VA P) (hw : w < P 10 1) : ∀ (f i : Nat), i ≤ P 10 0 → P 10 0 < i + f → s9_nearest_5 n 80 (nI w) f (nI (nrn P w i)) (nI i) M = some (nI (nr P w), M) := by
  have hN : M 80 11 = nI (P 10 0) := h.one 0 (by decide)
  have h60 := hV.n60
  have h12 := hV.w12
  obtain ⟨b1, b2, b3, b4, b5, b6, b7, b8, b9⟩ := hV.w hw
  have i2 : inB (nI w) (alen (link 80 2)) := vp_in_nI (N := 12) (by omega) (by decide)
  have e2 : M (link 80 2) (nI w).toNatClampNeg = nI (P 1 w) := h.rowc 0 (by decide) (by omega)
  intro f
  induction f with
  | zero => intro i h1 h2; omega
  | succ f ih =>
    intro i h1 h2
    rw [s9_nearest_5, hN]
    by_cases q : i < P 10 0
    · have hin : inB (nI i) (alen (link 80 1)) := vp_in_nI (N := 60) (by omega) (by decide)
      have e : M (link 80 1) (nI i).toNatClampNeg = nI (P 0 i) := h.chc (by omega)
      have hf := fr_lt b1 q h60
      have hc := hV.c1 i
      have hnr := (nrn_spec (P := P) (w := w) i).1
      have en : nrn P w (i + 1) = if P 0 i = 1 ∧ frA (P 10 0) (P 1 w) i < nrn P w i then frA (P 10 0) (P 1 w) i else nrn P w i := rfl
      rw [ite_nge q (by omega), if_pos hin, e]
      by_cases q3 : P 0 i = 1
      · rw [if_pos (by rw [q3]; rfl), if_pos i2, e2, r_far h hV b1 q, cb_some]
        by_cases q4 : nrn P w i ≤ frA (P 10 0) (P 1 w) i
        · rw [ite_ge q4 (by omega), ilet_e, nI_1]
          have := ih (i + 1) (by omega) (by omega)
          rw [en, if_neg (fun z => by omega)] at this
          exact this
        · rw [ite_nge (by omega) (by omega), if_pos i2, e2, r_far h hV b1 q, cb_some, ilet_e, nI_1]
          have := ih (i + 1) (by omega) (by omega)
          rw [en, if_pos ⟨q3, by omega⟩] at this
          exact this
      · rw [if_neg (fun z => q3 ((nI_is1 (by omega)).mp z)), ilet_e, nI_1]
        have := ih (i + 1) (by omega) (by omega)
        rw [en, if_neg (fun z => q3 z.1)] at this
        exact this
    · have e : i = P 10 0 := by omega
      rw [e, ite_ge (Nat.le_refl _) (by omega)]; rfl
theorem r_nearest {P : PAy} {M : Mem} {n w : Nat} (h : RP P M) (hV : VA P) (hw : w < P 10 1) (hn : 60 < n) : s9_nearest n 80 (nI w) M = some (nI (nr P w), M) :=
  r_nearest5 h hV hw n 0 (Nat.zero_le _) (by have := hV.n60; omega)
/-- one of the first: none is -9 -/
def gI (x : Nat) : Int32 := if x = 0 then -9 else nI (x - 1)
theorem gI_neg {x : Nat} (h : x ≤ 60) : gI x < 0 ↔ x = 0 := by
  unfold gI
  by_cases q : x = 0
  · rw [if_pos q]; exact ⟨fun _ => q, fun _ => by decide⟩
  · rw [if_neg q]; exact ⟨fun z => absurd z (nI_pos (by omega)), fun z => absurd z q⟩
theorem gI_pos {x : Nat} (h : x ≠ 0) : gI x = nI (x - 1) := if_neg h
theorem gI_suc (x : Nat) : gI (x + 1) = nI x := if_neg (Nat.succ_ne_zero x)
theorem nr_le {P : PAy} {w : Nat} : nr P w ≤ 60 := (nrn_spec _).1
theorem r_goer5 {P : PAy} {M : Mem} {S : Nat → Nat} {n : Nat} (h : RP P M) (hV : VA P) (hs : RS P S M) (h6 : S60 S) (hn : 60 < n) : ∀ (f i : Nat), i ≤ P 10 1 → P 10 1 < i + f → s9_goer_5 n 80 f (gI (gon P S i)) (nI i) M = some (gI (gon P S (P 10 1)), M) := by
  have hN : M 80 12 = nI (P 10 1) := h.one 1 (by decide)
  have h12 := hV.w12
  intro f
  induction f with
  | zero => intro i h1 h2; omega
  | succ f ih =>
    intro i h1 h2
    rw [s9_goer_5, hN]
    by_cases q : i < P 10 1
    · have hin : inB (nI i) (alen (link 80 4)) := vp_in_nI (N := 12) (by omega) (by decide)
      have hin2 : inB (nI i) (alen (link 80 33)) := vp_in_nI (N := 12) (by omega) (by decide)
      have e : M (link 80 4) (nI i).toNatClampNeg = nI (P 3 i) := h.rowc 2 (by decide) (by omega)
      have e2 : M (link 80 33) (nI i).toNatClampNeg = sI (S i) := by rw [nI_clamp (by omega)]; exact hs i q
      have b3 := (hV.w q).2.2.1
      have hg := gon_spec (P := P) (S := S) i
      have en : gon P S (i + 1) = if P 3 i = 1 ∧ S i = 0 ∧ (gon P S i = 0 ∨ nr P (gon P S i - 1) ≤ nr P i) then i + 1 else gon P S i := rfl
      have nxt := ih (i + 1) (by omega) (by omega)
      have n1 := nr_le (P := P) (w := i)
      have n2 := nr_le (P := P) (w := gon P S i - 1)
      rw [ite_nge q (by omega), if_pos hin, e]
      by_cases q3 : P 3 i = 1
      · rw [if_pos (by rw [q3]; rfl), if_pos hin2, e2]
        by_cases q4 : S i = 0
        · rw [if_neg (fun z => (sI_nn (h6 i)).mp z q4)]
          by_cases q5 : gon P S i = 0
          · rw [if_pos ((gI_neg (by omega)).mpr q5), ilet_e, nI_1]
            rw [en, if_pos ⟨q3, q4, Or.inl q5⟩, gI_suc] at nxt
            exact nxt
          · rw [if_neg (fun z => q5 ((gI_neg (by omega)).mp z)), r_nearest h hV q hn, cb_some, gI_pos q5, r_nearest h hV (by omega) hn, cb_some]
            by_cases q6 : nr P (gon P S i - 1) ≤ nr P i
            · rw [if_neg (nI_nlt q6 (by omega)), ilet_e, nI_1]
              rw [en, if_pos ⟨q3, q4, Or.inr q6⟩, gI_suc] at nxt
              exact nxt
            · rw [if_pos (nI_lt (by omega) (by omega)), ilet_e, nI_1, ← gI_pos q5]
              rw [en, if_neg (fun z => by omega)] at nxt
              exact nxt
        · rw [if_pos ((sI_nn (h6 i)).mpr q4), ilet_e, nI_1]
          rw [en, if_neg (fun z => q4 z.2.1)] at nxt
          exact nxt
      · rw [if_neg (fun z => q3 ((nI_is1 (by omega)).mp z)), ilet_e, nI_1]
        rw [en, if_neg (fun z => q3 z.1)] at nxt
        exact nxt
    · have e : i = P 10 1 := by omega
      rw [e, ite_ge (Nat.le_refl _) (by omega)]
theorem r_goer {P : PAy} {M : Mem} {S : Nat → Nat} {n : Nat} (h : RP P M) (hV : VA P) (hs : RS P S M) (h6 : S60 S) (hn : 60 < n) : s9_goer n 80 M = some (gI (gon P S (P 10 1)), M) :=
  r_goer5 h hV hs h6 hn n 0 (Nat.zero_le _) (by have := hV.w12; omega)
