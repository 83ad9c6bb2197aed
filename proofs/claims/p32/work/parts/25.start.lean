/-! ===== the start: the two systems made, and the memory that they spell ===== -/
theorem arr_known {args : Array Value} {s : State} {ty : FieldType} (h : (Cond.arrayClass ty).before args s = true) (hp : ∀ C, ty ≠ .object C) : ∃ cA : ClassId, ArrOfT s cA ty ∧ va_RA s cA ty := by
  simp only [Cond.before, Cond.holds, Cond.value, beq_iff_eq] at h
  cases hc : s.vm.findClass ("[" ++ ty.toString) with
  | none => simp [hc] at h
  | some cA =>
    simp only [hc, Option.bind_some, Option.map_eq_some_iff] at h
    obtain ⟨k, hk, hb⟩ := h
    refine ⟨cA, ?_, ?_⟩
    · cases hkind : k.kind with
      | array component ty2 =>
        rw [hkind] at hb
        simp at hb
        subst hb
        exact fun n z => ⟨fun k h => (by cases h), k, hk, component, hkind⟩
      | _ => rw [hkind] at hb; simp at hb
    · cases ty with
      | object C => exact absurd rfl (hp C)
      | _ => exact hc
theorem arr_knownO {args : Array Value} {s : State} {C : String} (h : (Cond.arrayOver (.object C)).before args s = true) : ∃ cA : ClassId, ArrOfT s cA (.object C) ∧ va_RA s cA (.object C) := by
  simp only [Cond.before, Cond.holds, Cond.value, beq_iff_eq] at h
  cases hc : s.vm.findClass C with
  | none => simp [hc] at h
  | some comp =>
    simp only [hc, Option.bind_some, Option.bind_eq_some_iff, Option.map_eq_some_iff] at h
    obtain ⟨c, hi, k, hk, hb⟩ := h
    obtain ⟨hlt, hp, -⟩ := Array.findIdx?_eq_some_iff_getElem.mp hi
    have hkk : s.vm.classes[c] = k := (Array.getElem?_eq_some_iff.mp hk).2
    rw [hkk] at hp
    cases hkind : k.kind with
    | array component ty =>
      rw [hkind] at hb hp
      simp at hb hp
      have hkd : k.kind = .array comp (.object C) := by rw [hkind, hp, hb.1]
      exact ⟨c, fun n z => ⟨fun k h => (by cases h), k, hk, comp, hkd⟩, k, comp, hk, hkd, hc, hb.2⟩
    | _ => rw [hkind] at hb; simp at hb
/-- the memory at the start -/
def M0 : Mem := fun o k => match typ o with
  | 3 => if k = 1 then 10 else if k = 2 then 1 else 0
  | 4 => if k = 0 then 24 else 0
  | 7 => if k = 4 then 1 else if k = 5 then 1 else 0
  | 9 => if k = 11 then 24 else if k = 14 then 10 else if k = 16 then 1 else 0
  | _ => 0
def posL : List Nat := [0, 79, 1, 48, 72, 73, 74, 75, 76, 77, 78, 2, 3, 4, 5, 6, 7, 8, 9, 10, 11, 12, 13, 14, 15, 16, 17, 18, 19, 20, 21, 22, 23, 24, 25, 26, 27, 28, 29, 30, 31, 32, 33, 34, 35, 36, 37, 38, 39, 40, 41, 42, 43, 44, 45, 46, 47, 49, 50, 51, 52, 53, 54, 55, 56, 57, 58, 59, 60, 61, 62, 63, 64, 65, 66, 67, 68, 69, 70, 71, 80, 81, 82, 83, 84, 85, 86, 87, 88, 89, 90, 91, 92, 93, 94, 95, 96, 97, 98, 99, 100, 101, 102]
def mkW (D : va_G) (cA : Nat → ClassId) (a1 a2 adK adV : Nat → Nat) : WE := (D, cA, (fun o => if posL.getD o 0 < 80 then a1 (posL.getD o 0) else a2 (posL.getD o 0 - 80)), adK, adV)
theorem arrV_w {cX : ClassId} {N : Nat} {f h : Nat → Option Nat} (hf : ∀ j, j < N → f j = h j) : vp_cell cX (N, .inr (.inr (.inr (.inr f)))) = vp_cell cX (N, .inr (.inr (.inr (.inr h)))) := by
  show arrV cX N (fun j => va_rf (f j)) = arrV cX N (fun j => va_rf (h j))
  unfold arrV
  congr 1
  apply Array.ext
  · simp
  · intro j h1 h2
    have hj : j < N := by simpa using h1
    simp [hf j hj]
theorem at_w {D : va_G} {a N : Nat} {cX : ClassId} {f h : Nat → Option Nat} {H : Heap} (hf : ∀ j, j < N → f j = h j) (hP : va_at D vwCl (a, .inl (cX, N, .inr (.inr (.inr (.inr f))))) H) : va_at D vwCl (a, .inl (cX, N, .inr (.inr (.inr (.inr h))))) H := by
  have h2 : H[a]? = some (vp_cell cX (N, .inr (.inr (.inr (.inr f))))) := hP
  rw [arrV_w hf] at h2
  exact h2
abbrev stCell (D : va_G) (cA : Nat → ClassId) (a1 a2 adK adV : Nat → Nat) (k : Nat) : Prop := ∃ e, (wp8 cA a1 ++ wp9 cA a2)[posL.getD k 0]? = some (wa (mkW D cA a1 a2 adK adV) k, e) ∧ ∀ H, va_at D vwCl (wa (mkW D cA a1 a2 adK adV) k, e) H → va_at D vwCl (wa (mkW D cA a1 a2 adK adV) k, cellE (wC (mkW D cA a1 a2 adK adV)) (wa (mkW D cA a1 a2 adK adV)) M0 k) H
set_option maxRecDepth 100000 in
theorem sc_0 (D : va_G) (cA : Nat → ClassId) (a1 a2 adK adV : Nat → Nat) : stCell D cA a1 a2 adK adV 0 := ⟨_, rfl, fun _ h => h⟩
set_option maxRecDepth 100000 in
theorem sc_1 (D : va_G) (cA : Nat → ClassId) (a1 a2 adK adV : Nat → Nat) : stCell D cA a1 a2 adK adV 1 := ⟨_, rfl, fun _ h => h⟩
set_option maxRecDepth 100000 in
theorem sc_2 (D : va_G) (cA : Nat → ClassId) (a1 a2 adK adV : Nat → Nat) : stCell D cA a1 a2 adK adV 2 := ⟨_, rfl, fun _ h => h⟩
set_option maxRecDepth 100000 in
theorem sc_3 (D : va_G) (cA : Nat → ClassId) (a1 a2 adK adV : Nat → Nat) : stCell D cA a1 a2 adK adV 3 := ⟨_, rfl, fun _ h => h⟩
set_option maxRecDepth 100000 in
theorem sc_4 (D : va_G) (cA : Nat → ClassId) (a1 a2 adK adV : Nat → Nat) : stCell D cA a1 a2 adK adV 4 := ⟨_, rfl, fun _ h => h⟩
set_option maxRecDepth 100000 in
theorem sc_5 (D : va_G) (cA : Nat → ClassId) (a1 a2 adK adV : Nat → Nat) : stCell D cA a1 a2 adK adV 5 := ⟨_, rfl, fun _ h => h⟩
set_option maxRecDepth 100000 in
theorem sc_6 (D : va_G) (cA : Nat → ClassId) (a1 a2 adK adV : Nat → Nat) : stCell D cA a1 a2 adK adV 6 := ⟨_, rfl, fun _ h => h⟩
set_option maxRecDepth 100000 in
theorem sc_7 (D : va_G) (cA : Nat → ClassId) (a1 a2 adK adV : Nat → Nat) : stCell D cA a1 a2 adK adV 7 := ⟨_, rfl, fun _ h => h⟩
set_option maxRecDepth 100000 in
theorem sc_8 (D : va_G) (cA : Nat → ClassId) (a1 a2 adK adV : Nat → Nat) : stCell D cA a1 a2 adK adV 8 := ⟨_, rfl, fun _ h => h⟩
set_option maxRecDepth 100000 in
theorem sc_9 (D : va_G) (cA : Nat → ClassId) (a1 a2 adK adV : Nat → Nat) : stCell D cA a1 a2 adK adV 9 := ⟨_, rfl, fun _ h => h⟩
set_option maxRecDepth 100000 in
theorem sc_10 (D : va_G) (cA : Nat → ClassId) (a1 a2 adK adV : Nat → Nat) : stCell D cA a1 a2 adK adV 10 := ⟨_, rfl, fun _ h => h⟩
set_option maxRecDepth 100000 in
theorem sc_11 (D : va_G) (cA : Nat → ClassId) (a1 a2 adK adV : Nat → Nat) : stCell D cA a1 a2 adK adV 11 := ⟨_, rfl, fun _ h => h⟩
set_option maxRecDepth 100000 in
theorem sc_12 (D : va_G) (cA : Nat → ClassId) (a1 a2 adK adV : Nat → Nat) : stCell D cA a1 a2 adK adV 12 := ⟨_, rfl, fun _ h => h⟩
set_option maxRecDepth 100000 in
theorem sc_13 (D : va_G) (cA : Nat → ClassId) (a1 a2 adK adV : Nat → Nat) : stCell D cA a1 a2 adK adV 13 := ⟨_, rfl, fun _ h => h⟩
set_option maxRecDepth 100000 in
theorem sc_14 (D : va_G) (cA : Nat → ClassId) (a1 a2 adK adV : Nat → Nat) : stCell D cA a1 a2 adK adV 14 := ⟨_, rfl, fun _ h => h⟩
set_option maxRecDepth 100000 in
theorem sc_15 (D : va_G) (cA : Nat → ClassId) (a1 a2 adK adV : Nat → Nat) : stCell D cA a1 a2 adK adV 15 := ⟨_, rfl, fun _ h => h⟩
set_option maxRecDepth 100000 in
theorem sc_16 (D : va_G) (cA : Nat → ClassId) (a1 a2 adK adV : Nat → Nat) : stCell D cA a1 a2 adK adV 16 := ⟨_, rfl, fun _ h => h⟩
set_option maxRecDepth 100000 in
theorem sc_17 (D : va_G) (cA : Nat → ClassId) (a1 a2 adK adV : Nat → Nat) : stCell D cA a1 a2 adK adV 17 := ⟨_, rfl, fun _ h => h⟩
set_option maxRecDepth 100000 in
theorem sc_18 (D : va_G) (cA : Nat → ClassId) (a1 a2 adK adV : Nat → Nat) : stCell D cA a1 a2 adK adV 18 := ⟨_, rfl, fun _ h => h⟩
set_option maxRecDepth 100000 in
theorem sc_19 (D : va_G) (cA : Nat → ClassId) (a1 a2 adK adV : Nat → Nat) : stCell D cA a1 a2 adK adV 19 := ⟨_, rfl, fun _ h => h⟩
set_option maxRecDepth 100000 in
theorem sc_20 (D : va_G) (cA : Nat → ClassId) (a1 a2 adK adV : Nat → Nat) : stCell D cA a1 a2 adK adV 20 := by
  refine ⟨_, rfl, fun H h => at_w (fun j hj => ?_) h⟩
  have hj : j < 12 := hj
  match j, hj with
  | 0, _ => rfl
  | 1, _ => rfl
  | 2, _ => rfl
  | 3, _ => rfl
  | 4, _ => rfl
  | 5, _ => rfl
  | 6, _ => rfl
  | 7, _ => rfl
  | 8, _ => rfl
  | 9, _ => rfl
  | 10, _ => rfl
  | 11, _ => rfl
  | n + 12, h => exact absurd h (by omega)
set_option maxRecDepth 100000 in
theorem sc_21 (D : va_G) (cA : Nat → ClassId) (a1 a2 adK adV : Nat → Nat) : stCell D cA a1 a2 adK adV 21 := ⟨_, rfl, fun _ h => h⟩
set_option maxRecDepth 100000 in
theorem sc_22 (D : va_G) (cA : Nat → ClassId) (a1 a2 adK adV : Nat → Nat) : stCell D cA a1 a2 adK adV 22 := ⟨_, rfl, fun _ h => h⟩
set_option maxRecDepth 100000 in
theorem sc_23 (D : va_G) (cA : Nat → ClassId) (a1 a2 adK adV : Nat → Nat) : stCell D cA a1 a2 adK adV 23 := ⟨_, rfl, fun _ h => h⟩
set_option maxRecDepth 100000 in
theorem sc_24 (D : va_G) (cA : Nat → ClassId) (a1 a2 adK adV : Nat → Nat) : stCell D cA a1 a2 adK adV 24 := ⟨_, rfl, fun _ h => h⟩
set_option maxRecDepth 100000 in
theorem sc_25 (D : va_G) (cA : Nat → ClassId) (a1 a2 adK adV : Nat → Nat) : stCell D cA a1 a2 adK adV 25 := ⟨_, rfl, fun _ h => h⟩
set_option maxRecDepth 100000 in
theorem sc_26 (D : va_G) (cA : Nat → ClassId) (a1 a2 adK adV : Nat → Nat) : stCell D cA a1 a2 adK adV 26 := ⟨_, rfl, fun _ h => h⟩
set_option maxRecDepth 100000 in
theorem sc_27 (D : va_G) (cA : Nat → ClassId) (a1 a2 adK adV : Nat → Nat) : stCell D cA a1 a2 adK adV 27 := ⟨_, rfl, fun _ h => h⟩
set_option maxRecDepth 100000 in
theorem sc_28 (D : va_G) (cA : Nat → ClassId) (a1 a2 adK adV : Nat → Nat) : stCell D cA a1 a2 adK adV 28 := ⟨_, rfl, fun _ h => h⟩
set_option maxRecDepth 100000 in
theorem sc_29 (D : va_G) (cA : Nat → ClassId) (a1 a2 adK adV : Nat → Nat) : stCell D cA a1 a2 adK adV 29 := ⟨_, rfl, fun _ h => h⟩
set_option maxRecDepth 100000 in
theorem sc_30 (D : va_G) (cA : Nat → ClassId) (a1 a2 adK adV : Nat → Nat) : stCell D cA a1 a2 adK adV 30 := ⟨_, rfl, fun _ h => h⟩
set_option maxRecDepth 100000 in
theorem sc_31 (D : va_G) (cA : Nat → ClassId) (a1 a2 adK adV : Nat → Nat) : stCell D cA a1 a2 adK adV 31 := ⟨_, rfl, fun _ h => h⟩
set_option maxRecDepth 100000 in
theorem sc_32 (D : va_G) (cA : Nat → ClassId) (a1 a2 adK adV : Nat → Nat) : stCell D cA a1 a2 adK adV 32 := ⟨_, rfl, fun _ h => h⟩
set_option maxRecDepth 100000 in
theorem sc_33 (D : va_G) (cA : Nat → ClassId) (a1 a2 adK adV : Nat → Nat) : stCell D cA a1 a2 adK adV 33 := ⟨_, rfl, fun _ h => h⟩
set_option maxRecDepth 100000 in
theorem sc_34 (D : va_G) (cA : Nat → ClassId) (a1 a2 adK adV : Nat → Nat) : stCell D cA a1 a2 adK adV 34 := ⟨_, rfl, fun _ h => h⟩
set_option maxRecDepth 100000 in
theorem sc_35 (D : va_G) (cA : Nat → ClassId) (a1 a2 adK adV : Nat → Nat) : stCell D cA a1 a2 adK adV 35 := ⟨_, rfl, fun _ h => h⟩
set_option maxRecDepth 100000 in
theorem sc_36 (D : va_G) (cA : Nat → ClassId) (a1 a2 adK adV : Nat → Nat) : stCell D cA a1 a2 adK adV 36 := ⟨_, rfl, fun _ h => h⟩
set_option maxRecDepth 100000 in
theorem sc_37 (D : va_G) (cA : Nat → ClassId) (a1 a2 adK adV : Nat → Nat) : stCell D cA a1 a2 adK adV 37 := ⟨_, rfl, fun _ h => h⟩
set_option maxRecDepth 100000 in
theorem sc_38 (D : va_G) (cA : Nat → ClassId) (a1 a2 adK adV : Nat → Nat) : stCell D cA a1 a2 adK adV 38 := ⟨_, rfl, fun _ h => h⟩
set_option maxRecDepth 100000 in
theorem sc_39 (D : va_G) (cA : Nat → ClassId) (a1 a2 adK adV : Nat → Nat) : stCell D cA a1 a2 adK adV 39 := ⟨_, rfl, fun _ h => h⟩
set_option maxRecDepth 100000 in
theorem sc_40 (D : va_G) (cA : Nat → ClassId) (a1 a2 adK adV : Nat → Nat) : stCell D cA a1 a2 adK adV 40 := ⟨_, rfl, fun _ h => h⟩
set_option maxRecDepth 100000 in
theorem sc_41 (D : va_G) (cA : Nat → ClassId) (a1 a2 adK adV : Nat → Nat) : stCell D cA a1 a2 adK adV 41 := ⟨_, rfl, fun _ h => h⟩
set_option maxRecDepth 100000 in
theorem sc_42 (D : va_G) (cA : Nat → ClassId) (a1 a2 adK adV : Nat → Nat) : stCell D cA a1 a2 adK adV 42 := ⟨_, rfl, fun _ h => h⟩
set_option maxRecDepth 100000 in
theorem sc_43 (D : va_G) (cA : Nat → ClassId) (a1 a2 adK adV : Nat → Nat) : stCell D cA a1 a2 adK adV 43 := by
  refine ⟨_, rfl, fun H h => at_w (fun j hj => ?_) h⟩
  have hj : j < 12 := hj
  match j, hj with
  | 0, _ => rfl
  | 1, _ => rfl
  | 2, _ => rfl
  | 3, _ => rfl
  | 4, _ => rfl
  | 5, _ => rfl
  | 6, _ => rfl
  | 7, _ => rfl
  | 8, _ => rfl
  | 9, _ => rfl
  | 10, _ => rfl
  | 11, _ => rfl
  | n + 12, h => exact absurd h (by omega)
set_option maxRecDepth 100000 in
theorem sc_44 (D : va_G) (cA : Nat → ClassId) (a1 a2 adK adV : Nat → Nat) : stCell D cA a1 a2 adK adV 44 := ⟨_, rfl, fun _ h => h⟩
set_option maxRecDepth 100000 in
theorem sc_45 (D : va_G) (cA : Nat → ClassId) (a1 a2 adK adV : Nat → Nat) : stCell D cA a1 a2 adK adV 45 := ⟨_, rfl, fun _ h => h⟩
set_option maxRecDepth 100000 in
theorem sc_46 (D : va_G) (cA : Nat → ClassId) (a1 a2 adK adV : Nat → Nat) : stCell D cA a1 a2 adK adV 46 := ⟨_, rfl, fun _ h => h⟩
set_option maxRecDepth 100000 in
theorem sc_47 (D : va_G) (cA : Nat → ClassId) (a1 a2 adK adV : Nat → Nat) : stCell D cA a1 a2 adK adV 47 := ⟨_, rfl, fun _ h => h⟩
set_option maxRecDepth 100000 in
theorem sc_48 (D : va_G) (cA : Nat → ClassId) (a1 a2 adK adV : Nat → Nat) : stCell D cA a1 a2 adK adV 48 := ⟨_, rfl, fun _ h => h⟩
set_option maxRecDepth 100000 in
theorem sc_49 (D : va_G) (cA : Nat → ClassId) (a1 a2 adK adV : Nat → Nat) : stCell D cA a1 a2 adK adV 49 := ⟨_, rfl, fun _ h => h⟩
set_option maxRecDepth 100000 in
theorem sc_50 (D : va_G) (cA : Nat → ClassId) (a1 a2 adK adV : Nat → Nat) : stCell D cA a1 a2 adK adV 50 := ⟨_, rfl, fun _ h => h⟩
set_option maxRecDepth 100000 in
theorem sc_51 (D : va_G) (cA : Nat → ClassId) (a1 a2 adK adV : Nat → Nat) : stCell D cA a1 a2 adK adV 51 := ⟨_, rfl, fun _ h => h⟩
set_option maxRecDepth 100000 in
theorem sc_52 (D : va_G) (cA : Nat → ClassId) (a1 a2 adK adV : Nat → Nat) : stCell D cA a1 a2 adK adV 52 := ⟨_, rfl, fun _ h => h⟩
set_option maxRecDepth 100000 in
theorem sc_53 (D : va_G) (cA : Nat → ClassId) (a1 a2 adK adV : Nat → Nat) : stCell D cA a1 a2 adK adV 53 := ⟨_, rfl, fun _ h => h⟩
set_option maxRecDepth 100000 in
theorem sc_54 (D : va_G) (cA : Nat → ClassId) (a1 a2 adK adV : Nat → Nat) : stCell D cA a1 a2 adK adV 54 := ⟨_, rfl, fun _ h => h⟩
set_option maxRecDepth 100000 in
theorem sc_55 (D : va_G) (cA : Nat → ClassId) (a1 a2 adK adV : Nat → Nat) : stCell D cA a1 a2 adK adV 55 := ⟨_, rfl, fun _ h => h⟩
set_option maxRecDepth 100000 in
theorem sc_56 (D : va_G) (cA : Nat → ClassId) (a1 a2 adK adV : Nat → Nat) : stCell D cA a1 a2 adK adV 56 := ⟨_, rfl, fun _ h => h⟩
set_option maxRecDepth 100000 in
theorem sc_57 (D : va_G) (cA : Nat → ClassId) (a1 a2 adK adV : Nat → Nat) : stCell D cA a1 a2 adK adV 57 := ⟨_, rfl, fun _ h => h⟩
set_option maxRecDepth 100000 in
theorem sc_58 (D : va_G) (cA : Nat → ClassId) (a1 a2 adK adV : Nat → Nat) : stCell D cA a1 a2 adK adV 58 := ⟨_, rfl, fun _ h => h⟩
set_option maxRecDepth 100000 in
theorem sc_59 (D : va_G) (cA : Nat → ClassId) (a1 a2 adK adV : Nat → Nat) : stCell D cA a1 a2 adK adV 59 := ⟨_, rfl, fun _ h => h⟩
set_option maxRecDepth 100000 in
theorem sc_60 (D : va_G) (cA : Nat → ClassId) (a1 a2 adK adV : Nat → Nat) : stCell D cA a1 a2 adK adV 60 := ⟨_, rfl, fun _ h => h⟩
set_option maxRecDepth 100000 in
theorem sc_61 (D : va_G) (cA : Nat → ClassId) (a1 a2 adK adV : Nat → Nat) : stCell D cA a1 a2 adK adV 61 := ⟨_, rfl, fun _ h => h⟩
set_option maxRecDepth 100000 in
theorem sc_62 (D : va_G) (cA : Nat → ClassId) (a1 a2 adK adV : Nat → Nat) : stCell D cA a1 a2 adK adV 62 := ⟨_, rfl, fun _ h => h⟩
set_option maxRecDepth 100000 in
theorem sc_63 (D : va_G) (cA : Nat → ClassId) (a1 a2 adK adV : Nat → Nat) : stCell D cA a1 a2 adK adV 63 := ⟨_, rfl, fun _ h => h⟩
set_option maxRecDepth 100000 in
theorem sc_64 (D : va_G) (cA : Nat → ClassId) (a1 a2 adK adV : Nat → Nat) : stCell D cA a1 a2 adK adV 64 := ⟨_, rfl, fun _ h => h⟩
set_option maxRecDepth 100000 in
theorem sc_65 (D : va_G) (cA : Nat → ClassId) (a1 a2 adK adV : Nat → Nat) : stCell D cA a1 a2 adK adV 65 := ⟨_, rfl, fun _ h => h⟩
set_option maxRecDepth 100000 in
theorem sc_66 (D : va_G) (cA : Nat → ClassId) (a1 a2 adK adV : Nat → Nat) : stCell D cA a1 a2 adK adV 66 := by
  refine ⟨_, rfl, fun H h => at_w (fun j hj => ?_) h⟩
  have hj : j < 12 := hj
  match j, hj with
  | 0, _ => rfl
  | 1, _ => rfl
  | 2, _ => rfl
  | 3, _ => rfl
  | 4, _ => rfl
  | 5, _ => rfl
  | 6, _ => rfl
  | 7, _ => rfl
  | 8, _ => rfl
  | 9, _ => rfl
  | 10, _ => rfl
  | 11, _ => rfl
  | n + 12, h => exact absurd h (by omega)
set_option maxRecDepth 100000 in
theorem sc_67 (D : va_G) (cA : Nat → ClassId) (a1 a2 adK adV : Nat → Nat) : stCell D cA a1 a2 adK adV 67 := ⟨_, rfl, fun _ h => h⟩
set_option maxRecDepth 100000 in
theorem sc_68 (D : va_G) (cA : Nat → ClassId) (a1 a2 adK adV : Nat → Nat) : stCell D cA a1 a2 adK adV 68 := ⟨_, rfl, fun _ h => h⟩
set_option maxRecDepth 100000 in
theorem sc_69 (D : va_G) (cA : Nat → ClassId) (a1 a2 adK adV : Nat → Nat) : stCell D cA a1 a2 adK adV 69 := ⟨_, rfl, fun _ h => h⟩
set_option maxRecDepth 100000 in
theorem sc_70 (D : va_G) (cA : Nat → ClassId) (a1 a2 adK adV : Nat → Nat) : stCell D cA a1 a2 adK adV 70 := ⟨_, rfl, fun _ h => h⟩
set_option maxRecDepth 100000 in
theorem sc_71 (D : va_G) (cA : Nat → ClassId) (a1 a2 adK adV : Nat → Nat) : stCell D cA a1 a2 adK adV 71 := ⟨_, rfl, fun _ h => h⟩
set_option maxRecDepth 100000 in
theorem sc_72 (D : va_G) (cA : Nat → ClassId) (a1 a2 adK adV : Nat → Nat) : stCell D cA a1 a2 adK adV 72 := ⟨_, rfl, fun _ h => h⟩
set_option maxRecDepth 100000 in
theorem sc_73 (D : va_G) (cA : Nat → ClassId) (a1 a2 adK adV : Nat → Nat) : stCell D cA a1 a2 adK adV 73 := ⟨_, rfl, fun _ h => h⟩
set_option maxRecDepth 100000 in
theorem sc_74 (D : va_G) (cA : Nat → ClassId) (a1 a2 adK adV : Nat → Nat) : stCell D cA a1 a2 adK adV 74 := ⟨_, rfl, fun _ h => h⟩
set_option maxRecDepth 100000 in
theorem sc_75 (D : va_G) (cA : Nat → ClassId) (a1 a2 adK adV : Nat → Nat) : stCell D cA a1 a2 adK adV 75 := ⟨_, rfl, fun _ h => h⟩
set_option maxRecDepth 100000 in
theorem sc_76 (D : va_G) (cA : Nat → ClassId) (a1 a2 adK adV : Nat → Nat) : stCell D cA a1 a2 adK adV 76 := ⟨_, rfl, fun _ h => h⟩
set_option maxRecDepth 100000 in
theorem sc_77 (D : va_G) (cA : Nat → ClassId) (a1 a2 adK adV : Nat → Nat) : stCell D cA a1 a2 adK adV 77 := ⟨_, rfl, fun _ h => h⟩
set_option maxRecDepth 100000 in
theorem sc_78 (D : va_G) (cA : Nat → ClassId) (a1 a2 adK adV : Nat → Nat) : stCell D cA a1 a2 adK adV 78 := ⟨_, rfl, fun _ h => h⟩
set_option maxRecDepth 100000 in
theorem sc_79 (D : va_G) (cA : Nat → ClassId) (a1 a2 adK adV : Nat → Nat) : stCell D cA a1 a2 adK adV 79 := ⟨_, rfl, fun _ h => h⟩
set_option maxRecDepth 100000 in
theorem sc_80 (D : va_G) (cA : Nat → ClassId) (a1 a2 adK adV : Nat → Nat) : stCell D cA a1 a2 adK adV 80 := ⟨_, rfl, fun _ h => h⟩
set_option maxRecDepth 100000 in
theorem sc_81 (D : va_G) (cA : Nat → ClassId) (a1 a2 adK adV : Nat → Nat) : stCell D cA a1 a2 adK adV 81 := ⟨_, rfl, fun _ h => h⟩
set_option maxRecDepth 100000 in
theorem sc_82 (D : va_G) (cA : Nat → ClassId) (a1 a2 adK adV : Nat → Nat) : stCell D cA a1 a2 adK adV 82 := ⟨_, rfl, fun _ h => h⟩
set_option maxRecDepth 100000 in
theorem sc_83 (D : va_G) (cA : Nat → ClassId) (a1 a2 adK adV : Nat → Nat) : stCell D cA a1 a2 adK adV 83 := ⟨_, rfl, fun _ h => h⟩
set_option maxRecDepth 100000 in
theorem sc_84 (D : va_G) (cA : Nat → ClassId) (a1 a2 adK adV : Nat → Nat) : stCell D cA a1 a2 adK adV 84 := ⟨_, rfl, fun _ h => h⟩
set_option maxRecDepth 100000 in
theorem sc_85 (D : va_G) (cA : Nat → ClassId) (a1 a2 adK adV : Nat → Nat) : stCell D cA a1 a2 adK adV 85 := ⟨_, rfl, fun _ h => h⟩
set_option maxRecDepth 100000 in
theorem sc_86 (D : va_G) (cA : Nat → ClassId) (a1 a2 adK adV : Nat → Nat) : stCell D cA a1 a2 adK adV 86 := ⟨_, rfl, fun _ h => h⟩
set_option maxRecDepth 100000 in
theorem sc_87 (D : va_G) (cA : Nat → ClassId) (a1 a2 adK adV : Nat → Nat) : stCell D cA a1 a2 adK adV 87 := ⟨_, rfl, fun _ h => h⟩
set_option maxRecDepth 100000 in
theorem sc_88 (D : va_G) (cA : Nat → ClassId) (a1 a2 adK adV : Nat → Nat) : stCell D cA a1 a2 adK adV 88 := ⟨_, rfl, fun _ h => h⟩
set_option maxRecDepth 100000 in
theorem sc_89 (D : va_G) (cA : Nat → ClassId) (a1 a2 adK adV : Nat → Nat) : stCell D cA a1 a2 adK adV 89 := ⟨_, rfl, fun _ h => h⟩
set_option maxRecDepth 100000 in
theorem sc_90 (D : va_G) (cA : Nat → ClassId) (a1 a2 adK adV : Nat → Nat) : stCell D cA a1 a2 adK adV 90 := ⟨_, rfl, fun _ h => h⟩
set_option maxRecDepth 100000 in
theorem sc_91 (D : va_G) (cA : Nat → ClassId) (a1 a2 adK adV : Nat → Nat) : stCell D cA a1 a2 adK adV 91 := ⟨_, rfl, fun _ h => h⟩
set_option maxRecDepth 100000 in
theorem sc_92 (D : va_G) (cA : Nat → ClassId) (a1 a2 adK adV : Nat → Nat) : stCell D cA a1 a2 adK adV 92 := ⟨_, rfl, fun _ h => h⟩
set_option maxRecDepth 100000 in
theorem sc_93 (D : va_G) (cA : Nat → ClassId) (a1 a2 adK adV : Nat → Nat) : stCell D cA a1 a2 adK adV 93 := ⟨_, rfl, fun _ h => h⟩
set_option maxRecDepth 100000 in
theorem sc_94 (D : va_G) (cA : Nat → ClassId) (a1 a2 adK adV : Nat → Nat) : stCell D cA a1 a2 adK adV 94 := ⟨_, rfl, fun _ h => h⟩
set_option maxRecDepth 100000 in
theorem sc_95 (D : va_G) (cA : Nat → ClassId) (a1 a2 adK adV : Nat → Nat) : stCell D cA a1 a2 adK adV 95 := ⟨_, rfl, fun _ h => h⟩
set_option maxRecDepth 100000 in
theorem sc_96 (D : va_G) (cA : Nat → ClassId) (a1 a2 adK adV : Nat → Nat) : stCell D cA a1 a2 adK adV 96 := ⟨_, rfl, fun _ h => h⟩
set_option maxRecDepth 100000 in
theorem sc_97 (D : va_G) (cA : Nat → ClassId) (a1 a2 adK adV : Nat → Nat) : stCell D cA a1 a2 adK adV 97 := ⟨_, rfl, fun _ h => h⟩
set_option maxRecDepth 100000 in
theorem sc_98 (D : va_G) (cA : Nat → ClassId) (a1 a2 adK adV : Nat → Nat) : stCell D cA a1 a2 adK adV 98 := ⟨_, rfl, fun _ h => h⟩
set_option maxRecDepth 100000 in
theorem sc_99 (D : va_G) (cA : Nat → ClassId) (a1 a2 adK adV : Nat → Nat) : stCell D cA a1 a2 adK adV 99 := ⟨_, rfl, fun _ h => h⟩
set_option maxRecDepth 100000 in
theorem sc_100 (D : va_G) (cA : Nat → ClassId) (a1 a2 adK adV : Nat → Nat) : stCell D cA a1 a2 adK adV 100 := ⟨_, rfl, fun _ h => h⟩
set_option maxRecDepth 100000 in
theorem sc_101 (D : va_G) (cA : Nat → ClassId) (a1 a2 adK adV : Nat → Nat) : stCell D cA a1 a2 adK adV 101 := ⟨_, rfl, fun _ h => h⟩
set_option maxRecDepth 100000 in
theorem sc_102 (D : va_G) (cA : Nat → ClassId) (a1 a2 adK adV : Nat → Nat) : stCell D cA a1 a2 adK adV 102 := ⟨_, rfl, fun _ h => h⟩
theorem sc_all (D : va_G) (cA : Nat → ClassId) (a1 a2 adK adV : Nat → Nat) (k : Nat) (hk : k < 103) : stCell D cA a1 a2 adK adV k := by
  match k, hk with
  | 0, _ => exact sc_0 D cA a1 a2 adK adV
  | 1, _ => exact sc_1 D cA a1 a2 adK adV
  | 2, _ => exact sc_2 D cA a1 a2 adK adV
  | 3, _ => exact sc_3 D cA a1 a2 adK adV
  | 4, _ => exact sc_4 D cA a1 a2 adK adV
  | 5, _ => exact sc_5 D cA a1 a2 adK adV
  | 6, _ => exact sc_6 D cA a1 a2 adK adV
  | 7, _ => exact sc_7 D cA a1 a2 adK adV
  | 8, _ => exact sc_8 D cA a1 a2 adK adV
  | 9, _ => exact sc_9 D cA a1 a2 adK adV
  | 10, _ => exact sc_10 D cA a1 a2 adK adV
  | 11, _ => exact sc_11 D cA a1 a2 adK adV
  | 12, _ => exact sc_12 D cA a1 a2 adK adV
  | 13, _ => exact sc_13 D cA a1 a2 adK adV
  | 14, _ => exact sc_14 D cA a1 a2 adK adV
  | 15, _ => exact sc_15 D cA a1 a2 adK adV
  | 16, _ => exact sc_16 D cA a1 a2 adK adV
  | 17, _ => exact sc_17 D cA a1 a2 adK adV
  | 18, _ => exact sc_18 D cA a1 a2 adK adV
  | 19, _ => exact sc_19 D cA a1 a2 adK adV
  | 20, _ => exact sc_20 D cA a1 a2 adK adV
  | 21, _ => exact sc_21 D cA a1 a2 adK adV
  | 22, _ => exact sc_22 D cA a1 a2 adK adV
  | 23, _ => exact sc_23 D cA a1 a2 adK adV
  | 24, _ => exact sc_24 D cA a1 a2 adK adV
  | 25, _ => exact sc_25 D cA a1 a2 adK adV
  | 26, _ => exact sc_26 D cA a1 a2 adK adV
  | 27, _ => exact sc_27 D cA a1 a2 adK adV
  | 28, _ => exact sc_28 D cA a1 a2 adK adV
  | 29, _ => exact sc_29 D cA a1 a2 adK adV
  | 30, _ => exact sc_30 D cA a1 a2 adK adV
  | 31, _ => exact sc_31 D cA a1 a2 adK adV
  | 32, _ => exact sc_32 D cA a1 a2 adK adV
  | 33, _ => exact sc_33 D cA a1 a2 adK adV
  | 34, _ => exact sc_34 D cA a1 a2 adK adV
  | 35, _ => exact sc_35 D cA a1 a2 adK adV
  | 36, _ => exact sc_36 D cA a1 a2 adK adV
  | 37, _ => exact sc_37 D cA a1 a2 adK adV
  | 38, _ => exact sc_38 D cA a1 a2 adK adV
  | 39, _ => exact sc_39 D cA a1 a2 adK adV
  | 40, _ => exact sc_40 D cA a1 a2 adK adV
  | 41, _ => exact sc_41 D cA a1 a2 adK adV
  | 42, _ => exact sc_42 D cA a1 a2 adK adV
  | 43, _ => exact sc_43 D cA a1 a2 adK adV
  | 44, _ => exact sc_44 D cA a1 a2 adK adV
  | 45, _ => exact sc_45 D cA a1 a2 adK adV
  | 46, _ => exact sc_46 D cA a1 a2 adK adV
  | 47, _ => exact sc_47 D cA a1 a2 adK adV
  | 48, _ => exact sc_48 D cA a1 a2 adK adV
  | 49, _ => exact sc_49 D cA a1 a2 adK adV
  | 50, _ => exact sc_50 D cA a1 a2 adK adV
  | 51, _ => exact sc_51 D cA a1 a2 adK adV
  | 52, _ => exact sc_52 D cA a1 a2 adK adV
  | 53, _ => exact sc_53 D cA a1 a2 adK adV
  | 54, _ => exact sc_54 D cA a1 a2 adK adV
  | 55, _ => exact sc_55 D cA a1 a2 adK adV
  | 56, _ => exact sc_56 D cA a1 a2 adK adV
  | 57, _ => exact sc_57 D cA a1 a2 adK adV
  | 58, _ => exact sc_58 D cA a1 a2 adK adV
  | 59, _ => exact sc_59 D cA a1 a2 adK adV
  | 60, _ => exact sc_60 D cA a1 a2 adK adV
  | 61, _ => exact sc_61 D cA a1 a2 adK adV
  | 62, _ => exact sc_62 D cA a1 a2 adK adV
  | 63, _ => exact sc_63 D cA a1 a2 adK adV
  | 64, _ => exact sc_64 D cA a1 a2 adK adV
  | 65, _ => exact sc_65 D cA a1 a2 adK adV
  | 66, _ => exact sc_66 D cA a1 a2 adK adV
  | 67, _ => exact sc_67 D cA a1 a2 adK adV
  | 68, _ => exact sc_68 D cA a1 a2 adK adV
  | 69, _ => exact sc_69 D cA a1 a2 adK adV
  | 70, _ => exact sc_70 D cA a1 a2 adK adV
  | 71, _ => exact sc_71 D cA a1 a2 adK adV
  | 72, _ => exact sc_72 D cA a1 a2 adK adV
  | 73, _ => exact sc_73 D cA a1 a2 adK adV
  | 74, _ => exact sc_74 D cA a1 a2 adK adV
  | 75, _ => exact sc_75 D cA a1 a2 adK adV
  | 76, _ => exact sc_76 D cA a1 a2 adK adV
  | 77, _ => exact sc_77 D cA a1 a2 adK adV
  | 78, _ => exact sc_78 D cA a1 a2 adK adV
  | 79, _ => exact sc_79 D cA a1 a2 adK adV
  | 80, _ => exact sc_80 D cA a1 a2 adK adV
  | 81, _ => exact sc_81 D cA a1 a2 adK adV
  | 82, _ => exact sc_82 D cA a1 a2 adK adV
  | 83, _ => exact sc_83 D cA a1 a2 adK adV
  | 84, _ => exact sc_84 D cA a1 a2 adK adV
  | 85, _ => exact sc_85 D cA a1 a2 adK adV
  | 86, _ => exact sc_86 D cA a1 a2 adK adV
  | 87, _ => exact sc_87 D cA a1 a2 adK adV
  | 88, _ => exact sc_88 D cA a1 a2 adK adV
  | 89, _ => exact sc_89 D cA a1 a2 adK adV
  | 90, _ => exact sc_90 D cA a1 a2 adK adV
  | 91, _ => exact sc_91 D cA a1 a2 adK adV
  | 92, _ => exact sc_92 D cA a1 a2 adK adV
  | 93, _ => exact sc_93 D cA a1 a2 adK adV
  | 94, _ => exact sc_94 D cA a1 a2 adK adV
  | 95, _ => exact sc_95 D cA a1 a2 adK adV
  | 96, _ => exact sc_96 D cA a1 a2 adK adV
  | 97, _ => exact sc_97 D cA a1 a2 adK adV
  | 98, _ => exact sc_98 D cA a1 a2 adK adV
  | 99, _ => exact sc_99 D cA a1 a2 adK adV
  | 100, _ => exact sc_100 D cA a1 a2 adK adV
  | 101, _ => exact sc_101 D cA a1 a2 adK adV
  | 102, _ => exact sc_102 D cA a1 a2 adK adV
  | n + 103, h => exact absurd h (by omega)
theorem posL_inj : ∀ i, i < 103 → ∀ j, j < 103 → posL.getD i 0 = posL.getD j 0 → i = j := by decide +kernel
theorem st_world {D : va_G} {cA : Nat → ClassId} {a1 a2 adK adV : Nat → Nat} {A : Nat → Prop} {H : Heap} (hP : va_P D vwCl (wp8 cA a1 ++ wp9 cA a2) H) (hD : va_D A (wp8 cA a1 ++ wp9 cA a2)) : va_P D vwCl (wsW (mkW D cA a1 a2 adK adV) M0) H ∧ va_D A (wsW (mkW D cA a1 a2 adK adV) M0) := by
  have hlt : ∀ {k : Nat} {q : Nat × va_E}, (wsW (mkW D cA a1 a2 adK adV) M0)[k]? = some q → k < 103 := by
    intro k q h
    have := (List.getElem?_eq_some_iff.mp h).1
    simpa [wsW] using this
  refine ⟨fun k q h => ?_, fun i j p q hi hj hpq => ?_, fun k q h => ?_⟩
  · have hk := hlt h
    rw [wsW_get _ M0 hk] at h
    cases h
    obtain ⟨e, h1, h2⟩ := sc_all D cA a1 a2 adK adV k hk
    exact h2 H (hP _ _ h1)
  · have hi2 := hlt hi
    have hj2 := hlt hj
    rw [wsW_get _ M0 hi2] at hi
    rw [wsW_get _ M0 hj2] at hj
    cases hi
    cases hj
    obtain ⟨e1, f1, -⟩ := sc_all D cA a1 a2 adK adV i hi2
    obtain ⟨e2, f2, -⟩ := sc_all D cA a1 a2 adK adV j hj2
    exact posL_inj i hi2 j hj2 (hD.1 _ _ _ _ f1 f2 hpq)
  · have hk := hlt h
    rw [wsW_get _ M0 hk] at h
    cases h
    obtain ⟨e, h1, -⟩ := sc_all D cA a1 a2 adK adV k hk
    exact hD.2 _ (_, e) h1
theorem str_eval_args (args : Array Value) (own : String) (k : Nat) (s : State) : (Term.string own k).eval #[] s none [] s = (Term.string own k).eval args s none [] s := by
  simp [Term.eval]
set_option maxRecDepth 100000 in
set_option maxHeartbeats 4000000 in
theorem st_texts {args : Array Value} {s : State} {A : Nat → Prop} (hs : ∀ c ∈ flatC (Jvm.Cond.and given_1 narrow_1), c.before args s = true) (ht : ∀ w ∈ lw_tbl, w.before args s = true) (hA : ∀ a : Nat, a < s.heap.size → ¬ A a) : ∃ adK adV : Nat → Nat, vk_S 6 slen sbyt adK adV A s s.heap ∧ ∀ i : Nat, i < 6 → vk_R RX6 (sidx.getD i 0) (stxt.getD i "") (adK i) s := by
  have key : ∃ adK adV : Nat → Nat, vk_S 6 slen sbyt adK adV A s s.heap ∧ ∀ i : Nat, i < 6 → (Term.string "ChairTooFew$Text" (sidx.getD i 0)).eval args s none [] s = some (.ref (adK i)) := by
    refine vk_Sof (args := args) (s := s) (N := 6) (tm := fun i => Term.string "ChairTooFew$Text" (sidx.getD i 0)) (len := slen) (byt := sbyt) (A := A) (by decide) ?_ ?_ ?_ ?_ ?_ ?_ hA
    · intro i hi
      match i, hi with
      | 0, _ => exact hs _ (by decide +kernel)
      | 1, _ => exact hs _ (by decide +kernel)
      | 2, _ => exact hs _ (by decide +kernel)
      | 3, _ => exact hs _ (by decide +kernel)
      | 4, _ => exact hs _ (by decide +kernel)
      | 5, _ => exact hs _ (by decide +kernel)
      | n + 6, h => exact absurd h (by omega)
    · intro i hi
      match i, hi with
      | 0, _ => exact hs _ (by decide +kernel)
      | 1, _ => exact hs _ (by decide +kernel)
      | 2, _ => exact hs _ (by decide +kernel)
      | 3, _ => exact hs _ (by decide +kernel)
      | 4, _ => exact hs _ (by decide +kernel)
      | 5, _ => exact hs _ (by decide +kernel)
      | n + 6, h => exact absurd h (by omega)
    · intro i hi
      match i, hi with
      | 0, _ => exact hs _ (by decide +kernel)
      | 1, _ => exact hs _ (by decide +kernel)
      | 2, _ => exact hs _ (by decide +kernel)
      | 3, _ => exact hs _ (by decide +kernel)
      | 4, _ => exact hs _ (by decide +kernel)
      | 5, _ => exact hs _ (by decide +kernel)
      | n + 6, h => exact absurd h (by omega)
    · intro i hi
      match i, hi with
      | 0, _ => exact hs _ (by decide +kernel)
      | 1, _ => exact hs _ (by decide +kernel)
      | 2, _ => exact hs _ (by decide +kernel)
      | 3, _ => exact hs _ (by decide +kernel)
      | 4, _ => exact hs _ (by decide +kernel)
      | 5, _ => exact hs _ (by decide +kernel)
      | n + 6, h => exact absurd h (by omega)
    · intro i hi j hj
      match i, hi, j, hj with
      | 0, _, 0, _ => exact hs _ (by decide +kernel)
      | 0, _, 1, _ => exact hs _ (by decide +kernel)
      | 0, _, 2, _ => exact hs _ (by decide +kernel)
      | 0, _, n + 3, h => exact absurd h (by show ¬ _ < 3; omega)
      | 1, _, 0, _ => exact hs _ (by decide +kernel)
      | 1, _, 1, _ => exact hs _ (by decide +kernel)
      | 1, _, 2, _ => exact hs _ (by decide +kernel)
      | 1, _, n + 3, h => exact absurd h (by show ¬ _ < 3; omega)
      | 2, _, 0, _ => exact hs _ (by decide +kernel)
      | 2, _, 1, _ => exact hs _ (by decide +kernel)
      | 2, _, 2, _ => exact hs _ (by decide +kernel)
      | 2, _, 3, _ => exact hs _ (by decide +kernel)
      | 2, _, 4, _ => exact hs _ (by decide +kernel)
      | 2, _, 5, _ => exact hs _ (by decide +kernel)
      | 2, _, 6, _ => exact hs _ (by decide +kernel)
      | 2, _, n + 7, h => exact absurd h (by show ¬ _ < 7; omega)
      | 3, _, 0, _ => exact hs _ (by decide +kernel)
      | 3, _, 1, _ => exact hs _ (by decide +kernel)
      | 3, _, 2, _ => exact hs _ (by decide +kernel)
      | 3, _, 3, _ => exact hs _ (by decide +kernel)
      | 3, _, 4, _ => exact hs _ (by decide +kernel)
      | 3, _, n + 5, h => exact absurd h (by show ¬ _ < 5; omega)
      | 4, _, 0, _ => exact hs _ (by decide +kernel)
      | 4, _, 1, _ => exact hs _ (by decide +kernel)
      | 4, _, 2, _ => exact hs _ (by decide +kernel)
      | 4, _, n + 3, h => exact absurd h (by show ¬ _ < 3; omega)
      | 5, _, n + 0, h => exact absurd h (by show ¬ _ < 0; omega)
      | n + 6, h, _, _ => exact absurd h (by omega)
    · intro i j hi hj hne
      match i, hi, j, hj, hne with
      | 0, _, 0, _, h => exact absurd rfl h
      | 0, _, 1, _, _ => exact Or.inl (hs _ (by decide +kernel))
      | 0, _, 2, _, _ => exact Or.inl (hs _ (by decide +kernel))
      | 0, _, 3, _, _ => exact Or.inl (hs _ (by decide +kernel))
      | 0, _, 4, _, _ => exact Or.inl (hs _ (by decide +kernel))
      | 0, _, 5, _, _ => exact Or.inl (hs _ (by decide +kernel))
      | 0, _, n + 6, h, _ => exact absurd h (by omega)
      | 1, _, 0, _, _ => exact Or.inr (hs _ (by decide +kernel))
      | 1, _, 1, _, h => exact absurd rfl h
      | 1, _, 2, _, _ => exact Or.inl (hs _ (by decide +kernel))
      | 1, _, 3, _, _ => exact Or.inl (hs _ (by decide +kernel))
      | 1, _, 4, _, _ => exact Or.inl (hs _ (by decide +kernel))
      | 1, _, 5, _, _ => exact Or.inl (hs _ (by decide +kernel))
      | 1, _, n + 6, h, _ => exact absurd h (by omega)
      | 2, _, 0, _, _ => exact Or.inr (hs _ (by decide +kernel))
      | 2, _, 1, _, _ => exact Or.inr (hs _ (by decide +kernel))
      | 2, _, 2, _, h => exact absurd rfl h
      | 2, _, 3, _, _ => exact Or.inl (hs _ (by decide +kernel))
      | 2, _, 4, _, _ => exact Or.inl (hs _ (by decide +kernel))
      | 2, _, 5, _, _ => exact Or.inl (hs _ (by decide +kernel))
      | 2, _, n + 6, h, _ => exact absurd h (by omega)
      | 3, _, 0, _, _ => exact Or.inr (hs _ (by decide +kernel))
      | 3, _, 1, _, _ => exact Or.inr (hs _ (by decide +kernel))
      | 3, _, 2, _, _ => exact Or.inr (hs _ (by decide +kernel))
      | 3, _, 3, _, h => exact absurd rfl h
      | 3, _, 4, _, _ => exact Or.inl (hs _ (by decide +kernel))
      | 3, _, 5, _, _ => exact Or.inl (hs _ (by decide +kernel))
      | 3, _, n + 6, h, _ => exact absurd h (by omega)
      | 4, _, 0, _, _ => exact Or.inr (hs _ (by decide +kernel))
      | 4, _, 1, _, _ => exact Or.inr (hs _ (by decide +kernel))
      | 4, _, 2, _, _ => exact Or.inr (hs _ (by decide +kernel))
      | 4, _, 3, _, _ => exact Or.inr (hs _ (by decide +kernel))
      | 4, _, 4, _, h => exact absurd rfl h
      | 4, _, 5, _, _ => exact Or.inl (hs _ (by decide +kernel))
      | 4, _, n + 6, h, _ => exact absurd h (by omega)
      | 5, _, 0, _, _ => exact Or.inr (hs _ (by decide +kernel))
      | 5, _, 1, _, _ => exact Or.inr (hs _ (by decide +kernel))
      | 5, _, 2, _, _ => exact Or.inr (hs _ (by decide +kernel))
      | 5, _, 3, _, _ => exact Or.inr (hs _ (by decide +kernel))
      | 5, _, 4, _, _ => exact Or.inr (hs _ (by decide +kernel))
      | 5, _, 5, _, h => exact absurd rfl h
      | 5, _, n + 6, h, _ => exact absurd h (by omega)
      | n + 6, h, _, _, _ => exact absurd h (by omega)
  obtain ⟨adK, adV, h1, h2⟩ := key
  refine ⟨adK, adV, h1, fun i hi => vk_R.of (A := args) ?_ ?_⟩
  · match i, hi with
    | 0, _ => exact ht _ (U2 (List.mem_of_getElem? (i := 101) rfl))
    | 1, _ => exact ht _ (U2 (List.mem_of_getElem? (i := 102) rfl))
    | 2, _ => exact ht _ (U2 (List.mem_of_getElem? (i := 103) rfl))
    | 3, _ => exact ht _ (U2 (List.mem_of_getElem? (i := 104) rfl))
    | 4, _ => exact ht _ (U2 (List.mem_of_getElem? (i := 105) rfl))
    | 5, _ => exact ht _ (U2 (List.mem_of_getElem? (i := 106) rfl))
    | n + 6, h => exact absurd h (by omega)
  · exact Eq.trans (str_eval_args args _ _ s) (h2 i hi)
theorem st_IE {args : Array Value} {s : State} (ht : ∀ w ∈ lw_tbl, w.before args s = true) : IE s := by
  refine ⟨fun q hq => ?_, va_AO.of (ht _ (U1 (List.mem_of_getElem? (i := 114) rfl)))⟩
  simp only [nestI, List.mem_cons, List.not_mem_nil, or_false] at hq
  rcases hq with rfl | rfl | rfl | rfl | rfl | rfl
  · exact va_Nw.of rfl (ht _ (U2 (List.mem_of_getElem? (i := 11) rfl)))
  · exact va_Nw.of rfl (ht _ (U1 (List.mem_of_getElem? (i := 28) rfl)))
  · exact va_Nw.of rfl (ht _ (U1 (List.mem_of_getElem? (i := 40) rfl)))
  · exact va_Nw.of rfl (ht _ (U1 (List.mem_of_getElem? (i := 68) rfl)))
  · exact va_Nw.of rfl (ht _ (U1 (List.mem_of_getElem? (i := 93) rfl)))
  · exact va_Nw.of rfl (ht _ (U1 (List.mem_of_getElem? (i := 116) rfl)))
set_option maxRecDepth 100000 in
set_option maxHeartbeats 4000000 in
theorem st_SE {args : Array Value} {s : State} {w : WE} (hs : ∀ c ∈ flatC (Jvm.Cond.and given_1 narrow_1), c.before args s = true) (ht : ∀ w ∈ lw_tbl, w.before args s = true) (h1 : vk_S 6 slen sbyt (wk w) (wv w) (AW w) s s.heap) (h2 : ∀ i : Nat, i < 6 → vk_R RX6 (sidx.getD i 0) (stxt.getD i "") (wk w i) s) (hA : ∀ a : Nat, a < s.heap.size → ¬ AW w a) : SE w s s.heap := by
  refine ⟨h1, h2, va_Zof (ht _ (U2 (List.mem_of_getElem? (i := 116) rfl))) (ht _ (U1 (List.mem_of_getElem? (i := 11) rfl))) (va_eqt (hs _ (by decide +kernel))) hA, va_Zqof (ht _ (U2 (List.mem_of_getElem? (i := 132) rfl))) (ht _ (U1 (List.mem_of_getElem? (i := 13) rfl))) (hs _ (by decide +kernel)) hA, fun q hq => ?_⟩
  simp only [nestL, List.mem_cons, List.not_mem_nil, or_false] at hq
  rcases hq with rfl | rfl | rfl
  · exact va_Nw.of rfl (ht _ (U2 (List.mem_of_getElem? (i := 237) rfl)))
  · exact va_Nw.of rfl (ht _ (U3 (List.mem_of_getElem? (i := 22) rfl)))
  · exact va_Nw.of rfl (ht _ (U2 (List.mem_of_getElem? (i := 202) rfl)))
theorem st_known {args : Array Value} {s : State} (ht : ∀ w ∈ lw_tbl, w.before args s = true) : ∃ (D : va_G) (cA : Nat → ClassId), va_K D vwCl (tysI cA) s := by
  have hB : ∀ w ∈ BIG, w.before args s = true := fun w h => ht w (List.mem_filter.mp h).1
  obtain ⟨c0, s0, k0⟩ := u_known (C := RX0) (T := TX0) (N := 5) (n := 5) hB in0 (hB _ W1_27)
  obtain ⟨c1, s1, k1⟩ := u_known (C := RX1) (T := TX1) (N := 2) (n := 2) hB in1 (hB _ W1_235)
  obtain ⟨c2, s2, k2⟩ := u_known (C := RX2) (T := TX2) (N := 10) (n := 10) hB in2 (hB _ W1_33)
  obtain ⟨c3, s3, k3⟩ := u_known (C := RX3) (T := TX3) (N := 3) (n := 3) hB in3 (hB _ W1_67)
  obtain ⟨c4, s4, k4⟩ := u_known (C := RX4) (T := TX4) (N := 4) (n := 4) hB in4 (hB _ W1_39)
  obtain ⟨c5, s5, k5⟩ := u_known (C := RX5) (T := TX5) (N := 5) (n := 5) hB in5 (hB _ W1_92)
  obtain ⟨c6, s6, k6⟩ := u_known (C := RX6) (T := TX6) (N := 6) (n := 6) hB in6 (hB _ W2_10)
  obtain ⟨c7, s7, k7⟩ := u_known (C := RX7) (T := TX7) (N := 9) (n := 9) hB in7 (hB _ W1_115)
  obtain ⟨c8, s8, k8⟩ := u_known (C := RX8) (T := TX8) (N := 8) (n := 8) hB in8 (hB _ W1_19)
  obtain ⟨c9, s9, k9⟩ := u_known (C := RX9) (T := TX9) (N := 44) (n := 44) hB in9 (hB _ W4_172)
  obtain ⟨a0, p0, r0⟩ := arr_known (hB _ W2_36) (fun C h => by cases h)
  obtain ⟨a1, p1, r1⟩ := arr_known (hB _ W1_64) (fun C h => by cases h)
  obtain ⟨a2, p2, r2⟩ := arr_known (hB _ W1_65) (fun C h => by cases h)
  obtain ⟨a3, p3, r3⟩ := arr_knownO (ht _ (U1 (List.mem_of_getElem? (i := 114) rfl)))
  refine ⟨(fun k => [c0, c1, c2, c3, c4, c5, c6, c7, c8, c9].getD k c0, fun k => [s0, s1, s2, s3, s4, s5, s6, s7, s8, s9].getD k s0), fun k => [a0, a1, a2, a3].getD k a0, fun k q hq => ?_, fun k q hq => ?_⟩
  · match k, hq with
    | 0, hq => cases hq; exact k0
    | 1, hq => cases hq; exact k1
    | 2, hq => cases hq; exact k2
    | 3, hq => cases hq; exact k3
    | 4, hq => cases hq; exact k4
    | 5, hq => cases hq; exact k5
    | 6, hq => cases hq; exact k6
    | 7, hq => cases hq; exact k7
    | 8, hq => cases hq; exact k8
    | 9, hq => cases hq; exact k9
    | k + 10, hq => simp [vwCl] at hq
  · match k, hq with
    | 0, hq => cases hq; exact ⟨p0, r0⟩
    | 1, hq => cases hq; exact ⟨p1, r1⟩
    | 2, hq => cases hq; exact ⟨p2, r2⟩
    | 3, hq => cases hq; exact ⟨p3, r3⟩
    | k + 4, hq => simp [tysI] at hq
