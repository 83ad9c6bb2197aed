/-! ===== the memory of the whole system: object numbers, their types, lengths and links ===== -/
abbrev Mem : Type := Nat → Nat → Int32
def mrow (M : Mem) (o : Nat) (f : Nat → Int32) : Mem := fun q => if q = o then f else M q
def mset (M : Mem) (o k : Nat) (v : Int32) : Mem := mrow M o (upd (M o) k v)
-- objects: 103 parties [11, 34, 57] model 80
def tyL : List Nat := [8, 11, 0, 11, 1, 11, 1, 11, 6, 10, 11, 2, 4, 11, 12, 3, 5, 11, 11, 12, 13, 12, 7, 7, 7, 7, 7, 7, 7, 7, 7, 7, 7, 7, 2, 4, 11, 12, 3, 5, 11, 11, 12, 13, 12, 7, 7, 7, 7, 7, 7, 7, 7, 7, 7, 7, 7, 2, 4, 11, 12, 3, 5, 11, 11, 12, 13, 12, 7, 7, 7, 7, 7, 7, 7, 7, 7, 7, 7, 7, 9, 11, 11, 11, 11, 11, 11, 11, 11, 11, 11, 11, 11, 11, 11, 11, 11, 11, 11, 11, 11, 11, 11]
def lnL : List Nat := [0, 7, 0, 12, 0, 16, 0, 60, 0, 64, 3, 0, 0, 11, 60, 0, 0, 12, 132, 11, 12, 60, 0, 0, 0, 0, 0, 0, 0, 0, 0, 0, 0, 0, 0, 0, 11, 60, 0, 0, 12, 132, 11, 12, 60, 0, 0, 0, 0, 0, 0, 0, 0, 0, 0, 0, 0, 0, 0, 11, 60, 0, 0, 12, 132, 11, 12, 60, 0, 0, 0, 0, 0, 0, 0, 0, 0, 0, 0, 0, 0, 7, 60, 12, 12, 12, 12, 12, 12, 12, 12, 12, 64, 32, 32, 32, 32, 32, 400, 12, 12, 16, 60]
def lkL : List (List Nat) := [[2, 11, 57, 4, 6, 8, 1], [], [11, 34, 3], [], [5], [], [7], [], [9, 10], [], [], [12, 15, 16, 20, 21], [0, 0, 13, 14], [], [], [], [17, 18, 19], [], [], [], [22, 23, 24, 25, 26, 27, 28, 29, 30, 31, 32, 33], [], [], [], [], [], [], [], [], [], [], [], [], [], [35, 38, 39, 43, 44], [0, 0, 36, 37], [], [], [], [40, 41, 42], [], [], [], [45, 46, 47, 48, 49, 50, 51, 52, 53, 54, 55, 56], [], [], [], [], [], [], [], [], [], [], [], [], [], [58, 61, 62, 66, 67], [0, 0, 59, 60], [], [], [], [63, 64, 65], [], [], [], [68, 69, 70, 71, 72, 73, 74, 75, 76, 77, 78, 79], [], [], [], [], [], [], [], [], [], [], [], [], [], [81, 82, 83, 84, 85, 86, 87, 88, 89, 90, 91, 0, 0, 0, 0, 0, 0, 0, 0, 0, 92, 93, 94, 95, 96, 97, 0, 0, 0, 98, 0, 0, 0, 99, 100, 0, 0, 0, 0, 0, 101, 102, 0, 0], [], [], [], [], [], [], [], [], [], [], [], [], [], [], [], [], [], [], [], [], [], []]
def rfL : List (List Bool) := [[true, true, true, false, false], [true, false], [true, true, true, true, true, false, false, false, false, false], [false, false, false], [false, false, true, true], [true, true, true, false, false], [true, true, false, false, false, false], [false, false, false, false, false, false, false, false, false], [true, true, true, true, true, true, true, false], [true, true, true, true, true, true, true, true, true, true, true, false, false, false, false, false, false, false, false, false, true, true, true, true, true, true, false, false, false, true, false, false, false, true, true, false, false, false, false, false, true, true, false, false]]
def nfL : List Nat := [5, 2, 10, 3, 4, 5, 6, 9, 8, 44]
def typ (o : Nat) : Nat := tyL.getD o 99
def alen (o : Nat) : Nat := lnL.getD o 0
def link (o k : Nat) : Nat := (lkL.getD o []).getD k 0
def nfs (c : Nat) : Nat := nfL.getD c 0
def isRf (c k : Nat) : Bool := (rfL.getD c []).getD k false
/-- a name for a memory, a number; what a call gives -/
def mlet (X : Mem) (F : Mem → Option (Int32 × Mem)) : Option (Int32 × Mem) := F X
def ilet (x : Int32) (F : Int32 → Option (Int32 × Mem)) : Option (Int32 × Mem) := F x
def cb (x : Option (Int32 × Mem)) (F : Int32 → Mem → Option (Int32 × Mem)) : Option (Int32 × Mem) := match x with
  | none => none
  | some q => F q.1 q.2
theorem cb_spec {x : Option (Int32 × Mem)} {F : Int32 → Mem → Option (Int32 × Mem)} {z : Int32 × Mem} (h : cb x F = some z) : ∃ r M, x = some (r, M) ∧ F r M = some z := by
  cases x with
  | none => cases h
  | some q => exact ⟨q.1, q.2, rfl, h⟩
abbrev inB (i : Int32) (n : Nat) : Prop := ¬ (i < 0 ∨ n ≤ i.toNatClampNeg)
/-- a value fits a boolean -/
abbrev bz (x : Int32) : Prop := x = 0 ∨ x = 1
def bzAll (f : Nat → Int32) (k : Nat) : Bool := (List.range k).all (fun i => decide (bz (f i)))
theorem bzAll_spec {f : Nat → Int32} {k : Nat} (h : bzAll f k = true) (i : Nat) (hi : i < k) : bz (f i) := by
  have := List.all_eq_true.mp h i (List.mem_range.mpr hi)
  simpa using this
theorem typ_lt {o c : Nat} (h : typ o = c) (hc : c < 99) : o < 103 := by
  rcases Nat.lt_or_ge o 103 with q | q
  · exact q
  · have : typ o = 99 := by
      unfold typ
      rw [List.getD_eq_getElem?_getD, List.getElem?_eq_none (by show 103 ≤ o; exact q)]
      rfl
    omega
theorem t_all (P : Nat → Bool) (h : (List.range 103).all P = true) {o : Nat} (ho : o < 103) : P o = true := List.all_eq_true.mp h o (List.mem_range.mpr ho)
theorem t_lk {c k d : Nat} (h : (List.range 103).all (fun o => typ o != c || typ (link o k) == d) = true) (hc : c < 99) {o : Nat} (ho : typ o = c) : typ (link o k) = d := by
  have := t_all _ h (typ_lt ho hc)
  simpa [ho] using this
theorem t_ln {c k d : Nat} (h : (List.range 103).all (fun o => typ o != c || alen (link o k) == d) = true) (hc : c < 99) {o : Nat} (ho : typ o = c) : alen (link o k) = d := by
  have := t_all _ h (typ_lt ho hc)
  simpa [ho] using this
theorem t_wk {o : Nat} (ho : typ o = 13) {i : Nat} (hi : i < alen o) : typ (link o i) = 7 := by
  have h := t_all (fun o => typ o != 13 || (List.range (alen o)).all (fun i => typ (link o i) == 7)) (by decide +kernel) (typ_lt ho (by decide))
  have h2 : (List.range (alen o)).all (fun i => typ (link o i) == 7) = true := by simpa [ho] using h
  simpa using List.all_eq_true.mp h2 i (List.mem_range.mpr hi)
/-! ===== the world that a memory spells ===== -/
abbrev WE : Type := va_G × (Nat → ClassId) × (Nat → Nat) × (Nat → Nat) × (Nat → Nat)
def wD (w : WE) : va_G := w.1
def wC (w : WE) : Nat → ClassId := w.2.1
def wa (w : WE) : Nat → Nat := w.2.2.1
def wk (w : WE) : Nat → Nat := w.2.2.2.1
def wv (w : WE) : Nat → Nat := w.2.2.2.2
def cellF (a : Nat → Nat) (M : Mem) (o : Nat) : List Value := (List.range (nfs (typ o))).map (fun k => if isRf (typ o) k = true then .ref (a (link o k)) else .int (M o k))
def cellE (cA : Nat → ClassId) (a : Nat → Nat) (M : Mem) (o : Nat) : va_E := if typ o < 10 then .inr (typ o, cellF a M o) else if typ o = 13 then .inl (cA 3, alen o, .inr (.inr (.inr (.inr (fun i => some (a (link o i))))))) else .inl (cA (typ o - 10), alen o, .inl (M o))
def wsW (w : WE) (M : Mem) : va_W := (List.range 103).map (fun o => (wa w o, cellE (wC w) (wa w) M o))
def tysW (w : WE) : List (ClassId × FieldType) := [(wC w 0, .byte), (wC w 1, .int), (wC w 2, .boolean), (wC w 3, .object "ChairTooFew$Walker")]
theorem wsW_get (w : WE) (M : Mem) {o : Nat} (ho : o < 103) : (wsW w M)[o]? = some (wa w o, cellE (wC w) (wa w) M o) := by simp [wsW, ho]
theorem cellE_o {cA : Nat → ClassId} {a : Nat → Nat} {M : Mem} {o c : Nat} (h : typ o = c) (hc : c < 10) : cellE cA a M o = .inr (c, cellF a M o) := by
  subst h; simp [cellE, hc]
theorem cellE_w {cA : Nat → ClassId} {a : Nat → Nat} {M : Mem} {o : Nat} (h : typ o = 13) : cellE cA a M o = .inl (cA 3, alen o, .inr (.inr (.inr (.inr (fun i => some (a (link o i))))))) := by
  simp [cellE, h]
theorem cellE_a {cA : Nat → ClassId} {a : Nat → Nat} {M : Mem} {o c : Nat} (h : typ o = c) (h1 : 10 ≤ c) (h2 : c < 13) : cellE cA a M o = .inl (cA (c - 10), alen o, .inl (M o)) := by
  have e1 : ¬ typ o < 10 := by omega
  have e2 : ¬ typ o = 13 := by omega
  unfold cellE
  rw [if_neg e1, if_neg e2, h]
theorem wsW_o (w : WE) (M : Mem) {o c : Nat} (h : typ o = c) (hc : c < 10) : (wsW w M)[o]? = some (wa w o, .inr (c, cellF (wa w) M o)) := by
  rw [wsW_get w M (typ_lt h (by omega)), cellE_o h hc]
theorem wsW_w (w : WE) (M : Mem) {o : Nat} (h : typ o = 13) : (wsW w M)[o]? = some (wa w o, .inl (wC w 3, alen o, .inr (.inr (.inr (.inr (fun i => some (wa w (link o i)))))))) := by
  rw [wsW_get w M (typ_lt h (by omega)), cellE_w h]
theorem wsW_a (w : WE) (M : Mem) {o c : Nat} (h : typ o = c) (h1 : 10 ≤ c) (h2 : c < 13) : (wsW w M)[o]? = some (wa w o, .inl (wC w (c - 10), alen o, .inl (M o))) := by
  rw [wsW_get w M (typ_lt h (by omega)), cellE_a h h1 h2]
theorem cellF_get {a : Nat → Nat} {M : Mem} {o c k : Nat} (h : typ o = c) (hk : k < nfs c) : (cellF a M o)[k]? = some (if isRf c k = true then .ref (a (link o k)) else .int (M o k)) := by
  subst h; simp [cellF, hk]
theorem cellF_len {a : Nat → Nat} {M : Mem} {o c : Nat} (h : typ o = c) : (cellF a M o).length = nfs c := by
  subst h; simp [cellF]
theorem cellF_set {a : Nat → Nat} {M : Mem} {o c k : Nat} {x : Int32} (h : typ o = c) (hr : isRf c k = false) : (cellF a M o).set k (.int x) = cellF a (mset M o k x) o := by
  subst h
  apply List.ext_getElem?
  intro j
  rw [List.getElem?_set]
  by_cases hj : j < nfs (typ o)
  · rw [cellF_get rfl hj, cellF_get rfl hj]
    by_cases hjk : k = j
    · subst hjk
      rw [if_pos rfl, if_pos (by rw [cellF_len rfl]; exact hj), hr]
      simp [mset, mrow, upd]
    · rw [if_neg hjk]
      have : mset M o k x o j = M o j := by simp [mset, mrow, upd, Ne.symm hjk]
      rw [this]
  · have e1 : (cellF a M o)[j]? = none := List.getElem?_eq_none (by rw [cellF_len rfl]; omega)
    have e2 : (cellF a (mset M o k x) o)[j]? = none := List.getElem?_eq_none (by rw [cellF_len rfl]; omega)
    rw [e1, e2]
    by_cases hjk : k = j
    · rw [if_pos hjk, if_neg (by rw [cellF_len rfl]; omega)]
    · rw [if_neg hjk]
theorem cellE_ne {cA : Nat → ClassId} {a : Nat → Nat} {M M' : Mem} {o : Nat} (h : M' o = M o) : cellE cA a M' o = cellE cA a M o := by
  simp only [cellE, cellF, h]
theorem wsW_set (w : WE) (M : Mem) {o : Nat} (ho : o < 103) (f : Nat → Int32) : (wsW w M).set o (wa w o, cellE (wC w) (wa w) (mrow M o f) o) = wsW w (mrow M o f) := by
  apply List.ext_getElem?
  intro j
  rw [List.getElem?_set]
  by_cases hj : j < 103
  · rw [wsW_get w _ hj, wsW_get w _ hj]
    by_cases hjo : o = j
    · subst hjo
      rw [if_pos rfl, if_pos (by simp [wsW, ho])]
    · rw [if_neg hjo, cellE_ne (M := M) (M' := mrow M o f) (if_neg (fun h => hjo h.symm))]
  · have e1 : ∀ M' : Mem, (wsW w M')[j]? = none := fun M' => List.getElem?_eq_none (by simp [wsW]; omega)
    rw [e1, e1]
    by_cases hjo : o = j
    · omega
    · rw [if_neg hjo]
def AW (w : WE) : Nat → Prop := fun q => ∃ o : Nat, o < 103 ∧ q = wa w o
theorem wsW_A (w : WE) (M : Mem) : ∀ (k : Nat) (q : Nat × va_E), (wsW w M)[k]? = some q → AW w q.1 := by
  intro k q h
  have hk : k < 103 := by
    have := (List.getElem?_eq_some_iff.mp h).1
    simpa [wsW] using this
  rw [wsW_get w M hk] at h
  cases h
  exact ⟨k, hk, rfl⟩
def slen : List Nat := [3, 3, 7, 5, 3, 0]
def sbyt : List (List Int32) := [[110, 35, 59], [99, 35, 59], [119, 35, 44, 100, 44, 35, 59], [112, 100, 44, 35, 59], [102, 100, 59], []]
def sidx : List Nat := [66, 68, 70, 72, 74, 76]
def stxt : List String := ["n#;", "c#;", "w#,d,#;", "pd,#;", "fd;", ""]
def nestL : List (String × Nat) := [("ChairTooFew$Party", 100), ("ChairTooFew$Player", 21), ("ChairTooFew$Text", 101)]
/-- the texts and the statics that stand outside the world -/
def SE (w : WE) (U : State) (H : Heap) : Prop := vk_S 6 slen sbyt (wk w) (wv w) (AW w) U H ∧ (∀ i : Nat, i < 6 → vk_R RX6 (sidx.getD i 0) (stxt.getD i "") (wk w i) U) ∧ va_Z "java/lang/String" "COMPACT_STRINGS" "Z" (.int 1) (AW w) U H ∧ va_Zq "jdk/internal/util/Preconditions" "SIOOBE_FORMATTER" "Ljava/util/function/BiFunction;" (AW w) U H ∧ ∀ q ∈ nestL, va_Nw (.methodLinkNest q.1 q.2 yX8_whyNotWithin "ChairTooFew") U
theorem SE.warm {w : WE} {s U : State} {H : Heap} (hW : s.WarmedH U.vm) (h : SE w s H) : SE w U H :=
  ⟨vk_S.moved hW.alike h.1, fun i hi => vk_R.warm hW (h.2.1 i hi), va_Z.moved hW.alike h.2.2.1, va_Zq.moved hW.alike h.2.2.2.1, fun q hq => va_Nw.warmM hW (h.2.2.2.2 q hq)⟩
theorem SE.same {w : WE} {u U : State} {H : Heap} (hv : U.vm = u.vm) (h : SE w u H) : SE w U H :=
  ⟨vk_S.moved (u := u) (U := U) (by rw [hv]; exact Vm.Alike.refl _) h.1, fun i hi => vk_R.same hv (h.2.1 i hi), va_Z.moved (u := u) (U := U) (by rw [hv]; exact Vm.Alike.refl _) h.2.2.1, va_Zq.moved (u := u) (U := U) (by rw [hv]; exact Vm.Alike.refl _) h.2.2.2.1, fun q hq => va_Nw.same rfl hv.symm (h.2.2.2.2 q hq)⟩
theorem SE.kept {w : WE} {U : State} {H H1 : Heap} (h : SE w U H) (hq : ∀ a : Nat, a < H.size → ¬ AW w a → H1[a]? = H[a]?) : SE w U H1 :=
  ⟨h.1.kept hq, h.2.1, h.2.2.1.kept hq, h.2.2.2.1.kept hq, h.2.2.2.2⟩
def WD (w : WE) (M : Mem) (U : State) : Prop := va_P (wD w) vwCl (wsW w M) U.heap ∧ va_K (wD w) vwCl (tysW w) U ∧ va_D (fun _ => True) (wsW w M) ∧ SE w U U.heap
/-- behind a method -/
def WB (w : WE) (M : Mem) (U : State) : Prop := va_P (wD w) vwCl (wsW w M) U.heap ∧ va_D (fun _ => True) (wsW w M)
abbrev wz (y : MethodName) (b : ByteArray) (n : Nat) (ret : Option FieldType) : List Cond := Cond.code y b n ret :: BIG
theorem big_good : BIG.all goodWord = true := List.all_eq_true.mpr (fun _ h => (List.mem_filter.mp h).2)
theorem gd_1 {c : Cond} (h : c ∈ BIG) : c ∈ BIG ∧ ((c.onTables && c.keeps) = true ∨ ∃ ty, c = .arrayClass ty) := ⟨h, good_of_word (List.all_eq_true.mp big_good c h)⟩
theorem gd_z {y : MethodName} {b : ByteArray} {n : Nat} {ret : Option FieldType} (h5 : Cond.code y b n ret ∈ BIG) : GoodIn BIG (wz y b n ret) := fun w h => by
  rcases List.mem_cons.mp h with rfl | h
  · exact gd_1 h5
  · exact gd_1 h
theorem gd_v {own Cn : String} {idx : Nat} {y : MethodName} {b : ByteArray} {n : Nat} {ret : Option FieldType} (h1 : Cond.methodLink own idx y ∈ BIG) (h2 : Cond.instanceMethod y ∈ BIG) (h3 : Cond.selects Cn y y ∈ BIG) (h4 : Cond.initialized Cn ∈ BIG) (h5 : Cond.code y b n ret ∈ BIG) : GoodIn BIG (wsV own idx Cn y (wz y b n ret)) := fun w h => by
  rcases List.mem_append.mp h with h | h
  · simp only [List.mem_cons, List.not_mem_nil, or_false] at h
    rcases h with rfl | rfl | rfl | rfl
    · exact gd_1 h1
    · exact gd_1 h2
    · exact gd_1 h3
    · exact gd_1 h4
  · exact gd_z h5 w h
theorem gd_s {own : String} {idx : Nat} {y : MethodName} {b : ByteArray} {n : Nat} {ret : Option FieldType} (h1 : Cond.methodLink own idx y ∈ BIG) (h2 : Cond.static y ∈ BIG) (h4 : Cond.initialized y.cls ∈ BIG) (h5 : Cond.code y b n ret ∈ BIG) : GoodIn BIG (va_wsS own idx y (wz y b n ret)) := fun w h => by
  rcases List.mem_append.mp h with h | h
  · simp only [List.mem_cons, List.not_mem_nil, or_false] at h
    rcases h with rfl | rfl | rfl
    · exact gd_1 h1
    · exact gd_1 h2
    · exact gd_1 h4
  · exact gd_z h5 w h
/-! ===== the judgement: what is left to be done, as a program over the memory, and the machine ===== -/
abbrev Res : Type := Int32 × Mem
abbrev GT : Type := Program × Launch × Env × Room × State × MethodId × Array Value × List Frame × Method × Code × Nat × Nat × (State → Prop) × (Nat → Prop) × Nat × Res
def gl (g : GT) : Launch := g.2.1
def WH (w : WE) (A : Nat → Prop) (s : State) (M : Mem) (H : Heap) (locs : List Loc) : Prop := va_P (wD w) vwCl (wsW w M) H ∧ va_D A (wsW w M) ∧ va_S A s.heap H locs
def J (w : WE) (g : GT) (E : Option Res) (M : Mem) (pc : Nat) (lv : List (Nat × Value)) (st : List Value) : Prop :=
  match g with
  | (p, l, e, R, s, m, args, below, meth, c, ce, sl, Q, A, nL, res) => ∀ (H : Heap) (locs : List Loc) (ls : Array Slot), WH w A s M H locs → lv_has ls nL lv → E = some res → W p l e R s m args below meth c H locs ce sl Q (F0 m pc ls st)
def CT (w : WE) (g : GT) (own : String) (cc : ByteArray) (rm : Room) (n : Nat) : Prop :=
  match g with
  | (p, _, _, R, s, m, args, _, _, c, ce, sl, _, A, nL, _) => p.tables.exec = Jvm.exec ∧ c.code = cc ∧ c.maxLocals = nL ∧ s.vm.findClass own = some m.cls ∧ (∀ x ∈ BIG, x.before args s = true) ∧ va_K (wD w) vwCl (tysW w) s ∧ SE w s s.heap ∧ R = rm ∧ ce ≤ R.cells ∧ sl ≤ R.slots ∧ (∀ q, AW w q → A q) ∧ (∀ q, q < s.heap.size → A q → AW w q) ∧ nL = n
def RTi (w : WE) (g : GT) (cc : ByteArray) (ty : FieldType) : Prop :=
  match g with
  | (p, l, e, R, s, m, args, below, meth, c, ce, sl, Q, A, _, res) => ∀ (H : Heap) (locs : List Loc) (ls : Array Slot) (M : Mem) (x : Int32) (pc : Nat), WH w A s M H locs → (x, M) = res → decode cc pc = .ok (.ireturn, 1) → narrow ty (.int x) = .int x → W p l e R s m args below meth c H locs ce sl Q (F0 m pc ls [.int x])
def RTv (w : WE) (g : GT) (cc : ByteArray) : Prop :=
  match g with
  | (p, l, e, R, s, m, args, below, meth, c, ce, sl, Q, A, _, res) => ∀ (H : Heap) (locs : List Loc) (ls : Array Slot) (M : Mem) (pc : Nat), WH w A s M H locs → M = res.2 → decode cc pc = .ok (.return_, 1) → W p l e R s m args below meth c H locs ce sl Q (F0 m pc ls [])
/-- a method's contract: where its program over the memory comes to an end, it returns so -/
def MC (l : Launch) (w : WE) (y : MethodName) (ws : List Cond) (rm : Room) (As : List Value) (E : Option Res) (M : Mem) : Prop := ∀ res : Res, E = some res → Met l y ws rm (va_Pc As (fun U => WD w M U)) (va_Qi (fun (r : Int32) (M' : Mem) => (r, M') = res) (fun M' t => WB w M' t) (AW w)) 0 0 (AW w)
def MV (l : Launch) (w : WE) (y : MethodName) (ws : List Cond) (rm : Room) (As : List Value) (E : Option Res) (M : Mem) : Prop := ∀ res : Res, E = some res → Met l y ws rm (va_Pc As (fun U => WD w M U)) (va_Qv (fun M' : Mem => M' = res.2) (fun M' t => WB w M' t) (AW w)) 0 0 (AW w)

section JR
variable {w : WE} {g : GT} {own : String} {cc : ByteArray} {rm : Room} {n : Nat} {E E1 E2 : Option Res} {M : Mem} {pc : Nat} {lv lv' : List (Nat × Value)} {st : List Value}

theorem J_iconst (C : CT w g own cc rm n) {i : Int} {v : Int32} (hdg : decode cc pc = .ok (.iconst i, 1)) (hv : Int32.ofInt i = v) (k : J w g E M (pc + 1) lv (.int v :: st)) : J w g E M pc lv st := by
  obtain ⟨p, l, e, R, s, m, args, below, meth, c, ce, sl, Q, A, nL, res⟩ := g
  obtain ⟨hx, hb, hml, hown, hts, hK, hSE, hR, hce, hsl, hA, hA2, hn⟩ := C
  intro H locs ls hW hl hE
  exact lv_iconst hx hb hdg hv (k H locs ls hW hl hE)

theorem J_bipush (C : CT w g own cc rm n) {i : Int} {v : Int32} (hdg : decode cc pc = .ok (.bipush i, 2)) (hv : (Int8.ofInt i).toInt32 = v) (k : J w g E M (pc + 2) lv (.int v :: st)) : J w g E M pc lv st := by
  obtain ⟨p, l, e, R, s, m, args, below, meth, c, ce, sl, Q, A, nL, res⟩ := g
  obtain ⟨hx, hb, hml, hown, hts, hK, hSE, hR, hce, hsl, hA, hA2, hn⟩ := C
  intro H locs ls hW hl hE
  exact lv_bipush hx hb hdg hv (k H locs ls hW hl hE)

theorem J_sipush (C : CT w g own cc rm n) {i : Int} {v : Int32} (hdg : decode cc pc = .ok (.sipush i, 3)) (hv : (Int16.ofInt i).toInt32 = v) (k : J w g E M (pc + 3) lv (.int v :: st)) : J w g E M pc lv st := by
  obtain ⟨p, l, e, R, s, m, args, below, meth, c, ce, sl, Q, A, nL, res⟩ := g
  obtain ⟨hx, hb, hml, hown, hts, hK, hSE, hR, hce, hsl, hA, hA2, hn⟩ := C
  intro H locs ls hW hl hE
  exact lv_sipush hx hb hdg hv (k H locs ls hW hl hE)

theorem J_ldc (C : CT w g own cc rm n) {i : Nat} {v : Int32} (hc : Jvm.Cond.constant own i v ∈ BIG) (hdg : decode cc pc = .ok (.ldc i, 2)) (k : J w g E M (pc + 2) lv (.int v :: st)) : J w g E M pc lv st := by
  obtain ⟨p, l, e, R, s, m, args, below, meth, c, ce, sl, Q, A, nL, res⟩ := g
  obtain ⟨hx, hb, hml, hown, hts, hK, hSE, hR, hce, hsl, hA, hA2, hn⟩ := C
  intro H locs ls hW hl hE
  exact lv_ldc hx hb hown (hts _ hc) hdg (k H locs ls hW hl hE)

theorem J_ldcw (C : CT w g own cc rm n) {i : Nat} {v : Int32} (hc : Jvm.Cond.constant own i v ∈ BIG) (hdg : decode cc pc = .ok (.ldc_w i, 3)) (k : J w g E M (pc + 3) lv (.int v :: st)) : J w g E M pc lv st := by
  obtain ⟨p, l, e, R, s, m, args, below, meth, c, ce, sl, Q, A, nL, res⟩ := g
  obtain ⟨hx, hb, hml, hown, hts, hK, hSE, hR, hce, hsl, hA, hA2, hn⟩ := C
  intro H locs ls hW hl hE
  exact lv_ldcw hx hb hown (hts _ hc) hdg (k H locs ls hW hl hE)

theorem J_iushr (C : CT w g own cc rm n) {x y : Int32} (hdg : decode cc pc = .ok (.iushr, 1)) (k : J w g E M (pc + 1) lv (.int (x.toUInt32 >>> (y.toUInt32 &&& Int32.toUInt32 31)).toInt32 :: st)) : J w g E M pc lv (.int y :: .int x :: st) := by
  obtain ⟨p, l, e, R, s, m, args, below, meth, c, ce, sl, Q, A, nL, res⟩ := g
  obtain ⟨hx, hb, hml, hown, hts, hK, hSE, hR, hce, hsl, hA, hA2, hn⟩ := C
  intro H locs ls hW hl hE
  exact lv_iushr hx hb hdg rfl (k H locs ls hW hl hE)

theorem J_ldc2 (C : CT w g own cc rm n) {i : Nat} {v : Int64} (hc : Jvm.Cond.constantLong own i v ∈ BIG) (hdg : decode cc pc = .ok (.ldc2_w i, 3)) (k : J w g E M (pc + 3) lv (.long v :: st)) : J w g E M pc lv st := by
  obtain ⟨p, l, e, R, s, m, args, below, meth, c, ce, sl, Q, A, nL, res⟩ := g
  obtain ⟨hx, hb, hml, hown, hts, hK, hSE, hR, hce, hsl, hA, hA2, hn⟩ := C
  intro H locs ls hW hl hE
  exact lv_ldc2 hx hb hown (hts _ hc) hdg (k H locs ls hW hl hE)

theorem J_iload_n (C : CT w g own cc rm n) {k4 : Fin 4} {i : Nat} {x : Int32} (hdg : decode cc pc = .ok (.iload_n k4, 1)) (hi : (k4 : Nat) = i) (q : Nat) (hq : lv[q]? = some (i, .int x)) (k : J w g E M (pc + 1) lv (.int x :: st)) : J w g E M pc lv st := by
  obtain ⟨p, l, e, R, s, m, args, below, meth, c, ce, sl, Q, A, nL, res⟩ := g
  obtain ⟨hx, hb, hml, hown, hts, hK, hSE, hR, hce, hsl, hA, hA2, hn⟩ := C
  intro H locs ls hW hl hE
  exact lv_iload_n hx hb hdg hi (lv_at hl q hq) (k H locs ls hW hl hE)

theorem J_iload (C : CT w g own cc rm n) {i : Nat} {x : Int32} (hdg : decode cc pc = .ok (.iload i, 2)) (q : Nat) (hq : lv[q]? = some (i, .int x)) (k : J w g E M (pc + 2) lv (.int x :: st)) : J w g E M pc lv st := by
  obtain ⟨p, l, e, R, s, m, args, below, meth, c, ce, sl, Q, A, nL, res⟩ := g
  obtain ⟨hx, hb, hml, hown, hts, hK, hSE, hR, hce, hsl, hA, hA2, hn⟩ := C
  intro H locs ls hW hl hE
  exact lv_iload hx hb hdg (lv_at hl q hq) (k H locs ls hW hl hE)

theorem J_lload_n (C : CT w g own cc rm n) {k4 : Fin 4} {i : Nat} {x : Int64} (hdg : decode cc pc = .ok (.lload_n k4, 1)) (hi : (k4 : Nat) = i) (q : Nat) (hq : lv[q]? = some (i, .long x)) (k : J w g E M (pc + 1) lv (.long x :: st)) : J w g E M pc lv st := by
  obtain ⟨p, l, e, R, s, m, args, below, meth, c, ce, sl, Q, A, nL, res⟩ := g
  obtain ⟨hx, hb, hml, hown, hts, hK, hSE, hR, hce, hsl, hA, hA2, hn⟩ := C
  intro H locs ls hW hl hE
  exact lv_lload_n hx hb hdg hi (lv_at hl q hq) (k H locs ls hW hl hE)

theorem J_aload_n (C : CT w g own cc rm n) {k4 : Fin 4} {i : Nat} {x : Nat} (hdg : decode cc pc = .ok (.aload_n k4, 1)) (hi : (k4 : Nat) = i) (q : Nat) (hq : lv[q]? = some (i, .ref x)) (k : J w g E M (pc + 1) lv (.ref x :: st)) : J w g E M pc lv st := by
  obtain ⟨p, l, e, R, s, m, args, below, meth, c, ce, sl, Q, A, nL, res⟩ := g
  obtain ⟨hx, hb, hml, hown, hts, hK, hSE, hR, hce, hsl, hA, hA2, hn⟩ := C
  intro H locs ls hW hl hE
  exact lv_aload_n hx hb hdg hi (lv_at hl q hq) (k H locs ls hW hl hE)

theorem J_aload (C : CT w g own cc rm n) {i : Nat} {x : Nat} (hdg : decode cc pc = .ok (.aload i, 2)) (q : Nat) (hq : lv[q]? = some (i, .ref x)) (k : J w g E M (pc + 2) lv (.ref x :: st)) : J w g E M pc lv st := by
  obtain ⟨p, l, e, R, s, m, args, below, meth, c, ce, sl, Q, A, nL, res⟩ := g
  obtain ⟨hx, hb, hml, hown, hts, hK, hSE, hR, hce, hsl, hA, hA2, hn⟩ := C
  intro H locs ls hW hl hE
  exact lv_aload hx hb hdg (lv_at hl q hq) (k H locs ls hW hl hE)

theorem J_istore_n (C : CT w g own cc rm n) {k4 : Fin 4} {i : Nat} {x : Int32} (hdg : decode cc pc = .ok (.istore_n k4, 1)) (hi : (k4 : Nat) = i) (hin : i < n) (hlv : (i, Value.int x) :: lv.filter (fun q => !(q.1 == i) && !(q.1 + 1 == i && q.2.category == 2)) = lv') (k : J w g E M (pc + 1) lv' st) : J w g E M pc lv (.int x :: st) := by
  obtain ⟨p, l, e, R, s, m, args, below, meth, c, ce, sl, Q, A, nL, res⟩ := g
  obtain ⟨hx, hb, hml, hown, hts, hK, hSE, hR, hce, hsl, hA, hA2, hn⟩ := C
  intro H locs ls hW hl hE
  exact lv_istore_n hx hb hdg hi hl (by rw [hn]; exact hin) hlv (fun ls' hl' => k H locs ls' hW hl' hE)

theorem J_istore (C : CT w g own cc rm n) {i : Nat} {x : Int32} (hdg : decode cc pc = .ok (.istore i, 2)) (hin : i < n) (hlv : (i, Value.int x) :: lv.filter (fun q => !(q.1 == i) && !(q.1 + 1 == i && q.2.category == 2)) = lv') (k : J w g E M (pc + 2) lv' st) : J w g E M pc lv (.int x :: st) := by
  obtain ⟨p, l, e, R, s, m, args, below, meth, c, ce, sl, Q, A, nL, res⟩ := g
  obtain ⟨hx, hb, hml, hown, hts, hK, hSE, hR, hce, hsl, hA, hA2, hn⟩ := C
  intro H locs ls hW hl hE
  exact lv_istore hx hb hdg hl (by rw [hn]; exact hin) hlv (fun ls' hl' => k H locs ls' hW hl' hE)

theorem J_astore_n (C : CT w g own cc rm n) {k4 : Fin 4} {i : Nat} {x : Nat} (hdg : decode cc pc = .ok (.astore_n k4, 1)) (hi : (k4 : Nat) = i) (hin : i < n) (hlv : (i, Value.ref x) :: lv.filter (fun q => !(q.1 == i) && !(q.1 + 1 == i && q.2.category == 2)) = lv') (k : J w g E M (pc + 1) lv' st) : J w g E M pc lv (.ref x :: st) := by
  obtain ⟨p, l, e, R, s, m, args, below, meth, c, ce, sl, Q, A, nL, res⟩ := g
  obtain ⟨hx, hb, hml, hown, hts, hK, hSE, hR, hce, hsl, hA, hA2, hn⟩ := C
  intro H locs ls hW hl hE
  exact lv_astore_n hx hb hdg hi hl (by rw [hn]; exact hin) hlv (fun ls' hl' => k H locs ls' hW hl' hE)

theorem J_astore (C : CT w g own cc rm n) {i : Nat} {x : Nat} (hdg : decode cc pc = .ok (.astore i, 2)) (hin : i < n) (hlv : (i, Value.ref x) :: lv.filter (fun q => !(q.1 == i) && !(q.1 + 1 == i && q.2.category == 2)) = lv') (k : J w g E M (pc + 2) lv' st) : J w g E M pc lv (.ref x :: st) := by
  obtain ⟨p, l, e, R, s, m, args, below, meth, c, ce, sl, Q, A, nL, res⟩ := g
  obtain ⟨hx, hb, hml, hown, hts, hK, hSE, hR, hce, hsl, hA, hA2, hn⟩ := C
  intro H locs ls hW hl hE
  exact lv_astore hx hb hdg hl (by rw [hn]; exact hin) hlv (fun ls' hl' => k H locs ls' hW hl' hE)

theorem J_iinc (C : CT w g own cc rm n) {i q : Nat} {d : Int} {x X : Int32} {F : Int32 → Option Res} {lw : Int32 → List (Nat × Value)} (hdg : decode cc pc = .ok (.iinc i d, 3)) (hq : lv[q]? = some (i, .int x)) (hv : x + Int32.ofInt d = X) (hin : i < n) (hlv : ∀ v : Int32, (i, Value.int v) :: lv.filter (fun q => !(q.1 == i) && !(q.1 + 1 == i && q.2.category == 2)) = lw v) (k : ∀ v : Int32, J w g (F v) M (pc + 3) (lw v) st) : J w g (ilet X F) M pc lv st := by
  obtain ⟨p, l, e, R, s, m, args, below, meth, c, ce, sl, Q, A, nL, res⟩ := g
  obtain ⟨hx, hb, hml, hown, hts, hK, hSE, hR, hce, hsl, hA, hA2, hn⟩ := C
  intro H locs ls hW hl hE
  exact lv_iinc hx hb hdg hl hq hv (by rw [hn]; exact hin) (hlv X) (fun ls' hl' => k X H locs ls' hW hl' hE)

theorem J_iadd (C : CT w g own cc rm n) {x y : Int32} (hdg : decode cc pc = .ok (.iadd, 1)) (k : J w g E M (pc + 1) lv (.int (x + y) :: st)) : J w g E M pc lv (.int y :: .int x :: st) := by
  obtain ⟨p, l, e, R, s, m, args, below, meth, c, ce, sl, Q, A, nL, res⟩ := g
  obtain ⟨hx, hb, hml, hown, hts, hK, hSE, hR, hce, hsl, hA, hA2, hn⟩ := C
  intro H locs ls hW hl hE
  exact lv_iadd hx hb hdg (k H locs ls hW hl hE)

theorem J_isub (C : CT w g own cc rm n) {x y : Int32} (hdg : decode cc pc = .ok (.isub, 1)) (k : J w g E M (pc + 1) lv (.int (x - y) :: st)) : J w g E M pc lv (.int y :: .int x :: st) := by
  obtain ⟨p, l, e, R, s, m, args, below, meth, c, ce, sl, Q, A, nL, res⟩ := g
  obtain ⟨hx, hb, hml, hown, hts, hK, hSE, hR, hce, hsl, hA, hA2, hn⟩ := C
  intro H locs ls hW hl hE
  exact lv_isub hx hb hdg (k H locs ls hW hl hE)

theorem J_imul (C : CT w g own cc rm n) {x y : Int32} (hdg : decode cc pc = .ok (.imul, 1)) (k : J w g E M (pc + 1) lv (.int (x * y) :: st)) : J w g E M pc lv (.int y :: .int x :: st) := by
  obtain ⟨p, l, e, R, s, m, args, below, meth, c, ce, sl, Q, A, nL, res⟩ := g
  obtain ⟨hx, hb, hml, hown, hts, hK, hSE, hR, hce, hsl, hA, hA2, hn⟩ := C
  intro H locs ls hW hl hE
  exact lv_imul hx hb hdg (k H locs ls hW hl hE)

theorem J_iand (C : CT w g own cc rm n) {x y : Int32} (hdg : decode cc pc = .ok (.iand, 1)) (k : J w g E M (pc + 1) lv (.int (x &&& y) :: st)) : J w g E M pc lv (.int y :: .int x :: st) := by
  obtain ⟨p, l, e, R, s, m, args, below, meth, c, ce, sl, Q, A, nL, res⟩ := g
  obtain ⟨hx, hb, hml, hown, hts, hK, hSE, hR, hce, hsl, hA, hA2, hn⟩ := C
  intro H locs ls hW hl hE
  exact lv_iand hx hb hdg (k H locs ls hW hl hE)

theorem J_ior (C : CT w g own cc rm n) {x y : Int32} (hdg : decode cc pc = .ok (.ior, 1)) (k : J w g E M (pc + 1) lv (.int (x ||| y) :: st)) : J w g E M pc lv (.int y :: .int x :: st) := by
  obtain ⟨p, l, e, R, s, m, args, below, meth, c, ce, sl, Q, A, nL, res⟩ := g
  obtain ⟨hx, hb, hml, hown, hts, hK, hSE, hR, hce, hsl, hA, hA2, hn⟩ := C
  intro H locs ls hW hl hE
  exact lv_ior hx hb hdg (k H locs ls hW hl hE)

theorem J_ishl (C : CT w g own cc rm n) {x y : Int32} (hdg : decode cc pc = .ok (.ishl, 1)) (k : J w g E M (pc + 1) lv (.int (x <<< (y &&& 31)) :: st)) : J w g E M pc lv (.int y :: .int x :: st) := by
  obtain ⟨p, l, e, R, s, m, args, below, meth, c, ce, sl, Q, A, nL, res⟩ := g
  obtain ⟨hx, hb, hml, hown, hts, hK, hSE, hR, hce, hsl, hA, hA2, hn⟩ := C
  intro H locs ls hW hl hE
  exact lv_ishl hx hb hdg (k H locs ls hW hl hE)

theorem J_ishr (C : CT w g own cc rm n) {x y : Int32} (hdg : decode cc pc = .ok (.ishr, 1)) (k : J w g E M (pc + 1) lv (.int (x >>> (y &&& 31)) :: st)) : J w g E M pc lv (.int y :: .int x :: st) := by
  obtain ⟨p, l, e, R, s, m, args, below, meth, c, ce, sl, Q, A, nL, res⟩ := g
  obtain ⟨hx, hb, hml, hown, hts, hK, hSE, hR, hce, hsl, hA, hA2, hn⟩ := C
  intro H locs ls hW hl hE
  exact lv_ishr hx hb hdg (k H locs ls hW hl hE)

theorem J_land (C : CT w g own cc rm n) {x y : Int64} (hdg : decode cc pc = .ok (.land, 1)) (k : J w g E M (pc + 1) lv (.long (x &&& y) :: st)) : J w g E M pc lv (.long y :: .long x :: st) := by
  obtain ⟨p, l, e, R, s, m, args, below, meth, c, ce, sl, Q, A, nL, res⟩ := g
  obtain ⟨hx, hb, hml, hown, hts, hK, hSE, hR, hce, hsl, hA, hA2, hn⟩ := C
  intro H locs ls hW hl hE
  exact lv_land hx hb hdg (k H locs ls hW hl hE)

theorem J_lor (C : CT w g own cc rm n) {x y : Int64} (hdg : decode cc pc = .ok (.lor, 1)) (k : J w g E M (pc + 1) lv (.long (x ||| y) :: st)) : J w g E M pc lv (.long y :: .long x :: st) := by
  obtain ⟨p, l, e, R, s, m, args, below, meth, c, ce, sl, Q, A, nL, res⟩ := g
  obtain ⟨hx, hb, hml, hown, hts, hK, hSE, hR, hce, hsl, hA, hA2, hn⟩ := C
  intro H locs ls hW hl hE
  exact lv_lor hx hb hdg (k H locs ls hW hl hE)

theorem J_lushr (C : CT w g own cc rm n) {x : Int64} {y : Int32} (hdg : decode cc pc = .ok (.lushr, 1)) (k : J w g E M (pc + 1) lv (.long (x.toUInt64 >>> (y.toInt64.toUInt64 &&& Int64.toUInt64 63)).toInt64 :: st)) : J w g E M pc lv (.int y :: .long x :: st) := by
  obtain ⟨p, l, e, R, s, m, args, below, meth, c, ce, sl, Q, A, nL, res⟩ := g
  obtain ⟨hx, hb, hml, hown, hts, hK, hSE, hR, hce, hsl, hA, hA2, hn⟩ := C
  intro H locs ls hW hl hE
  exact lv_lushr hx hb hdg rfl (k H locs ls hW hl hE)

theorem J_lshl (C : CT w g own cc rm n) {x : Int64} {y : Int32} (hdg : decode cc pc = .ok (.lshl, 1)) (k : J w g E M (pc + 1) lv (.long (x <<< (y.toInt64 &&& 63)) :: st)) : J w g E M pc lv (.int y :: .long x :: st) := by
  obtain ⟨p, l, e, R, s, m, args, below, meth, c, ce, sl, Q, A, nL, res⟩ := g
  obtain ⟨hx, hb, hml, hown, hts, hK, hSE, hR, hce, hsl, hA, hA2, hn⟩ := C
  intro H locs ls hW hl hE
  exact lv_lshl hx hb hdg rfl (k H locs ls hW hl hE)

theorem J_lshr (C : CT w g own cc rm n) {x : Int64} {y : Int32} (hdg : decode cc pc = .ok (.lshr, 1)) (k : J w g E M (pc + 1) lv (.long (x >>> (y.toInt64 &&& 63)) :: st)) : J w g E M pc lv (.int y :: .long x :: st) := by
  obtain ⟨p, l, e, R, s, m, args, below, meth, c, ce, sl, Q, A, nL, res⟩ := g
  obtain ⟨hx, hb, hml, hown, hts, hK, hSE, hR, hce, hsl, hA, hA2, hn⟩ := C
  intro H locs ls hW hl hE
  exact lv_lshr hx hb hdg rfl (k H locs ls hW hl hE)

theorem J_ineg (C : CT w g own cc rm n) {x : Int32} (hdg : decode cc pc = .ok (.ineg, 1)) (k : J w g E M (pc + 1) lv (.int (-x) :: st)) : J w g E M pc lv (.int x :: st) := by
  obtain ⟨p, l, e, R, s, m, args, below, meth, c, ce, sl, Q, A, nL, res⟩ := g
  obtain ⟨hx, hb, hml, hown, hts, hK, hSE, hR, hce, hsl, hA, hA2, hn⟩ := C
  intro H locs ls hW hl hE
  exact lv_ineg hx hb hdg (k H locs ls hW hl hE)

theorem J_i2l (C : CT w g own cc rm n) {x : Int32} (hdg : decode cc pc = .ok (.i2l, 1)) (k : J w g E M (pc + 1) lv (.long x.toInt64 :: st)) : J w g E M pc lv (.int x :: st) := by
  obtain ⟨p, l, e, R, s, m, args, below, meth, c, ce, sl, Q, A, nL, res⟩ := g
  obtain ⟨hx, hb, hml, hown, hts, hK, hSE, hR, hce, hsl, hA, hA2, hn⟩ := C
  intro H locs ls hW hl hE
  exact lv_i2l hx hb hdg rfl (k H locs ls hW hl hE)

theorem J_l2i (C : CT w g own cc rm n) {x : Int64} (hdg : decode cc pc = .ok (.l2i, 1)) (k : J w g E M (pc + 1) lv (.int x.toInt32 :: st)) : J w g E M pc lv (.long x :: st) := by
  obtain ⟨p, l, e, R, s, m, args, below, meth, c, ce, sl, Q, A, nL, res⟩ := g
  obtain ⟨hx, hb, hml, hown, hts, hK, hSE, hR, hce, hsl, hA, hA2, hn⟩ := C
  intro H locs ls hW hl hE
  exact lv_l2i hx hb hdg rfl (k H locs ls hW hl hE)

theorem J_i2c (C : CT w g own cc rm n) {x : Int32} (hdg : decode cc pc = .ok (.i2c, 1)) (k : J w g E M (pc + 1) lv (.int (x.toUInt32 % 65536).toInt32 :: st)) : J w g E M pc lv (.int x :: st) := by
  obtain ⟨p, l, e, R, s, m, args, below, meth, c, ce, sl, Q, A, nL, res⟩ := g
  obtain ⟨hx, hb, hml, hown, hts, hK, hSE, hR, hce, hsl, hA, hA2, hn⟩ := C
  intro H locs ls hW hl hE
  exact lv_i2c hx hb hdg rfl (k H locs ls hW hl hE)

theorem J_i2b (C : CT w g own cc rm n) {x : Int32} (hdg : decode cc pc = .ok (.i2b, 1)) (k : J w g E M (pc + 1) lv (.int x.toInt8.toInt32 :: st)) : J w g E M pc lv (.int x :: st) := by
  obtain ⟨p, l, e, R, s, m, args, below, meth, c, ce, sl, Q, A, nL, res⟩ := g
  obtain ⟨hx, hb, hml, hown, hts, hK, hSE, hR, hce, hsl, hA, hA2, hn⟩ := C
  intro H locs ls hW hl hE
  exact lv_i2b hx hb hdg rfl (k H locs ls hW hl hE)

theorem J_dup (C : CT w g own cc rm n) {va : Value} (hva : va.category = 1) (hdg : decode cc pc = .ok (.dup, 1)) (k : J w g E M (pc + 1) lv (va :: va :: st)) : J w g E M pc lv (va :: st) := by
  obtain ⟨p, l, e, R, s, m, args, below, meth, c, ce, sl, Q, A, nL, res⟩ := g
  obtain ⟨hx, hb, hml, hown, hts, hK, hSE, hR, hce, hsl, hA, hA2, hn⟩ := C
  intro H locs ls hW hl hE
  exact lv_dup hx hb hdg hva (k H locs ls hW hl hE)

theorem J_pop (C : CT w g own cc rm n) {va : Value} (hva : va.category = 1) (hdg : decode cc pc = .ok (.pop, 1)) (k : J w g E M (pc + 1) lv st) : J w g E M pc lv (va :: st) := by
  obtain ⟨p, l, e, R, s, m, args, below, meth, c, ce, sl, Q, A, nL, res⟩ := g
  obtain ⟨hx, hb, hml, hown, hts, hK, hSE, hR, hce, hsl, hA, hA2, hn⟩ := C
  intro H locs ls hW hl hE
  exact lv_pop hx hb hdg hva (k H locs ls hW hl hE)

theorem J_dup2 (C : CT w g own cc rm n) {va vb : Value} (hva : va.category = 1) (hvb : vb.category = 1) (hdg : decode cc pc = .ok (.dup2, 1)) (k : J w g E M (pc + 1) lv (va :: vb :: va :: vb :: st)) : J w g E M pc lv (va :: vb :: st) := by
  obtain ⟨p, l, e, R, s, m, args, below, meth, c, ce, sl, Q, A, nL, res⟩ := g
  obtain ⟨hx, hb, hml, hown, hts, hK, hSE, hR, hce, hsl, hA, hA2, hn⟩ := C
  intro H locs ls hW hl hE
  exact lv_dup2_11 hx hb hdg hva hvb (k H locs ls hW hl hE)

theorem J_goto (C : CT w g own cc rm n) {off : Int} {tgt : Nat} (hdg : decode cc pc = .ok (.goto off, 3)) (ht : (pc : Int) + off = (tgt : Int)) (k : J w g E M tgt lv st) : J w g E M pc lv st := by
  obtain ⟨p, l, e, R, s, m, args, below, meth, c, ce, sl, Q, A, nL, res⟩ := g
  obtain ⟨hx, hb, hml, hown, hts, hK, hSE, hR, hce, hsl, hA, hA2, hn⟩ := C
  intro H locs ls hW hl hE
  exact lv_goto hx hb hdg ht (k H locs ls hW hl hE)

theorem J_idiv_c (C : CT w g own cc rm n) {x y : Int32} (hne : ¬ y = 0) (hdg : decode cc pc = .ok (.idiv, 1)) (k : J w g E M (pc + 1) lv (.int (x / y) :: st)) : J w g E M pc lv (.int y :: .int x :: st) := by
  obtain ⟨p, l, e, R, s, m, args, below, meth, c, ce, sl, Q, A, nL, res⟩ := g
  obtain ⟨hx, hb, hml, hown, hts, hK, hSE, hR, hce, hsl, hA, hA2, hn⟩ := C
  intro H locs ls hW hl hE
  exact lv_idiv hx hb hdg hne (k H locs ls hW hl hE)

theorem J_idiv (C : CT w g own cc rm n) {x y : Int32} (hdg : decode cc pc = .ok (.idiv, 1)) (k : J w g E M (pc + 1) lv (.int (x / y) :: st)) : J w g (if y = 0 then none else E) M pc lv (.int y :: .int x :: st) := by
  obtain ⟨p, l, e, R, s, m, args, below, meth, c, ce, sl, Q, A, nL, res⟩ := g
  obtain ⟨hx, hb, hml, hown, hts, hK, hSE, hR, hce, hsl, hA, hA2, hn⟩ := C
  intro H locs ls hW hl hE
  by_cases hy : y = 0
  · rw [if_pos hy] at hE; cases hE
  · rw [if_neg hy] at hE
    exact lv_idiv hx hb hdg hy (k H locs ls hW hl hE)

theorem J_irem_c (C : CT w g own cc rm n) {x y : Int32} (hne : ¬ y = 0) (hdg : decode cc pc = .ok (.irem, 1)) (k : J w g E M (pc + 1) lv (.int (x - x / y * y) :: st)) : J w g E M pc lv (.int y :: .int x :: st) := by
  obtain ⟨p, l, e, R, s, m, args, below, meth, c, ce, sl, Q, A, nL, res⟩ := g
  obtain ⟨hx, hb, hml, hown, hts, hK, hSE, hR, hce, hsl, hA, hA2, hn⟩ := C
  intro H locs ls hW hl hE
  exact lv_irem hx hb hdg hne (k H locs ls hW hl hE)

theorem J_irem (C : CT w g own cc rm n) {x y : Int32} (hdg : decode cc pc = .ok (.irem, 1)) (k : J w g E M (pc + 1) lv (.int (x - x / y * y) :: st)) : J w g (if y = 0 then none else E) M pc lv (.int y :: .int x :: st) := by
  obtain ⟨p, l, e, R, s, m, args, below, meth, c, ce, sl, Q, A, nL, res⟩ := g
  obtain ⟨hx, hb, hml, hown, hts, hK, hSE, hR, hce, hsl, hA, hA2, hn⟩ := C
  intro H locs ls hW hl hE
  by_cases hy : y = 0
  · rw [if_pos hy] at hE; cases hE
  · rw [if_neg hy] at hE
    exact lv_irem hx hb hdg hy (k H locs ls hW hl hE)

theorem J_if_eq (C : CT w g own cc rm n) {x : Int32} {off : Int} {tgt : Nat} (hdg : decode cc pc = .ok (.ifCond .eq off, 3)) (ht : (pc : Int) + off = (tgt : Int)) (k1 : x = 0 → J w g E1 M tgt lv st) (k2 : ¬ (x = 0) → J w g E2 M (pc + 3) lv st) : J w g (if x = 0 then E1 else E2) M pc lv (.int x :: st) := by
  obtain ⟨p, l, e, R, s, m, args, below, meth, c, ce, sl, Q, A, nL, res⟩ := g
  obtain ⟨hx, hb, hml, hown, hts, hK, hSE, hR, hce, hsl, hA, hA2, hn⟩ := C
  intro H locs ls hW hl hE
  refine lv_if_eq hx hb hdg ht (fun h => ?_) (fun h => ?_)
  · rw [if_pos h] at hE; exact k1 h H locs ls hW hl hE
  · rw [if_neg h] at hE; exact k2 h H locs ls hW hl hE

theorem J_if_ne (C : CT w g own cc rm n) {x : Int32} {off : Int} {tgt : Nat} (hdg : decode cc pc = .ok (.ifCond .ne off, 3)) (ht : (pc : Int) + off = (tgt : Int)) (k1 : ¬ (x = 0) → J w g E1 M tgt lv st) (k2 : x = 0 → J w g E2 M (pc + 3) lv st) : J w g (if x = 0 then E2 else E1) M pc lv (.int x :: st) := by
  obtain ⟨p, l, e, R, s, m, args, below, meth, c, ce, sl, Q, A, nL, res⟩ := g
  obtain ⟨hx, hb, hml, hown, hts, hK, hSE, hR, hce, hsl, hA, hA2, hn⟩ := C
  intro H locs ls hW hl hE
  refine lv_if_ne hx hb hdg ht (fun h => ?_) (fun h => ?_)
  · rw [if_neg h] at hE; exact k1 h H locs ls hW hl hE
  · rw [if_pos h] at hE; exact k2 h H locs ls hW hl hE

theorem J_if_lt (C : CT w g own cc rm n) {x : Int32} {off : Int} {tgt : Nat} (hdg : decode cc pc = .ok (.ifCond .lt off, 3)) (ht : (pc : Int) + off = (tgt : Int)) (k1 : x < 0 → J w g E1 M tgt lv st) (k2 : ¬ (x < 0) → J w g E2 M (pc + 3) lv st) : J w g (if x < 0 then E1 else E2) M pc lv (.int x :: st) := by
  obtain ⟨p, l, e, R, s, m, args, below, meth, c, ce, sl, Q, A, nL, res⟩ := g
  obtain ⟨hx, hb, hml, hown, hts, hK, hSE, hR, hce, hsl, hA, hA2, hn⟩ := C
  intro H locs ls hW hl hE
  refine lv_if_lt hx hb hdg ht (fun h => ?_) (fun h => ?_)
  · rw [if_pos h] at hE; exact k1 h H locs ls hW hl hE
  · rw [if_neg h] at hE; exact k2 h H locs ls hW hl hE

theorem J_if_ge (C : CT w g own cc rm n) {x : Int32} {off : Int} {tgt : Nat} (hdg : decode cc pc = .ok (.ifCond .ge off, 3)) (ht : (pc : Int) + off = (tgt : Int)) (k1 : 0 ≤ x → J w g E1 M tgt lv st) (k2 : ¬ (0 ≤ x) → J w g E2 M (pc + 3) lv st) : J w g (if 0 ≤ x then E1 else E2) M pc lv (.int x :: st) := by
  obtain ⟨p, l, e, R, s, m, args, below, meth, c, ce, sl, Q, A, nL, res⟩ := g
  obtain ⟨hx, hb, hml, hown, hts, hK, hSE, hR, hce, hsl, hA, hA2, hn⟩ := C
  intro H locs ls hW hl hE
  refine lv_if_ge hx hb hdg ht (fun h => ?_) (fun h => ?_)
  · rw [if_pos h] at hE; exact k1 h H locs ls hW hl hE
  · rw [if_neg h] at hE; exact k2 h H locs ls hW hl hE

theorem J_if_gt (C : CT w g own cc rm n) {x : Int32} {off : Int} {tgt : Nat} (hdg : decode cc pc = .ok (.ifCond .gt off, 3)) (ht : (pc : Int) + off = (tgt : Int)) (k1 : 0 < x → J w g E1 M tgt lv st) (k2 : ¬ (0 < x) → J w g E2 M (pc + 3) lv st) : J w g (if 0 < x then E1 else E2) M pc lv (.int x :: st) := by
  obtain ⟨p, l, e, R, s, m, args, below, meth, c, ce, sl, Q, A, nL, res⟩ := g
  obtain ⟨hx, hb, hml, hown, hts, hK, hSE, hR, hce, hsl, hA, hA2, hn⟩ := C
  intro H locs ls hW hl hE
  refine lv_if_gt hx hb hdg ht (fun h => ?_) (fun h => ?_)
  · rw [if_pos h] at hE; exact k1 h H locs ls hW hl hE
  · rw [if_neg h] at hE; exact k2 h H locs ls hW hl hE

theorem J_if_le (C : CT w g own cc rm n) {x : Int32} {off : Int} {tgt : Nat} (hdg : decode cc pc = .ok (.ifCond .le off, 3)) (ht : (pc : Int) + off = (tgt : Int)) (k1 : x ≤ 0 → J w g E1 M tgt lv st) (k2 : ¬ (x ≤ 0) → J w g E2 M (pc + 3) lv st) : J w g (if x ≤ 0 then E1 else E2) M pc lv (.int x :: st) := by
  obtain ⟨p, l, e, R, s, m, args, below, meth, c, ce, sl, Q, A, nL, res⟩ := g
  obtain ⟨hx, hb, hml, hown, hts, hK, hSE, hR, hce, hsl, hA, hA2, hn⟩ := C
  intro H locs ls hW hl hE
  refine lv_if_le hx hb hdg ht (fun h => ?_) (fun h => ?_)
  · rw [if_pos h] at hE; exact k1 h H locs ls hW hl hE
  · rw [if_neg h] at hE; exact k2 h H locs ls hW hl hE

theorem J_icmp_eq (C : CT w g own cc rm n) {x y : Int32} {off : Int} {tgt : Nat} (hdg : decode cc pc = .ok (.if_icmp .eq off, 3)) (ht : (pc : Int) + off = (tgt : Int)) (k1 : x = y → J w g E1 M tgt lv st) (k2 : ¬ (x = y) → J w g E2 M (pc + 3) lv st) : J w g (if x = y then E1 else E2) M pc lv (.int y :: .int x :: st) := by
  obtain ⟨p, l, e, R, s, m, args, below, meth, c, ce, sl, Q, A, nL, res⟩ := g
  obtain ⟨hx, hb, hml, hown, hts, hK, hSE, hR, hce, hsl, hA, hA2, hn⟩ := C
  intro H locs ls hW hl hE
  refine lv_icmp_eq hx hb hdg ht (fun h => ?_) (fun h => ?_)
  · rw [if_pos h] at hE; exact k1 h H locs ls hW hl hE
  · rw [if_neg h] at hE; exact k2 h H locs ls hW hl hE

theorem J_icmp_ne (C : CT w g own cc rm n) {x y : Int32} {off : Int} {tgt : Nat} (hdg : decode cc pc = .ok (.if_icmp .ne off, 3)) (ht : (pc : Int) + off = (tgt : Int)) (k1 : ¬ (x = y) → J w g E1 M tgt lv st) (k2 : x = y → J w g E2 M (pc + 3) lv st) : J w g (if x = y then E2 else E1) M pc lv (.int y :: .int x :: st) := by
  obtain ⟨p, l, e, R, s, m, args, below, meth, c, ce, sl, Q, A, nL, res⟩ := g
  obtain ⟨hx, hb, hml, hown, hts, hK, hSE, hR, hce, hsl, hA, hA2, hn⟩ := C
  intro H locs ls hW hl hE
  refine lv_icmp_ne hx hb hdg ht (fun h => ?_) (fun h => ?_)
  · rw [if_neg h] at hE; exact k1 h H locs ls hW hl hE
  · rw [if_pos h] at hE; exact k2 h H locs ls hW hl hE

theorem J_icmp_lt (C : CT w g own cc rm n) {x y : Int32} {off : Int} {tgt : Nat} (hdg : decode cc pc = .ok (.if_icmp .lt off, 3)) (ht : (pc : Int) + off = (tgt : Int)) (k1 : x < y → J w g E1 M tgt lv st) (k2 : ¬ (x < y) → J w g E2 M (pc + 3) lv st) : J w g (if x < y then E1 else E2) M pc lv (.int y :: .int x :: st) := by
  obtain ⟨p, l, e, R, s, m, args, below, meth, c, ce, sl, Q, A, nL, res⟩ := g
  obtain ⟨hx, hb, hml, hown, hts, hK, hSE, hR, hce, hsl, hA, hA2, hn⟩ := C
  intro H locs ls hW hl hE
  refine lv_icmp_lt hx hb hdg ht (fun h => ?_) (fun h => ?_)
  · rw [if_pos h] at hE; exact k1 h H locs ls hW hl hE
  · rw [if_neg h] at hE; exact k2 h H locs ls hW hl hE

theorem J_icmp_ge (C : CT w g own cc rm n) {x y : Int32} {off : Int} {tgt : Nat} (hdg : decode cc pc = .ok (.if_icmp .ge off, 3)) (ht : (pc : Int) + off = (tgt : Int)) (k1 : y ≤ x → J w g E1 M tgt lv st) (k2 : ¬ (y ≤ x) → J w g E2 M (pc + 3) lv st) : J w g (if y ≤ x then E1 else E2) M pc lv (.int y :: .int x :: st) := by
  obtain ⟨p, l, e, R, s, m, args, below, meth, c, ce, sl, Q, A, nL, res⟩ := g
  obtain ⟨hx, hb, hml, hown, hts, hK, hSE, hR, hce, hsl, hA, hA2, hn⟩ := C
  intro H locs ls hW hl hE
  refine lv_icmp_ge hx hb hdg ht (fun h => ?_) (fun h => ?_)
  · rw [if_pos h] at hE; exact k1 h H locs ls hW hl hE
  · rw [if_neg h] at hE; exact k2 h H locs ls hW hl hE

theorem J_icmp_gt (C : CT w g own cc rm n) {x y : Int32} {off : Int} {tgt : Nat} (hdg : decode cc pc = .ok (.if_icmp .gt off, 3)) (ht : (pc : Int) + off = (tgt : Int)) (k1 : y < x → J w g E1 M tgt lv st) (k2 : ¬ (y < x) → J w g E2 M (pc + 3) lv st) : J w g (if y < x then E1 else E2) M pc lv (.int y :: .int x :: st) := by
  obtain ⟨p, l, e, R, s, m, args, below, meth, c, ce, sl, Q, A, nL, res⟩ := g
  obtain ⟨hx, hb, hml, hown, hts, hK, hSE, hR, hce, hsl, hA, hA2, hn⟩ := C
  intro H locs ls hW hl hE
  refine lv_icmp_gt hx hb hdg ht (fun h => ?_) (fun h => ?_)
  · rw [if_pos h] at hE; exact k1 h H locs ls hW hl hE
  · rw [if_neg h] at hE; exact k2 h H locs ls hW hl hE

theorem J_icmp_le (C : CT w g own cc rm n) {x y : Int32} {off : Int} {tgt : Nat} (hdg : decode cc pc = .ok (.if_icmp .le off, 3)) (ht : (pc : Int) + off = (tgt : Int)) (k1 : x ≤ y → J w g E1 M tgt lv st) (k2 : ¬ (x ≤ y) → J w g E2 M (pc + 3) lv st) : J w g (if x ≤ y then E1 else E2) M pc lv (.int y :: .int x :: st) := by
  obtain ⟨p, l, e, R, s, m, args, below, meth, c, ce, sl, Q, A, nL, res⟩ := g
  obtain ⟨hx, hb, hml, hown, hts, hK, hSE, hR, hce, hsl, hA, hA2, hn⟩ := C
  intro H locs ls hW hl hE
  refine lv_icmp_le hx hb hdg ht (fun h => ?_) (fun h => ?_)
  · rw [if_pos h] at hE; exact k1 h H locs ls hW hl hE
  · rw [if_neg h] at hE; exact k2 h H locs ls hW hl hE

theorem J_ite {c : Prop} [Decidable c] (k1 : c → J w g E1 M pc lv st) (k2 : ¬ c → J w g E2 M pc lv st) : J w g (if c then E1 else E2) M pc lv st := by
  by_cases h : c
  · rw [if_pos h]; exact k1 h
  · rw [if_neg h]; exact k2 h
theorem J_mlet {F : Mem → Option Res} (k : ∀ M1, J w g (F M1) M1 pc lv st) : J w g (mlet M F) M pc lv st := k M
theorem J_ilet {F : Int32 → Option Res} {x : Int32} (k : ∀ y, J w g (F y) M pc lv (.int y :: st)) : J w g (ilet x F) M pc lv (.int x :: st) := k x
theorem J_none : J w g none M pc lv st := by
  obtain ⟨p, l, e, R, s, m, args, below, meth, c, ce, sl, Q, A, nL, res⟩ := g
  intro H locs ls hW hl hE
  cases hE
theorem J_lv (q : List Nat) (hq : lv_pick lv q = lv') (k : J w g E M pc lv' st) : J w g E M pc lv st := by
  obtain ⟨p, l, e, R, s, m, args, below, meth, c, ce, sl, Q, A, nL, res⟩ := g
  intro H locs ls hW hl hE
  exact k H locs ls hW (lv_sub hl q hq) hE
theorem J_tsin (C : CT w g own cc rm n) {x : Int32} {dflt lo hi : Int} {offs : Array Int} {len : Nat} {off : Int} {tgt : Nat} (hdg : decode cc pc = .ok (.tableswitch dflt lo hi offs, len)) (h1 : ¬ x.toInt < lo) (h2 : ¬ hi < x.toInt) (ho : offs[(x.toInt - lo).toNat]? = some off) (ht : (pc : Int) + off = (tgt : Int)) (k : J w g E M tgt lv st) : J w g E M pc lv (.int x :: st) := by
  obtain ⟨p, l, e, R, s, m, args, below, meth, c, ce, sl, Q, A, nL, res⟩ := g
  obtain ⟨hx, hb, hml, hown, hts, hK, hSE, hR, hce, hsl, hA, hA2, hn⟩ := C
  intro H locs ls hW hl hE
  exact lv_tableIn hx hb hdg h1 h2 ho ht (k H locs ls hW hl hE)
theorem J_tsout (C : CT w g own cc rm n) {x : Int32} {dflt lo hi : Int} {offs : Array Int} {len : Nat} {tgt : Nat} (hdg : decode cc pc = .ok (.tableswitch dflt lo hi offs, len)) (h : x.toInt < lo ∨ hi < x.toInt) (ht : (pc : Int) + dflt = (tgt : Int)) (k : J w g E M tgt lv st) : J w g E M pc lv (.int x :: st) := by
  obtain ⟨p, l, e, R, s, m, args, below, meth, c, ce, sl, Q, A, nL, res⟩ := g
  obtain ⟨hx, hb, hml, hown, hts, hK, hSE, hR, hce, hsl, hA, hA2, hn⟩ := C
  intro H locs ls hW hl hE
  exact lv_tableOut hx hb hdg h ht (k H locs ls hW hl hE)
theorem J_lsw (C : CT w g own cc rm n) {x : Int32} {dflt : Int} {ps : Array (Int × Int)} {len : Nat} {off : Int} {tgt : Nat} (hdg : decode cc pc = .ok (.lookupswitch dflt ps, len)) (hp : (ps.toList.zip (ps.toList.drop 1)).all (fun (a, next) => a.1 < next.1) = true) (ho : Op.lookupswitch.offset ps.toList dflt x.toInt = off) (ht : (pc : Int) + off = (tgt : Int)) (k : J w g E M tgt lv st) : J w g E M pc lv (.int x :: st) := by
  obtain ⟨p, l, e, R, s, m, args, below, meth, c, ce, sl, Q, A, nL, res⟩ := g
  obtain ⟨hx, hb, hml, hown, hts, hK, hSE, hR, hce, hsl, hA, hA2, hn⟩ := C
  intro H locs ls hW hl hE
  exact lv_lookup hx hb hdg hp ho ht (k H locs ls hW hl hE)
theorem bz_fits {x : Int32} (h : bz x) : fits .boolean (.int x) = true := by
  rcases h with rfl | rfl <;> rfl
theorem J_iret (C : CT w g own cc rm n) {ty : FieldType} (r : RTi w g cc ty) {x : Int32} (hx : narrow ty (.int x) = .int x) (hdg : decode cc pc = .ok (.ireturn, 1)) : J w g (some (x, M)) M pc lv [.int x] := by
  obtain ⟨p, l, e, R, s, m, args, below, meth, c, ce, sl, Q, A, nL, res⟩ := g
  intro H locs ls hW hl hE
  exact r H locs ls M x pc hW (Option.some.inj hE) hdg hx
theorem bz_narrow {x : Int32} (h : bz x) : narrow .boolean (.int x) = .int x := by
  rcases h with rfl | rfl <;> rfl
theorem J_zret (C : CT w g own cc rm n) (r : RTi w g cc .boolean) {x : Int32} (hdg : decode cc pc = .ok (.ireturn, 1)) : J w g (if bz x then some (x, M) else none) M pc lv [.int x] :=
  J_ite (fun h => J_iret C r (bz_narrow h) hdg) (fun _ => J_none)
theorem J_vret (C : CT w g own cc rm n) (r : RTv w g cc) (hdg : decode cc pc = .ok (.return_, 1)) : J w g (some (0, M)) M pc lv [] := by
  obtain ⟨p, l, e, R, s, m, args, below, meth, c, ce, sl, Q, A, nL, res⟩ := g
  intro H locs ls hW hl hE
  exact r H locs ls M pc hW (by rw [← Option.some.inj hE]) hdg
/-- what a program knows of a field -/
abbrev FK (Cn : String) (T : u_T) (N ci k : Nat) (ref : String) (rf : Bool) : Prop := (∀ x ∈ u_ws Cn T N, x ∈ BIG) ∧ vwCl[ci]? = some (Cn, T, N) ∧ (T k).1 = ref ∧ ci < 10 ∧ k < N ∧ k < nfs ci ∧ isRf ci k = rf
abbrev FP (T : u_T) (N k : Nat) (ty0 : Nat → FieldType) (ty : FieldType) : Prop := (∀ k, k < N → parseFieldDescriptor (T k).2.2.1 = some (ty0 k)) ∧ (∀ a, a < N → ∀ b, b < N → a ≠ b → (T a).2.1 ≠ (T b).2.1) ∧ (T k).2.2.2 = false ∧ ty0 k = ty
/-! fields -/
theorem J_get (C : CT w g own cc rm n) {ref Cn : String} {T : u_T} {N index o ci k : Nat} {v : Value} (hin : ∀ x ∈ u_ws Cn T N, x ∈ BIG) (hlink : Cond.fieldLink own index ref (T k).2.1 (T k).2.2.1 ∈ BIG) (hcl : vwCl[ci]? = some (Cn, T, N)) (hsm : (T k).1 = ref) (ho : typ o = ci) (hci : ci < 10) (hk : k < N) (hk2 : k < nfs ci) (hv : (if isRf ci k = true then Value.ref (wa w (link o k)) else Value.int (M o k)) = v) (hdg : decode cc pc = .ok (.getfield index, 3)) (kk : J w g E M (pc + 3) lv (v :: st)) : J w g E M pc lv (.ref (wa w o) :: st) := by
  obtain ⟨p, l, e, R, s, m, args, below, meth, c, ce, sl, Q, A, nL, res⟩ := g
  obtain ⟨hx, hb, hml, hown, hts, hK, hSE, hR, hce, hsl, hA, hA2, hn⟩ := C
  intro H locs ls hW hl hE
  refine va_get hx hb hts hin hown hK hW.1 o (wsW_o w M ho hci) hcl k hk (hts _ hlink) (fun x h => by rw [← hsm]; exact h) (v := v) ?_ hdg (kk H locs ls hW hl hE)
  rw [cellF_get ho hk2, hv]
theorem J_geti (C : CT w g own cc rm n) {ref Cn : String} {T : u_T} {N index o ci k : Nat} (fk : FK Cn T N ci k ref false) (hlink : Cond.fieldLink own index ref (T k).2.1 (T k).2.2.1 ∈ BIG) (ho : typ o = ci) (hdg : decode cc pc = .ok (.getfield index, 3)) (kk : J w g E M (pc + 3) lv (.int (M o k) :: st)) : J w g E M pc lv (.ref (wa w o) :: st) :=
  J_get C fk.1 hlink fk.2.1 fk.2.2.1 ho fk.2.2.2.1 fk.2.2.2.2.1 fk.2.2.2.2.2.1 (by rw [fk.2.2.2.2.2.2]; rfl) hdg kk
theorem J_getr (C : CT w g own cc rm n) {ref Cn : String} {T : u_T} {N index o ci k : Nat} (fk : FK Cn T N ci k ref true) (hlink : Cond.fieldLink own index ref (T k).2.1 (T k).2.2.1 ∈ BIG) (ho : typ o = ci) (hdg : decode cc pc = .ok (.getfield index, 3)) (kk : J w g E M (pc + 3) lv (.ref (wa w (link o k)) :: st)) : J w g E M pc lv (.ref (wa w o) :: st) :=
  J_get C fk.1 hlink fk.2.1 fk.2.2.1 ho fk.2.2.2.1 fk.2.2.2.2.1 fk.2.2.2.2.2.1 (by rw [if_pos fk.2.2.2.2.2.2]) hdg kk
theorem J_put (C : CT w g own cc rm n) {ref Cn : String} {T : u_T} {ty0 : Nat → FieldType} {ty : FieldType} {N index o ci k : Nat} {x : Int32} (hin : ∀ x ∈ u_ws Cn T N, x ∈ BIG) (hlink : Cond.fieldLink own index ref (T k).2.1 (T k).2.2.1 ∈ BIG) (hcl : vwCl[ci]? = some (Cn, T, N)) (hsm : (T k).1 = ref) (hty : ∀ k, k < N → parseFieldDescriptor (T k).2.2.1 = some (ty0 k)) (hnm : ∀ a, a < N → ∀ b, b < N → a ≠ b → (T a).2.1 ≠ (T b).2.1) (hfin : (T k).2.2.2 = false) (ho : typ o = ci) (hci : ci < 10) (hk : k < N) (hk2 : k < nfs ci) (hrf : isRf ci k = false) (htk : ty0 k = ty) (hnr : narrow ty (.int x) = .int x) (hft : fits ty (.int x) = true) (hdg : decode cc pc = .ok (.putfield index, 3)) (kk : J w g E (mset M o k x) (pc + 3) lv st) : J w g E M pc lv (.int x :: .ref (wa w o) :: st) := by
  obtain ⟨p, l, e, R, s, m, args, below, meth, c, ce, sl, Q, A, nL, res⟩ := g
  obtain ⟨hx, hb, hml, hown, hts, hK, hSE, hR, hce, hsl, hA, hA2, hn⟩ := C
  intro H locs ls hW hl hE
  have ho3 : o < 103 := typ_lt ho (by omega)
  refine va_put hx hb hts hin ty0 hty hnm hown hK hW.1 hW.2.1 hW.2.2 o (wsW_o w M ho hci) hcl k hk (hts _ hlink) (fun x h => by rw [← hsm]; exact h) hfin (ty := ty) (by rw [hty k hk, htk]) hnr hft (by rw [cellF_len ho]; exact hk2) hdg (fun H1 locs1 hP hD hS => ?_)
  rw [cellF_set ho hrf, ← cellE_o (cA := wC w) ho hci] at hP hD
  rw [show mset M o k x = mrow M o (upd (M o) k x) from rfl, wsW_set w M ho3] at hP hD
  exact kk H1 locs1 ls ⟨hP, hD, hS⟩ hl hE
theorem J_puti (C : CT w g own cc rm n) {ref Cn : String} {T : u_T} {ty0 : Nat → FieldType} {N index o ci k : Nat} {x : Int32} (fk : FK Cn T N ci k ref false) (hlink : Cond.fieldLink own index ref (T k).2.1 (T k).2.2.1 ∈ BIG) (fp : FP T N k ty0 .int) (ho : typ o = ci) (hdg : decode cc pc = .ok (.putfield index, 3)) (kk : J w g E (mset M o k x) (pc + 3) lv st) : J w g E M pc lv (.int x :: .ref (wa w o) :: st) :=
  J_put C fk.1 hlink fk.2.1 fk.2.2.1 fp.1 fp.2.1 fp.2.2.1 ho fk.2.2.2.1 fk.2.2.2.2.1 fk.2.2.2.2.2.1 fk.2.2.2.2.2.2 fp.2.2.2 rfl rfl hdg kk
theorem J_putz (C : CT w g own cc rm n) {ref Cn : String} {T : u_T} {ty0 : Nat → FieldType} {N index o ci k : Nat} {x : Int32} (fk : FK Cn T N ci k ref false) (hlink : Cond.fieldLink own index ref (T k).2.1 (T k).2.2.1 ∈ BIG) (fp : FP T N k ty0 .boolean) (ho : typ o = ci) (hdg : decode cc pc = .ok (.putfield index, 3)) (kk : J w g E (mset M o k x) (pc + 3) lv st) : J w g (if bz x then E else none) M pc lv (.int x :: .ref (wa w o) :: st) :=
  J_ite (fun h => J_put C fk.1 hlink fk.2.1 fk.2.2.1 fp.1 fp.2.1 fp.2.2.1 ho fk.2.2.2.1 fk.2.2.2.2.1 fk.2.2.2.2.2.1 fk.2.2.2.2.2.2 fp.2.2.2 (bz_narrow h) (by rcases h with rfl | rfl <;> rfl) hdg kk) (fun _ => J_none)
theorem J_putzc (C : CT w g own cc rm n) {ref Cn : String} {T : u_T} {ty0 : Nat → FieldType} {N index o ci k : Nat} {x : Int32} (h : bz x) (fk : FK Cn T N ci k ref false) (hlink : Cond.fieldLink own index ref (T k).2.1 (T k).2.2.1 ∈ BIG) (fp : FP T N k ty0 .boolean) (ho : typ o = ci) (hdg : decode cc pc = .ok (.putfield index, 3)) (kk : J w g E (mset M o k x) (pc + 3) lv st) : J w g E M pc lv (.int x :: .ref (wa w o) :: st) :=
  J_put C fk.1 hlink fk.2.1 fk.2.2.1 fp.1 fp.2.1 fp.2.2.1 ho fk.2.2.2.1 fk.2.2.2.2.1 fk.2.2.2.2.2.1 fk.2.2.2.2.2.2 fp.2.2.2 (bz_narrow h) (by rcases h with rfl | rfl <;> rfl) hdg kk
/-! arrays -/
theorem J_aload_ (C : CT w g own cc rm n) {o : Nat} {i : Int32} (ho : typ o = 11) (hdg : decode cc pc = .ok (.iaload, 1)) (kk : J w g E M (pc + 1) lv (.int (M o i.toNatClampNeg) :: st)) : J w g (if inB i (alen o) then E else none) M pc lv (.int i :: .ref (wa w o) :: st) := by
  refine J_ite (fun hi => ?_) (fun _ => J_none)
  obtain ⟨p, l, e, R, s, m, args, below, meth, c, ce, sl, Q, A, nL, res⟩ := g
  obtain ⟨hx, hb, hml, hown, hts, hK, hSE, hR, hce, hsl, hA, hA2, hn⟩ := C
  intro H locs ls hW hl hE
  exact va_iald hx hb hK hW.1 o 1 (wsW_a w M ho (by decide) (by decide)) rfl hi hdg (kk H locs ls hW hl hE)
theorem J_zaload (C : CT w g own cc rm n) {o : Nat} {i : Int32} (ho : typ o = 12) (hdg : decode cc pc = .ok (.baload, 1)) (kk : J w g E M (pc + 1) lv (.int (M o i.toNatClampNeg) :: st)) : J w g (if inB i (alen o) then E else none) M pc lv (.int i :: .ref (wa w o) :: st) := by
  refine J_ite (fun hi => ?_) (fun _ => J_none)
  obtain ⟨p, l, e, R, s, m, args, below, meth, c, ce, sl, Q, A, nL, res⟩ := g
  obtain ⟨hx, hb, hml, hown, hts, hK, hSE, hR, hce, hsl, hA, hA2, hn⟩ := C
  intro H locs ls hW hl hE
  exact va_zald hx hb hK hW.1 o 2 (wsW_a w M ho (by decide) (by decide)) rfl hi hdg (kk H locs ls hW hl hE)
theorem J_baload (C : CT w g own cc rm n) {o : Nat} {i : Int32} (ho : typ o = 10) (hdg : decode cc pc = .ok (.baload, 1)) (kk : J w g E M (pc + 1) lv (.int (M o i.toNatClampNeg) :: st)) : J w g (if inB i (alen o) then E else none) M pc lv (.int i :: .ref (wa w o) :: st) := by
  refine J_ite (fun hi => ?_) (fun _ => J_none)
  obtain ⟨p, l, e, R, s, m, args, below, meth, c, ce, sl, Q, A, nL, res⟩ := g
  obtain ⟨hx, hb, hml, hown, hts, hK, hSE, hR, hce, hsl, hA, hA2, hn⟩ := C
  intro H locs ls hW hl hE
  exact va_bald hx hb hK hW.1 o 0 (wsW_a w M ho (by decide) (by decide)) rfl hi hdg (kk H locs ls hW hl hE)
theorem J_aaload (C : CT w g own cc rm n) {o : Nat} {i : Int32} (ho : typ o = 13) (hdg : decode cc pc = .ok (.aaload, 1)) (kk : i.toNatClampNeg < alen o → J w g E M (pc + 1) lv (.ref (wa w (link o i.toNatClampNeg)) :: st)) : J w g (if inB i (alen o) then E else none) M pc lv (.int i :: .ref (wa w o) :: st) := by
  refine J_ite (fun hi => ?_) (fun _ => J_none)
  have hk2 := kk (Nat.not_le.mp fun q => hi (Or.inr q))
  obtain ⟨p, l, e, R, s, m, args, below, meth, c, ce, sl, Q, A, nL, res⟩ := g
  obtain ⟨hx, hb, hml, hown, hts, hK, hSE, hR, hce, hsl, hA, hA2, hn⟩ := C
  intro H locs ls hW hl hE
  exact va_aldq hx hb hK hW.1 o 3 (wsW_w w M ho) rfl hi hdg (hk2 H locs ls hW hl hE)
theorem J_alen (C : CT w g own cc rm n) {o : Nat} (ho : typ o = 11) (hdg : decode cc pc = .ok (.arraylength, 1)) (kk : J w g E M (pc + 1) lv (.int (Int32.ofNat (alen o)) :: st)) : J w g E M pc lv (.ref (wa w o) :: st) := by
  obtain ⟨p, l, e, R, s, m, args, below, meth, c, ce, sl, Q, A, nL, res⟩ := g
  obtain ⟨hx, hb, hml, hown, hts, hK, hSE, hR, hce, hsl, hA, hA2, hn⟩ := C
  intro H locs ls hW hl hE
  exact va_alen hx hb hK hW.1 o 1 (x := (alen o, .inl (M o))) (wsW_a w M ho (by decide) (by decide)) rfl rfl hdg (kk H locs ls hW hl hE)
theorem J_iastore (C : CT w g own cc rm n) {o : Nat} {i x : Int32} (ho : typ o = 11) (hdg : decode cc pc = .ok (.iastore, 1)) (kk : J w g E (mset M o i.toNatClampNeg x) (pc + 1) lv st) : J w g (if inB i (alen o) then E else none) M pc lv (.int x :: .int i :: .ref (wa w o) :: st) := by
  refine J_ite (fun hi => ?_) (fun _ => J_none)
  obtain ⟨p, l, e, R, s, m, args, below, meth, c, ce, sl, Q, A, nL, res⟩ := g
  obtain ⟨hx, hb, hml, hown, hts, hK, hSE, hR, hce, hsl, hA, hA2, hn⟩ := C
  intro H locs ls hW hl hE
  have ho3 : o < 103 := typ_lt ho (by omega)
  refine va_iast hx hb hK hW.1 hW.2.1 hW.2.2 o 1 (wsW_a w M ho (by decide) (by decide)) rfl hi hdg (fun H1 locs1 hP hD hS => ?_)
  have ee : ((.inl (wC w (11 - 10), alen o, .inl (upd (M o) i.toNatClampNeg x))) : va_E) = cellE (wC w) (wa w) (mrow M o (upd (M o) i.toNatClampNeg x)) o := by
    rw [cellE_a ho (by decide) (by decide)]; simp [mrow]
  rw [ee, wsW_set w M ho3] at hP hD
  exact kk H1 locs1 ls ⟨hP, hD, hS⟩ hl hE
theorem J_zastore (C : CT w g own cc rm n) {o : Nat} {i x : Int32} (ho : typ o = 12) (hdg : decode cc pc = .ok (.bastore, 1)) (kk : J w g E (mset M o i.toNatClampNeg (vp_nar .boolean x)) (pc + 1) lv st) : J w g (if inB i (alen o) then E else none) M pc lv (.int x :: .int i :: .ref (wa w o) :: st) := by
  refine J_ite (fun hi => ?_) (fun _ => J_none)
  obtain ⟨p, l, e, R, s, m, args, below, meth, c, ce, sl, Q, A, nL, res⟩ := g
  obtain ⟨hx, hb, hml, hown, hts, hK, hSE, hR, hce, hsl, hA, hA2, hn⟩ := C
  intro H locs ls hW hl hE
  have ho3 : o < 103 := typ_lt ho (by omega)
  refine va_zast hx hb hK hW.1 hW.2.1 hW.2.2 o 2 (wsW_a w M ho (by decide) (by decide)) rfl hi hdg (fun H1 locs1 hP hD hS => ?_)
  have ee : ((.inl (wC w (12 - 10), alen o, .inl (upd (M o) i.toNatClampNeg (vp_nar .boolean x)))) : va_E) = cellE (wC w) (wa w) (mrow M o (upd (M o) i.toNatClampNeg (vp_nar .boolean x))) o := by
    rw [cellE_a ho (by decide) (by decide)]; simp [mrow]
  rw [ee, wsW_set w M ho3] at hP hD
  exact kk H1 locs1 ls ⟨hP, hD, hS⟩ hl hE
theorem J_bastore (C : CT w g own cc rm n) {o : Nat} {i x : Int32} (ho : typ o = 10) (hdg : decode cc pc = .ok (.bastore, 1)) (kk : J w g E (mset M o i.toNatClampNeg (vp_nar .byte x)) (pc + 1) lv st) : J w g (if inB i (alen o) then E else none) M pc lv (.int x :: .int i :: .ref (wa w o) :: st) := by
  refine J_ite (fun hi => ?_) (fun _ => J_none)
  obtain ⟨p, l, e, R, s, m, args, below, meth, c, ce, sl, Q, A, nL, res⟩ := g
  obtain ⟨hx, hb, hml, hown, hts, hK, hSE, hR, hce, hsl, hA, hA2, hn⟩ := C
  intro H locs ls hW hl hE
  have ho3 : o < 103 := typ_lt ho (by omega)
  refine va_bast hx hb hK hW.1 hW.2.1 hW.2.2 o 0 (wsW_a w M ho (by decide) (by decide)) rfl hi hdg (fun H1 locs1 hP hD hS => ?_)
  have ee : ((.inl (wC w (10 - 10), alen o, .inl (upd (M o) i.toNatClampNeg (vp_nar .byte x)))) : va_E) = cellE (wC w) (wa w) (mrow M o (upd (M o) i.toNatClampNeg (vp_nar .byte x))) o := by
    rw [cellE_a ho (by decide) (by decide)]; simp [mrow]
  rw [ee, wsW_set w M ho3] at hP hD
  exact kk H1 locs1 ls ⟨hP, hD, hS⟩ hl hE
/-! calls -/
theorem WD_blind (w : WE) (M : Mem) (As : List Value) : FrameBlind (va_Pc As (fun U => WD w M U)) := by
  intro a U g mk h
  obtain ⟨h1, h2, h3, h4, h5⟩ := h
  exact ⟨h1, h2, va_K.moved (u := U) (U := U.calling g mk a) (Vm.Alike.refl U.vm) h3, h4, SE.same (u := U) (U := U.calling g mk a) rfl h5⟩
theorem WD_pre {w : WE} {A : Nat → Prop} {s U : State} {M : Mem} {H : Heap} {locs : List Loc} (hK : va_K (wD w) vwCl (tysW w) s) (hSE : SE w s s.heap) (hA : ∀ q, AW w q → A q) (hW : WH w A s M H locs) (hU : U.heap = H) (hw : s.WarmedH U.vm) (hS : va_S A s.heap H locs) (hA2 : ∀ q : Nat, q < s.heap.size → A q → AW w q) : WD w M U := by
  refine ⟨by rw [hU]; exact hW.1, va_K.moved hw.alike hK, hW.2.1.weaken (fun _ _ _ _ => trivial), SE.warm hw ?_⟩
  rw [hU]
  exact hSE.kept (fun a h1 h2 => hS.2.1 a h1 (fun q => h2 (hA2 a h1 q)))

/-- what a call wants of the room -/
abbrev rmOK (rm2 rm : Room) (maxL : Nat) : Prop := rm2.cells = 0 ∧ rm2.slots = 0 ∧ rm2.frames + 1 ≤ rm.frames ∧ 8 + (maxL + 11) + rm2.locals ≤ rm.locals
abbrev yOK (y : MethodName) (n : Nat) : Prop := y.cls ≠ "java/lang/invoke/MethodHandle" ∧ y.cls ≠ "java/lang/invoke/VarHandle" ∧ (parseMethodDescriptor y.desc).map (fun d => d.parameters.length) = some n
theorem J_cvi (C : CT w g own cc rm n) {y : MethodName} {ws2 ws' : List Cond} {rm2 : Room} {As : List Value} {E2 : Option Res} {o ci N : Nat} {Cn : String} {T : u_T} {bytes : ByteArray} {maxL k index : Nat} {ret : Option FieldType} {K : Int32 → Mem → Option Res} {st0 : List Value} (hM : MC (gl g) w y ws2 rm2 (.ref (wa w o) :: As) E2 M) (hg : GoodIn BIG (wsV own index Cn y ws2)) (hw : ws2 = Cond.code y bytes maxL ret :: ws') (hr : rmOK rm2 rm maxL) (hy : y.cls = Cn ∧ yOK y k) (ho : typ o = ci) (hci : ci < 10) (hcl : vwCl[ci]? = some (Cn, T, N)) (hn : As.length = k) (hcat : (st.map fun v => v.category).sum ≤ 8) (hdg : decode cc pc = .ok (.invokevirtual index, 3)) (hst : As.reverse ++ .ref (wa w o) :: st = st0) (kk : ∀ (r : Int32) (M' : Mem), J w g (K r M') M' (pc + 3) lv (.int r :: st)) : J w g (cb E2 K) M pc lv st0 := by
  subst hst
  obtain ⟨p, l, e, R, s, m, args, below, meth, c, ce, sl, Q, A, nL, res⟩ := g
  obtain ⟨hx, hb, hml, hown, hts, hK, hSE, hR, hce, hsl, hA, hA2, hn2⟩ := C
  intro H locs ls hW hl hE
  subst hR
  obtain ⟨r, M', h2, h3⟩ := cb_spec hE
  refine va_calli (va_runV (As := As) (rest := st) ⟨hx, hb, hml, hown, hts⟩ (hM (r, M') h2) (cwV k hts hg hw hr.1 hr.2.1 hy hr.2.2) ⟨WD_blind w M _, va_recv hK hW.1 hcl (wsW_o w M ho hci), fun U hU hw2 => ⟨rfl, WD_pre hK hSE hA hW hU hw2 hW.2.2 hA2⟩⟩ rfl hn hl.1 rfl (lv_room hcat) hdg ⟨hce, hsl⟩) hW.2.2 (fun q _ h => hA q h) hA (fun r1 M1 t H1 locs1 ht hvm hpost hB hz hk hS1 => ?_)
  cases hpost
  exact kk r M' H1 locs1 ls ⟨by rw [← ht]; exact hB.1, ⟨hB.2.1, fun k q h => hA _ (wsW_A w _ k q h)⟩, hS1⟩ hl h3
theorem J_csi (C : CT w g own cc rm n) {y : MethodName} {ws2 ws' : List Cond} {rm2 : Room} {As : List Value} {E2 : Option Res} {dm : Nat} {bytes : ByteArray} {maxL k index : Nat} {ret : Option FieldType} {K : Int32 → Mem → Option Res} {st0 : List Value} (hM : MC (gl g) w y ws2 rm2 As E2 M) (hg : GoodIn BIG (va_wsS own index y ws2)) (hw : ws2 = Cond.code y bytes maxL ret :: ws') (hr : rmOK rm2 rm maxL) (hy : yOK y k) (hn : As.length = k) (hcat : (st.map fun v => v.category).sum ≤ 8) (hdg : decode cc pc = .ok (.invokestatic index, 3)) (hst : As.reverse ++ st = st0) (kk : ∀ (r : Int32) (M' : Mem), J w g (K r M') M' (pc + 3) lv (.int r :: st)) : J w g (cb E2 K) M pc lv st0 := by
  subst hst
  obtain ⟨p, l, e, R, s, m, args, below, meth, c, ce, sl, Q, A, nL, res⟩ := g
  obtain ⟨hx, hb, hml, hown, hts, hK, hSE, hR, hce, hsl, hA, hA2, hn2⟩ := C
  intro H locs ls hW hl hE
  subst hR
  obtain ⟨r, M', h2, h3⟩ := cb_spec hE
  refine va_calli (va_runS (As := As) (rest := st) ⟨hx, hb, hml, hown, hts⟩ (hM (r, M') h2) (va_cwS k hts hg hw hr.1 hr.2.1 hy hr.2.2) ⟨WD_blind w M _, fun U hU hw2 => ⟨rfl, WD_pre hK hSE hA hW hU hw2 hW.2.2 hA2⟩⟩ rfl hn hl.1 rfl (lv_room hcat) hdg ⟨hce, hsl⟩) hW.2.2 (fun q _ h => hA q h) hA (fun r1 M1 t H1 locs1 ht hvm hpost hB hz hk hS1 => ?_)
  cases hpost
  exact kk r M' H1 locs1 ls ⟨by rw [← ht]; exact hB.1, ⟨hB.2.1, fun k q h => hA _ (wsW_A w _ k q h)⟩, hS1⟩ hl h3
theorem J_cni (C : CT w g own cc rm n) {y : MethodName} {ws2 ws' : List Cond} {rm2 : Room} {As : List Value} {E2 : Option Res} {dm : Nat} {bytes : ByteArray} {maxL k index : Nat} {ret : Option FieldType} {K : Int32 → Mem → Option Res} {st0 : List Value} (hM : MC (gl g) w y ws2 rm2 As E2 M) (hg : GoodIn BIG ws2) (hw : ws2 = Cond.code y bytes maxL ret :: ws') (hr : rmOK rm2 rm maxL) (hy : yOK y k) (hyy : yX8_whyNotWithin = y) (hlk : (own, index) ∈ nestL) (hini : Cond.initialized y.cls ∈ BIG) (hstt : Cond.static y ∈ BIG) (hn : As.length = k) (hcat : (st.map fun v => v.category).sum ≤ 8) (hdg : decode cc pc = .ok (.invokestatic index, 3)) (hst : As.reverse ++ st = st0) (kk : ∀ (r : Int32) (M' : Mem), J w g (K r M') M' (pc + 3) lv (.int r :: st)) : J w g (cb E2 K) M pc lv st0 := by
  subst hst
  obtain ⟨p, l, e, R, s, m, args, below, meth, c, ce, sl, Q, A, nL, res⟩ := g
  obtain ⟨hx, hb, hml, hown, hts, hK, hSE, hR, hce, hsl, hA, hA2, hn2⟩ := C
  intro H locs ls hW hl hE
  subst hR
  obtain ⟨r, M', h2, h3⟩ := cb_spec hE
  refine va_calli (va_runSN (As := As) (rest := st) ⟨hx, hb, hml, hown, hts⟩ (hM (r, M') h2) ⟨va_cnB (host := "ChairTooFew") k hts hg hw hr.1 hr.2.1 (hyy ▸ hSE.2.2.2.2 _ hlk) (hts _ hini) hy hr.2.2, hts _ hstt, trivial⟩ ⟨WD_blind w M _, fun U hU hw2 => ⟨rfl, WD_pre hK hSE hA hW hU hw2 hW.2.2 hA2⟩⟩ rfl hn hl.1 rfl (lv_room hcat) hdg ⟨hce, hsl⟩) hW.2.2 (fun q _ h => hA q h) hA (fun r1 M1 t H1 locs1 ht hvm hpost hB hz hk hS1 => ?_)
  cases hpost
  exact kk r M' H1 locs1 ls ⟨by rw [← ht]; exact hB.1, ⟨hB.2.1, fun k q h => hA _ (wsW_A w _ k q h)⟩, hS1⟩ hl h3
theorem J_cvv (C : CT w g own cc rm n) {y : MethodName} {ws2 ws' : List Cond} {rm2 : Room} {As : List Value} {E2 : Option Res} {o ci N : Nat} {Cn : String} {T : u_T} {bytes : ByteArray} {maxL k index : Nat} {ret : Option FieldType} {K : Int32 → Mem → Option Res} {st0 : List Value} (hM : MV (gl g) w y ws2 rm2 (.ref (wa w o) :: As) E2 M) (hg : GoodIn BIG (wsV own index Cn y ws2)) (hw : ws2 = Cond.code y bytes maxL ret :: ws') (hr : rmOK rm2 rm maxL) (hy : y.cls = Cn ∧ yOK y k) (ho : typ o = ci) (hci : ci < 10) (hcl : vwCl[ci]? = some (Cn, T, N)) (hn : As.length = k) (hcat : (st.map fun v => v.category).sum ≤ 8) (hdg : decode cc pc = .ok (.invokevirtual index, 3)) (hst : As.reverse ++ .ref (wa w o) :: st = st0) (kk : ∀ (r : Int32) (M' : Mem), J w g (K r M') M' (pc + 3) lv st) : J w g (cb E2 K) M pc lv st0 := by
  subst hst
  obtain ⟨p, l, e, R, s, m, args, below, meth, c, ce, sl, Q, A, nL, res⟩ := g
  obtain ⟨hx, hb, hml, hown, hts, hK, hSE, hR, hce, hsl, hA, hA2, hn2⟩ := C
  intro H locs ls hW hl hE
  subst hR
  obtain ⟨r, M', h2, h3⟩ := cb_spec hE
  refine va_callv (va_runV (As := As) (rest := st) ⟨hx, hb, hml, hown, hts⟩ (hM (r, M') h2) (cwV k hts hg hw hr.1 hr.2.1 hy hr.2.2) ⟨WD_blind w M _, va_recv hK hW.1 hcl (wsW_o w M ho hci), fun U hU hw2 => ⟨rfl, WD_pre hK hSE hA hW hU hw2 hW.2.2 hA2⟩⟩ rfl hn hl.1 rfl (lv_room hcat) hdg ⟨hce, hsl⟩) hW.2.2 (fun q _ h => hA q h) hA (fun M1 t H1 locs1 ht hvm hpost hB hz hk hS1 => ?_)
  cases hpost
  exact kk r M' H1 locs1 ls ⟨by rw [← ht]; exact hB.1, ⟨hB.2.1, fun k q h => hA _ (wsW_A w _ k q h)⟩, hS1⟩ hl h3
theorem J_csv (C : CT w g own cc rm n) {y : MethodName} {ws2 ws' : List Cond} {rm2 : Room} {As : List Value} {E2 : Option Res} {dm : Nat} {bytes : ByteArray} {maxL k index : Nat} {ret : Option FieldType} {K : Int32 → Mem → Option Res} {st0 : List Value} (hM : MV (gl g) w y ws2 rm2 As E2 M) (hg : GoodIn BIG (va_wsS own index y ws2)) (hw : ws2 = Cond.code y bytes maxL ret :: ws') (hr : rmOK rm2 rm maxL) (hy : yOK y k) (hn : As.length = k) (hcat : (st.map fun v => v.category).sum ≤ 8) (hdg : decode cc pc = .ok (.invokestatic index, 3)) (hst : As.reverse ++ st = st0) (kk : ∀ (r : Int32) (M' : Mem), J w g (K r M') M' (pc + 3) lv st) : J w g (cb E2 K) M pc lv st0 := by
  subst hst
  obtain ⟨p, l, e, R, s, m, args, below, meth, c, ce, sl, Q, A, nL, res⟩ := g
  obtain ⟨hx, hb, hml, hown, hts, hK, hSE, hR, hce, hsl, hA, hA2, hn2⟩ := C
  intro H locs ls hW hl hE
  subst hR
  obtain ⟨r, M', h2, h3⟩ := cb_spec hE
  refine va_callv (va_runS (As := As) (rest := st) ⟨hx, hb, hml, hown, hts⟩ (hM (r, M') h2) (va_cwS k hts hg hw hr.1 hr.2.1 hy hr.2.2) ⟨WD_blind w M _, fun U hU hw2 => ⟨rfl, WD_pre hK hSE hA hW hU hw2 hW.2.2 hA2⟩⟩ rfl hn hl.1 rfl (lv_room hcat) hdg ⟨hce, hsl⟩) hW.2.2 (fun q _ h => hA q h) hA (fun M1 t H1 locs1 ht hvm hpost hB hz hk hS1 => ?_)
  cases hpost
  exact kk r M' H1 locs1 ls ⟨by rw [← ht]; exact hB.1, ⟨hB.2.1, fun k q h => hA _ (wsW_A w _ k q h)⟩, hS1⟩ hl h3
theorem J_cnv (C : CT w g own cc rm n) {y : MethodName} {ws2 ws' : List Cond} {rm2 : Room} {As : List Value} {E2 : Option Res} {dm : Nat} {bytes : ByteArray} {maxL k index : Nat} {ret : Option FieldType} {K : Int32 → Mem → Option Res} {st0 : List Value} (hM : MV (gl g) w y ws2 rm2 As E2 M) (hg : GoodIn BIG ws2) (hw : ws2 = Cond.code y bytes maxL ret :: ws') (hr : rmOK rm2 rm maxL) (hy : yOK y k) (hyy : yX8_whyNotWithin = y) (hlk : (own, index) ∈ nestL) (hini : Cond.initialized y.cls ∈ BIG) (hstt : Cond.static y ∈ BIG) (hn : As.length = k) (hcat : (st.map fun v => v.category).sum ≤ 8) (hdg : decode cc pc = .ok (.invokestatic index, 3)) (hst : As.reverse ++ st = st0) (kk : ∀ (r : Int32) (M' : Mem), J w g (K r M') M' (pc + 3) lv st) : J w g (cb E2 K) M pc lv st0 := by
  subst hst
  obtain ⟨p, l, e, R, s, m, args, below, meth, c, ce, sl, Q, A, nL, res⟩ := g
  obtain ⟨hx, hb, hml, hown, hts, hK, hSE, hR, hce, hsl, hA, hA2, hn2⟩ := C
  intro H locs ls hW hl hE
  subst hR
  obtain ⟨r, M', h2, h3⟩ := cb_spec hE
  refine va_callv (va_runSN (As := As) (rest := st) ⟨hx, hb, hml, hown, hts⟩ (hM (r, M') h2) ⟨va_cnB (host := "ChairTooFew") k hts hg hw hr.1 hr.2.1 (hyy ▸ hSE.2.2.2.2 _ hlk) (hts _ hini) hy hr.2.2, hts _ hstt, trivial⟩ ⟨WD_blind w M _, fun U hU hw2 => ⟨rfl, WD_pre hK hSE hA hW hU hw2 hW.2.2 hA2⟩⟩ rfl hn hl.1 rfl (lv_room hcat) hdg ⟨hce, hsl⟩) hW.2.2 (fun q _ h => hA q h) hA (fun M1 t H1 locs1 ht hvm hpost hB hz hk hS1 => ?_)
  cases hpost
  exact kk r M' H1 locs1 ls ⟨by rw [← ht]; exact hB.1, ⟨hB.2.1, fun k q h => hA _ (wsW_A w _ k q h)⟩, hS1⟩ hl h3

theorem J_mmax (C : CT w g own cc rm n) {index : Nat} {x y : Int32} (h1 : Cond.methodLink own index Lib.Math.max.name ∈ BIG) (h2 : Cond.static Lib.Math.max.name ∈ BIG) (h3 : Cond.initialized "java/lang/Math" ∈ BIG) (h4 : Cond.code Lib.Math.max.name Lib.Math.max.code 2 (some .int) ∈ BIG) (hr : 1 ≤ rm.frames ∧ 21 ≤ rm.locals) (hcat : (st.map fun v => v.category).sum ≤ 8) (hdg : decode cc pc = .ok (.invokestatic index, 3)) (kk : J w g E M (pc + 3) lv (.int (if x < y then y else x) :: st)) : J w g E M pc lv (.int y :: .int x :: st) := by
  obtain ⟨p, l, e, R, s, m, args, below, meth, c, ce, sl, Q, A, nL, res⟩ := g
  obtain ⟨hx, hb, hml, hown, hts, hK, hSE, hR, hce, hsl, hA, hA2, hn⟩ := C
  intro H locs ls hW hl hE
  subst hR
  exact va_mmax hx hb (by rw [hml]; exact hl.1.symm) hown (hts _ h1) (hts _ h2) (hts _ h3) (hts _ h4) hr.1 (by omega) hce hsl hdg (kk H locs ls hW hl hE)
theorem J_mmin (C : CT w g own cc rm n) {index : Nat} {x y : Int32} (h1 : Cond.methodLink own index Lib.Math.min.name ∈ BIG) (h2 : Cond.static Lib.Math.min.name ∈ BIG) (h3 : Cond.initialized "java/lang/Math" ∈ BIG) (h4 : Cond.code Lib.Math.min.name Lib.Math.min.code 2 (some .int) ∈ BIG) (hr : 1 ≤ rm.frames ∧ 21 ≤ rm.locals) (hcat : (st.map fun v => v.category).sum ≤ 8) (hdg : decode cc pc = .ok (.invokestatic index, 3)) (kk : J w g E M (pc + 3) lv (.int (if y < x then y else x) :: st)) : J w g E M pc lv (.int y :: .int x :: st) := by
  obtain ⟨p, l, e, R, s, m, args, below, meth, c, ce, sl, Q, A, nL, res⟩ := g
  obtain ⟨hx, hb, hml, hown, hts, hK, hSE, hR, hce, hsl, hA, hA2, hn⟩ := C
  intro H locs ls hW hl hE
  subst hR
  exact va_mmin hx hb (by rw [hml]; exact hl.1.symm) hown (hts _ h1) (hts _ h2) (hts _ h3) (hts _ h4) hr.1 (by omega) hce hsl hdg (kk H locs ls hW hl hE)
/-- System.arraycopy of k numbers, from the first -/
theorem J_copy (C : CT w g own cc rm n) {index c t0 k : Nat} {ty : FieldType} {o0 o1 : Nat} {z : Int32} (h1 : Cond.methodLink own index arraycopyName ∈ BIG) (h2 : Cond.native arraycopyName ∈ BIG) (h3 : Cond.static arraycopyName ∈ BIG) (h4 : Cond.initialized "java/lang/System" ∈ BIG) (hr : 1 ≤ rm.frames ∧ 8 + (nativeFrameWords "java/lang/System" "arraycopy" 5 + 11) ≤ rm.locals) (hcat : (st.map fun v => v.category).sum ≤ 8) (ho0 : typ o0 = c) (ho1 : typ o1 = c) (hc1 : 10 ≤ c) (hc2 : c < 13) (ht : (tysW w)[t0]? = some (wC w (c - 10), ty)) (hpr : refKind ty = false) (hz : ¬ z < 0) (hzk : z.toNatClampNeg = k) (hl0 : k ≤ alen o0) (hl1 : k ≤ alen o1) (hfit : ∀ i, i < k → fits ty (.int (M o0 i)) = true) (hdg : decode cc pc = .ok (.invokestatic index, 3)) (kk : J w g E (mrow M o1 (va_cpy (M o0) (M o1) 0 0 k)) (pc + 3) lv st) : J w g E M pc lv (.int z :: .int 0 :: .ref (wa w o1) :: .int 0 :: .ref (wa w o0) :: st) := by
  obtain ⟨p, l, e, R, s, m, args, below, meth, c', ce, sl, Q, A, nL, res⟩ := g
  obtain ⟨hx, hb, hml, hown, hts, hK, hSE, hR, hce, hsl, hA, hA2, hn⟩ := C
  intro H locs ls hW hl hE
  subst hR
  subst hzk
  have ho3 : o1 < 103 := typ_lt ho1 (by omega)
  have z0 : (0 : Int32).toNatClampNeg = 0 := rfl
  refine va_copyi (sp := 0) (dp := 0) (ty := ty) hx hb (by rw [hml]; exact hl.1.symm) hown (hts _ h1) (hts _ h2) (hts _ h3) (hts _ h4) hK hW.1 hW.2.1 hW.2.2 o0 o1 t0 t0 (wsW_a w M ho0 hc1 hc2) (wsW_a w M ho1 hc1 hc2) ht ht hpr (by decide) (by decide) hz (by rw [z0]; omega) (by rw [z0]; omega) (fun i hi => by rw [z0, Nat.zero_add]; exact hfit i hi) hr.1 (by omega) hdg (fun H1 locs1 hP hD hS => ?_)
  have ee : ((.inl (wC w (c - 10), alen o1, .inl (va_cpy (M o0) (M o1) (0 : Int32).toNatClampNeg (0 : Int32).toNatClampNeg z.toNatClampNeg))) : va_E) = cellE (wC w) (wa w) (mrow M o1 (va_cpy (M o0) (M o1) 0 0 z.toNatClampNeg)) o1 := by
    rw [cellE_a ho1 hc1 hc2]; simp [mrow]
  rw [ee, wsW_set w M ho3] at hP hD
  exact kk H1 locs1 ls ⟨hP, hD, hS⟩ hl hE
/-! the method out of its program -/
theorem mc_of_J {l : Launch} {y : MethodName} {As : List Value} {ty : FieldType} (hown : y.cls = own) (hy : plainName y.cls = true) (hrc : rm.cells = 0) (hrs : rm.slots = 0) (hlen : (lg_sl As).length ≤ n) (body : ∀ g : GT, gl g = l → CT w g own cc rm n → RTi w g cc ty → J w g E M 0 (lv_args 0 As) []) : MC l w y (wz y cc n (some ty)) rm As E M := by
  intro res hE
  refine Met.ofW (cc := cc) (maxL := n) (ret := some ty) hy rfl ?_
  intro p e s m args below meth c s₁ B hml hv
  obtain ⟨rfl, hP, hK, hD0, hSE⟩ := hv
  have hx := B.exec
  have hb := B.bytes
  have hr := B.returns
  have hts0 := atoms_spec B.pre
  have hts : ∀ x ∈ BIG, x.before _ s = true := fun x h => hts0 x (List.mem_cons_of_mem _ h)
  have hown' : s.vm.findClass own = some m.cls := by
    rw [← hown]
    exact findClass_of_methodNamed B.named
  have hlocks := B.notSynchronized
  have hl := lv_entry As (n := n) hlen
  rw [lg_entry_eq]
  refine body (p, l, e, rm, s, m, _, below, meth, c, 0, 0, _, AW w, n, res) rfl ⟨hx, hb, hml, hown', hts, hK, hSE, rfl, Nat.zero_le _, Nat.zero_le _, fun _ h => h, fun _ _ h => h, rfl⟩ ?_ s.heap [] _ ⟨hP, ⟨hD0.1, wsW_A w M⟩, va_S.rf⟩ hl hE
  intro H locs ls M1 x pc hW hres hd hn
  exact W.zret hx hb hr hn (fun t ht _ => ⟨⟨x, M1, rfl, hres, by rw [ht]; exact hW.1, ⟨hW.2.1.1, fun _ _ _ => trivial⟩⟩, hW.2.2.F ht⟩) hW.2.2.2.2 hd hlocks
theorem mv_of_J {l : Launch} {y : MethodName} {As : List Value} (hown : y.cls = own) (hy : plainName y.cls = true) (hrc : rm.cells = 0) (hrs : rm.slots = 0) (hlen : (lg_sl As).length ≤ n) (body : ∀ g : GT, gl g = l → CT w g own cc rm n → RTv w g cc → J w g E M 0 (lv_args 0 As) []) : MV l w y (wz y cc n none) rm As E M := by
  intro res hE
  refine Met.ofW (cc := cc) (maxL := n) (ret := none) hy rfl ?_
  intro p e s m args below meth c s₁ B hml hv
  obtain ⟨rfl, hP, hK, hD0, hSE⟩ := hv
  have hx := B.exec
  have hb := B.bytes
  have hr := B.returns
  have hts0 := atoms_spec B.pre
  have hts : ∀ x ∈ BIG, x.before _ s = true := fun x h => hts0 x (List.mem_cons_of_mem _ h)
  have hown' : s.vm.findClass own = some m.cls := by
    rw [← hown]
    exact findClass_of_methodNamed B.named
  have hlocks := B.notSynchronized
  have hl := lv_entry As (n := n) hlen
  rw [lg_entry_eq]
  refine body (p, l, e, rm, s, m, _, below, meth, c, 0, 0, _, AW w, n, res) rfl ⟨hx, hb, hml, hown', hts, hK, hSE, rfl, Nat.zero_le _, Nat.zero_le _, fun _ h => h, fun _ _ h => h, rfl⟩ ?_ s.heap [] _ ⟨hP, ⟨hD0.1, wsW_A w M⟩, va_S.rf⟩ hl hE
  intro H locs ls M1 pc hW hres hd
  exact W.vret hx hb hr (fun t ht _ => ⟨⟨M1, rfl, hres, by rw [ht]; exact hW.1, ⟨hW.2.1.1, fun _ _ _ => trivial⟩⟩, hW.2.2.F ht⟩) hW.2.2.2.2 hd hlocks
end JR
