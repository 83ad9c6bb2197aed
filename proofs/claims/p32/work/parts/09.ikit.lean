/-! ===== constructors: worlds written out ===== -/
def tysI (cA : Nat → ClassId) : List (ClassId × FieldType) := [(cA 0, .byte), (cA 1, .int), (cA 2, .boolean), (cA 3, .object "ChairTooFew$Walker")]
def nestI : List (String × Nat × MethodName) := [("ChairTooFew", 41, yX6_init), ("ChairTooFew", 9, yX0_init), ("ChairTooFew$Party", 11, yX4_init), ("ChairTooFew$Party", 20, yX3_init), ("ChairTooFew$Party", 27, yX5_init), ("ChairTooFew$Party", 59, yX7_init)]
def IE (U : State) : Prop := (∀ q ∈ nestI, va_Nw (.methodLinkNest q.1 q.2.1 q.2.2 "ChairTooFew") U) ∧ va_AO "ChairTooFew$Walker" U
theorem IE.warm {s U : State} (hW : s.WarmedH U.vm) (h : IE s) : IE U := ⟨fun q hq => va_Nw.warmM hW (h.1 q hq), va_AO.moved hW.alike h.2⟩
theorem IE.same {u U : State} (hv : U.vm = u.vm) (h : IE u) : IE U := ⟨fun q hq => va_Nw.same rfl hv.symm (h.1 q hq), va_AO.moved (u := u) (U := U) (by rw [hv]; exact Vm.Alike.refl _) h.2⟩
def I (D : va_G) (cA : Nat → ClassId) (g : GT) (ws : va_W) (ce sl pc : Nat) (lv : List (Nat × Value)) (st : List Value) : Prop :=
  match g with
  | (p, l, e, R, s, m, args, below, meth, c, _, _, Q, A, nL, _) => ∀ (H : Heap) (locs : List Loc) (ls : Array Slot), va_P D vwCl ws H → va_D A ws → va_S A s.heap H locs → lv_has ls nL lv → W p l e R s m args below meth c H locs ce sl Q (F0 m pc ls st)
def CI (D : va_G) (cA : Nat → ClassId) (g : GT) (own : String) (cc : ByteArray) (rm : Room) (n : Nat) (ini : Bool) : Prop :=
  match g with
  | (p, _, _, R, s, m, args, _, meth, c, _, _, _, A, nL, _) => p.tables.exec = Jvm.exec ∧ c.code = cc ∧ c.maxLocals = nL ∧ s.vm.findClass own = some m.cls ∧ (∀ x ∈ BIG, x.before args s = true) ∧ va_K D vwCl (tysI cA) s ∧ IE s ∧ R = rm ∧ (∀ q, s.heap.size ≤ q → A q) ∧ (ini = true → meth.name = "<init>") ∧ nL = n
/-- a constructor's contract: its object's cell, and all that come -/
def MI (l : Launch) (D : va_G) (cA : Nat → ClassId) (y : MethodName) (ws : List Cond) (rm : Room) (h0 : Nat) (c0 : va_E) (As : List Value) (post : (Nat → Nat) → va_W) (mc ms : Nat) : Prop := ∀ sz : Nat, Met l y ws rm (va_Pc (.ref h0 :: As) (fun U => U.heap.size = sz ∧ va_P D vwCl [(h0, c0)] U.heap ∧ va_K D vwCl (tysI cA) U ∧ va_D (fun _ => True) [(h0, c0)] ∧ IE U)) (va_Qv (fun a : Nat → Nat => a 0 = h0) (fun a t => va_P D vwCl (post a) t.heap ∧ va_D (va_A [(h0, c0)] sz) (post a)) (va_A [(h0, c0)] sz)) mc ms (va_A [(h0, c0)] sz)
def RI (D : va_G) (g : GT) (cc : ByteArray) (h0 : Nat) (post : (Nat → Nat) → va_W) (mc ms : Nat) : Prop :=
  match g with
  | (p, l, e, R, s, m, args, below, meth, c, _, _, Q, A, _, _) => ∀ (H : Heap) (locs : List Loc) (ls : Array Slot) (pc : Nat) (a : Nat → Nat), a 0 = h0 → va_P D vwCl (post a) H → va_D A (post a) → va_S A s.heap H locs → decode cc pc = .ok (.return_, 1) → W p l e R s m args below meth c H locs mc ms Q (F0 m pc ls [])
section IR
variable {D : va_G} {cA : Nat → ClassId} {g : GT} {own : String} {cc : ByteArray} {rm : Room} {n : Nat} {ini : Bool} {ws ws' : va_W} {ce sl pc : Nat} {lv lv' : List (Nat × Value)} {st : List Value}

theorem I_iconst (C : CI D cA g own cc rm n ini) {i : Int} {v : Int32} (hdg : decode cc pc = .ok (.iconst i, 1)) (hv : Int32.ofInt i = v) (k : I D cA g ws ce sl (pc + 1) lv (.int v :: st)) : I D cA g ws ce sl pc lv st := by
  obtain ⟨p, l, e, R, s, m, args, below, meth, c, ce0, sl0, Q, A, nL, res⟩ := g
  obtain ⟨hx, hb, hml, hown, hts, hK, hIE, hR, hA, hini, hn⟩ := C
  intro H locs ls hP hD hS hl
  exact lv_iconst hx hb hdg hv (k H locs ls hP hD hS hl)

theorem I_bipush (C : CI D cA g own cc rm n ini) {i : Int} {v : Int32} (hdg : decode cc pc = .ok (.bipush i, 2)) (hv : (Int8.ofInt i).toInt32 = v) (k : I D cA g ws ce sl (pc + 2) lv (.int v :: st)) : I D cA g ws ce sl pc lv st := by
  obtain ⟨p, l, e, R, s, m, args, below, meth, c, ce0, sl0, Q, A, nL, res⟩ := g
  obtain ⟨hx, hb, hml, hown, hts, hK, hIE, hR, hA, hini, hn⟩ := C
  intro H locs ls hP hD hS hl
  exact lv_bipush hx hb hdg hv (k H locs ls hP hD hS hl)

theorem I_sipush (C : CI D cA g own cc rm n ini) {i : Int} {v : Int32} (hdg : decode cc pc = .ok (.sipush i, 3)) (hv : (Int16.ofInt i).toInt32 = v) (k : I D cA g ws ce sl (pc + 3) lv (.int v :: st)) : I D cA g ws ce sl pc lv st := by
  obtain ⟨p, l, e, R, s, m, args, below, meth, c, ce0, sl0, Q, A, nL, res⟩ := g
  obtain ⟨hx, hb, hml, hown, hts, hK, hIE, hR, hA, hini, hn⟩ := C
  intro H locs ls hP hD hS hl
  exact lv_sipush hx hb hdg hv (k H locs ls hP hD hS hl)

theorem I_iload_n (C : CI D cA g own cc rm n ini) {k4 : Fin 4} {i : Nat} {x : Int32} (hdg : decode cc pc = .ok (.iload_n k4, 1)) (hi : (k4 : Nat) = i) (q : Nat) (hq : lv[q]? = some (i, .int x)) (k : I D cA g ws ce sl (pc + 1) lv (.int x :: st)) : I D cA g ws ce sl pc lv st := by
  obtain ⟨p, l, e, R, s, m, args, below, meth, c, ce0, sl0, Q, A, nL, res⟩ := g
  obtain ⟨hx, hb, hml, hown, hts, hK, hIE, hR, hA, hini, hn⟩ := C
  intro H locs ls hP hD hS hl
  exact lv_iload_n hx hb hdg hi (lv_at hl q hq) (k H locs ls hP hD hS hl)

theorem I_istore_n (C : CI D cA g own cc rm n ini) {k4 : Fin 4} {i : Nat} {x : Int32} (hdg : decode cc pc = .ok (.istore_n k4, 1)) (hi : (k4 : Nat) = i) (hin : i < n) (hlv : (i, Value.int x) :: lv.filter (fun q => !(q.1 == i) && !(q.1 + 1 == i && q.2.category == 2)) = lv') (k : I D cA g ws ce sl (pc + 1) lv' st) : I D cA g ws ce sl pc lv (.int x :: st) := by
  obtain ⟨p, l, e, R, s, m, args, below, meth, c, ce0, sl0, Q, A, nL, res⟩ := g
  obtain ⟨hx, hb, hml, hown, hts, hK, hIE, hR, hA, hini, hn⟩ := C
  intro H locs ls hP hD hS hl
  exact lv_istore_n hx hb hdg hi hl (by rw [hn]; exact hin) hlv (fun ls' hl' => k H locs ls' hP hD hS hl')

theorem I_aload_n (C : CI D cA g own cc rm n ini) {k4 : Fin 4} {i : Nat} {x : Nat} (hdg : decode cc pc = .ok (.aload_n k4, 1)) (hi : (k4 : Nat) = i) (q : Nat) (hq : lv[q]? = some (i, .ref x)) (k : I D cA g ws ce sl (pc + 1) lv (.ref x :: st)) : I D cA g ws ce sl pc lv st := by
  obtain ⟨p, l, e, R, s, m, args, below, meth, c, ce0, sl0, Q, A, nL, res⟩ := g
  obtain ⟨hx, hb, hml, hown, hts, hK, hIE, hR, hA, hini, hn⟩ := C
  intro H locs ls hP hD hS hl
  exact lv_aload_n hx hb hdg hi (lv_at hl q hq) (k H locs ls hP hD hS hl)

theorem I_astore_n (C : CI D cA g own cc rm n ini) {k4 : Fin 4} {i : Nat} {x : Nat} (hdg : decode cc pc = .ok (.astore_n k4, 1)) (hi : (k4 : Nat) = i) (hin : i < n) (hlv : (i, Value.ref x) :: lv.filter (fun q => !(q.1 == i) && !(q.1 + 1 == i && q.2.category == 2)) = lv') (k : I D cA g ws ce sl (pc + 1) lv' st) : I D cA g ws ce sl pc lv (.ref x :: st) := by
  obtain ⟨p, l, e, R, s, m, args, below, meth, c, ce0, sl0, Q, A, nL, res⟩ := g
  obtain ⟨hx, hb, hml, hown, hts, hK, hIE, hR, hA, hini, hn⟩ := C
  intro H locs ls hP hD hS hl
  exact lv_astore_n hx hb hdg hi hl (by rw [hn]; exact hin) hlv (fun ls' hl' => k H locs ls' hP hD hS hl')

theorem I_iinc (C : CI D cA g own cc rm n ini) {i q : Nat} {d : Int} {x v : Int32} (hdg : decode cc pc = .ok (.iinc i d, 3)) (hq : lv[q]? = some (i, .int x)) (hv : x + Int32.ofInt d = v) (hin : i < n) (hlv : (i, Value.int v) :: lv.filter (fun q => !(q.1 == i) && !(q.1 + 1 == i && q.2.category == 2)) = lv') (k : I D cA g ws ce sl (pc + 3) lv' st) : I D cA g ws ce sl pc lv st := by
  obtain ⟨p, l, e, R, s, m, args, below, meth, c, ce0, sl0, Q, A, nL, res⟩ := g
  obtain ⟨hx, hb, hml, hown, hts, hK, hIE, hR, hA, hini, hn⟩ := C
  intro H locs ls hP hD hS hl
  exact lv_iinc hx hb hdg hl hq hv (by rw [hn]; exact hin) hlv (fun ls' hl' => k H locs ls' hP hD hS hl')

theorem I_dup (C : CI D cA g own cc rm n ini) {va : Value} (hva : va.category = 1) (hdg : decode cc pc = .ok (.dup, 1)) (k : I D cA g ws ce sl (pc + 1) lv (va :: va :: st)) : I D cA g ws ce sl pc lv (va :: st) := by
  obtain ⟨p, l, e, R, s, m, args, below, meth, c, ce0, sl0, Q, A, nL, res⟩ := g
  obtain ⟨hx, hb, hml, hown, hts, hK, hIE, hR, hA, hini, hn⟩ := C
  intro H locs ls hP hD hS hl
  exact lv_dup hx hb hdg hva (k H locs ls hP hD hS hl)

theorem I_goto (C : CI D cA g own cc rm n ini) {off : Int} {tgt : Nat} (hdg : decode cc pc = .ok (.goto off, 3)) (ht : (pc : Int) + off = (tgt : Int)) (k : I D cA g ws ce sl tgt lv st) : I D cA g ws ce sl pc lv st := by
  obtain ⟨p, l, e, R, s, m, args, below, meth, c, ce0, sl0, Q, A, nL, res⟩ := g
  obtain ⟨hx, hb, hml, hown, hts, hK, hIE, hR, hA, hini, hn⟩ := C
  intro H locs ls hP hD hS hl
  exact lv_goto hx hb hdg ht (k H locs ls hP hD hS hl)

theorem I_icmp_ge_t (C : CI D cA g own cc rm n ini) {x y : Int32} {off : Int} {tgt : Nat} (hdg : decode cc pc = .ok (.if_icmp .ge off, 3)) (ht : (pc : Int) + off = (tgt : Int)) (hc : y ≤ x) (k : I D cA g ws ce sl tgt lv st) : I D cA g ws ce sl pc lv (.int y :: .int x :: st) := by
  obtain ⟨p, l, e, R, s, m, args, below, meth, c, ce0, sl0, Q, A, nL, res⟩ := g
  obtain ⟨hx, hb, hml, hown, hts, hK, hIE, hR, hA, hini, hn⟩ := C
  intro H locs ls hP hD hS hl
  exact lv_icmp_ge hx hb hdg ht (fun _ => k H locs ls hP hD hS hl) (fun h => absurd hc h)

theorem I_icmp_ge_f (C : CI D cA g own cc rm n ini) {x y : Int32} {off : Int} {tgt : Nat} (hdg : decode cc pc = .ok (.if_icmp .ge off, 3)) (ht : (pc : Int) + off = (tgt : Int)) (hc : ¬ (y ≤ x)) (k : I D cA g ws ce sl (pc + 3) lv st) : I D cA g ws ce sl pc lv (.int y :: .int x :: st) := by
  obtain ⟨p, l, e, R, s, m, args, below, meth, c, ce0, sl0, Q, A, nL, res⟩ := g
  obtain ⟨hx, hb, hml, hown, hts, hK, hIE, hR, hA, hini, hn⟩ := C
  intro H locs ls hP hD hS hl
  exact lv_icmp_ge hx hb hdg ht (fun h => absurd h hc) (fun _ => k H locs ls hP hD hS hl)

theorem I_if_le_t (C : CI D cA g own cc rm n ini) {x : Int32} {off : Int} {tgt : Nat} (hdg : decode cc pc = .ok (.ifCond .le off, 3)) (ht : (pc : Int) + off = (tgt : Int)) (hc : x ≤ 0) (k : I D cA g ws ce sl tgt lv st) : I D cA g ws ce sl pc lv (.int x :: st) := by
  obtain ⟨p, l, e, R, s, m, args, below, meth, c, ce0, sl0, Q, A, nL, res⟩ := g
  obtain ⟨hx, hb, hml, hown, hts, hK, hIE, hR, hA, hini, hn⟩ := C
  intro H locs ls hP hD hS hl
  exact lv_if_le hx hb hdg ht (fun _ => k H locs ls hP hD hS hl) (fun h => absurd hc h)

theorem I_if_le_f (C : CI D cA g own cc rm n ini) {x : Int32} {off : Int} {tgt : Nat} (hdg : decode cc pc = .ok (.ifCond .le off, 3)) (ht : (pc : Int) + off = (tgt : Int)) (hc : ¬ (x ≤ 0)) (k : I D cA g ws ce sl (pc + 3) lv st) : I D cA g ws ce sl pc lv (.int x :: st) := by
  obtain ⟨p, l, e, R, s, m, args, below, meth, c, ce0, sl0, Q, A, nL, res⟩ := g
  obtain ⟨hx, hb, hml, hown, hts, hK, hIE, hR, hA, hini, hn⟩ := C
  intro H locs ls hP hD hS hl
  exact lv_if_le hx hb hdg ht (fun h => absurd h hc) (fun _ => k H locs ls hP hD hS hl)

theorem va_nd_of : ∀ l : List Nat, l.Nodup → va_nd l = true
  | [], _ => rfl
  | a :: l, h => by
    have h1 := List.nodup_cons.mp h
    simp only [va_nd, Bool.and_eq_true, decide_eq_true_eq]
    exact ⟨h1.1, va_nd_of l h1.2⟩
theorem va_nd_range (n : Nat) : va_nd (List.range n) = true := va_nd_of _ List.nodup_range
theorem I_objInit (C : CI D cA g own cc rm n ini) {idx a : Nat} (hlink : Cond.methodLink own idx objectInit ∈ BIG) (hinst : Cond.instanceMethod objectInit ∈ BIG) (hcode : Cond.code objectInit ⟨#[0xb1]⟩ 1 none ∈ BIG) (hr : 1 ≤ rm.frames ∧ 20 ≤ rm.locals) (hcat : (st.map fun v => v.category).sum ≤ 8) (hdg : decode cc pc = .ok (.invokespecial idx, 3)) (k : I D cA g ws ce sl (pc + 3) lv st) : I D cA g ws ce sl pc lv (.ref a :: st) := by
  obtain ⟨p, l, e, R, s, m, args, below, meth, c, ce0, sl0, Q, A, nL, res⟩ := g
  obtain ⟨hx, hb, hml, hown, hts, hK, hIE, hR, hA, hini, hn⟩ := C
  intro H locs ls hP hD hS hl
  subst hR
  refine W.objInit hx hb hown (hts _ hlink) (hts _ hinst) (hts _ hcode) rfl (by rw [hml]; exact hl.1) rfl hdg hr.1 (by have := lv_room (m := m) (pc := pc) (ls := ls) (rest := st) hcat; show 2 * 0 + _ + 12 ≤ _; have := hr.2; omega) ?_
  exact k H locs ls hP hD hS hl
theorem I_put (C : CI D cA g own cc rm n ini) {ref Cn : String} {T : u_T} {ty0 : Nat → FieldType} {ty : FieldType} {N index ci a : Nat} {v : Value} {fs : List Value} (q0 k : Nat) (hin : ∀ x ∈ u_ws Cn T N, x ∈ BIG) (hlink : Cond.fieldLink own index ref (T k).2.1 (T k).2.2.1 ∈ BIG) (hcl : vwCl[ci]? = some (Cn, T, N)) (hsm : (T k).1 = ref) (hty : ∀ k, k < N → parseFieldDescriptor (T k).2.2.1 = some (ty0 k)) (hnm : ∀ a, a < N → ∀ b, b < N → a ≠ b → (T a).2.1 ≠ (T b).2.1) (hfin : (T k).2.2.2 = false ∨ ((T k).2.2.2 = true ∧ ini = true ∧ (T k).1 = own)) (hk : k < N) (he : ws[q0]? = some (a, .inr (ci, fs))) (htk : ty0 k = ty) (hnr : narrow ty v = v) (hft : fits ty v = true) (hlen : k < fs.length) (hws : ws.set q0 (a, .inr (ci, fs.set k v)) = ws') (hdg : decode cc pc = .ok (.putfield index, 3)) (kk : I D cA g ws' ce sl (pc + 3) lv st) : I D cA g ws ce sl pc lv (v :: .ref a :: st) := by
  obtain ⟨p, l, e, R, s, m, args, below, meth, c, ce0, sl0, Q, A, nL, res⟩ := g
  obtain ⟨hx, hb, hml, hown, hts, hK, hIE, hR, hA, hini, hn⟩ := C
  intro H locs ls hP hD hS hl
  subst hws
  rcases hfin with hf | ⟨hf, hi, ho⟩
  · exact va_put hx hb hts hin ty0 hty hnm hown hK hP hD hS q0 he hcl k hk (hts _ hlink) (fun x h => by rw [← hsm]; exact h) hf (ty := ty) (by rw [hty k hk, htk]) hnr hft hlen hdg (fun H1 locs1 hP hD hS => kk H1 locs1 ls hP hD hS hl)
  · exact va_putF hx hb hts hin ty0 hty hnm hown hK hP hD hS q0 he hcl k hk (hts _ hlink) (fun x h => by rw [← hsm]; exact h) hf (hini hi) ho (ty := ty) (by rw [hty k hk, htk]) hnr hft hlen hdg (fun H1 locs1 hP hD hS => kk H1 locs1 ls hP hD hS hl)
theorem I_get (C : CI D cA g own cc rm n ini) {ref Cn : String} {T : u_T} {N index ci a : Nat} {v : Value} {fs : List Value} (q0 k : Nat) (hin : ∀ x ∈ u_ws Cn T N, x ∈ BIG) (hlink : Cond.fieldLink own index ref (T k).2.1 (T k).2.2.1 ∈ BIG) (hcl : vwCl[ci]? = some (Cn, T, N)) (hsm : (T k).1 = ref) (hk : k < N) (he : ws[q0]? = some (a, .inr (ci, fs))) (hv : fs[k]? = some v) (hdg : decode cc pc = .ok (.getfield index, 3)) (kk : I D cA g ws ce sl (pc + 3) lv (v :: st)) : I D cA g ws ce sl pc lv (.ref a :: st) := by
  obtain ⟨p, l, e, R, s, m, args, below, meth, c, ce0, sl0, Q, A, nL, res⟩ := g
  obtain ⟨hx, hb, hml, hown, hts, hK, hIE, hR, hA, hini, hn⟩ := C
  intro H locs ls hP hD hS hl
  exact va_get hx hb hts hin hown hK hP q0 he hcl k hk (hts _ hlink) (fun x h => by rw [← hsm]; exact h) (v := v) hv hdg (kk H locs ls hP hD hS hl)
theorem I_new (C : CI D cA g own cc rm n ini) {Cn : String} {T : u_T} {N index ci ce' sl' : Nat} {ty : Nat → FieldType} (fs : List Value) (hin : ∀ x ∈ u_ws Cn T N, x ∈ BIG) (hty : ∀ k, k < N → parseFieldDescriptor (T k).2.2.1 = some (ty k)) (hcll : Cond.classLink own index Cn ∈ BIG) (hinst : Cond.instantiable Cn N ∈ BIG) (hini2 : Cond.initialized Cn ∈ BIG) (hcl : vwCl[ci]? = some (Cn, T, N)) (hfs : (List.range N).map (fun j => defaultValue (ty j)) = fs) (hce : ce + 1 = ce') (hsl : sl + N = sl') (hr : ce' ≤ rm.cells ∧ sl' ≤ rm.slots) (hdg : decode cc pc = .ok (.new index, 3)) (kk : ∀ q : Nat, I D cA g (ws ++ [(q, .inr (ci, fs))]) ce' sl' (pc + 3) lv (.ref q :: st)) : I D cA g ws ce sl pc lv st := by
  obtain ⟨p, l, e, R, s, m, args, below, meth, c, ce0, sl0, Q, A, nL, res⟩ := g
  obtain ⟨hx, hb, hml, hown, hts, hK, hIE, hR, hA, hini, hn⟩ := C
  intro H locs ls hP hD hS hl
  subst hR hce hsl
  refine va_new hx hb hts hin ty hty hown (hts _ hcll) (hts _ hinst) (hts _ hini2) hK hP hD hS hA hcl (fs := fs) (fun j hj => ?_) hr.1 hr.2 hdg (fun q H1 hP hD hS => kk q H1 locs ls hP hD hS hl)
  subst hfs
  simp [vp_V, hj]
theorem K_same {tys : List (ClassId × FieldType)} {c1 c2 : ClassId} {ty : FieldType} {t0 : Nat} {s : State} (hK : va_K D vwCl (tys ++ [(c1, ty)]) s) (ht : tys[t0]? = some (c2, ty)) : c1 = c2 := by
  have h1 := (hK.2 tys.length (c1, ty) (by simp)).2
  have h2 := (hK.2 t0 (c2, ty) (by
    have hlt := (List.getElem?_eq_some_iff.mp ht).1
    rw [List.getElem?_append_left hlt]; exact ht)).2
  cases ty with
  | object C =>
    obtain ⟨_, _, -, -, -, e1⟩ := h1
    obtain ⟨_, _, -, -, -, e2⟩ := h2
    exact Option.some.inj (e1.symm.trans e2)
  | _ => exact Option.some.inj ((show s.vm.findClass _ = some c1 from h1).symm.trans (show s.vm.findClass _ = some c2 from h2))
theorem I_newa (C : CI D cA g own cc rm n ini) {atype : ArrayType} {ty : FieldType} {z : Int32} {N ce' sl' : Nat} (t0 : Nat) {cX : ClassId} (harr : Cond.arrayClass (newarray.typeOf atype) ∈ BIG) (hty : newarray.typeOf atype = ty) (ht : (tysI cA)[t0]? = some (cX, ty)) (hd : defaultValue ty = .int 0) (hz : ¬ z < 0) (hzN : z.toNatClampNeg = N) (hby : N * componentBytes ty ≤ 536870912) (hce : ce + 1 = ce') (hsl : sl + N = sl') (hr : ce' ≤ rm.cells ∧ sl' ≤ rm.slots) (hdg : decode cc pc = .ok (.newarray atype, 2)) (kk : ∀ q : Nat, I D cA g (ws ++ [(q, .inl (cX, N, .inl (fun _ => 0)))]) ce' sl' (pc + 2) lv (.ref q :: st)) : I D cA g ws ce sl pc lv (.int z :: st) := by
  obtain ⟨p, l, e, R, s, m, args, below, meth, c, ce0, sl0, Q, A, nL, res⟩ := g
  obtain ⟨hx, hb, hml, hown, hts, hK, hIE, hR, hA, hini, hn⟩ := C
  intro H locs ls hP hD hS hl
  subst hR hce hsl
  refine va_newa (atype := atype) (a0 := (N, .inl (fun _ => 0))) hx hb (hts _ harr) hty hK hP hD hS hA (N' := N) (fun cX => by rw [hd]; rfl) hz hzN hby hr.1 hr.2 hdg (fun q c1 H1 hK1 hP1 hD1 hS1 => ?_)
  have e1 := K_same hK1 ht
  subst e1
  exact kk q H1 locs ls hP1 hD1 hS1 hl
theorem I_newq (C : CI D cA g own cc rm n ini) {z : Int32} {N ce' sl' index : Nat} (hcll : Cond.classLink own index "ChairTooFew$Walker" ∈ BIG) (hz : ¬ z < 0) (hzN : z.toNatClampNeg = N) (hby : N * 4 ≤ 536870912) (hce : ce + 1 = ce') (hsl : sl + N = sl') (hr : ce' ≤ rm.cells ∧ sl' ≤ rm.slots) (hdg : decode cc pc = .ok (.anewarray index, 3)) (kk : ∀ q : Nat, I D cA g (ws ++ [(q, .inl (cA 3, N, .inr (.inr (.inr (.inr (fun _ => none))))))]) ce' sl' (pc + 3) lv (.ref q :: st)) : I D cA g ws ce sl pc lv (.int z :: st) := by
  obtain ⟨p, l, e, R, s, m, args, below, meth, c, ce0, sl0, Q, A, nL, res⟩ := g
  obtain ⟨hx, hb, hml, hown, hts, hK, hIE, hR, hA, hini, hn⟩ := C
  intro H locs ls hP hD hS hl
  subst hR hce hsl
  refine va_newq hx hb hown (hts _ hcll) hIE.2 hK hP hD hS hA (N' := N) hz hzN hby hr.1 hr.2 hdg (fun q c1 H1 hK1 hP1 hD1 hS1 => ?_)
  have e1 := K_same (t0 := 3) (c2 := cA 3) hK1 rfl
  subst e1
  exact kk q H1 locs ls hP1 hD1 hS1 hl
theorem I_aast (C : CI D cA g own cc rm n ini) {a v N : Nat} {i : Int32} {f : Nat → Option Nat} {vs : List Value} (q0 qk : Nat) (ha : ws[q0]? = some (a, .inl (cA 3, N, .inr (.inr (.inr (.inr f)))))) (hv : ws[qk]? = some (v, .inr (7, vs))) (hin : inB i N) (hws : ws.set q0 (a, .inl (cA 3, N, .inr (.inr (.inr (.inr (va_up f i.toNatClampNeg (some v))))))) = ws') (hdg : decode cc pc = .ok (.aastore, 1)) (kk : I D cA g ws' ce sl (pc + 1) lv st) : I D cA g ws ce sl pc lv (.ref v :: .int i :: .ref a :: st) := by
  obtain ⟨p, l, e, R, s, m, args, below, meth, c, ce0, sl0, Q, A, nL, res⟩ := g
  obtain ⟨hx, hb, hml, hown, hts, hK, hIE, hR, hA, hini, hn⟩ := C
  intro H locs ls hP hD hS hl
  subst hws
  exact va_astq hx hb hK hP hD hS q0 3 qk 7 (r := (RX7, TX7, 9)) ha rfl hv rfl hin hdg (fun H1 locs1 hP hD hS => kk H1 locs1 ls hP hD hS hl)
theorem I_ws (h1 : ∀ H, va_P D vwCl ws H → va_P D vwCl ws' H) (h2 : ws.map (fun q => q.1) = ws'.map (fun q => q.1)) (kk : I D cA g ws' ce sl pc lv st) : I D cA g ws ce sl pc lv st := by
  obtain ⟨p, l, e, R, s, m, args, below, meth, c, ce0, sl0, Q, A, nL, res⟩ := g
  intro H locs ls hP hD hS hl
  refine kk H locs ls (h1 H hP) ?_ hS hl
  have hg : ∀ (k : Nat) (q : Nat × va_E), ws'[k]? = some q → ∃ e, ws[k]? = some (q.1, e) := by
    intro k q hk
    have h3 : (ws'.map (fun q => q.1))[k]? = some q.1 := by rw [List.getElem?_map, hk]; rfl
    rw [← h2, List.getElem?_map] at h3
    cases hw : ws[k]? with
    | none => rw [hw] at h3; cases h3
    | some x =>
      rw [hw] at h3
      have : x.1 = q.1 := Option.some.inj h3
      exact ⟨x.2, by rw [← this]⟩
  refine ⟨fun i j p q hi hj hpq => ?_, fun k q hk => ?_⟩
  · obtain ⟨e1, f1⟩ := hg i p hi
    obtain ⟨e2, f2⟩ := hg j q hj
    exact hD.1 i j _ _ f1 f2 hpq
  · obtain ⟨e1, f1⟩ := hg k q hk
    exact hD.2 k (q.1, e1) f1
theorem I_call (C : CI D cA g own cc rm n ini) {y : MethodName} {ws2 : List Cond} {rm2 : Room} {h0 mc ms ce' sl' : Nat} {c0 : va_E} {As : List Value} {post : (Nat → Nat) → va_W} {bytes : ByteArray} {maxL k index : Nat} {wr : va_W} {st0 : List Value} (hM : MI (gl g) D cA y ws2 rm2 h0 c0 As post mc ms) (hcw : ∀ (s : State) (args : Array Value), (∀ x ∈ BIG, x.before args s = true) → IE s → (CallB rm s args own index y bytes maxL none ws2 rm2 mc ms k ∨ va_CN rm s args own index y "ChairTooFew" bytes maxL none ws2 rm2 mc ms k)) (hy1 : y.name = "<init>") (hin : Cond.instanceMethod y ∈ BIG) (hws : wr ++ [(h0, c0)] = ws) (hn : As.length = k) (hcat : (st.map fun v => v.category).sum ≤ 8) (hce : ce + mc = ce') (hsl : sl + ms = sl') (hr : ce' ≤ rm.cells ∧ sl' ≤ rm.slots) (hdg : decode cc pc = .ok (.invokespecial index, 3)) (hst : As.reverse ++ .ref h0 :: st = st0) (kk : ∀ a : Nat → Nat, a 0 = h0 → I D cA g (wr ++ post a) ce' sl' (pc + 3) lv st) : I D cA g ws ce sl pc lv st0 := by
  subst hst hws
  obtain ⟨p, l, e, R, s, m, args, below, meth, c, ce0, sl0, Q, A, nL, res⟩ := g
  obtain ⟨hx, hb, hml, hown, hts, hK, hIE, hR, hA, hini, hnn⟩ := C
  intro H locs ls hP hD hS hl
  subst hR hce hsl
  have hw1 : (wr ++ [(h0, c0)])[wr.length]? = some (h0, c0) := by simp
  have hPc : va_P D vwCl [(h0, c0)] H := hP.sub [wr.length] (by simp)
  have hDc : va_D A [(h0, c0)] := hD.sub [wr.length] rfl (by simp)
  have hFc := va_free (wc := [(h0, c0)]) hD hS hA [wr.length] (by simp)
  have pre : PreS s H (va_Pc (.ref h0 :: As) (fun U => U.heap.size = H.size ∧ va_P D vwCl [(h0, c0)] U.heap ∧ va_K D vwCl (tysI cA) U ∧ va_D (fun _ => True) [(h0, c0)] ∧ IE U)) (.ref h0 :: As) := by
    refine ⟨fun a U g mk q => ?_, fun U hU hW => ⟨rfl, by rw [hU], by rw [hU]; exact hPc, va_K.moved hW.alike hK, hDc.weaken (fun _ _ _ _ => trivial), IE.warm hW hIE⟩⟩
    obtain ⟨q0, q1, qP, qK, qD, qI⟩ := q
    exact ⟨q0, q1, qP, va_K.moved (u := U) (U := U.calling g mk a) (Vm.Alike.refl U.vm) qK, qD, IE.same (u := U) (U := U.calling g mk a) rfl qI⟩
  have hlast : ∀ (a : Nat → Nat) (t : State) (H1 : Heap) (locs1 : List Loc), t.heap = H1 → a 0 = h0 → (va_P D vwCl (post a) t.heap ∧ va_D (va_A [(h0, c0)] H.size) (post a)) → H.size ≤ H1.size → (∀ q : Nat, q < H.size → ¬ va_A [(h0, c0)] H.size q → H1[q]? = H[q]?) → va_S A s.heap H1 locs1 → W p l e R s m args below meth c H1 locs1 (ce + mc) (sl + ms) Q (F0 m (pc + 3) ls st) := by
    intro a t H1 locs1 ht ha hB hz hk1 hS1
    rw [ht] at hB
    have hmapR : (List.range wr.length).map (fun i => (wr ++ [(h0, c0)])[i]?) = wr.map some := by
      apply List.ext_getElem?
      intro j
      rw [List.getElem?_map, List.getElem?_map]
      by_cases hj : j < wr.length
      · rw [List.getElem?_range hj, List.getElem?_eq_getElem hj]
        show some ((wr ++ [(h0, c0)])[j]?) = some (some wr[j])
        rw [List.getElem?_append_left hj, List.getElem?_eq_getElem hj]
      · rw [List.getElem?_eq_none (by simpa using hj), List.getElem?_eq_none (by simpa using hj)]
        rfl
    have hnd : va_nd (List.range wr.length) = true := va_nd_range wr.length
    obtain ⟨hP2, hD2⟩ := va_join (wr := wr) (w1 := post a) hP hD [wr.length] (List.range wr.length) (by simp) hmapR hnd (fun i hi => by
      have := List.mem_range.mp hi
      simp; omega) hk1 hFc hB.1 hB.2
    exact kk a ha H1 locs1 ls hP2 hD2 hS1 hl
  rcases hcw s args hts hIE with cw | cw
  · exact va_callv (va_runI (As := As) (rest := st) ⟨hx, hb, hml, hown, hts⟩ (hM H.size) ⟨cw, hy1, hts _ hin⟩ pre rfl hn hl.1 rfl (lv_room hcat) hdg hr) hS (fun q _ h => hFc q h) hFc (fun a t H1 locs1 ht hvm hpost hB hz hk1 hS1 => hlast a t H1 locs1 ht hpost hB hz hk1 hS1)
  · exact va_callv (va_runIN (As := As) (rest := st) ⟨hx, hb, hml, hown, hts⟩ (hM H.size) ⟨cw, hy1, hts _ hin⟩ pre rfl hn hl.1 rfl (lv_room hcat) hdg hr) hS (fun q _ h => hFc q h) hFc (fun a t H1 locs1 ht hvm hpost hB hz hk1 hS1 => hlast a t H1 locs1 ht hpost hB hz hk1 hS1)
theorem I_ret (C : CI D cA g own cc rm n ini) {h0 mc ms : Nat} {post : (Nat → Nat) → va_W} (r : RI D g cc h0 post mc ms) (a : Nat → Nat) (ha : a 0 = h0) (hce : ce ≤ mc) (hsl : sl ≤ ms) (hws : ws = post a) (hdg : decode cc pc = .ok (.return_, 1)) : I D cA g ws ce sl pc lv [] := by
  obtain ⟨p, l, e, R, s, m, args, below, meth, c, ce0, sl0, Q, A, nL, res⟩ := g
  intro H locs ls hP hD hS hl
  subst hws
  exact W.widen hce hsl (r H locs ls pc a ha hP hD hS hdg)
theorem mi_of_I {l : Launch} {y : MethodName} {h0 mc ms : Nat} {c0 : va_E} {As : List Value} {post : (Nat → Nat) → va_W} (hown : y.cls = own) (hy : plainName y.cls = true) (hnm : y.name = "<init>") (hrc : rm.cells = mc) (hrs : rm.slots = ms) (hlen : (lg_sl (.ref h0 :: As)).length ≤ n) (body : ∀ g : GT, gl g = l → CI D cA g own cc rm n true → RI D g cc h0 post mc ms → I D cA g [(h0, c0)] 0 0 0 (lv_args 0 (.ref h0 :: As)) []) : MI l D cA y (wz y cc n none) rm h0 c0 As post mc ms := by
  intro sz
  refine Met.ofW (cc := cc) (maxL := n) (ret := none) hy rfl ?_
  intro p e s m args below meth c s₁ B hml hv
  obtain ⟨rfl, hsz, hP, hK, hD0, hIE⟩ := hv
  have hx := B.exec
  have hb := B.bytes
  have hr := B.returns
  have hts0 := atoms_spec B.pre
  have hts : ∀ x ∈ BIG, x.before _ s = true := fun x h => hts0 x (List.mem_cons_of_mem _ h)
  have hown' : s.vm.findClass own = some m.cls := by
    rw [← hown]
    exact findClass_of_methodNamed B.named
  have hlocks := B.notSynchronized
  have hin : meth.name = "<init>" := by
    have := (name_of_methodNamed B.named B.method).1
    rw [this, hnm]
  have hl := lv_entry (.ref h0 :: As) (n := n) hlen
  rw [lg_entry_eq]
  subst hsz
  refine body (p, l, e, rm, s, m, _, below, meth, c, 0, 0, _, va_A [(h0, c0)] s.heap.size, n, (0, fun _ _ => 0)) rfl ⟨hx, hb, hml, hown', hts, hK, hIE, rfl, fun q h => Or.inr h, fun _ => hin, rfl⟩ ?_ s.heap [] _ hP hD0.self va_S.rf hl
  intro H locs ls pc a ha hP1 hD1 hS1 hd
  exact W.vret hx hb hr (fun t ht _ => ⟨⟨a, rfl, ha, ⟨by rw [ht]; exact hP1, hD1⟩⟩, hS1.F ht⟩) hS1.2.2 hd hlocks
end IR
