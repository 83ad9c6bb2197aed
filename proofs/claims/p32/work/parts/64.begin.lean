/-! ===== the start ===== -/
def P0b : PAy := fun a b => if a = 10 then (if b = 0 then 24 else if b = 3 then 10 else if b = 5 then 1 else 0) else 0
theorem V_P0 : VA P0b := by
  have r0 : rk P0b 60 = 0 := by decide
  refine ⟨⟨by decide, by decide⟩, by decide, ⟨fun p => Nat.zero_le _, fun p _ => rfl, by rw [r0]; omega⟩, fun w hw => ?_, fun u w hu => ?_, ?_⟩
  · exact absurd hw (by show ¬ w < 0; omega)
  · exact absurd hu (by show ¬ u < 0; omega)
  · unfold VSa; decide
theorem IV_0 : IV M0 := by
  have r0 : rk P0b 60 = 0 := by decide
  refine ⟨⟨P0b, ⟨⟨rfl, ?_, fun p h => ?_, fun p hp => rfl⟩, ⟨rfl, rfl, rfl⟩, fun w hw => ?_, ⟨rfl, rfl, rfl, rfl, rfl⟩, fun p hp => rfl⟩, ?_, V_P0, by decide⟩, Or.inl ⟨rfl, rfl⟩, ⟨0, fun _ => 0, fun _ => by show 0 < 256; omega, by omega, ⟨rfl, fun j hj => by omega⟩, ⟨rfl, fun j hj => by omega⟩⟩, ⟨0, fun _ => 0, by omega, fun j hj => by omega, rfl, fun j hj => by omega, rfl, fun j hj => by omega⟩, ⟨0, fun _ => 0, by omega, fun j hj => by omega, rfl, fun j hj => by omega, rfl, fun j hj => by omega⟩⟩
  · rw [r0]; rfl
  · exact absurd h (by show ¬ 0 = 1; omega)
  · exact absurd hw (by show ¬ w < 0; omega)
  · refine RP.mk (fun j hj => rfl) (fun i j hi hj => ?_) (fun s hs => ?_)
    · have : i = 0 ∨ i = 1 ∨ i = 2 ∨ i = 3 ∨ i = 4 ∨ i = 5 ∨ i = 6 ∨ i = 7 ∨ i = 8 := by omega
      rcases this with rfl | rfl | rfl | rfl | rfl | rfl | rfl | rfl | rfl <;> rfl
    · have : s = 0 ∨ s = 1 ∨ s = 2 ∨ s = 3 ∨ s = 4 ∨ s = 5 ∨ s = 6 ∨ s = 7 ∨ s = 8 := by omega
      rcases this with rfl | rfl | rfl | rfl | rfl | rfl | rfl | rfl | rfl <;> rfl
theorem Ok_cb2 {A B : Mem → Option Res} {M : Mem} {F : Int32 → Mem → Option Res} (h : Ah M A B) (k : ∀ r r' M1 M2, B M1 = some (r', M2) → IV M2 → Ok (F r M1)) : Ok (cb (A M) F) := by
  obtain ⟨r, r', M1, M2, h1, h2, h3⟩ := h
  exact Ok.cb h1 (k r r' M1 M2 h2 h3)
