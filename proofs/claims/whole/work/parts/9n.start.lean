/-! THE LAW: the two worlds as they are made -/
def M0c : Mm := (fun a => match a with | 2 => fN | 15 => fN | 30 => (fun i => match i with | 3 => -1 | _ => 0) | 38 => (fun i => match i with | 3 => 1 | 4 => -9 | _ => 0) | _ => fun _ => 0, fun _ _ => 0)
def M0m : Mm := (fun a => match a with | 2 => fN | _ => fun _ => 0, fun _ _ => 0)
def aC (h0 : Nat) (f : Nat → Nat) : Nat → Nat := fun i => match i with | 0 => h0 | i + 1 => f i
set_option maxRecDepth 100000 in
set_option maxHeartbeats 1000000 in
theorem p11_e (G : va_G) (t : Nat → ClassId) (S : Nat → Nat) (h0 : Nat) (f : Nat → Nat) : pX11 t h0 f = wsOf KC (G, aC h0 f, t, S) M0c := by
  have h5 : (fun j => some (f (4 + 2 * j))) = fun j => some (aC h0 f (5 + 2 * j)) := by
    funext j
    rw [show 5 + 2 * j = 4 + 2 * j + 1 by omega]
    rfl
  have h18 : (fun j => some (f (17 + 2 * j))) = fun j => some (aC h0 f (18 + 2 * j)) := by
    funext j
    rw [show 18 + 2 * j = 17 + 2 * j + 1 by omega]
    rfl
  unfold pX11
  rw [h5, h18]
  rfl
set_option maxRecDepth 100000 in
set_option maxHeartbeats 1000000 in
theorem p12_e (G : va_G) (t : Nat → ClassId) (S : Nat → Nat) (h0 : Nat) (f : Nat → Nat) : pX12 t h0 f = wsOf KM (G, aC h0 f, t, S) M0m := rfl
theorem fN_ok : ∀ s, s < 43 → OkV s (fN s) := by
  show ∀ s, s < 43 → (0 ≤ (fN s).toInt ∧ (fN s).toInt ≤ 999 ∧ (s < 40 → ¬ (s < 24 ∧ s % 6 = 2) → (fN s).toInt ≤ 99))
  decide +kernel
theorem fN_0 : ∀ h, h < 4 → ∀ k, k < 6 → fN (6 * h + k) = 0 := by decide +kernel
theorem fN_43 : ∀ h, h < 4 → fN (43 + h) = 0 := by decide +kernel
theorem rel_0 : Rel M0c M0m := by
  refine ⟨⟨⟨fun h hh => ?_, fun i _ => b_0 i, fun i _ => rfl, fN_ok, fun h k hh hk _ => fN_0 h hh k hk⟩, ⟨0, by omega, rfl, rfl, fun i _ => b_0 i, fun l h => absurd h (by omega)⟩, ?_, ⟨0, by omega, rfl, rfl, fun y h => absurd h (by omega), fun w _ => rfl⟩⟩, Or.inl ⟨rfl, rfl⟩, ⟨fun i _ => rfl, ⟨0, 0, by omega, by omega, rfl, rfl, rfl, fun k h => absurd h (by omega)⟩, ⟨0, by omega, rfl, rfl, fun i h => absurd h (by omega)⟩, ⟨0, by omega, rfl, rfl, fun i h => absurd h (by omega)⟩⟩, fun q => absurd (show (1 : Int32) = 0 from q) (by decide), Or.inl rfl⟩
  · show fN (43 + h) = b01 (bt 0 h)
    rw [fN_43 h hh, b_0]
    rfl
  · intro h hh
    match h, hh with
    | 0, _ => exact Or.inl ⟨rfl, rfl⟩
    | 1, _ => exact Or.inl ⟨rfl, rfl⟩
    | 2, _ => exact Or.inl ⟨rfl, rfl⟩
    | 3, _ => exact Or.inl ⟨rfl, rfl⟩
    | h + 4, q => exact absurd q (by omega)
