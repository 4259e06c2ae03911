/-! ===== the two salons at the start ===== -/
def st_z : Int → Int := fun _ => 0
theorem st_zW : tz_W 0 st_z := by
  refine tz_W_of ⟨by decide, by decide, by decide, fun s h1 h2 => ?_, fun _ _ _ => rfl, rfl⟩ ⟨by decide, by decide, fun i h1 h2 => ?_, fun i j h1 h2 h3 => ?_⟩ ⟨by decide, by decide, fun k h1 h2 => ?_, fun j k h1 h2 h3 => ?_, fun h => absurd h (by decide), by decide, fun _ => rfl⟩ (fun h => absurd h (by decide)) (fun k _ _ => ?_) ⟨by decide, by decide, by decide, by decide⟩
  · have h3 : s < 0 := h2
    exact absurd h1 (by omega)
  · have h3 : i < 0 := h2
    exact absurd h1 (by omega)
  · have h4 : j < 0 := h3
    exact absurd h1 (by omega)
  · have h3 : k < 0 := h2
    exact absurd h1 (by omega)
  · have h4 : k < 0 := h3
    exact absurd h1 (by omega)
  · show (0 : Int) ≤ 0 ∧ (0 : Int) ≤ 1
    exact ⟨by decide, by decide⟩
theorem st_zS {u : Nat} : tz_S 0 (st_M u) st_z := by
  refine tz_S_of ⟨rfl, fun s h1 h2 => ?_, rfl, rfl⟩ ⟨rfl, rfl, fun i h1 h2 => ?_⟩ ⟨rfl, fun h => absurd h (by decide), fun k h1 h2 => ?_, rfl, fun k h1 h2 => ?_⟩ (fun k hk => ?_) ⟨fun k h1 h2 => rfl, rfl, rfl, rfl, rfl⟩
  · have h3 : s < 0 := h2
    exact absurd h1 (by omega)
  · have h3 : i < 0 := h2
    exact absurd h1 (by omega)
  · have h3 : k < 0 := h2
    exact absurd h1 (by omega)
  · have h3 : k < 0 := h2
    exact absurd h1 (by omega)
  · show tz_bit 0 k = decide ((0 : Int) = 1)
    rw [tz_bit_0]
    rfl
theorem st_J0 {u : Nat} : tz_J 0 (st_M u) := by
  have e : (st_M u).1 165 = st_z := rfl
  refine ⟨⟨?_, ?_⟩, ⟨0, fun _ => st_z, ⟨rfl, ⟨by decide, by decide⟩, ?_, fun i hi => absurd hi (by omega)⟩, ⟨rfl, ⟨by decide, by decide⟩, ?_, fun i hi => absurd hi (by omega)⟩⟩, ⟨Or.inl rfl, rfl, fun h => ?_⟩, ⟨rfl, ?_, rfl, ?_⟩, ⟨?_, rfl, fun j h1 h2 => ?_⟩, ⟨Or.inl rfl, ?_, rfl, ?_, rfl, fun j h1 h2 => ?_⟩⟩
  · rw [e]; exact st_zW
  · rw [e]; exact st_zS
  · show (0 : Int) ≤ 0 ∧ (0 : Int) < 8
    exact ⟨by decide, by decide⟩
  · show (0 : Int) ≤ 0 ∧ (0 : Int) < 8
    exact ⟨by decide, by decide⟩
  · have h2 : (0 : Int) = 1 := h
    exact absurd h2 (by decide)
  · show (-1 : Int) ≤ -1 ∧ (-1 : Int) ≤ 60
    exact ⟨by decide, by decide⟩
  · show (-1 : Int) ≤ -1 ∧ (-1 : Int) ≤ 12
    exact ⟨by decide, by decide⟩
  · show (0 : Int) ≤ 0 ∧ (0 : Int) ≤ 60
    exact ⟨by decide, by decide⟩
  · have h3 : j < 0 := h2
    exact absurd h1 (by omega)
  · show (0 : Int) ≤ (u : Int)
    omega
  · show (0 : Int) ≤ 0 ∧ (0 : Int) ≤ 16
    exact ⟨by decide, by decide⟩
  · have h3 : j < 0 := h2
    exact absurd h1 (by omega)
