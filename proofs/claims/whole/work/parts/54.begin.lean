/-! as both begin -/
theorem RR_0 : RR sz tz := by
  have e4 : tz 0 4 = 0 := rfl
  have e9 : tz 0 9 = 0 := rfl
  refine ⟨⟨⟨by decide, by decide⟩, ⟨by decide, by decide⟩, fun c c0 c1 => ?_, fun t t0 t1 => ?_, fun i _ _ => ⟨Int.le_refl 0, (by decide : (0 : Int) ≤ 999)⟩, ⟨by decide, by decide⟩, ⟨by decide, by decide⟩⟩, ⟨rfl, rfl, rfl, rfl, fun c c0 c1 => ?_, fun t t0 t1 => ?_, fun _ _ _ => rfl⟩, ⟨rfl, Or.inl rfl⟩, ⟨rfl, ⟨by decide, by decide⟩, fun i i0 i1 => ?_⟩, fun s s0 s1 => Or.inl ⟨rfl, ?_⟩, fun _ _ _ => rfl⟩
  · rw [e4] at c1; omega
  · rw [e9] at t1; omega
  · rw [e4] at c1; omega
  · rw [e9] at t1; omega
  · have e14 : tz 0 14 = 0 := rfl
    rw [e14] at i1; omega
  · show (if s < 4 then (-1 : Int) else 0) = -1
    rw [if_pos s1]
theorem mok_0 : mokm sz ∧ mokm tz := by
  have one : ∀ (c : Prop) [Decidable c], R32 (if c then 1 else 0) := by
    intro c _
    split <;> exact ⟨by decide, by decide⟩
  have z0 : R32 0 := ⟨by decide, by decide⟩
  refine ⟨fun k j => ?_, fun k j => ?_⟩
  · unfold sz
    split
    · exact one _
    · exact one _
    · exact z0
  · unfold tz
    split
    · exact one _
    · show R32 (if j < 4 then -1 else 0)
      split <;> exact ⟨by decide, by decide⟩
    · exact z0
