/-! TileList -/
section TL
variable {l : Launch} {D : va_G} {cy : Nat → ClassId} {ad : Nat → Nat}
theorem ok_X5_number (hA : jA ad 46) : OK_X5_number l D cy ad := met_X5_number hA (by
  intro p M0 hp hM
  exact ⟨hp, trivial, rfl, rfl⟩)
theorem ok_X5_at (hA : jA ad 46) : OK_X5_at l D cy ad := met_X5_at hA (by
  intro p k M0 ⟨hp, hk⟩ hM rk
  obtain ⟨h1, h2⟩ := kd5a hp
  refine ⟨hp, h1, ⟨hk.1, by rw [h2]; exact hk.2⟩, trivial, rfl, rfl⟩)
theorem ok_X5_clear (hA : jA ad 46) : OK_X5_clear l D cy ad := met_X5_clear hA (by
  intro p M0 hp hM
  exact ⟨hp, rfl, rfl⟩)
theorem ok_X3_tiles (hA : jA ad 46) : OK_X3_tiles l D cy ad := met_X3_tiles hA (by
  intro p M0 ⟨hp, h1, g⟩ hM
  subst h1
  obtain ⟨q1, q2⟩ := mul_b (a := M0 1 4) (b := M0 1 5) (A := 12) (B := 12) (by omega) (by omega) (by omega) (by omega)
  exact ⟨hp, hp, ⟨by omega, by omega⟩, trivial, rfl, rfl⟩)
end TL
