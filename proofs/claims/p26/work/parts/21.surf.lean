/-! lists of tiles, seams, the surface -/
section SURF
variable {l : Launch} {D : va_G} {cy : Nat → ClassId} {ad : Nat → Nat}
theorem ok_X5_number (hA : jA ad 46) : OK_X5_number l D cy ad := met_X5_number hA (by
  intro p M0 hp hM
  exact ⟨hp, trivial, rfl, rfl⟩)
theorem ok_X5_at (hA : jA ad 46) : OK_X5_at l D cy ad := met_X5_at hA (by
  intro p k M0 ⟨hp, hk⟩ hM rk
  obtain ⟨h1, h2⟩ := kd5a hp
  exact ⟨hp, h1, ⟨hk.1, by rw [h2]; exact hk.2⟩, trivial, rfl, rfl⟩)
theorem ok_X5_clear (hA : jA ad 46) : OK_X5_clear l D cy ad := met_X5_clear hA (by
  intro p M0 hp hM
  exact ⟨hp, rfl, rfl⟩)
theorem ok_X5_add (hA : jA ad 46) : OK_X5_add l D cy ad := met_X5_add hA (by
  intro p t M0 ⟨hp, h0, h1⟩ hM rt
  obtain ⟨k1, k2⟩ := kd5a hp
  have e : up M0 (p + 1) (M0 p 1).toNat t p 1 = M0 p 1 := up_nk (Or.inl (by omega))
  refine ⟨hp, fun h => absurd h (by omega), fun _ => ⟨hp, hp, k1, ⟨h0, by rw [k2]; omega⟩, hp, by rw [e]; omega, hp, rfl, ?_⟩⟩
  rw [e])
theorem ok_X5_takeOut (hA : jA ad 46) : OK_X5_takeOut l D cy ad := met_X5_takeOut hA (by
  intro p k M0 ⟨hp, ⟨h0, h1⟩, h2⟩ hM rk
  obtain ⟨k1, k2⟩ := kd5a hp
  have e : up M0 p 1 (M0 p 1 - 1) p 1 = M0 p 1 - 1 := up_sk
  have e2 : up M0 p 1 (M0 p 1 - 1) (p + 1) = M0 (p + 1) := up_n (by omega)
  refine ⟨hp, k1, ⟨h0, by rw [k2]; omega⟩, hp, by omega, hp, hp, hp, hp, k1, by rw [e, k2]; omega, k1, ⟨h0, by rw [k2]; omega⟩, trivial, rfl, ?_⟩
  rw [e, e2])
theorem ok_X2_style (hA : jA ad 46) : OK_X2_style l D cy ad := met_X2_style hA (by
  intro p M0 hp hM
  exact ⟨hp, trivial, rfl, rfl⟩)
theorem ok_X2_offset (hA : jA ad 46) : OK_X2_offset l D cy ad := met_X2_offset hA (by
  intro p M0 hp hM
  exact ⟨hp, trivial, rfl, rfl⟩)
theorem ok_X2_change (hA : jA ad 46) : OK_X2_change l D cy ad := met_X2_change hA (by
  intro p k s M0 hp hM rk rs
  refine ⟨hp, fun h => ⟨hp, hp, Or.inr rfl, rfl, ?_⟩, fun h => ⟨hp, fun h2 => ⟨hp, hp, Or.inl rfl, rfl, ?_⟩, fun h2 => ⟨hp, hp, Or.inr rfl, rfl, ?_⟩⟩⟩
  · rw [if_neg (fun z => h z.1)]
  · rw [if_pos ⟨Classical.byContradiction h, h2⟩]
  · rw [if_neg (fun z => h2 z.2)])
theorem ok_X2_crossing (hA : jA ad 46) : OK_X2_crossing l D cy ad := met_X2_crossing hA (by
  intro p b M0 ⟨hp, hb⟩ hM rb
  refine ⟨hp, fun h => ⟨trivial, ?_, rfl⟩, fun h => ⟨trivial, ?_, rfl⟩⟩
  · rw [if_neg h]
  · rw [if_pos (Classical.byContradiction h)]
    rcases hb with rfl | rfl <;> decide)
theorem ok_X2_modulo (hA : jA ad 46) : OK_X2_modulo l D cy ad := met_X2_modulo hA (by
  intro a b M0 ⟨h1, h2⟩ hM ra rb
  unfold c_X2_modulo md
  refine ⟨fun h => ⟨fun h3 => ⟨by omega, trivial, ?_, rfl⟩, fun h3 => ⟨trivial, ?_, rfl⟩⟩, fun h => ⟨by omega, trivial, ?_, rfl⟩⟩
  · rw [if_neg (by omega), if_neg (by omega)]
  · rw [if_neg (by omega), if_pos (by omega)]
  · rw [if_pos (by omega)])
theorem ok_X2_placeBeyond (hA : jA ad 46) : OK_X2_placeBeyond l D cy ad := met_X2_placeBeyond hA (ok_X2_modulo hA) (by
  intro p a b M0 ⟨hp, h1, h2, h3⟩ hM ra rb
  refine ⟨hp, fun h => ⟨hp, by omega, ⟨by omega, by omega⟩, ?_⟩, fun h => ⟨hp, by omega, ⟨by omega, by omega⟩, ?_⟩⟩
  · rintro x2 M1 - - ⟨rfl, rfl⟩
    refine ⟨trivial, ?_, rfl⟩
    unfold ac
    rw [if_neg h, if_pos rfl]
  · rintro x2 M1 - - ⟨rfl, rfl⟩
    refine ⟨trivial, ?_, rfl⟩
    unfold ac
    rw [if_pos (Classical.byContradiction h)])
theorem ok_X3_columns (hA : jA ad 46) : OK_X3_columns l D cy ad := met_X3_columns hA (by
  intro p M0 ⟨hp, h1⟩ hM
  subst h1
  exact ⟨hp, trivial, rfl, rfl⟩)
theorem ok_X3_rows (hA : jA ad 46) : OK_X3_rows l D cy ad := met_X3_rows hA (by
  intro p M0 ⟨hp, h1⟩ hM
  subst h1
  exact ⟨hp, trivial, rfl, rfl⟩)
theorem gB_N {M : Mem} (g : gB M) : 9 ≤ M 1 4 * M 1 5 ∧ M 1 4 * M 1 5 ≤ 144 := by
  have h1 := mul_b (a := M 1 4) (b := M 1 5) (A := 12) (B := 12) (by omega) (by omega) (by omega) (by omega)
  have h2 : 3 * M 1 5 ≤ M 1 4 * M 1 5 := Int.mul_le_mul_of_nonneg_right (by omega) (by omega)
  omega
theorem ok_X3_tiles (hA : jA ad 46) : OK_X3_tiles l D cy ad := met_X3_tiles hA (by
  intro p M0 ⟨hp, h1, g⟩ hM
  subst h1
  have q := gB_N g
  exact ⟨hp, hp, ⟨by omega, by omega⟩, trivial, rfl, rfl⟩)
theorem ok_X3_sideSeam (hA : jA ad 46) : OK_X3_sideSeam l D cy ad := met_X3_sideSeam hA (by
  intro p M0 ⟨hp, h1⟩ hM
  exact ⟨hp, rfl, by decide, rfl, rfl⟩)
theorem ok_X3_endSeam (hA : jA ad 46) : OK_X3_endSeam l D cy ad := met_X3_endSeam hA (by
  intro p M0 ⟨hp, h1⟩ hM
  exact ⟨hp, rfl, by decide, rfl, rfl⟩)
theorem ok_X3_has (hA : jA ad 46) : OK_X3_has l D cy ad := met_X3_has hA (ok_X3_tiles hA) (by
  intro p t M0 ⟨hp, h1, g⟩ hM rt
  subst h1
  refine ⟨fun h => ⟨Or.inl rfl, ?_, rfl⟩, fun h => ⟨⟨hp, rfl, g⟩, ?_⟩⟩
  · rw [if_neg (by omega)]
  · rintro x2 M1 - - ⟨rfl, rfl⟩
    refine ⟨fun h2 => ⟨Or.inl rfl, ?_, rfl⟩, fun h2 => ⟨Or.inr rfl, ?_, rfl⟩⟩
    · rw [if_neg (by omega)]
    · rw [if_pos (by omega)])
theorem ok_X3_next (hA : jA ad 46) : OK_X3_next l D cy ad := met_X3_next hA (by
  intro p t d M0 ⟨hp, h1, h2, h3⟩ hM rt rd
  exact ⟨hp, by omega, by omega, rfl, by omega, trivial, rfl, rfl⟩)
theorem ok_X3_crossing (hA : jA ad 46) : OK_X3_crossing l D cy ad := met_X3_crossing hA (by
  intro p t d M0 ⟨hp, h1, h2, h3⟩ hM rt rd
  exact ⟨hp, by omega, by omega, rfl, by omega, trivial, rfl, rfl⟩)
theorem ok_X3_openBorders (hA : jA ad 46) : OK_X3_openBorders l D cy ad := met_X3_openBorders hA (ok_X3_tiles hA)
  (fun p M0 o k M μ => M = M0 ∧ (0 ≤ k ∧ k ≤ M0 1 4 * M0 1 5 * 4) ∧ (0 ≤ o ∧ o ≤ k) ∧ o = sumF (fun k => if M0 4 k = -5 then 0 else 1) k.toNat ∧ μ = (1000 - k).toNat)
  (by
    intro p M0 ⟨hp, h1, g⟩ hM
    have q := gB_N g
    exact ⟨_, rfl, rfl, by omega, by omega, rfl, rfl⟩)
  (by
    rintro p M0 ⟨hp, h1, g⟩ hM o k M n ⟨rfl, hk, ho, hs, hn⟩ -
    subst h1
    have q := gB_N g
    refine ⟨⟨hp, rfl, g⟩, ?_⟩
    rintro x2 M1 - - ⟨rfl, rfl⟩
    have es : sumF (fun k => if M1 4 k = -5 then 0 else 1) (k + 1).toNat = sumF (fun k => if M1 4 k = -5 then 0 else 1) k.toNat + (if M1 4 k.toNat = -5 then 0 else 1) := by
      rw [show (k + 1).toNat = k.toNat + 1 by omega]; rfl
    refine ⟨by omega, fun h => ⟨trivial, ?_, rfl⟩, fun h => ⟨hp, rfl, by omega, fun h2 => ⟨by omega, _, ?_, rfl, rfl, by omega, by omega, ?_, rfl⟩, fun h2 => ⟨by omega, by omega, _, ?_, rfl, rfl, by omega, by omega, ?_, rfl⟩⟩⟩
    · rw [hs, show k = M1 1 4 * M1 1 5 * 4 by omega]
    · omega
    · rw [es, if_pos h2, hs]; omega
    · omega
    · rw [es, if_neg h2, hs])
theorem ok_X3_join (hA : jA ad 46) : OK_X3_join l D cy ad := met_X3_join hA (by
  intro p t a u c M0 ⟨hp, h1, h2, h3, h4⟩ hM rt ra ru rc
  refine ⟨by omega, by omega, by omega, fun h => ?_, fun h => ?_⟩
  · have ea : a = 1 := by omega
    subst ea
    exact ⟨by omega, hp, rfl, by omega, hp, rfl, by omega, hp, rfl, by omega, hp, rfl, by omega, rfl, rfl⟩
  · have ea : a = 0 := by omega
    subst ea
    exact ⟨by omega, hp, rfl, by omega, hp, rfl, by omega, hp, rfl, by omega, hp, rfl, by omega, rfl, rfl⟩)
end SURF
