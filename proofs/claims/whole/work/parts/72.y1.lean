/-! ===== the model's small methods ===== -/
theorem sm_v {g : Nat → Int} {t d : Int} : sm g t d = if (d = 0 ∧ t % g 0 = g 0 - 1) ∨ (d = 2 ∧ t % g 0 = 0) then 1 else if (d = 1 ∧ t / g 0 = g 1 - 1) ∨ (d = 3 ∧ t / g 0 = 0) then 2 else 0 := rfl
theorem nx_v {g : Nat → Int} (G : gOK g) {t d : Int} (h0 : 0 ≤ t) (h1 : t < nT g) (hd : 0 ≤ d ∧ d < 4) :
    (sm g t d = 0 → nx g t d = if d = 0 then t + 1 else if d = 1 then t + g 0 else if d = 2 then t - 1 else t - g 0) ∧
    (sm g t d = 1 → nx g t d = if g 2 = 0 then -5 else g 0 * ac (g 2) (g 3) (t / g 0) (g 1) (decide (d = 0)) + (if d = 0 then 0 else g 0 - 1)) ∧
    (sm g t d = 2 → nx g t d = if g 4 = 0 then -5 else ac (g 4) (g 5) (t % g 0) (g 0) (decide (d = 1)) + (if d = 1 then 0 else g 0 * (g 1 - 1))) := by
  obtain ⟨nE, n9, n144⟩ := nT_b G
  obtain ⟨hx, hy, ht⟩ := idx_t (w := g 0) (h := g 1) (t := t) (by have := G.1; omega) h0 (by omega)
  have en : nx g t d = if ¬ (sm g t d = 1 ∧ g 2 = 0) ∧ ¬ (sm g t d = 2 ∧ g 4 = 0) then g 0 * nY g (t % g 0) (t / g 0) d + nX g (t % g 0) (t / g 0) d else -5 := rfl
  have es := sm_v (g := g) (t := t) (d := d)
  have m1 : g 0 * (t / g 0 + 1) = g 0 * (t / g 0) + g 0 := by rw [Int.mul_add, Int.mul_one]
  have m2 : g 0 * (t / g 0 - 1) = g 0 * (t / g 0) - g 0 := by rw [Int.mul_sub, Int.mul_one]
  have m0 : g 0 * 0 = 0 := Int.mul_zero _
  generalize t % g 0 = x at *
  generalize t / g 0 = y at *
  refine ⟨fun z => ?_, fun z => ?_, fun z => ?_⟩
  · rw [en, if_pos ⟨fun q => by omega, fun q => by omega⟩]
    rw [z] at es
    unfold nX nY
    rcases (by omega : d = 0 ∨ d = 1 ∨ d = 2 ∨ d = 3) with rfl | rfl | rfl | rfl
    · have : x < g 0 - 1 := by
        by_cases q : x = g 0 - 1
        · rw [if_pos (Or.inl ⟨rfl, q⟩)] at es; omega
        · omega
      rw [if_pos rfl, if_pos rfl, if_pos this, if_pos this, if_pos rfl]; omega
    · have : y < g 1 - 1 := by
        by_cases q : y = g 1 - 1
        · rw [if_neg (by omega), if_pos (Or.inl ⟨rfl, q⟩)] at es; omega
        · omega
      rw [if_neg (by decide), if_neg (by decide), if_pos rfl, if_pos this, if_neg (by decide), if_neg (by decide), if_pos rfl, if_pos this, if_neg (by decide), if_pos rfl, m1]; omega
    · have : 0 < x := by
        by_cases q : x = 0
        · rw [if_pos (Or.inr ⟨rfl, q⟩)] at es; omega
        · omega
      rw [if_neg (by decide), if_pos rfl, if_pos this, if_neg (by decide), if_pos rfl, if_pos this, if_neg (by decide), if_neg (by decide), if_pos rfl]; omega
    · have : 0 < y := by
        by_cases q : y = 0
        · rw [if_neg (by omega), if_pos (Or.inr ⟨rfl, q⟩)] at es; omega
        · omega
      rw [if_neg (by decide), if_neg (by decide), if_neg (by decide), if_pos this, if_neg (by decide), if_neg (by decide), if_neg (by decide), if_pos this, if_neg (by decide), if_neg (by decide), if_neg (by decide), m2]; omega
  · rw [en]
    by_cases q : g 2 = 0
    · rw [if_neg (fun w => w.1 ⟨z, q⟩), if_pos q]
    · rw [if_pos ⟨fun w => q w.2, fun w => by omega⟩, if_neg q]
      rw [z] at es
      unfold nX nY
      rcases (by omega : d = 0 ∨ d = 1 ∨ d = 2 ∨ d = 3) with rfl | rfl | rfl | rfl
      · have : ¬ x < g 0 - 1 := fun w => by
          rw [if_neg (by omega)] at es
          split at es <;> omega
        rw [if_pos rfl, if_pos rfl, if_neg this, if_neg this, if_pos rfl, decide_eq_true rfl]
      · rw [if_neg (by omega)] at es; split at es <;> omega
      · have : ¬ 0 < x := fun w => by
          rw [if_neg (by omega)] at es
          split at es <;> omega
        rw [if_neg (by decide), if_pos rfl, if_neg this, if_neg (by decide), if_pos rfl, if_neg this, if_neg (by decide), decide_eq_false (by decide)]
      · rw [if_neg (by omega)] at es; split at es <;> omega
  · rw [en]
    by_cases q : g 4 = 0
    · rw [if_neg (fun w => w.2 ⟨z, q⟩), if_pos q]
    · rw [if_pos ⟨fun w => by omega, fun w => q w.2⟩, if_neg q]
      rw [z] at es
      unfold nX nY
      rcases (by omega : d = 0 ∨ d = 1 ∨ d = 2 ∨ d = 3) with rfl | rfl | rfl | rfl
      · split at es
        · omega
        · rw [if_neg (by omega)] at es; omega
      · have : ¬ y < g 1 - 1 := fun w => by
          rw [if_neg (by omega), if_neg (by omega)] at es
          omega
        rw [if_neg (by decide), if_neg (by decide), if_pos rfl, if_neg this, if_neg (by decide), if_neg (by decide), if_pos rfl, if_neg this, if_pos rfl, decide_eq_true rfl, m0]; omega
      · split at es
        · omega
        · rw [if_neg (by omega)] at es; omega
      · have : ¬ 0 < y := fun w => by
          rw [if_neg (by omega), if_neg (by omega)] at es
          omega
        rw [if_neg (by decide), if_neg (by decide), if_neg (by decide), if_neg this, if_neg (by decide), if_neg (by decide), if_neg (by decide), if_neg this, if_neg (by decide), decide_eq_false (by decide)]; omega
section Y1
variable {l : Launch} {D : va_G} {cy : Nat → ClassId} {ad : Nat → Nat}
theorem ok_X9_in (hA : jA ad 12) : OK_X9_in l D cy ad := met_X9_in hA (by
  rintro v a b M0 - hM rv ra rb
  exact ⟨fun h => ⟨Or.inl rfl, (if_neg (by omega)).symm, rfl⟩, fun h => ⟨fun h2 => ⟨Or.inl rfl, (if_neg (by omega)).symm, rfl⟩, fun h2 => ⟨Or.inr rfl, (if_pos (by omega)).symm, rfl⟩⟩⟩)
theorem ok_X9_modulo (hA : jA ad 12) : OK_X9_modulo l D cy ad := met_X9_modulo hA (by
  rintro v b M0 ⟨hv, hb, hb2⟩ hM rv rb
  have b1 := Int.tmod_lt_of_pos v hb
  have b2 : -b < Int.tmod v b := by
    have := Int.tmod_lt_of_pos (-v) hb
    rw [Int.neg_tmod] at this
    omega
  refine ⟨hb, by omega, hb, trivial, ?_, rfl⟩
  rw [Int.tmod_eq_emod_of_nonneg (by omega)]
  by_cases q : 0 ≤ v
  · rw [Int.tmod_eq_emod_of_nonneg q, Int.add_emod_right, Int.emod_emod]
  · have e : Int.tmod v b = -((-v) % b) := by
      have := Int.neg_tmod (a := -v) (b := b)
      rw [Int.neg_neg, Int.tmod_eq_emod_of_nonneg (a := -v) (by omega)] at this
      exact this
    rw [e, Int.add_emod_right]
    have h1 := Int.emod_add_mul_ediv (-v) b
    have h2 : -((-v) % b) = v + b * ((-v) / b) := by omega
    rw [h2, Int.add_mul_emod_self_left])
theorem ok_X9_isKind (hA : jA ad 12) : OK_X9_isKind l D cy ad := met_X9_isKind hA (ok_X9_in hA) (by
  rintro v M0 - hM rv
  refine ⟨trivial, ?_⟩
  rintro x2 M1 - - ⟨hx, rfl⟩
  exact ⟨by rw [hx]; split <;> omega, hx, rfl⟩)
theorem ok_X9_noTile (hA : jA ad 12) : OK_X9_noTile l D cy ad := met_X9_noTile hA (ok_X9_in hA) (by
  rintro p t M0 ⟨hp, h0, hG⟩ hM rt
  subst h0
  obtain ⟨n2, n9, n144⟩ := gY_n hG
  refine ⟨hp, by omega, trivial, ?_⟩
  rintro x2 M1 - - ⟨hx, rfl⟩
  have hx2 := if_x hx
  exact ⟨fun z => ⟨Or.inl rfl, (if_pos (by have := Classical.byContradiction (fun y => z (hx2.mpr y)); omega)).symm, rfl⟩, fun z => ⟨Or.inr rfl, (if_neg (fun y => hx2.mp (Classical.byContradiction z) (by omega))).symm, rfl⟩⟩)
theorem ok_X9_seamOf (hA : jA ad 12) : OK_X9_seamOf l D cy ad := met_X9_seamOf hA (by
  rintro p t d M0 ⟨hp, h0, hG, ht, hd⟩ hM rt rd
  subst h0
  have g0 : 3 ≤ M0 0 0 ∧ M0 0 0 ≤ 12 := hG.1.1
  have g1 : 3 ≤ M0 0 1 ∧ M0 0 1 ≤ 12 := hG.1.2.1
  have es : sm (gY M0) t d = if (d = 0 ∧ t % M0 0 0 = M0 0 0 - 1) ∨ (d = 2 ∧ t % M0 0 0 = 0) then 1 else if (d = 1 ∧ t / M0 0 0 = M0 0 1 - 1) ∨ (d = 3 ∧ t / M0 0 0 = 0) then 2 else 0 := rfl
  have key : ∀ v, v = sm (gY M0) t d → c_X9_seamOf 0 t d M0 v M0 := fun v hv => ⟨hv, rfl⟩
  rw [Int.tmod_eq_emod_of_nonneg ht.1]
  rw [es] at key
  generalize t % M0 0 0 = x at *
  generalize t / M0 0 0 = y at *
  clear es
  have w0 : 0 < M0 0 0 := by omega
  have t0 : 0 ≤ t := ht.1
  repeat' (first | exact hp | exact trivial | exact w0 | exact t0 | refine key _ ?_ | refine And.intro ?_ ?_ | intro _)
  all_goals first | omega | (split <;> (try split) <;> omega))
theorem ok_X9_across (hA : jA ad 12) : OK_X9_across l D cy ad := met_X9_across hA (ok_X9_modulo hA) (by
  rintro k s a b f M0 ⟨ha, hb, hs⟩ hM rk rs ra rb rf
  refine ⟨fun z => ⟨fun z2 => ⟨by omega, by omega, ?_⟩, fun z2 => ⟨by omega, by omega, ?_⟩⟩, fun z => ⟨by omega, by omega, ?_⟩⟩
  · rintro x2 M1 - - ⟨rfl, rfl⟩
    refine ⟨trivial, ?_, rfl⟩
    unfold ac
    rw [if_neg z, decide_eq_false (fun y => y z2), if_neg (by decide), md_mod (by omega) (by omega) (by omega)]
  · rintro x2 M1 - - ⟨rfl, rfl⟩
    refine ⟨trivial, ?_, rfl⟩
    unfold ac
    rw [if_neg z, decide_eq_true z2, if_pos rfl, md_mod (by omega) (by omega) (by omega)]
  · rintro x2 M1 - - ⟨rfl, rfl⟩
    refine ⟨trivial, ?_, rfl⟩
    unfold ac
    rw [if_pos (Classical.byContradiction z), md_mod (by omega) (by omega) (by omega)])
theorem ok_X9_next (hA : jA ad 12) : OK_X9_next l D cy ad := met_X9_next hA (ok_X9_across hA) (ok_X9_seamOf hA) (by
  rintro p t d M0 ⟨hp, h0, hG, ht, hd⟩ hM rt rd
  subst h0
  have g0 : 3 ≤ M0 0 0 ∧ M0 0 0 ≤ 12 := hG.1.1
  have g1 : 3 ≤ M0 0 1 ∧ M0 0 1 ≤ 12 := hG.1.2.1
  have g3 : 0 ≤ M0 0 6 ∧ M0 0 6 < M0 0 1 := hG.1.2.2.2.1
  have g5 : 0 ≤ M0 0 8 ∧ M0 0 8 < M0 0 0 := hG.1.2.2.2.2.2
  obtain ⟨nE, n9, n144⟩ := nT_b hG.1
  obtain ⟨hx, hy, -⟩ := idx_t (w := M0 0 0) (h := M0 0 1) (t := t) (by omega) ht.1 (by have : ((nT (gY M0) : Nat) : Int) = M0 0 0 * M0 0 1 := nE; omega)
  obtain ⟨v0, v1, v2⟩ := nx_v hG.1 ht.1 ht.2 hd
  have v1' : sm (gY M0) t d = 1 → nx (gY M0) t d = if M0 0 5 = 0 then -5 else M0 0 0 * ac (M0 0 5) (M0 0 6) (t / M0 0 0) (M0 0 1) (decide (d = 0)) + (if d = 0 then 0 else M0 0 0 - 1) := v1
  have v2' : sm (gY M0) t d = 2 → nx (gY M0) t d = if M0 0 7 = 0 then -5 else ac (M0 0 7) (M0 0 8) (t % M0 0 0) (M0 0 0) (decide (d = 1)) + (if d = 1 then 0 else M0 0 0 * (M0 0 1 - 1)) := v2
  have v0' : sm (gY M0) t d = 0 → nx (gY M0) t d = if d = 0 then t + 1 else if d = 1 then t + M0 0 0 else if d = 2 then t - 1 else t - M0 0 0 := v0
  clear v0 v1 v2
  rw [Int.tmod_eq_emod_of_nonneg ht.1]
  have key : ∀ v, v = nx (gY M0) t d → c_X9_next 0 t d M0 v M0 := fun v hv => ⟨hv, rfl⟩
  refine ⟨hp, by omega, hp, ⟨ht.1, by omega⟩, ⟨hp, rfl, hG, ht, hd⟩, ?_⟩
  rintro x2 M1 - - ⟨rfl, rfl⟩
  have hs := sm_b (g := gY M1) (t := t) (d := d)
  have bb := mul_b (a := M1 0 0) (b := M1 0 1 - 1) (A := 12) (B := 11) (by omega) (by omega) (by omega) (by omega)
  refine ⟨fun z => ⟨fun z2 => ?_, fun z2 => ⟨hp, fun z3 => ⟨hp, hp, hp, fun z4 => ⟨⟨hx, by omega, g5⟩, ?_⟩, fun z4 => ⟨⟨hx, by omega, g5⟩, ?_⟩⟩, fun z3 => ⟨trivial, key _ ?_⟩⟩⟩, fun z => ⟨hp, fun z3 => ⟨hp, hp, hp, hp, fun z4 => ⟨⟨hy, by omega, g3⟩, ?_⟩, fun z4 => ⟨⟨hy, by omega, g3⟩, ?_⟩⟩, fun z3 => ⟨trivial, key _ ?_⟩⟩⟩
  · have e := v0' (by omega)
    refine ⟨fun z3 => ⟨fun z4 => ⟨fun z5 => ⟨hp, by omega, trivial, key _ ?_⟩, fun z5 => ⟨by omega, trivial, key _ ?_⟩⟩, fun z4 => ⟨hp, by omega, trivial, key _ ?_⟩⟩, fun z3 => ⟨by omega, trivial, key _ ?_⟩⟩
    · rw [e, if_neg z3, if_neg z4, if_neg z5]
    · rw [e, if_neg z3, if_neg z4, if_pos (Classical.byContradiction z5)]
    · rw [e, if_neg z3, if_pos (Classical.byContradiction z4)]
    · rw [e, if_pos (Classical.byContradiction z3)]
  · rintro x4 M3 - - ⟨hx4, rfl⟩
    have e := v2' (Classical.byContradiction z2)
    have ab := ac_b (k := M3 0 7) (s := M3 0 8) (f := decide ((0 : Int) ≠ 0)) hx.1 hx.2 g5.1 g5.2
    rw [← hx4] at ab
    refine ⟨fun _ => ⟨hp, hp, by omega, by omega, by omega, trivial, key _ ?_⟩, fun y => absurd z4 y⟩
    rw [e, if_neg z3, if_neg z4, hx4, decide_eq_false z4, decide_eq_false (by decide)]
  · rintro x4 M3 - - ⟨hx4, rfl⟩
    have e := v2' (Classical.byContradiction z2)
    have z4' := Classical.byContradiction z4
    have ab := ac_b (k := M3 0 7) (s := M3 0 8) (f := decide ((1 : Int) ≠ 0)) hx.1 hx.2 g5.1 g5.2
    rw [← hx4] at ab
    refine ⟨fun y => absurd z4' y, fun _ => ⟨by omega, trivial, key _ ?_⟩⟩
    rw [e, if_neg z3, if_pos z4', hx4, decide_eq_true z4', decide_eq_true (by decide)]
  · rw [v2' (Classical.byContradiction z2), if_pos (Classical.byContradiction z3)]
  · rintro x4 M3 - - ⟨hx4, rfl⟩
    have e := v1' (Classical.byContradiction z)
    have ab := ac_b (k := M3 0 5) (s := M3 0 6) (f := decide ((0 : Int) ≠ 0)) hy.1 hy.2 g3.1 g3.2
    rw [← hx4] at ab
    have b2 := mul_b (a := M3 0 0) (b := x4) (A := 12) (B := 12) (by omega) (by omega) (by omega) (by omega)
    refine ⟨by omega, fun _ => ⟨hp, by omega, by omega, trivial, key _ ?_⟩, fun y => absurd z4 y⟩
    rw [e, if_neg z3, if_neg z4, hx4, decide_eq_false z4, decide_eq_false (by decide)]
  · rintro x4 M3 - - ⟨hx4, rfl⟩
    have e := v1' (Classical.byContradiction z)
    have z4' := Classical.byContradiction z4
    have ab := ac_b (k := M3 0 5) (s := M3 0 6) (f := decide ((1 : Int) ≠ 0)) hy.1 hy.2 g3.1 g3.2
    rw [← hx4] at ab
    have b2 := mul_b (a := M3 0 0) (b := x4) (A := 12) (B := 12) (by omega) (by omega) (by omega) (by omega)
    refine ⟨by omega, fun y => absurd z4' y, fun _ => ⟨by omega, trivial, key _ ?_⟩⟩
    rw [e, if_neg z3, if_pos z4', hx4, decide_eq_true z4', decide_eq_true (by decide)]
  · rw [v1' (Classical.byContradiction z), if_pos (Classical.byContradiction z3)])
theorem ok_X9_pairs (hA : jA ad 12) : OK_X9_pairs l D cy ad := met_X9_pairs hA (ok_X9_next hA)
  (fun p M0 c k M μ => M = M0 ∧ c = sumF (fun k => if 0 ≤ nxk (gY M0) k then 1 else 0) k.toNat ∧ (0 ≤ k ∧ k ≤ 4 * M0 0 2) ∧ μ = (1000 - k).toNat)
  (by
    rintro p M0 ⟨hp, h0, hG⟩ hM
    obtain ⟨n2, n9, n144⟩ := gY_n hG
    exact ⟨_, rfl, rfl, rfl, by omega, rfl⟩)
  (by
    rintro p M0 ⟨hp, h0, hG⟩ hM c k M n ⟨rfl, hI, hk, hμ⟩ -
    subst h0
    obtain ⟨n2, n9, n144⟩ := gY_n hG
    have cb := sumF_b (f := fun k => if 0 ≤ nxk (gY M) k then (1 : Int) else 0) (n := k.toNat) (fun j _ => if01 _)
    rw [← hI] at cb
    refine ⟨hp, by omega, fun h => ⟨trivial, ?_, rfl⟩, fun h => ⟨⟨hk.1, by decide⟩, by decide, ⟨hp, rfl, hG, by omega, ?_⟩, ?_⟩⟩
    · rw [hI, show k.toNat = nT (gY M) * 4 by omega]
    · rw [Int.tmod_eq_emod_of_nonneg hk.1]; omega
    · rintro x2 M1 - - ⟨rfl, rfl⟩
      rw [Int.tmod_eq_emod_of_nonneg hk.1]
      have e : nxk (gY M1) k.toNat = nx (gY M1) (k / 4) (k % 4) := by unfold nxk; rw [show ((k.toNat / 4 : Nat) : Int) = k / 4 by omega, show ((k.toNat % 4 : Nat) : Int) = k % 4 by omega]
      have es : sumF (fun k => if 0 ≤ nxk (gY M1) k then (1 : Int) else 0) (k + 1).toNat = c + if 0 ≤ nx (gY M1) (k / 4) (k % 4) then 1 else 0 := by
        rw [show (k + 1).toNat = k.toNat + 1 by omega, hI, ← e]; rfl
      refine ⟨fun h2 => ⟨by omega, by omega, (1000 - (k + 1)).toNat, by omega, rfl, rfl, ?_, by omega, rfl⟩, fun h2 => ⟨by omega, by omega, (1000 - (k + 1)).toNat, by omega, rfl, rfl, ?_, by omega, rfl⟩⟩
      · rw [es, if_neg (by omega)]
      · rw [es, if_pos (by omega)])
theorem ok_X9_stepLength (hA : jA ad 12) : OK_X9_stepLength l D cy ad := met_X9_stepLength hA (by
  rintro p t u M0 ⟨hp, h0, hG, ⟨w1, w2⟩, ht, hu⟩ hM rt ru
  subst h0
  obtain ⟨n2, n9, n144⟩ := gY_n hG
  have k1 := w1 t.toNat (by omega)
  have v1 := w2 (M0 1 t.toNat).toNat (by omega)
  refine ⟨fun h => ?_, fun h => ⟨trivial, by rw [if_pos (by omega)], rfl⟩⟩
  have k2 := w1 u.toNat (by omega)
  have v2 := w2 (M0 1 u.toNat).toNat (by omega)
  refine ⟨hp, hp, rfl, by omega, rfl, by omega, hp, hp, rfl, by omega, rfl, by omega, fun h2 => ⟨trivial, ?_, rfl⟩, fun h2 => ⟨fun h3 => ⟨by omega, trivial, ?_, rfl⟩, fun h3 => ⟨trivial, ?_, rfl⟩⟩⟩
  · rw [if_neg (show ¬ u < 0 by omega), if_pos (Or.inl h2)]
  · rw [if_neg (show ¬ u < 0 by omega), if_neg (fun z => z.elim h2 h3)]
  · rw [if_neg (show ¬ u < 0 by omega), if_pos (Or.inr (Classical.byContradiction h3))])
theorem ok_X9_begin (hA : jA ad 12) : OK_X9_begin l D cy ad := met_X9_begin hA
  (fun p a b M0 k M μ => (∀ j : Nat, (j : Int) < k → M 1 j = 0) ∧ (M 0 0 = a ∧ M 0 1 = b ∧ M 0 2 = a * b ∧ M 0 9 = M0 0 9) ∧ M 3 = M0 3 ∧ (0 ≤ k ∧ k ≤ 144) ∧ μ = (1500 - k).toNat)
  (fun p a b M0 k M μ => (∀ t : Nat, t < 144 → M 1 t = 0) ∧ (∀ j : Nat, (j : Int) < k → M 2 j = 1) ∧ (M 0 0 = a ∧ M 0 1 = b ∧ M 0 2 = a * b ∧ M 0 9 = M0 0 9) ∧ M 3 = M0 3 ∧ (0 ≤ k ∧ k ≤ 6) ∧ μ = (500 - k).toNat)
  (by
    rintro p a b M0 ⟨hp, h0, ha, hb⟩ hM ra rb
    subst h0
    have bb := mul_b (a := a) (b := b) (A := 12) (B := 12) (by omega) (by omega) (by omega) (by omega)
    have e0 : up (up M0 0 0 a) 0 1 b 0 0 = a := by rw [up_nk (Or.inr (by decide)), up_sk]
    have e1 : up (up M0 0 0 a) 0 1 b 0 1 = b := up_sk
    rw [e0, e1]
    refine ⟨hp, hp, hp, hp, by omega, hp, _, rfl, rfl, rfl, fun j hj => by omega, ⟨?_, ?_, up_sk, ?_⟩, ?_, by omega, rfl⟩
    · rw [up_nk (Or.inr (by decide)), e0]
    · rw [up_nk (Or.inr (by decide)), e1]
    · rw [up_nk (Or.inr (by decide)), up_nk (Or.inr (by decide)), up_nk (Or.inr (by decide))]
    · rw [up_n (by decide), up_n (by decide), up_n (by decide)])
  (by
    rintro p a b M0 ⟨hp, h0, ha, hb⟩ hM ra rb k M n ⟨hI, hr, h3, hk, hμ⟩ -
    subst h0
    refine ⟨fun h => ⟨(500 - 0 : Int).toNat, by omega, rfl, rfl, rfl, fun t ht => hI t (by omega), fun j hj => by omega, hr, h3, by omega, rfl⟩, fun h => ⟨hp, rfl, by omega, by omega, (1500 - (k + 1)).toNat, by omega, rfl, rfl, rfl, fun j hj => ?_, by rw [up_n (by decide)]; exact hr, by rw [up_n (by decide)]; exact h3, by omega, rfl⟩⟩
    by_cases q : j = k.toNat
    · rw [q, up_sk]
    · rw [up_nk (Or.inr q)]; exact hI j (by omega))
  (by
    rintro p a b M0 ⟨hp, h0, ha, hb⟩ hM ra rb k M n ⟨hI, h2, hr, h3, hk, hμ⟩ -
    subst h0
    refine ⟨fun h => ⟨hp, hp, hp, hp, hp, rfl, ?_, ?_, ⟨?_, ?_, ?_, ?_, ?_, ?_, ?_, up_sk⟩, ?_, ?_⟩, fun h => ⟨hp, rfl, by omega, by omega, (500 - (k + 1)).toNat, by omega, rfl, rfl, rfl, by rw [up_n (by decide)]; exact hI, fun j hj => ?_, by rw [up_n (by decide)]; exact hr, by rw [up_n (by decide)]; exact h3, by omega, rfl⟩⟩
    · rw [up_n (by decide), up_n (by decide), up_n (by decide), up_n (by decide), up_n (by decide)]; exact hI
    · rw [up_n (by decide), up_n (by decide), up_n (by decide), up_n (by decide), up_n (by decide)]; exact fun j hj => h2 j (by omega)
    · rw [up_nk (Or.inr (by decide)), up_nk (Or.inr (by decide)), up_nk (Or.inr (by decide)), up_nk (Or.inr (by decide)), up_nk (Or.inr (by decide))]; exact hr.1
    · rw [up_nk (Or.inr (by decide)), up_nk (Or.inr (by decide)), up_nk (Or.inr (by decide)), up_nk (Or.inr (by decide)), up_nk (Or.inr (by decide))]; exact hr.2.1
    · rw [up_nk (Or.inr (by decide)), up_nk (Or.inr (by decide)), up_nk (Or.inr (by decide)), up_nk (Or.inr (by decide)), up_nk (Or.inr (by decide))]; exact hr.2.2.1
    · rw [up_nk (Or.inr (by decide)), up_nk (Or.inr (by decide)), up_nk (Or.inr (by decide)), up_nk (Or.inr (by decide)), up_sk]
    · rw [up_nk (Or.inr (by decide)), up_nk (Or.inr (by decide)), up_nk (Or.inr (by decide)), up_sk]
    · rw [up_nk (Or.inr (by decide)), up_nk (Or.inr (by decide)), up_sk]
    · rw [up_nk (Or.inr (by decide)), up_sk]
    · rw [up_nk (Or.inr (by decide)), up_nk (Or.inr (by decide)), up_nk (Or.inr (by decide)), up_nk (Or.inr (by decide)), up_nk (Or.inr (by decide))]; exact hr.2.2.2
    · rw [up_n (by decide), up_n (by decide), up_n (by decide), up_n (by decide), up_n (by decide)]; exact h3
    · by_cases q : j = k.toNat
      · rw [q, up_sk]
      · rw [up_nk (Or.inr q)]; exact h2 j (by omega))
theorem ok_X9_keep (hA : jA ad 12) : OK_X9_keep l D cy ad := met_X9_keep hA
  (fun p M0 k M μ => M0 0 16 = 12 ∧ (∀ i : Nat, i < 1728 → M 9 i = if (i : Int) < k then M0 9 (i + 144) else M0 9 i) ∧ M 0 16 = 11 ∧ (∀ k, k ≠ 16 → M 0 k = M0 0 k) ∧ (∀ b, b ≠ 0 → b ≠ 9 → M b = M0 b) ∧ (0 ≤ k ∧ k ≤ 1584) ∧ μ = (4000 - k).toNat)
  (fun p M0 k M μ => (M 0 16 = if M0 0 16 = 12 then 11 else M0 0 16) ∧ (∀ i : Nat, (i : Int) < 144 * M 0 16 + k → M 9 i = kpH (M0 9) (M0 0 16) (M0 1) i) ∧ (∀ k, k ≠ 16 → M 0 k = M0 0 k) ∧ (∀ b, b ≠ 0 → b ≠ 9 → M b = M0 b) ∧ (0 ≤ k ∧ k ≤ 144) ∧ μ = (500 - k).toNat)
  (by
    rintro p M0 ⟨hp, h0, hn⟩ hM
    subst h0
    refine ⟨hp, fun h => ⟨_, rfl, by rw [if_neg h], fun i hi => ?_, fun _ _ => rfl, fun _ _ _ => rfl, by omega, rfl⟩, fun h => ⟨hp, by omega, hp, _, rfl, Classical.byContradiction h, fun i hi => ?_, ?_, fun k hk => up_nk (Or.inr hk), fun b b0 b9 => up_n b0, by omega, rfl⟩⟩
    · unfold kpH
      rw [if_neg h, if_pos (by omega)]
    · rw [up_n (by decide), if_neg (by omega)]
    · rw [up_sk, Classical.byContradiction h]; rfl)
  (by
    rintro p M0 ⟨hp, h0, hn⟩ hM k M n ⟨h12, hI, h16, hf0, hf, hk, hμ⟩ -
    subst h0
    rw [h16]
    refine ⟨hp, by omega, fun h => ⟨(500 - 0 : Int).toNat, by omega, rfl, by rw [if_pos h12], fun i hi => ?_, hf0, hf, by omega, rfl⟩, fun h => ⟨hp, hp, by omega, rfl, by omega, rfl, by omega, by omega, (4000 - (k + 1)).toNat, by omega, rfl, h12, fun i hi => ?_, by rw [up_n (by decide)]; exact h16, fun j hj => by rw [up_n (by decide)]; exact hf0 j hj, fun b b0 b9 => by rw [up_n b9]; exact hf b b0 b9, by omega, rfl⟩⟩
    · rw [hI i (by omega), if_pos (by omega)]
      unfold kpH
      rw [if_pos h12, if_pos (by omega)]
    · by_cases q : i = k.toNat
      · rw [q, up_sk, hI _ (by omega), if_neg (by omega), if_pos (by omega), show (k + 144).toNat = k.toNat + 144 by omega]
      · rw [up_nk (Or.inr q), hI i hi]
        by_cases q2 : (i : Int) < k
        · rw [if_pos q2, if_pos (by omega)]
        · rw [if_neg q2, if_neg (by omega)])
  (by
    rintro p M0 ⟨hp, h0, hn⟩ hM k M n ⟨h16, hI, hf0, hf, hk, hμ⟩ -
    subst h0
    have e1 : M 1 = M0 1 := hf 1 (by decide) (by decide)
    have b16 : 0 ≤ M 0 16 ∧ M 0 16 ≤ 11 := by rw [h16]; split <;> omega
    have nw : (if M0 0 16 = 12 then (12 : Int) else M0 0 16 + 1) = M 0 16 + 1 := by rw [h16]; split <;> rfl
    refine ⟨fun h => ⟨hp, by omega, hp, rfl, fun i hi => ?_, ?_, fun j hj => by rw [up_nk (Or.inr hj)]; exact hf0 j hj, fun b b0 b9 => by rw [up_n b0]; exact hf b b0 b9⟩, fun h => ⟨hp, hp, by omega, by omega, hp, rfl, by omega, rfl, by omega, by omega, (500 - (k + 1)).toNat, by omega, rfl, by rw [up_n (by decide)]; exact h16, fun i hi => ?_, fun j hj => by rw [up_n (by decide)]; exact hf0 j hj, fun b b0 b9 => by rw [up_n b9]; exact hf b b0 b9, by omega, rfl⟩⟩
    · rw [up_n (by decide)]
      rw [nw] at hi
      exact hI i (by omega)
    · rw [up_sk, nw]
    · rw [up_n (by decide)] at hi
      by_cases q : i = (144 * M 0 16 + k).toNat
      · rw [q, up_sk, e1]
        unfold kpH
        by_cases q12 : M0 0 16 = 12
        · rw [if_pos q12] at h16 ⊢
          rw [if_neg (by omega), show (144 * M 0 16 + k).toNat - 1584 = k.toNat by omega]
        · rw [if_neg q12] at h16 ⊢
          rw [if_neg (by omega), show (144 * M 0 16 + k).toNat - (144 * M0 0 16).toNat = k.toNat by omega]
      · rw [up_nk (Or.inr q)]
        exact hI i (by omega))
end Y1
