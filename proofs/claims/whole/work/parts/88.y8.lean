/-! ===== the model's members: texts, values, parts if ===== -/
section Y8
variable {l : Launch} {D : va_G} {cy : Nat → ClassId} {ad : Nat → Nat}
theorem ok_X9_clearText (hA : jA ad 12) : OK_X9_clearText l D cy ad := met_X9_clearText hA (by
  rintro p M0 ⟨hp, h0, σ0, h⟩ hM
  subst h0
  refine ⟨hp, hp, trivial, fun σ hσ => ?_⟩
  obtain ⟨⟨o1, o2, o3, o4, o5, o6, o7⟩, ⟨h2, h3⟩, h4, h5, h6, h7⟩ := id hσ
  have eg : gS (up σ 0 6 0) = gS σ := gS_cg (fun i hi => by rw [up_nk (Or.inr (by omega))])
  have er : ∀ r, r ≠ 0 → up σ 0 6 0 r = σ r := fun r hr => up_n hr
  have eM : ∀ r, r ≠ 0 → up M0 0 9 0 r = M0 r := fun r hr => up_n hr
  have ek : ∀ k, k ≠ 9 → up M0 0 9 0 0 k = M0 0 k := fun k hk => up_nk (Or.inr hk)
  have egY : gY (up M0 0 9 0) = gY M0 := by
    funext i; unfold gY
    rw [ek 0 (by decide), ek 1 (by decide), ek 5 (by decide), ek 6 (by decide), ek 7 (by decide), ek 8 (by decide)]
  have e06 : up σ 0 6 0 0 6 = 0 := up_sk
  have e07 : up σ 0 6 0 0 7 = σ 0 7 := by rw [up_nk (Or.inr (by decide))]
  unfold F_clearText G_clearText
  refine ⟨h6.1, ⟨by rw [eg]; exact o1, by rw [er 1 (by decide)]; exact o2, by rw [er 2 (by decide)]; exact o3, by rw [e06]; omega, by rw [e06]; intro j hj; omega, by rw [e07]; exact o6, by rw [e07, er 4 (by decide)]; exact o7⟩, ⟨by rw [egY, eg]; exact h2, by rw [ek 0 (by decide), ek 1 (by decide), ek 2 (by decide)]; exact h3⟩, by rw [er 1 (by decide)]; unfold kiY; rw [eM 1 (by decide)]; exact h4, by rw [er 2 (by decide), eM 2 (by decide)]; exact h5, ⟨by rw [e06, up_sk], by rw [e06]; intro j hj; omega⟩, by rw [e07, er 4 (by decide), ek 16 (by decide), eM 9 (by decide)]; exact h7⟩)
theorem ok_X9_value (hA : jA ad 12) : OK_X9_value l D cy ad := met_X9_value hA (ok_X9_pairs hA) (ok_X9_parts hA) (by
  rintro p w M0 ⟨hp, h0, σ0, h⟩ hM rw_
  subst h0
  obtain ⟨hG, hw⟩ := absY_s h
  refine ⟨fun z => ⟨trivial, fun σ hσ => ⟨?_, hσ⟩⟩, fun z => ⟨hp, trivial, fun σ hσ => ⟨?_, hσ⟩⟩, fun z => ⟨hp, trivial, fun σ hσ => ⟨?_, hσ⟩⟩, fun z => ⟨hp, trivial, fun σ hσ => ⟨?_, hσ⟩⟩, fun z => ⟨hp, trivial, fun σ hσ => ⟨?_, hσ⟩⟩, fun z => ⟨hp, trivial, fun σ hσ => ⟨?_, hσ⟩⟩, fun z => ⟨hp, trivial, fun σ hσ => ⟨?_, hσ⟩⟩, fun z => ⟨⟨hp, rfl, hG⟩, ?_⟩, fun z => ⟨⟨hp, rfl, hG⟩, ?_⟩, fun z => ⟨hp, trivial, fun σ hσ => ⟨?_, hσ⟩⟩, trivial⟩
  · unfold F_value
    rw [if_neg (by omega), if_neg (by omega), if_neg (by omega), if_neg (by omega), if_neg (by omega), if_neg (by omega), if_neg (by omega), if_neg (by omega), if_neg (by omega)]
  · unfold F_value
    rw [if_pos (by omega)]
    exact congrFun hσ.2.1.1 0
  · unfold F_value
    rw [if_neg (by omega), if_pos (by omega)]
    exact congrFun hσ.2.1.1 1
  · unfold F_value
    rw [if_neg (by omega), if_neg (by omega), if_pos (by omega)]
    exact congrFun hσ.2.1.1 2
  · unfold F_value
    rw [if_neg (by omega), if_neg (by omega), if_neg (by omega), if_pos (by omega)]
    exact congrFun hσ.2.1.1 3
  · unfold F_value
    rw [if_neg (by omega), if_neg (by omega), if_neg (by omega), if_neg (by omega), if_pos (by omega)]
    exact congrFun hσ.2.1.1 4
  · unfold F_value
    rw [if_neg (by omega), if_neg (by omega), if_neg (by omega), if_neg (by omega), if_neg (by omega), if_pos (by omega)]
    exact congrFun hσ.2.1.1 5
  · rintro x2 M1 - - hc
    refine ⟨trivial, fun σ hσ => ?_⟩
    obtain ⟨c1, c2, c3⟩ := hc _ hσ.2.2.1
    refine ⟨?_, absY_congr hσ (fun b hb => c3 b (by omega) (by omega) (by omega) (by omega))⟩
    unfold F_value
    rw [if_neg (by omega), if_neg (by omega), if_neg (by omega), if_neg (by omega), if_neg (by omega), if_neg (by omega), if_pos (by omega), c1, hσ.2.1.1]
  · rintro x4 M3 - - ⟨rfl, rfl⟩
    refine ⟨trivial, fun σ hσ => ⟨?_, hσ⟩⟩
    unfold F_value
    rw [if_neg (by omega), if_neg (by omega), if_neg (by omega), if_neg (by omega), if_neg (by omega), if_neg (by omega), if_neg (by omega), if_pos (by omega), ← hσ.2.1.1]
    refine sumF_congr (fun k hk => ?_)
    have := nx_b hG.1 (t := ((k / 4 : Nat) : Int)) (d := ((k % 4 : Nat) : Int)) (by omega) (by have := (nT_b hG.1).1; omega)
    show (if 0 ≤ nx (gY M3) _ _ then (1 : Int) else 0) = if nx (gY M3) _ _ = -5 then 0 else 1
    rcases this with q | q
    · rw [q]; rfl
    · rw [if_pos q.1, if_neg (by omega)]
  · unfold F_value
    rw [if_neg (by omega), if_neg (by omega), if_neg (by omega), if_neg (by omega), if_neg (by omega), if_neg (by omega), if_neg (by omega), if_neg (by omega), if_pos (by omega)]
    exact hσ.2.2.2.2.2.1)
theorem ok_X9_partsIf (hA : jA ad 12) : OK_X9_partsIf l D cy ad := met_X9_partsIf hA (ok_X9_isKind hA) (ok_X9_noTile hA) (ok_X9_parts hA) (by
  rintro p t k M0 ⟨hp, h0, σ0, h⟩ hM rt rk
  subst h0
  obtain ⟨hG, hw⟩ := absY_s h
  obtain ⟨n2, n9, n144⟩ := gY_n hG
  refine ⟨⟨hp, rfl, hG⟩, ?_⟩
  rintro x2 M1 - - ⟨hx, rfl⟩
  have hx2 := nt_x hx
  refine ⟨fun z => ⟨trivial, ?_⟩, fun z => ⟨trivial, fun σ hσ => ⟨?_, hσ⟩⟩⟩
  · have ht := hx2.mp z
    rintro x4 M3 - - ⟨hc4, rfl⟩
    have hx4 := if_x hc4
    refine ⟨fun z4 => ?_, fun z4 => ⟨trivial, fun σ hσ => ⟨?_, hσ⟩⟩⟩
    · have hk := Classical.byContradiction (fun y => z4 (hx4.mpr y))
      obtain ⟨hG3, eg3⟩ := gY_congr (M' := up M3 1 t.toNat k) hG (up_n (by decide))
      refine ⟨hp, rfl, by omega, hp, rfl, by omega, ⟨hp, rfl, hG3⟩, ?_⟩
      rintro x6 M5 - - hc6
      refine ⟨hp, rfl, by omega, trivial, fun σ hσ => ?_⟩
      obtain ⟨c1, c2, c3⟩ := hc6 (upR (σ 1) t.toNat k) (fun j hj => by
        rw [up_s]
        by_cases q : j = t.toNat
        · rw [q, upR_s, upR_s]
        · rw [upR_n q, upR_n q]; exact hσ.2.2.1 j hj)
      refine ⟨?_, absY_congr hσ (fun b hb => ?_)⟩
      · unfold F_partsIf
        rw [if_pos ((hsY hσ).mpr ht), if_pos hk, c1, eg3, hσ.2.1.1]
      · by_cases q : b = 1
        · rw [q, up_s, c3 1 (by decide) (by decide) (by decide) (by decide), up_s, upR_id]
        · rw [up_n q, c3 b (by omega) (by omega) (by omega) (by omega), up_n q]
    · unfold F_partsIf
      rw [if_pos ((hsY hσ).mpr ht), if_neg (hx4.mp (Classical.byContradiction z4))]
  · unfold F_partsIf
    rw [if_neg (fun y => z (hx2.mpr ((hsY hσ).mp y)))])
end Y8
