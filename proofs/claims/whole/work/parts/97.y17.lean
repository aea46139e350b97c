/-! ===== the model's members: reset, setSeam, readTiles ===== -/
theorem gY_eq {M σ : Mem} (e : ∀ i, i < 6 → gY M i = gS σ i) : gY M = gS σ := by
  funext i
  match i with
  | 0 => exact e 0 (by decide)
  | 1 => exact e 1 (by decide)
  | 2 => exact e 2 (by decide)
  | 3 => exact e 3 (by decide)
  | 4 => exact e 4 (by decide)
  | n + 5 => exact e 5 (by decide)
theorem beg_y {M M' σ : Mem} {a b x : Int} (hz : szO a b) (hl : 0 ≤ σ 0 6 ∧ σ 0 6 ≤ 160) (ht : ∀ j : Nat, (j : Int) < σ 0 6 → 0 ≤ σ 3 j ∧ σ 3 j < 65536) (e9 : M 0 9 = σ 0 6 ∧ ∀ j : Nat, (j : Int) < σ 0 6 → M 3 j = σ 3 j) (hc : c_X9_begin 0 a b M x M') : absY M' (G_reset σ a b) := by
  obtain ⟨c1, c2, ⟨g0, g1, g2, g5, g6, g7, g8, g16⟩, c4, c5⟩ := hc
  unfold G_reset
  rw [if_pos hz]
  have eg : gY M' = gS (fun r i => if r = 0 then (if i = 0 then a else if i = 1 then b else if i = 6 then σ 0 6 else 0) else if r = 1 then 0 else if r = 2 then 1 else σ r i) := by
    refine gY_eq (fun i hi => ?_)
    match i with
    | 0 => exact g0
    | 1 => exact g1
    | 2 => exact g5
    | 3 => exact g6
    | 4 => exact g7
    | 5 => exact g8
    | n + 6 => omega
  have ho : gOK (gY M') := by
    have k0 : gY M' 0 = a := g0
    have k1 : gY M' 1 = b := g1
    have k2 : gY M' 2 = 0 := g5
    have k3 : gY M' 3 = 0 := g6
    have k4 : gY M' 4 = 0 := g7
    have k5 : gY M' 5 = 0 := g8
    obtain ⟨z1, z2⟩ := hz
    unfold gOK
    rw [k0, k1, k2, k3, k4, k5]
    omega
  refine ⟨⟨by rw [← eg]; exact ho, fun t _ => (by decide : (0 : Int) ≤ 0 ∧ (0 : Int) ≤ 5), fun k _ => (by decide : (0 : Int) ≤ 1 ∧ (1 : Int) ≤ 9), hl, ht, z12, fun i hi => ?_⟩, ⟨eg, by rw [g0, g1, g2]⟩, c1, c2, by rw [c4, c5]; exact e9, ⟨g16, fun i hi => ?_⟩⟩
  · exact absurd hi (by show ¬ ((i : Int) < 144 * 0); omega)
  · exact absurd hi (by show ¬ ((i : Int) < 144 * 0); omega)
theorem seam_y {M M' σ : Mem} {e k s : Int} (h : absY M σ) (hm : smO σ e k s) (hf : ∀ b, b ≠ 0 → M' b = M b) (hk : ∀ j, j ≠ 5 → j ≠ 6 → j ≠ 7 → j ≠ 8 → M' 0 j = M 0 j)
    (v5 : M' 0 5 = if e = 0 then k else M 0 5) (v6 : M' 0 6 = if e = 0 then s else M 0 6) (v7 : M' 0 7 = if e = 0 then M 0 7 else k) (v8 : M' 0 8 = if e = 0 then M 0 8 else s) : absY M' (G_setSeam σ e k s) := by
  obtain ⟨⟨o1, o2, o3, o4, o5, o6, o7⟩, ⟨h2, h3⟩, h4, h5, h6, h7⟩ := id h
  have w0 : M 0 0 = σ 0 0 := congrFun h2 0
  have w1 : M 0 1 = σ 0 1 := congrFun h2 1
  have w2 : M 0 5 = σ 0 2 := congrFun h2 2
  have w3 : M 0 6 = σ 0 3 := congrFun h2 3
  have w4 : M 0 7 = σ 0 4 := congrFun h2 4
  have w5 : M 0 8 = σ 0 5 := congrFun h2 5
  have key : ∀ σ' : Mem, (∀ r, r ≠ 0 → σ' r = σ r) → σ' 0 6 = σ 0 6 → σ' 0 7 = σ 0 7 → gY M' = gS σ' → gOK (gS σ') → absY M' σ' := fun σ' er e6 e7 eg ho =>
    ⟨⟨ho, by rw [er 1 (by decide)]; exact o2, by rw [er 2 (by decide)]; exact o3, by rw [e6]; exact o4, by rw [e6, er 3 (by decide)]; exact o5, by rw [e7]; exact o6, by rw [e7, er 4 (by decide)]; exact o7⟩, ⟨eg, by rw [hk 2 (by decide) (by decide) (by decide) (by decide), hk 0 (by decide) (by decide) (by decide) (by decide), hk 1 (by decide) (by decide) (by decide) (by decide)]; exact h3⟩, by rw [er 1 (by decide)]; unfold kiY; rw [hf 1 (by decide)]; exact h4, by rw [er 2 (by decide), hf 2 (by decide)]; exact h5, by rw [e6, er 3 (by decide), hk 9 (by decide) (by decide) (by decide) (by decide), hf 3 (by decide)]; exact h6, by rw [e7, er 4 (by decide), hk 16 (by decide) (by decide) (by decide) (by decide), hf 9 (by decide)]; exact h7⟩
  have oo : (3 ≤ σ 0 0 ∧ σ 0 0 ≤ 12) ∧ (3 ≤ σ 0 1 ∧ σ 0 1 ≤ 12) ∧ (0 ≤ σ 0 2 ∧ σ 0 2 ≤ 2) ∧ (0 ≤ σ 0 3 ∧ σ 0 3 < σ 0 1) ∧ (0 ≤ σ 0 4 ∧ σ 0 4 ≤ 2) ∧ 0 ≤ σ 0 5 ∧ σ 0 5 < σ 0 0 := o1
  have x0 := hk 0 (by decide) (by decide) (by decide) (by decide)
  have x1 := hk 1 (by decide) (by decide) (by decide) (by decide)
  unfold G_setSeam
  rw [if_pos hm]
  obtain ⟨m1, m2⟩ := hm
  by_cases q : e = 0
  · rw [if_pos q] at v5 v6 v7 v8 m2
    rw [if_pos q]
    have er : ∀ r, r ≠ 0 → up (up σ 0 2 k) 0 3 s r = σ r := fun r hr => by rw [up_n hr, up_n hr]
    have e6 : up (up σ 0 2 k) 0 3 s 0 6 = σ 0 6 := by rw [up_nk (Or.inr (by decide)), up_nk (Or.inr (by decide))]
    have e7 : up (up σ 0 2 k) 0 3 s 0 7 = σ 0 7 := by rw [up_nk (Or.inr (by decide)), up_nk (Or.inr (by decide))]
    have s0 : gS (up (up σ 0 2 k) 0 3 s) 0 = σ 0 0 := by show up (up σ 0 2 k) 0 3 s 0 0 = _; rw [up_nk (Or.inr (by decide)), up_nk (Or.inr (by decide))]
    have s1 : gS (up (up σ 0 2 k) 0 3 s) 1 = σ 0 1 := by show up (up σ 0 2 k) 0 3 s 0 1 = _; rw [up_nk (Or.inr (by decide)), up_nk (Or.inr (by decide))]
    have s2 : gS (up (up σ 0 2 k) 0 3 s) 2 = k := by show up (up σ 0 2 k) 0 3 s 0 2 = _; rw [up_nk (Or.inr (by decide)), up_sk]
    have s3 : gS (up (up σ 0 2 k) 0 3 s) 3 = s := by show up (up σ 0 2 k) 0 3 s 0 3 = _; rw [up_sk]
    have s4 : gS (up (up σ 0 2 k) 0 3 s) 4 = σ 0 4 := by show up (up σ 0 2 k) 0 3 s 0 4 = _; rw [up_nk (Or.inr (by decide)), up_nk (Or.inr (by decide))]
    have s5 : gS (up (up σ 0 2 k) 0 3 s) 5 = σ 0 5 := by show up (up σ 0 2 k) 0 3 s 0 5 = _; rw [up_nk (Or.inr (by decide)), up_nk (Or.inr (by decide))]
    refine key _ er e6 e7 (gY_eq (fun i hi => ?_)) (by unfold gOK; rw [s0, s1, s2, s3, s4, s5]; exact ⟨oo.1, oo.2.1, m1, m2, oo.2.2.2.2.1, oo.2.2.2.2.2⟩)
    match i with
    | 0 => rw [s0, ← w0]; exact x0
    | 1 => rw [s1, ← w1]; exact x1
    | 2 => rw [s2]; exact v5
    | 3 => rw [s3]; exact v6
    | 4 => rw [s4, ← w4]; exact v7
    | 5 => rw [s5, ← w5]; exact v8
    | n + 6 => omega
  · rw [if_neg q] at v5 v6 v7 v8 m2
    rw [if_neg q]
    have er : ∀ r, r ≠ 0 → up (up σ 0 4 k) 0 5 s r = σ r := fun r hr => by rw [up_n hr, up_n hr]
    have e6 : up (up σ 0 4 k) 0 5 s 0 6 = σ 0 6 := by rw [up_nk (Or.inr (by decide)), up_nk (Or.inr (by decide))]
    have e7 : up (up σ 0 4 k) 0 5 s 0 7 = σ 0 7 := by rw [up_nk (Or.inr (by decide)), up_nk (Or.inr (by decide))]
    have s0 : gS (up (up σ 0 4 k) 0 5 s) 0 = σ 0 0 := by show up (up σ 0 4 k) 0 5 s 0 0 = _; rw [up_nk (Or.inr (by decide)), up_nk (Or.inr (by decide))]
    have s1 : gS (up (up σ 0 4 k) 0 5 s) 1 = σ 0 1 := by show up (up σ 0 4 k) 0 5 s 0 1 = _; rw [up_nk (Or.inr (by decide)), up_nk (Or.inr (by decide))]
    have s2 : gS (up (up σ 0 4 k) 0 5 s) 2 = σ 0 2 := by show up (up σ 0 4 k) 0 5 s 0 2 = _; rw [up_nk (Or.inr (by decide)), up_nk (Or.inr (by decide))]
    have s3 : gS (up (up σ 0 4 k) 0 5 s) 3 = σ 0 3 := by show up (up σ 0 4 k) 0 5 s 0 3 = _; rw [up_nk (Or.inr (by decide)), up_nk (Or.inr (by decide))]
    have s4 : gS (up (up σ 0 4 k) 0 5 s) 4 = k := by show up (up σ 0 4 k) 0 5 s 0 4 = _; rw [up_nk (Or.inr (by decide)), up_sk]
    have s5 : gS (up (up σ 0 4 k) 0 5 s) 5 = s := by show up (up σ 0 4 k) 0 5 s 0 5 = _; rw [up_sk]
    refine key _ er e6 e7 (gY_eq (fun i hi => ?_)) (by unfold gOK; rw [s0, s1, s2, s3, s4, s5]; exact ⟨oo.1, oo.2.1, oo.2.2.1, oo.2.2.2.1, m1, m2⟩)
    match i with
    | 0 => rw [s0, ← w0]; exact x0
    | 1 => rw [s1, ← w1]; exact x1
    | 2 => rw [s2, ← w2]; exact v5
    | 3 => rw [s3, ← w3]; exact v6
    | 4 => rw [s4]; exact v7
    | 5 => rw [s5]; exact v8
    | n + 6 => omega
theorem up4_x {M : Mem} {a b c d : Int} : (∀ r, r ≠ 0 → up (up (up (up M 0 7 a) 0 8 b) 0 5 c) 0 6 d r = M r) ∧ (∀ j, j ≠ 5 → j ≠ 6 → j ≠ 7 → j ≠ 8 → up (up (up (up M 0 7 a) 0 8 b) 0 5 c) 0 6 d 0 j = M 0 j) ∧
    up (up (up (up M 0 7 a) 0 8 b) 0 5 c) 0 6 d 0 5 = c ∧ up (up (up (up M 0 7 a) 0 8 b) 0 5 c) 0 6 d 0 6 = d ∧ up (up (up (up M 0 7 a) 0 8 b) 0 5 c) 0 6 d 0 7 = a ∧ up (up (up (up M 0 7 a) 0 8 b) 0 5 c) 0 6 d 0 8 = b := by
  refine ⟨fun r hr => by rw [up_n hr, up_n hr, up_n hr, up_n hr], fun j j5 j6 j7 j8 => by rw [up_nk (Or.inr j6), up_nk (Or.inr j5), up_nk (Or.inr j8), up_nk (Or.inr j7)], by rw [up_nk (Or.inr (by decide)), up_sk], up_sk, ?_, ?_⟩
  · rw [up_nk (Or.inr (by decide)), up_nk (Or.inr (by decide)), up_nk (Or.inr (by decide)), up_sk]
  · rw [up_nk (Or.inr (by decide)), up_nk (Or.inr (by decide)), up_sk]
theorem badT_t {a b : Int} {T : Nat → Int} {k : Int} (h0 : 0 ≤ k) (h : ¬ (k < b * (a + 1) - 1 ∧ (if k % (a + 1) = a then T k.toNat = 47 else 48 ≤ T k.toNat ∧ T k.toNat ≤ 53))) : badT a b T k.toNat = true := by
  rw [badT_i h0]
  exact decide_eq_true h
theorem badT_f {a b : Int} {T : Nat → Int} {k : Int} (h0 : 0 ≤ k) (h : k < b * (a + 1) - 1 ∧ (if k % (a + 1) = a then T k.toNat = 47 else 48 ≤ T k.toNat ∧ T k.toNat ≤ 53)) : badT a b T k.toNat = false := by
  rw [badT_i h0]
  exact decide_eq_false (fun y => y h)
section Y17
variable {l : Launch} {D : va_G} {cy : Nat → ClassId} {ad : Nat → Nat}
theorem ok_X9_reset (hA : jA ad 12) : OK_X9_reset l D cy ad := met_X9_reset hA (ok_X9_begin hA) (ok_X9_in hA) (by
  rintro p a b M0 ⟨hp, h0, σ0, h⟩ hM ra rb
  subst h0
  refine ⟨trivial, ?_⟩
  rintro x2 M1 - - ⟨hc2, rfl⟩
  have hx2 := if_x hc2
  have bad : ¬ szO a b → c_X9_reset 0 a b M1 (-2) M1 := fun q σ hσ => ⟨by unfold F_reset; rw [if_neg q], by unfold G_reset; rw [if_neg q]; exact hσ⟩
  refine ⟨fun z => ⟨trivial, bad (fun q => hx2.mp z q.1)⟩, fun z => ⟨trivial, ?_⟩⟩
  rintro x4 M3 - - ⟨hc4, rfl⟩
  have hx4 := if_x hc4
  refine ⟨fun z4 => ?_, fun z4 => ⟨trivial, bad (fun q => hx4.mp (Classical.byContradiction z4) q.2)⟩⟩
  have ha := Classical.byContradiction (fun y => z (hx2.mpr y))
  have hb := Classical.byContradiction (fun y => z4 (hx4.mpr y))
  refine ⟨⟨hp, rfl, ha, hb⟩, ?_⟩
  rintro x6 M5 - - hc6
  refine ⟨hp, trivial, fun σ hσ => ⟨?_, beg_y ⟨ha, hb⟩ hσ.1.2.2.2.1 hσ.1.2.2.2.2.1 hσ.2.2.2.2.1 hc6⟩⟩
  unfold F_reset
  rw [if_pos ⟨ha, hb⟩]
  exact hc6.2.2.1.2.2.1)
theorem ok_X9_setSeam (hA : jA ad 12) : OK_X9_setSeam l D cy ad := met_X9_setSeam hA (ok_X9_in hA)
  (fun p e k s M0 i M μ => M = M0 ∧ (0 ≤ k ∧ k ≤ 2) ∧ (0 ≤ s ∧ s < (if e = 0 then M0 0 1 else M0 0 0)) ∧ i = (if (e = 0 → M0 0 5 = k ∧ M0 0 6 = s) ∧ (e ≠ 0 → M0 0 7 = k ∧ M0 0 8 = s) then 0 else 1) ∧ μ = 0)
  (by
    rintro p e k s M0 ⟨hp, h0, σ0, h⟩ hM re rk rs
    subst h0
    obtain ⟨hG, hw⟩ := absY_s h
    refine ⟨trivial, ?_⟩
    rintro x2 M1 - - ⟨hc2, rfl⟩
    have hx2 := if_x hc2
    have g0 : 3 ≤ M1 0 0 ∧ M1 0 0 ≤ 12 := hG.1.1
    have g1 : 3 ≤ M1 0 1 ∧ M1 0 1 ≤ 12 := hG.1.2.1
    have len : ∀ σ, absY M1 σ → σ 0 0 = M1 0 0 ∧ σ 0 1 = M1 0 1 := fun σ hσ => ⟨(congrFun hσ.2.1.1 0).symm, (congrFun hσ.2.1.1 1).symm⟩
    have bad : (∀ σ, absY M1 σ → ¬ smO σ e k s) → c_X9_setSeam 0 e k s M1 (-2) M1 := fun q σ hσ => ⟨by unfold F_setSeam; rw [if_neg (q σ hσ)], by unfold G_setSeam; rw [if_neg (q σ hσ)]; exact hσ⟩
    refine ⟨fun z => ⟨trivial, bad (fun σ hσ q => hx2.mp z q.1)⟩, fun z => ?_⟩
    have hk := Classical.byContradiction (fun y => z (hx2.mpr y))
    refine ⟨fun z2 => ⟨hp, by omega, trivial, ?_⟩, fun z2 => ⟨hp, by omega, trivial, ?_⟩⟩
    · rintro x4 M3 - - ⟨hc4, rfl⟩
      have hx4 := if_x hc4
      refine ⟨fun z4 => ?_, fun z4 => ⟨trivial, bad (fun σ hσ q => ?_)⟩⟩
      · have hs := Classical.byContradiction (fun y => z4 (hx4.mpr y))
        have hs2 : 0 ≤ s ∧ s < (if e = 0 then M3 0 1 else M3 0 0) := by rw [if_pos z2]; omega
        exact ⟨fun _ => ⟨hp, fun z5 => ⟨_, rfl, rfl, rfl, rfl, rfl, hk, hs2, (if_neg (fun y => z5 (y.1 z2).1)).symm, rfl⟩, fun z5 => ⟨hp, fun z6 => ⟨_, rfl, rfl, rfl, rfl, rfl, hk, hs2, (if_pos ⟨fun _ => ⟨Classical.byContradiction z5, z6⟩, fun y => absurd z2 y⟩).symm, rfl⟩, fun z6 => ⟨_, rfl, rfl, rfl, rfl, rfl, hk, hs2, (if_neg (fun y => z6 (y.1 z2).2)).symm, rfl⟩⟩⟩, fun y => absurd z2 y⟩
      · have q2 := q.2
        rw [if_pos z2, (len σ hσ).2] at q2
        exact hx4.mp (Classical.byContradiction z4) ⟨by omega, by omega⟩
    · rintro x6 M5 - - ⟨hc4, rfl⟩
      have hx4 := if_x hc4
      refine ⟨fun z4 => ?_, fun z4 => ⟨trivial, bad (fun σ hσ q => ?_)⟩⟩
      · have hs := Classical.byContradiction (fun y => z4 (hx4.mpr y))
        have hs2 : 0 ≤ s ∧ s < (if e = 0 then M5 0 1 else M5 0 0) := by rw [if_neg z2]; omega
        exact ⟨fun y => absurd y z2, fun _ => ⟨hp, fun z5 => ⟨_, rfl, rfl, rfl, rfl, rfl, hk, hs2, (if_neg (fun y => z5 (y.2 z2).1)).symm, rfl⟩, fun z5 => ⟨hp, fun z6 => ⟨_, rfl, rfl, rfl, rfl, rfl, hk, hs2, (if_pos ⟨fun y => absurd y z2, fun _ => ⟨Classical.byContradiction z5, z6⟩⟩).symm, rfl⟩, fun z6 => ⟨_, rfl, rfl, rfl, rfl, rfl, hk, hs2, (if_neg (fun y => z6 (y.2 z2).2)).symm, rfl⟩⟩⟩⟩
      · have q2 := q.2
        rw [if_neg z2, (len σ hσ).1] at q2
        exact hx4.mp (Classical.byContradiction z4) ⟨by omega, by omega⟩)
  (by
    rintro p e k s M0 ⟨hp, h0, σ0, h⟩ hM re rk rs i M n ⟨rfl, hk, hs, hi, hμ⟩ -
    subst h0
    have fin : ∀ M', (∀ b, b ≠ 0 → M' b = M b) → (∀ j, j ≠ 5 → j ≠ 6 → j ≠ 7 → j ≠ 8 → M' 0 j = M 0 j) → (M' 0 5 = if e = 0 then k else M 0 5) → (M' 0 6 = if e = 0 then s else M 0 6) → (M' 0 7 = if e = 0 then M 0 7 else k) → (M' 0 8 = if e = 0 then M 0 8 else s) → c_X9_setSeam 0 e k s M i M' := fun M' f1 f2 v5 v6 v7 v8 σ hσ => by
      have w0 : M 0 0 = σ 0 0 := congrFun hσ.2.1.1 0
      have w1 : M 0 1 = σ 0 1 := congrFun hσ.2.1.1 1
      have w2 : M 0 5 = σ 0 2 := congrFun hσ.2.1.1 2
      have w3 : M 0 6 = σ 0 3 := congrFun hσ.2.1.1 3
      have w4 : M 0 7 = σ 0 4 := congrFun hσ.2.1.1 4
      have w5 : M 0 8 = σ 0 5 := congrFun hσ.2.1.1 5
      have hm : smO σ e k s := ⟨hk, hs.1, by rw [← w0, ← w1]; exact hs.2⟩
      refine ⟨?_, seam_y hσ hm f1 f2 v5 v6 v7 v8⟩
      unfold F_setSeam
      rw [if_pos hm, hi]
      by_cases q : smE σ e k s
      · rw [if_pos q, if_pos ⟨fun y => by rw [w2, w3]; exact q.1 y, fun y => by rw [w4, w5]; exact q.2 y⟩]
      · rw [if_neg q, if_neg (fun y => q ⟨fun z => by rw [← w2, ← w3]; exact y.1 z, fun z => by rw [← w4, ← w5]; exact y.2 z⟩)]
    by_cases q : e = 0
    · refine ⟨fun _ => ⟨hp, hp, fun _ => ⟨hp, hp, fun _ => ⟨hp, fun _ => ⟨hp, trivial, ?_⟩, fun y => absurd q y⟩, fun y => absurd q y⟩, fun y => absurd q y⟩, fun y => absurd q y⟩
      obtain ⟨u1, u2, u3, u4, u5, u6⟩ := up4_x (M := M) (a := M 0 7) (b := up M 0 7 (M 0 7) 0 8) (c := k) (d := s)
      refine fin _ u1 u2 (by rw [u3, if_pos q]) (by rw [u4, if_pos q]) (by rw [u5, if_pos q]) ?_
      rw [u6, if_pos q, up_nk (Or.inr (by decide))]
    · refine ⟨fun y => absurd y q, fun _ => ⟨hp, fun y => absurd y q, fun _ => ⟨hp, fun y => absurd y q, fun _ => ⟨hp, hp, fun y => absurd y q, fun _ => ⟨hp, hp, trivial, ?_⟩⟩⟩⟩⟩
      obtain ⟨u1, u2, u3, u4, u5, u6⟩ := up4_x (M := M) (a := k) (b := s) (c := up (up M 0 7 k) 0 8 s 0 5) (d := up (up (up M 0 7 k) 0 8 s) 0 5 (up (up M 0 7 k) 0 8 s 0 5) 0 6)
      refine fin _ u1 u2 ?_ ?_ (by rw [u5, if_neg q]) (by rw [u6, if_neg q])
      · rw [u3, if_neg q, up_nk (Or.inr (by decide)), up_nk (Or.inr (by decide))]
      · rw [u4, if_neg q, up_nk (Or.inr (by decide)), up_nk (Or.inr (by decide)), up_nk (Or.inr (by decide))])
theorem ok_X9_readTiles (hA : jA ad 12) : OK_X9_readTiles l D cy ad := met_X9_readTiles hA (ok_X9_keep hA)
  (fun p M0 u k M μ => M = M0 ∧ u = M0 0 1 * (M0 0 0 + 1) - 1 ∧ ffF (badT (M0 0 0) (M0 0 1) (M0 3)) k.toNat = -1 ∧ (0 ≤ k ∧ k ≤ M0 0 9) ∧ μ = (5000 - k).toNat)
  (fun p M0 u c t M μ => (∃ M5 x, c_X9_keep 0 M0 x M5 ∧ ∀ b, b ≠ 1 → M b = M5 b) ∧ ftF (M0 0 0) (M0 0 1) (M0 3) (M0 0 9) = -1 ∧ (∀ s : Nat, M 1 s = if (s : Int) < t then M0 3 (tix (M0 0 0) s) - 48 else M0 1 s) ∧ c = sumF (fun s => if M0 3 (tix (M0 0 0) s) - 48 = M0 1 s then 0 else 1) t.toNat ∧ (0 ≤ t ∧ t ≤ nT (gY M0)) ∧ μ = (500 - t).toNat)
  (by
    rintro p M0 ⟨hp, h0, σ0, h⟩ hM
    subst h0
    obtain ⟨hG, hw⟩ := absY_s h
    have g0 : 3 ≤ M0 0 0 ∧ M0 0 0 ≤ 12 := hG.1.1
    have g1 : 3 ≤ M0 0 1 ∧ M0 0 1 ≤ 12 := hG.1.2.1
    have hmul := mul_b (a := M0 0 1) (b := M0 0 0 + 1) (A := 12) (B := 13) (by omega) (by omega) (by omega) (by omega)
    have hl := h.1.2.2.2.1
    have e9 := h.2.2.2.2.1.1
    exact ⟨hp, hp, by omega, by omega, by omega, _, rfl, rfl, rfl, rfl, by omega, rfl⟩)
  (by
    rintro p M0 ⟨hp, h0, σ0, h⟩ hM u k M n ⟨rfl, hu, hI, hk, hμ⟩ -
    subst h0
    obtain ⟨hG, hw⟩ := absY_s h
    have g0 : 3 ≤ M 0 0 ∧ M 0 0 ≤ 12 := hG.1.1
    have g1 : 3 ≤ M 0 1 ∧ M 0 1 ≤ 12 := hG.1.2.1
    have hmul := mul_b (a := M 0 1) (b := M 0 0 + 1) (A := 12) (B := 13) (by omega) (by omega) (by omega) (by omega)
    have hl := h.1.2.2.2.1
    have e9 := h.2.2.2.2.1.1
    have h7 := h.2.2.2.2.2.1
    have hr := h.1.2.2.2.2.2.1
    have ef : ∀ σ, absY M σ → ftS σ = ftF (M 0 0) (M 0 1) (M 3) (M 0 9) := fun σ hσ => by
      have w0 : M 0 0 = σ 0 0 := congrFun hσ.2.1.1 0
      have w1 : M 0 1 = σ 0 1 := congrFun hσ.2.1.1 1
      have w6 := hσ.2.2.2.2.1
      unfold ftS
      rw [w0, w1, w6.1]
      exact (ft_cg w6.2 hσ.1.2.2.2.1.1).symm
    have bd : ∀ v, ftF (M 0 0) (M 0 1) (M 3) (M 0 9) = v → v ≠ -1 → c_X9_readTiles 0 M (-100 - v) M := fun v hv hv1 σ hσ => by
      refine ⟨?_, ?_⟩
      · unfold F_readTiles
        rw [ef σ hσ, hv, if_neg hv1]
      · unfold G_readTiles
        rw [ef σ hσ, hv, if_neg hv1]
        exact hσ
    have bad : badT (M 0 0) (M 0 1) (M 3) k.toNat = true → ¬ M 0 9 ≤ k → inR (-100 - k) ∧ True ∧ c_X9_readTiles 0 M (-100 - k) M := fun hb hlt => ⟨by omega, trivial, bd k (ft_bad hI hb hk.1 (by omega)) (by omega)⟩
    have go : ∀ _ : Nat, badT (M 0 0) (M 0 1) (M 3) k.toNat = false → ¬ M 0 9 ≤ k → inR (k + 1) ∧ ∃ μ : Nat, μ < n ∧ (0 : Nat) = 0 ∧ (M = M ∧ u = M 0 1 * (M 0 0 + 1) - 1 ∧ ffF (badT (M 0 0) (M 0 1) (M 3)) (k + 1).toNat = -1 ∧ (0 ≤ k + 1 ∧ k + 1 ≤ M 0 9) ∧ μ = (5000 - (k + 1)).toNat) := fun _ hb hlt =>
      ⟨by omega, (5000 - (k + 1)).toNat, by omega, rfl, rfl, hu, by rw [show (k + 1).toNat = k.toNat + 1 by omega]; exact ff_ok hI hb, by omega, rfl⟩
    refine ⟨hp, fun h1 => ⟨hp, fun h2 => ⟨⟨hp, rfl, by omega, by omega⟩, ?_⟩, fun h2 => ⟨hp, by omega, trivial, bd (M 0 9) ?_ (by omega)⟩⟩, fun h1 => ⟨fun h2 => ⟨fun y => absurd rfl y, fun _ => bad ?_ h1⟩, fun h2 => ⟨hp, by omega, by omega, hp, fun h3 => ⟨hp, rfl, by omega, fun h4 => ⟨fun y => absurd rfl y, fun _ => bad ?_ h1⟩, fun h4 => ⟨hp, rfl, by omega, fun h5 => ⟨fun y => absurd rfl y, fun _ => bad ?_ h1⟩, fun h5 => ⟨fun _ => go 0 ?_ h1, fun y => absurd (show ¬ (1 : Int) = 0 by decide) y⟩⟩⟩, fun h3 => ⟨hp, rfl, by omega, fun h4 => ⟨fun y => absurd rfl y, fun _ => bad ?_ h1⟩, fun h4 => ⟨fun _ => go 0 ?_ h1, fun y => absurd (show ¬ (1 : Int) = 0 by decide) y⟩⟩⟩⟩⟩
    · rintro x2 M1 - - hc
      refine ⟨(500 - 0 : Int).toNat, by omega, rfl, ⟨M1, x2, hc, fun _ _ => rfl⟩, ?_, fun s => ?_, rfl, by omega, rfl⟩
      · unfold ftF
        rw [show (M 0 9).toNat = k.toNat by omega, if_pos hI, if_neg (by omega)]
      · rw [if_neg (by omega), hc.2.2.2 1 (by decide) (by decide)]
    · unfold ftF
      rw [show (M 0 9).toNat = k.toNat by omega, if_pos hI, if_pos (by omega)]
    · exact badT_t hk.1 (fun y => by have := y.1; omega)
    · rw [Int.tmod_eq_emod_of_nonneg hk.1] at h3
      exact badT_t hk.1 (fun y => by have y2 := y.2; rw [if_neg h3] at y2; omega)
    · rw [Int.tmod_eq_emod_of_nonneg hk.1] at h3
      exact badT_t hk.1 (fun y => by have y2 := y.2; rw [if_neg h3] at y2; omega)
    · rw [Int.tmod_eq_emod_of_nonneg hk.1] at h3
      exact badT_f hk.1 ⟨by omega, by rw [if_neg h3]; omega⟩
    · rw [Int.tmod_eq_emod_of_nonneg hk.1] at h3
      exact badT_t hk.1 (fun y => by have y2 := y.2; rw [if_pos (Classical.byContradiction h3)] at y2; exact h4 y2)
    · rw [Int.tmod_eq_emod_of_nonneg hk.1] at h3
      exact badT_f hk.1 ⟨by omega, by rw [if_pos (Classical.byContradiction h3)]; exact Classical.byContradiction h4⟩)
  (by
    rintro p M0 ⟨hp, h0, σ0, h⟩ hM u c t M n ⟨⟨M5, x5, hc5, hf5⟩, hft, hK, hcs, ht, hμ⟩ -
    subst h0
    obtain ⟨hG, hw⟩ := absY_s h
    obtain ⟨n2, n9, n144⟩ := gY_n hG
    have g0 : 3 ≤ M0 0 0 ∧ M0 0 0 ≤ 12 := hG.1.1
    have g1 : 3 ≤ M0 0 1 ∧ M0 0 1 ≤ 12 := hG.1.2.1
    have nE : ((nT (gY M0) : Nat) : Int) = M0 0 0 * M0 0 1 := (nT_b hG.1).1
    have hmul := mul_b (a := M0 0 1) (b := M0 0 0 + 1) (A := 12) (B := 13) (by omega) (by omega) (by omega) (by omega)
    have hl := h.1.2.2.2.1
    have e9 := h.2.2.2.2.1.1
    have e02 : M 0 2 = nT (gY M0) := by rw [hf5 0 (by decide), hc5.2.2.1 2 (by decide)]; exact n2
    have e00 : M 0 0 = M0 0 0 := by rw [hf5 0 (by decide), hc5.2.2.1 0 (by decide)]
    have e3 : M 3 = M0 3 := by rw [hf5 3 (by decide)]; exact hc5.2.2.2 3 (by decide) (by decide)
    have due : M0 0 1 * (M0 0 0 + 1) - 1 ≤ M0 0 9 := by
      unfold ftF at hft
      by_cases q : ffF (badT (M0 0 0) (M0 0 1) (M0 3)) (M0 0 9).toNat = -1
      · rw [if_pos q] at hft
        by_cases q2 : M0 0 9 < M0 0 1 * (M0 0 0 + 1) - 1
        · rw [if_pos q2] at hft; omega
        · omega
      · rw [if_neg q] at hft; exact absurd hft q
    have fit := ft_ok (a := M0 0 0) (b := M0 0 1) (T := M0 3) (n := M0 0 9) (by omega) hft
    have tv : ∀ s : Nat, s < nT (gY M0) → 48 ≤ M0 3 (tix (M0 0 0) s) ∧ M0 3 (tix (M0 0 0) s) ≤ 53 ∧ ((tix (M0 0 0) s : Nat) : Int) < M0 0 9 ∧ ((tix (M0 0 0) s : Nat) : Int) < 156 := fun s hs => by
      obtain ⟨m1, m2⟩ := tix_m (a := M0 0 0) (b := M0 0 1) (t := s) g0.1 g1.1 (by omega)
      have := fit _ m2
      rw [if_neg m1] at this
      omega
    have w0 : ∀ σ, absY M0 σ → M0 0 0 = σ 0 0 := fun σ hσ => congrFun hσ.2.1.1 0
    have er : ∀ σ, absY M0 σ → ∀ s : Nat, s < nT (gY M0) → M0 3 (tix (M0 0 0) s) = σ 3 (tix (σ 0 0) s) := fun σ hσ s hs => by
      have := tv s hs
      have w6 := hσ.2.2.2.2.1
      rw [← w0 σ hσ]
      exact w6.2 _ (by omega)
    have ef : ∀ σ, absY M0 σ → ftS σ = -1 := fun σ hσ => by
      have w1 : M0 0 1 = σ 0 1 := congrFun hσ.2.1.1 1
      have w6 := hσ.2.2.2.2.1
      unfold ftS
      rw [← hft, w0 σ hσ, w1, w6.1]
      exact (ft_cg w6.2 hσ.1.2.2.2.1.1).symm
    have cb : 0 ≤ c ∧ c ≤ t.toNat := by
      rw [hcs]
      exact sumF_b (fun j _ => by split <;> omega)
    have et : ((t.toNat : Nat) : Int) = t := by omega
    rw [e02, e00, e3]
    refine ⟨hp, fun h1 => ⟨trivial, fun σ hσ => ⟨?_, ?_⟩⟩, fun h1 => ?_⟩
    · unfold F_readTiles
      rw [if_pos (ef σ hσ), ← hσ.2.1.1, hcs, show t.toNat = nT (gY M0) by omega]
      refine sumF_congr (fun s hs => ?_)
      rw [er σ hσ s hs, hσ.2.2.1 s (by omega)]
    · unfold G_readTiles
      rw [if_pos (ef σ hσ)]
      refine kp_x hσ hc5 (fun b hb => hf5 b (by omega)) (fun s hs => ?_) (fun s hs => ?_)
      · rw [hK s]
        unfold tkK
        rw [← hσ.2.1.1]
        by_cases q : s < nT (gY M0)
        · rw [if_pos (by omega), if_pos q, er σ hσ s q]
        · rw [if_neg (by omega), if_neg q]; exact hσ.2.2.1 s hs
      · unfold tkK
        rw [← hσ.2.1.1]
        by_cases q : s < nT (gY M0)
        · rw [if_pos q, ← er σ hσ s q]
          have := tv s q
          omega
        · rw [if_neg q]; exact hσ.1.2.1 s hs
    · obtain ⟨i1, i2, i3⟩ := idx_t (w := M0 0 0) (h := M0 0 1) (t := t) (by omega) ht.1 (by omega)
      have hm2 := mul_b (a := t / M0 0 0) (b := M0 0 0 + 1) (A := 12) (B := 13) (by omega) (by omega) (by omega) (by omega)
      have eidx : t / M0 0 0 * (M0 0 0 + 1) + Int.tmod t (M0 0 0) = ((tix (M0 0 0) t.toNat : Nat) : Int) := by
        rw [Int.tmod_eq_emod_of_nonneg ht.1]
        unfold tix
        rw [et]
        omega
      obtain ⟨v1, v2, v3, v4⟩ := tv t.toNat (by omega)
      have hKt : M 1 t.toNat = M0 1 t.toNat := by rw [hK, if_neg (by omega)]
      rw [eidx, Int.toNat_natCast, hKt]
      have step : ∀ (_ : Nat) (c' : Int), c' = c + (if M0 3 (tix (M0 0 0) t.toNat) - 48 = M0 1 t.toNat then 0 else 1) → inR c' ∧ kdY 0 = 9 ∧ kdY 1 = 21 ∧ (0 ≤ t ∧ t < 144) ∧ inR (t + 1) ∧ ∃ μ : Nat, μ < n ∧ (0 : Nat) = 0 ∧ ((∃ M5 x, c_X9_keep 0 M0 x M5 ∧ ∀ b, b ≠ 1 → up M 1 t.toNat (M0 3 (tix (M0 0 0) t.toNat) - 48) b = M5 b) ∧ ftF (M0 0 0) (M0 0 1) (M0 3) (M0 0 9) = -1 ∧ (∀ s : Nat, up M 1 t.toNat (M0 3 (tix (M0 0 0) t.toNat) - 48) 1 s = if (s : Int) < t + 1 then M0 3 (tix (M0 0 0) s) - 48 else M0 1 s) ∧ c' = sumF (fun s => if M0 3 (tix (M0 0 0) s) - 48 = M0 1 s then 0 else 1) (t + 1).toNat ∧ (0 ≤ t + 1 ∧ t + 1 ≤ nT (gY M0)) ∧ μ = (500 - (t + 1)).toNat) := fun _ c' hc' => by
        refine ⟨by rw [hc']; split <;> omega, hp, rfl, by omega, by omega, (500 - (t + 1)).toNat, by omega, rfl, ⟨M5, x5, hc5, fun b hb => by rw [up_n hb]; exact hf5 b hb⟩, hft, fun s => ?_, ?_, by omega, rfl⟩
        · by_cases q : s = t.toNat
          · rw [q, up_sk, if_pos (by omega)]
          · rw [up_nk (Or.inr q), hK s]
            by_cases q2 : (s : Int) < t
            · rw [if_pos q2, if_pos (by omega)]
            · rw [if_neg q2, if_neg (by omega)]
        · rw [hc', hcs, show (t + 1).toNat = t.toNat + 1 by omega]
          rfl
      exact ⟨hp, hp, ⟨ht.1, by omega⟩, hp, by omega, by omega, hp, by omega, by omega, rfl, by omega, by omega, hp, rfl, by omega, fun h2 => step 0 _ (by rw [if_pos h2]), fun h2 => step 0 _ (by rw [if_neg h2])⟩)
end Y17
