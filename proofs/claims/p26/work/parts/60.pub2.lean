/-! ===== walks, and what changes the map ===== -/
theorem gS_cg {σ σ' : Mem} (e : ∀ i, i < 6 → σ' 0 i = σ 0 i) : gS σ' = gS σ := by
  funext i
  unfold gS
  split
  · exact e 0 (by decide)
  · exact e 1 (by decide)
  · exact e 2 (by decide)
  · exact e 3 (by decide)
  · exact e 4 (by decide)
  · exact e 5 (by decide)
theorem ed_0 {σ : Mem} {κ : Nat → Int} {i : Nat} (h : i ≠ 7) : upA (kpS σ) 1 κ 0 i = σ 0 i := by
  rw [upA_n (by decide)]
  unfold kpS
  rw [if_neg (by decide), if_neg (fun z => h z.2)]
theorem ed_07 {σ : Mem} {κ : Nat → Int} : upA (kpS σ) 1 κ 0 7 = if σ 0 7 = 12 then 12 else σ 0 7 + 1 := by
  rw [upA_n (by decide)]
  unfold kpS
  rw [if_neg (by decide), if_pos ⟨rfl, rfl⟩]
theorem ed_r {σ : Mem} {κ : Nat → Int} {r : Nat} (h : r = 2 ∨ r = 3) : upA (kpS σ) 1 κ r = σ r := by
  rw [upA_n (by omega)]
  funext i
  unfold kpS
  rw [if_neg (by omega), if_neg (by omega)]
theorem ed_4 {σ : Mem} {κ : Nat → Int} : upA (kpS σ) 1 κ 4 = kpH (σ 4) (σ 0 7) (σ 1) := by
  rw [upA_n (by decide)]
  funext i
  unfold kpS
  rw [if_pos rfl]
theorem ed_ok {σ : Mem} {κ : Nat → Int} (h : okS σ) (hk : ∀ t : Nat, t < 144 → 0 ≤ κ t ∧ κ t ≤ 5) : okS (upA (kpS σ) 1 κ) ∧ gS (upA (kpS σ) 1 κ) = gS σ := by
  have eg : gS (upA (kpS σ) 1 κ) = gS σ := gS_cg (fun i hi => ed_0 (by omega))
  obtain ⟨h1, h2, h3, h4, h5, h6, h7⟩ := h
  refine ⟨⟨by rw [eg]; exact h1, by rw [upA_s]; exact hk, by rw [ed_r (Or.inl rfl)]; exact h3, by rw [ed_0 (by decide)]; exact h4, by rw [ed_0 (by decide), ed_r (Or.inr rfl)]; exact h5, by rw [ed_07]; split <;> omega, fun i hi => ?_⟩, eg⟩
  rw [ed_07] at hi
  rw [ed_4]
  unfold kpH
  by_cases q : σ 0 7 = 12
  · rw [if_pos q] at hi ⊢
    by_cases q2 : i < 1584
    · rw [if_pos q2]; exact h7 _ (by omega)
    · rw [if_neg q2]; exact h2 _ (by omega)
  · rw [if_neg q] at hi ⊢
    by_cases q2 : (i : Int) < 144 * σ 0 7
    · rw [if_pos q2]; exact h7 _ q2
    · rw [if_neg q2]; exact h2 _ (by omega)
/-- a kept map, then other kinds -/
theorem ed_B {M M1 M2 σ : Mem} {κ : Nat → Int} {x : Int} (h : absX M σ) (hc : c_X0_record 16 6 M x M1) (hf : ∀ b, b ≠ 6 → M2 b = M1 b) (hk : kin M2 κ) (hb : ∀ t : Nat, t < 144 → 0 ≤ κ t ∧ κ t ≤ 5) : absB M2 (upA (kpS σ) 1 κ) := by
  obtain ⟨⟨h1, ⟨h2, h3⟩, h4, h5, ⟨h6, h7⟩, h8, h9⟩, -⟩ := id h
  obtain ⟨r1, r2⟩ := hc
  obtain ⟨o1, o2⟩ := ed_ok (κ := κ) h1 hb
  have fr : ∀ b, b ≠ 6 → b ≠ 16 → b < 18 → M2 b = M b := fun b b1 b2 b3 => by rw [hf b b1, r2 b b2 (Or.inl b3)]
  obtain ⟨s1, s2⟩ := surf_congr (M' := M2) (abs_sw h).1 (fun b q1 q2 => fr b (by omega) (by omega) (by omega))
  refine ⟨o1, ⟨by rw [s2, o2]; exact h2, s1.2⟩, by rw [upA_s]; exact hk, ?_, ?_, ?_, ?_⟩
  · rw [ed_r (Or.inl rfl), fr 8 (by decide) (by decide) (by decide)]; exact h5
  · rw [ed_r (Or.inr rfl), ed_0 (by decide), fr 12 (by decide) (by decide) (by decide), fr 13 (by decide) (by decide) (by decide)]; exact ⟨h6, h7⟩
  · rw [ed_4, ed_07]
    refine HR_congr (r1 _ _ h8) (fun b hb => hf b (by omega)) (fun i hi => ?_)
    have : σ 0 7 ≤ 12 := h1.2.2.2.2.2.1.2
    unfold kpH
    by_cases q : σ 0 7 = 12
    · rw [if_pos q] at hi ⊢
      rw [if_pos q]
      by_cases q2 : i < 1584
      · rw [if_pos q2, if_pos q2]
      · rw [if_neg q2, if_neg q2]; exact (h4 _ (by omega)).symm
    · rw [if_neg q] at hi ⊢
      rw [if_neg q]
      by_cases q2 : (i : Int) < 144 * σ 0 7
      · rw [if_pos q2, if_pos q2]
      · rw [if_neg q2, if_neg q2]; exact (h4 _ (by omega)).symm
  · rw [fr 0 (by decide) (by decide) (by decide)]; exact h9
/-- the parts found anew -/
theorem rep_x {M M' σ : Mem} {x : Int} (h : absB M σ) (hc : c_X8_repairParts 0 M x M') : absX M' σ ∧ (M' 0 6 = M 0 7 ∧ M' 0 7 = M 0 6) ∧ (∀ b, b ≠ 0 → (b < (M 0 7).toNat ∨ (M 0 7).toNat + 7 < b) → M' b = M b) ∧ gX M' = gX M := by
  obtain ⟨h1, ⟨h2, h3⟩, h4, h5, ⟨h6, h7⟩, h8, h9⟩ := id h
  obtain ⟨r1, r2, r3, r4⟩ := hc
  have fr : ∀ b, b ≠ 0 → b < 30 → M' b = M b := fun b b0 b1 => r4 b b0 (by omega)
  obtain ⟨s1, s2⟩ := surf_congr (M := M) (M' := M') ⟨by rw [h2]; exact h1.1, h3⟩ (fun b q1 q2 => fr b (by omega) (by omega))
  refine ⟨⟨⟨h1, ⟨by rw [s2]; exact h2, s1.2⟩, by unfold kin; rw [fr 6 (by decide) (by decide)]; exact h4, by rw [fr 8 (by decide) (by decide)]; exact h5, by rw [fr 12 (by decide) (by decide), fr 13 (by decide) (by decide)]; exact ⟨h6, h7⟩, HR_congr h8 (fun b hb => fr b (by omega) (by omega)) (fun _ _ => rfl), by rw [r2, r3]; omega⟩, ?_⟩, ⟨r2, r3⟩, r4, s2⟩
  rw [r2, ← h2]
  exact r1 _ h4
theorem absB_s {M σ : Mem} (h : absB M σ) : surf M := ⟨by rw [h.2.1.1]; exact h.1.1, h.2.1.2⟩
section P2
variable {l : Launch} {D : va_G} {cy : Nat → ClassId} {ad : Nat → Nat}
theorem ok_X8_walk (hA : jA ad 46) : OK_X8_walk l D cy ad := met_X8_walk hA (ok_X3_has hA) (ok_X4_faultAsWalk hA) (ok_X6_follow hA) (ok_X6_tell hA) (ok_X8_isDirection hA) (by
  rintro p t y w M0 ⟨hp, h0, σ0, h⟩ hM rt ry rw_
  subst h0
  obtain ⟨hS, hw⟩ := abs_sw h
  obtain ⟨nE, n9, n144⟩ := nT_b hS.1
  refine ⟨hp, ⟨rfl, rfl, hS.1.1, hS.1.2.1⟩, ?_⟩
  rintro x2 M1 - - hc
  obtain ⟨rfl, hx⟩ := hasX hS hc
  refine ⟨fun z => ⟨trivial, ?_⟩, fun z => ⟨trivial, fun σ hσ => ⟨?_, hσ⟩⟩⟩
  · have ht := Classical.byContradiction (fun y => z (hx.mpr y))
    rintro x4 M3 - - ⟨hc4, rfl⟩
    have hx4 := if_x hc4
    have bad : ¬ ((0 ≤ y ∧ y < 4) ∧ 0 ≤ w ∧ w ≤ 4) → c_X8_walk 0 t y w M3 (-2) M3 := fun q σ hσ => ⟨by unfold F_walk; rw [if_pos ((hsS hσ).mpr ht), if_neg q], hσ⟩
    refine ⟨fun z4 => ⟨trivial, bad (fun q => hx4.mp z4 q.1)⟩, fun z4 => ⟨fun z5 => ⟨trivial, bad (fun q => by omega)⟩, fun z5 => ⟨fun z6 => ?_, fun z6 => ⟨trivial, bad (fun q => z6 q.2.2)⟩⟩⟩⟩
    have hd := Classical.byContradiction (fun y => z4 (hx4.mpr y))
    have h12 := h.1.2.2.2.2.1
    have hlen := h.1.1.2.2.2.1
    have htx := h.1.1.2.2.2.2.1
    refine ⟨hp, ⟨rfl, rfl, by omega, by omega⟩, ?_⟩
    rintro x6 M5 - - ⟨hx6, rfl⟩
    have ef : ∀ σ, absX M5 σ → x6 = fwS σ := fun σ hσ => by
      have e12 := hσ.1.2.2.2.2.1
      rw [hx6, e12.1]
      unfold fwS
      refine ff_cg _ (fun k hk => ?_)
      unfold badW
      rw [e12.2 k (by have := hσ.1.1.2.2.2.1; omega)]
    refine ⟨fun z7 => ⟨hp, hp, ⟨rfl, rfl, rfl, hS, by omega, fun j hj => by rw [h12.2 j (by omega)]; exact htx j (by omega), ht, hd⟩, ?_⟩, fun z7 => ⟨?_, trivial, fun σ hσ => ⟨?_, hσ⟩⟩⟩
    · rintro x8 M7 - - ⟨hW, hF⟩
      refine ⟨hp, ⟨rfl, rfl, by omega, z6⟩, ?_⟩
      rintro x10 M9 - - ⟨hx10, rfl⟩
      refine ⟨trivial, fun σ hσ => ⟨?_, absX_congr hσ (fun b _ _ _ b4 b5 _ _ => hF b b4 b5)⟩⟩
      have e12 := hσ.1.2.2.2.2.1
      unfold F_walk
      rw [if_pos ((hsS hσ).mpr ht), if_pos ⟨hd, by omega, z6⟩, if_pos (by rw [← ef σ hσ]; exact z7), hx10 _ hW, hσ.1.2.1.1, e12.1]
      rw [wlk_cg (T := M5 13) (T' := σ 3) _ (fun k hk => e12.2 k (by have := hσ.1.1.2.2.2.1; omega))]
    · have := hM 12 1
      have fb : ∀ n, -1 ≤ ffF (badW (M5 13)) n ∧ ffF (badW (M5 13)) n ≤ n := by
        intro n
        induction n with
        | zero => exact (by decide : (-1 : Int) ≤ -1 ∧ (-1 : Int) ≤ ((0 : Nat) : Int))
        | succ n ih => unfold ffF; split <;> (try split) <;> omega
      have := fb (M5 12 1).toNat
      omega
    · unfold F_walk
      rw [if_pos ((hsS hσ).mpr ht), if_pos ⟨hd, by omega, z6⟩, if_neg (by rw [← ef σ hσ]; exact z7), ef σ hσ]
  · unfold F_walk
    rw [if_neg (fun y => hx.mp (Classical.byContradiction z) ((hsS hσ).mp y))])
theorem ok_X8_type (hA : jA ad 46) : OK_X8_type l D cy ad := met_X8_type hA (ok_X4_append hA) (by
  rintro p c M0 ⟨hp, h0, ⟨σ0, h⟩, hc⟩ hM rc
  subst h0
  have h12 := h.1.2.2.2.2.1
  have hlen := h.1.1.2.2.2.1
  refine ⟨hp, ⟨rfl, rfl, by omega, hc⟩, ?_⟩
  rintro x2 M1 - - hc2
  refine ⟨trivial, fun σ hσ => ?_⟩
  have e12 := hσ.1.2.2.2.2.1
  unfold c_X4_append at hc2
  unfold F_type G_type
  by_cases q : σ 0 6 = 160
  · rw [if_pos (by omega)] at hc2
    rw [if_pos q, if_pos q, hc2.2]
    exact ⟨hc2.1, hσ⟩
  · rw [if_neg (by omega)] at hc2
    obtain ⟨k1, k2⟩ := hc2
    rw [if_neg q, if_neg q]
    refine ⟨by rw [k1, e12.1], ?_⟩
    obtain ⟨⟨⟨o1, o2, o3, o4, o5, o6, o7⟩, ⟨h2, h3⟩, h4, h5, -, h8, h9⟩, hP⟩ := id hσ
    have eg : gS (up (up σ 3 (σ 0 6).toNat c) 0 6 (σ 0 6 + 1)) = gS σ := gS_cg (fun i hi => by rw [up_nk (Or.inr (by omega)), up_n (by decide)])
    have fr : ∀ b, b ≠ 12 → b ≠ 13 → M1 b = M0 b := fun b b1 b2 => by rw [k2, up_n b1, up_n b2]
    obtain ⟨s1, s2⟩ := surf_congr (M' := M1) (abs_sw hσ).1 (fun b q1 q2 => fr b (by omega) (by omega))
    have e1 : up (up σ 3 (σ 0 6).toNat c) 0 6 (σ 0 6 + 1) 1 = σ 1 := by rw [up_n (by decide), up_n (by decide)]
    have e2 : up (up σ 3 (σ 0 6).toNat c) 0 6 (σ 0 6 + 1) 2 = σ 2 := by rw [up_n (by decide), up_n (by decide)]
    have e3 : up (up σ 3 (σ 0 6).toNat c) 0 6 (σ 0 6 + 1) 3 = upR (σ 3) (σ 0 6).toNat c := by rw [up_n (by decide), up_s]
    have e4 : up (up σ 3 (σ 0 6).toNat c) 0 6 (σ 0 6 + 1) 4 = σ 4 := by rw [up_n (by decide), up_n (by decide)]
    have e06 : up (up σ 3 (σ 0 6).toNat c) 0 6 (σ 0 6 + 1) 0 6 = σ 0 6 + 1 := up_sk
    have e07 : up (up σ 3 (σ 0 6).toNat c) 0 6 (σ 0 6 + 1) 0 7 = σ 0 7 := by rw [up_nk (Or.inr (by decide)), up_n (by decide)]
    refine ⟨⟨⟨by rw [eg]; exact o1, by rw [e1]; exact o2, by rw [e2]; exact o3, by rw [e06]; omega, ?_, by rw [e07]; exact o6, by rw [e07, e4]; exact o7⟩, ⟨by rw [s2, eg]; exact h2, s1.2⟩, by rw [e1]; unfold kin; rw [fr 6 (by decide) (by decide)]; exact h4, by rw [e2, fr 8 (by decide) (by decide)]; exact h5, ?_, by rw [e4, e07]; exact HR_congr h8 (fun b hb => fr b (by omega) (by omega)) (fun _ _ => rfl), by rw [fr 0 (by decide) (by decide)]; exact h9⟩, ?_⟩
    · rw [e06, e3]
      intro j hj
      by_cases q2 : j = (σ 0 6).toNat
      · rw [q2, upR_s]; exact hc
      · rw [upR_n q2]; exact o5 j (by omega)
    · rw [e06, e3, k2]
      refine ⟨by rw [up_sk, e12.1], fun j hj => ?_⟩
      rw [up_n (by decide), up_s, e12.1]
      by_cases q2 : j = (σ 0 6).toNat
      · rw [q2, upR_s, upR_s]
      · rw [upR_n q2, upR_n q2]; exact e12.2 j (by omega)
    · rw [eg, e1, fr 0 (by decide) (by decide)]
      exact partsOK_cg hP (fun b hb => fr b (by omega) (by omega)))
theorem ok_X8_clearText (hA : jA ad 46) : OK_X8_clearText l D cy ad := met_X8_clearText hA (ok_X4_empty hA) (by
  rintro p M0 ⟨hp, h0, σ0, h⟩ hM
  subst h0
  refine ⟨hp, ⟨rfl, rfl⟩, ?_⟩
  rintro x2 M1 - - ⟨k1, k2⟩
  refine ⟨trivial, fun σ hσ => ?_⟩
  obtain ⟨⟨⟨o1, o2, o3, o4, o5, o6, o7⟩, ⟨h2, h3⟩, h4, h5, e12, h8, h9⟩, hP⟩ := id hσ
  have eg : gS (up σ 0 6 0) = gS σ := gS_cg (fun i hi => by rw [up_nk (Or.inr (by omega))])
  have fr : ∀ b, b ≠ 12 → M1 b = M0 b := fun b b1 => by rw [k2, up_n b1]
  obtain ⟨s1, s2⟩ := surf_congr (M' := M1) (abs_sw hσ).1 (fun b q1 q2 => fr b (by omega))
  have er : ∀ r, r ≠ 0 → up σ 0 6 0 r = σ r := fun r hr => up_n hr
  have e06 : up σ 0 6 0 0 6 = 0 := up_sk
  have e07 : up σ 0 6 0 0 7 = σ 0 7 := by rw [up_nk (Or.inr (by decide))]
  refine ⟨by rw [k1, e12.1]; rfl, ?_⟩
  unfold G_clearText
  refine ⟨⟨⟨by rw [eg]; exact o1, by rw [er 1 (by decide)]; exact o2, by rw [er 2 (by decide)]; exact o3, by rw [e06]; omega, by rw [e06]; intro j hj; omega, by rw [e07]; exact o6, by rw [e07, er 4 (by decide)]; exact o7⟩, ⟨by rw [s2, eg]; exact h2, s1.2⟩, by rw [er 1 (by decide)]; unfold kin; rw [fr 6 (by decide)]; exact h4, by rw [er 2 (by decide), fr 8 (by decide)]; exact h5, ⟨by rw [e06, k2, up_sk], by rw [e06]; intro j hj; omega⟩, by rw [er 4 (by decide), e07]; exact HR_congr h8 (fun b hb => fr b (by omega)) (fun _ _ => rfl), by rw [fr 0 (by decide)]; exact h9⟩, ?_⟩
  rw [eg, er 1 (by decide), fr 0 (by decide)]
  exact partsOK_cg hP (fun b hb => fr b (by omega)))
theorem ok_X8_setWeight (hA : jA ad 46) : OK_X8_setWeight l D cy ad := met_X8_setWeight hA (ok_X7_changeWeight hA) (ok_X8_isKind hA) (by
  rintro p k v M0 ⟨hp, h0, σ0, h⟩ hM rk rv
  subst h0
  refine ⟨trivial, ?_⟩
  rintro x2 M1 - - ⟨hc2, rfl⟩
  have hx2 := if_x hc2
  have bad : ¬ (kdO k ∧ 0 ≤ v ∧ v ≤ 9) → c_X8_setWeight 0 k v M1 (-2) M1 := fun q σ hσ => ⟨by unfold F_setWeight; rw [if_neg q], by unfold G_setWeight; rw [if_neg q]; exact hσ⟩
  refine ⟨fun z => ⟨trivial, bad (fun q => hx2.mp z q.1)⟩, fun z => ⟨fun z2 => ⟨trivial, bad (fun q => by omega)⟩, fun z2 => ⟨fun z3 => ?_, fun z3 => ⟨trivial, bad (fun q => z3 q.2.2)⟩⟩⟩⟩
  have hk := Classical.byContradiction (fun y => z (hx2.mpr y))
  refine ⟨hp, ⟨rfl, rfl, by omega⟩, ?_⟩
  rintro x4 M3 - - ⟨k1, k2⟩
  refine ⟨trivial, fun σ hσ => ?_⟩
  obtain ⟨⟨⟨o1, o2, o3, o4, o5, o6, o7⟩, ⟨h2, h3⟩, h4, h5, e12, h8, h9⟩, hP⟩ := id hσ
  have eg : gS (up σ 2 k.toNat v) = gS σ := gS_cg (fun i hi => by rw [up_n (by decide)])
  have fr : ∀ b, b ≠ 8 → M3 b = M1 b := fun b b1 => by rw [k2, up_n b1]
  obtain ⟨s1, s2⟩ := surf_congr (M' := M3) (abs_sw hσ).1 (fun b q1 q2 => fr b (by omega))
  have er : ∀ r, r ≠ 2 → up σ 2 k.toNat v r = σ r := fun r hr => up_n hr
  unfold F_setWeight G_setWeight
  rw [if_pos ⟨hk, by omega, z3⟩, if_pos ⟨hk, by omega, z3⟩]
  refine ⟨by rw [k1]; exact h5 _ (by omega), ⟨⟨by rw [eg]; exact o1, by rw [er 1 (by decide)]; exact o2, fun j hj => ?_, by rw [er 0 (by decide)]; exact o4, by rw [er 0 (by decide), er 3 (by decide)]; exact o5, by rw [er 0 (by decide)]; exact o6, by rw [er 0 (by decide), er 4 (by decide)]; exact o7⟩, ⟨by rw [s2, eg]; exact h2, s1.2⟩, by rw [er 1 (by decide)]; unfold kin; rw [fr 6 (by decide)]; exact h4, fun j hj => ?_, by rw [er 0 (by decide), er 3 (by decide), fr 12 (by decide), fr 13 (by decide)]; exact e12, by rw [er 4 (by decide), er 0 (by decide)]; exact HR_congr h8 (fun b hb => fr b (by omega)) (fun _ _ => rfl), by rw [fr 0 (by decide)]; exact h9⟩, ?_⟩
  · rw [up_s]
    by_cases q : j = k.toNat
    · rw [q, upR_s]; omega
    · rw [upR_n q]; exact o3 j hj
  · rw [up_s, k2, up_s]
    by_cases q : j = k.toNat
    · rw [q, upR_s, upR_s]
    · rw [upR_n q, upR_n q]; exact h5 j hj
  · rw [eg, er 1 (by decide), fr 0 (by decide)]
    exact partsOK_cg hP (fun b hb => fr b (by omega)))
end P2
