/-! ===== resets, seams, texts that are read ===== -/
theorem gX_eq {M σ : Mem} (e : ∀ i, i < 6 → gX M i = gS σ i) : gX M = gS σ := by
  funext i
  match i with
  | 0 => exact e 0 (by decide)
  | 1 => exact e 1 (by decide)
  | 2 => exact e 2 (by decide)
  | 3 => exact e 3 (by decide)
  | 4 => exact e 4 (by decide)
  | n + 5 => exact e 5 (by decide)
theorem if2_x {P : Prop} [Decidable P] {x : Int} (h : x = if P then 0 else 1) : x = 0 ↔ P := by
  by_cases q : P
  · rw [h, if_pos q]; exact ⟨fun _ => q, fun _ => rfl⟩
  · rw [h, if_neg q]; exact ⟨fun z => absurd z (by decide), fun z => absurd z q⟩
theorem z12 : (0 : Int) ≤ 0 ∧ (0 : Int) ≤ 12 := by decide
/-- a map begun anew -/
theorem beg_x {M M' σ : Mem} {a b x : Int} (hz : szO a b) (hq : (M 0 6 = 30 ∧ M 0 7 = 38) ∨ (M 0 6 = 38 ∧ M 0 7 = 30)) (hl : 0 ≤ σ 0 6 ∧ σ 0 6 ≤ 160) (ht : ∀ j : Nat, (j : Int) < σ 0 6 → 0 ≤ σ 3 j ∧ σ 3 j < 65536) (e12 : M 12 1 = σ 0 6 ∧ ∀ j : Nat, (j : Int) < σ 0 6 → M 13 j = σ 3 j) (hc : c_X8_beginAnew 0 a b M x M') : absX M' (G_reset σ a b) := by
  obtain ⟨c1, c2, ⟨g0, g1, g2, g3, g4, g5⟩, c4, c5, c6, c7, c8, c9⟩ := hc
  unfold G_reset
  rw [if_pos hz]
  have eg : gX M' = gS (fun r i => if r = 0 then (if i = 0 then a else if i = 1 then b else if i = 6 then σ 0 6 else 0) else if r = 1 then 0 else if r = 2 then 1 else σ r i) := by
    refine gX_eq (fun i hi => ?_)
    match i with
    | 0 => exact g0
    | 1 => exact g1
    | 2 => exact g2
    | 3 => exact g3
    | 4 => exact g4
    | 5 => exact g5
    | n + 6 => omega
  refine ⟨⟨⟨by rw [← eg]; exact c2.1, fun t _ => (by decide : (0 : Int) ≤ 0 ∧ (0 : Int) ≤ 5), fun k _ => (by decide : (0 : Int) ≤ 1 ∧ (1 : Int) ≤ 9), hl, ht, z12, fun i hi => ?_⟩, ⟨eg, c2.2⟩, c1, c4, by rw [c8, c9]; exact e12, ⟨c5.2, z12, by rw [c5.1]; decide, fun j t hj => ?_⟩, by rw [c7]; exact hq⟩, ?_⟩
  · exact absurd hi (by show ¬ ((i : Int) < 144 * 0); omega)
  · exact absurd hj (by show ¬ ((j : Int) < 0); omega)
  · rw [c7, ← eg]; exact c6
theorem seam_x {M M' σ : Mem} {e k s x : Int} (h : absX M σ) (hm : smO σ e k s) (hc : c_X3_changeSeam 1 e k s M x M') : absB M' (G_setSeam σ e k s) ∧ (x = 0 ↔ smE σ e k s) ∧ (x = 0 → absX M' (G_setSeam σ e k s)) ∧ M' 0 = M 0 := by
  obtain ⟨c1, c2, ⟨g0, g1, g2, g3, g4, g5⟩, c4⟩ := hc
  obtain ⟨⟨⟨o1, o2, o3, o4, o5, o6, o7⟩, ⟨h2, h3⟩, h4, h5, e12, h8, h9⟩, hP⟩ := id h
  rw [h2] at c2 g0 g1 g2 g3 g4 g5
  have hx := if2_x c2
  have fr : ∀ b, b ≠ 2 → b ≠ 3 → b ≠ 4 → b ≠ 5 → M' b = M b := c4
  have e0 := fr 0 (by decide) (by decide) (by decide) (by decide)
  have key : ∀ σ' : Mem, (∀ r, r ≠ 0 → σ' r = σ r) → σ' 0 6 = σ 0 6 → σ' 0 7 = σ 0 7 → gX M' = gS σ' → gOK (gS σ') → absB M' σ' := fun σ' er e6 e7 eg ho =>
    ⟨⟨ho, by rw [er 1 (by decide)]; exact o2, by rw [er 2 (by decide)]; exact o3, by rw [e6]; exact o4, by rw [e6, er 3 (by decide)]; exact o5, by rw [e7]; exact o6, by rw [e7, er 4 (by decide)]; exact o7⟩, ⟨eg, c1⟩, by rw [er 1 (by decide)]; unfold kin; rw [fr 6 (by decide) (by decide) (by decide) (by decide)]; exact h4, by rw [er 2 (by decide), fr 8 (by decide) (by decide) (by decide) (by decide)]; exact h5, by rw [e6, er 3 (by decide), fr 12 (by decide) (by decide) (by decide) (by decide), fr 13 (by decide) (by decide) (by decide) (by decide)]; exact e12, by rw [er 4 (by decide), e7]; exact HR_congr h8 (fun b hb => fr b (by omega) (by omega) (by omega) (by omega)) (fun _ _ => rfl), by rw [e0]; exact h9⟩
  have key2 : ∀ σ' : Mem, (∀ r, r ≠ 0 → σ' r = σ r) → gS σ' = gS σ → absB M' σ' → absX M' σ' := fun σ' er eg hB => ⟨hB, by
    rw [eg, er 1 (by decide), e0]
    exact partsOK_cg hP (fun b hb => fr b (by omega) (by omega) (by omega) (by omega))⟩
  unfold G_setSeam
  rw [if_pos hm]
  obtain ⟨m1, m2⟩ := hm
  by_cases q : e = 0
  · rw [if_pos q] at hx g2 g3 g4 g5 m2
    rw [if_pos q]
    have er : ∀ r, r ≠ 0 → up (up σ 0 2 k) 0 3 s r = σ r := fun r hr => by rw [up_n hr, up_n hr]
    have e6 : up (up σ 0 2 k) 0 3 s 0 6 = σ 0 6 := by rw [up_nk (Or.inr (by decide)), up_nk (Or.inr (by decide))]
    have e7 : up (up σ 0 2 k) 0 3 s 0 7 = σ 0 7 := by rw [up_nk (Or.inr (by decide)), up_nk (Or.inr (by decide))]
    have s0 : gS (up (up σ 0 2 k) 0 3 s) 0 = σ 0 0 := by show up (up σ 0 2 k) 0 3 s 0 0 = _; rw [up_nk (Or.inr (by decide)), up_nk (Or.inr (by decide))]
    have s1 : gS (up (up σ 0 2 k) 0 3 s) 1 = σ 0 1 := by show up (up σ 0 2 k) 0 3 s 0 1 = _; rw [up_nk (Or.inr (by decide)), up_nk (Or.inr (by decide))]
    have s2 : gS (up (up σ 0 2 k) 0 3 s) 2 = k := by show up (up σ 0 2 k) 0 3 s 0 2 = _; rw [up_nk (Or.inr (by decide)), up_sk]
    have s3 : gS (up (up σ 0 2 k) 0 3 s) 3 = s := by show up (up σ 0 2 k) 0 3 s 0 3 = _; rw [up_sk]
    have s4 : gS (up (up σ 0 2 k) 0 3 s) 4 = σ 0 4 := by show up (up σ 0 2 k) 0 3 s 0 4 = _; rw [up_nk (Or.inr (by decide)), up_nk (Or.inr (by decide))]
    have s5 : gS (up (up σ 0 2 k) 0 3 s) 5 = σ 0 5 := by show up (up σ 0 2 k) 0 3 s 0 5 = _; rw [up_nk (Or.inr (by decide)), up_nk (Or.inr (by decide))]
    have eg : gX M' = gS (up (up σ 0 2 k) 0 3 s) := by
      refine gX_eq (fun i hi => ?_)
      match i with
      | 0 => rw [s0]; exact g0
      | 1 => rw [s1]; exact g1
      | 2 => rw [s2]; exact g2
      | 3 => rw [s3]; exact g3
      | 4 => rw [s4]; exact g4
      | 5 => rw [s5]; exact g5
      | n + 6 => omega
    have oo : (3 ≤ σ 0 0 ∧ σ 0 0 ≤ 12) ∧ (3 ≤ σ 0 1 ∧ σ 0 1 ≤ 12) ∧ (0 ≤ σ 0 2 ∧ σ 0 2 ≤ 2) ∧ (0 ≤ σ 0 3 ∧ σ 0 3 < σ 0 1) ∧ (0 ≤ σ 0 4 ∧ σ 0 4 ≤ 2) ∧ 0 ≤ σ 0 5 ∧ σ 0 5 < σ 0 0 := o1
    have hB := key _ er e6 e7 eg (by unfold gOK; rw [s0, s1, s2, s3, s4, s5]; exact ⟨oo.1, oo.2.1, m1, m2, oo.2.2.2.2.1, oo.2.2.2.2.2⟩)
    have hE : smE σ e k s ↔ (gS σ 2 = k ∧ gS σ 3 = s) := ⟨fun z => z.1 q, fun z => ⟨fun _ => z, fun y => absurd q y⟩⟩
    refine ⟨hB, hx.trans hE.symm, fun z => key2 _ er ?_ hB, e0⟩
    have hv : σ 0 2 = k ∧ σ 0 3 = s := hx.mp z
    refine gS_cg (fun i hi => ?_)
    match i with
    | 0 => exact s0
    | 1 => exact s1
    | 2 => exact s2.trans hv.1.symm
    | 3 => exact s3.trans hv.2.symm
    | 4 => exact s4
    | 5 => exact s5
    | n + 6 => omega
  · rw [if_neg q] at hx g2 g3 g4 g5 m2
    rw [if_neg q]
    have er : ∀ r, r ≠ 0 → up (up σ 0 4 k) 0 5 s r = σ r := fun r hr => by rw [up_n hr, up_n hr]
    have e6 : up (up σ 0 4 k) 0 5 s 0 6 = σ 0 6 := by rw [up_nk (Or.inr (by decide)), up_nk (Or.inr (by decide))]
    have e7 : up (up σ 0 4 k) 0 5 s 0 7 = σ 0 7 := by rw [up_nk (Or.inr (by decide)), up_nk (Or.inr (by decide))]
    have s0 : gS (up (up σ 0 4 k) 0 5 s) 0 = σ 0 0 := by show up (up σ 0 4 k) 0 5 s 0 0 = _; rw [up_nk (Or.inr (by decide)), up_nk (Or.inr (by decide))]
    have s1 : gS (up (up σ 0 4 k) 0 5 s) 1 = σ 0 1 := by show up (up σ 0 4 k) 0 5 s 0 1 = _; rw [up_nk (Or.inr (by decide)), up_nk (Or.inr (by decide))]
    have s2 : gS (up (up σ 0 4 k) 0 5 s) 2 = σ 0 2 := by show up (up σ 0 4 k) 0 5 s 0 2 = _; rw [up_nk (Or.inr (by decide)), up_nk (Or.inr (by decide))]
    have s3 : gS (up (up σ 0 4 k) 0 5 s) 3 = σ 0 3 := by show up (up σ 0 4 k) 0 5 s 0 3 = _; rw [up_nk (Or.inr (by decide)), up_nk (Or.inr (by decide))]
    have s4 : gS (up (up σ 0 4 k) 0 5 s) 4 = k := by show up (up σ 0 4 k) 0 5 s 0 4 = _; rw [up_nk (Or.inr (by decide)), up_sk]
    have s5 : gS (up (up σ 0 4 k) 0 5 s) 5 = s := by show up (up σ 0 4 k) 0 5 s 0 5 = _; rw [up_sk]
    have eg : gX M' = gS (up (up σ 0 4 k) 0 5 s) := by
      refine gX_eq (fun i hi => ?_)
      match i with
      | 0 => rw [s0]; exact g0
      | 1 => rw [s1]; exact g1
      | 2 => rw [s2]; exact g2
      | 3 => rw [s3]; exact g3
      | 4 => rw [s4]; exact g4
      | 5 => rw [s5]; exact g5
      | n + 6 => omega
    have oo : (3 ≤ σ 0 0 ∧ σ 0 0 ≤ 12) ∧ (3 ≤ σ 0 1 ∧ σ 0 1 ≤ 12) ∧ (0 ≤ σ 0 2 ∧ σ 0 2 ≤ 2) ∧ (0 ≤ σ 0 3 ∧ σ 0 3 < σ 0 1) ∧ (0 ≤ σ 0 4 ∧ σ 0 4 ≤ 2) ∧ 0 ≤ σ 0 5 ∧ σ 0 5 < σ 0 0 := o1
    have hB := key _ er e6 e7 eg (by unfold gOK; rw [s0, s1, s2, s3, s4, s5]; exact ⟨oo.1, oo.2.1, oo.2.2.1, oo.2.2.2.1, m1, m2⟩)
    have hE : smE σ e k s ↔ (gS σ 4 = k ∧ gS σ 5 = s) := ⟨fun z => z.2 q, fun z => ⟨fun y => absurd y q, fun _ => z⟩⟩
    refine ⟨hB, hx.trans hE.symm, fun z => key2 _ er ?_ hB, e0⟩
    have hv : σ 0 4 = k ∧ σ 0 5 = s := hx.mp z
    refine gS_cg (fun i hi => ?_)
    match i with
    | 0 => exact s0
    | 1 => exact s1
    | 2 => exact s2
    | 3 => exact s3
    | 4 => exact s4.trans hv.1.symm
    | 5 => exact s5.trans hv.2.symm
    | n + 6 => omega
theorem ff_all {bad : Nat → Bool} : ∀ n : Nat, ffF bad n = -1 → ∀ k, k < n → bad k = false := by
  intro n
  induction n with
  | zero => intro _ k hk; omega
  | succ n ih =>
    intro h k hk
    unfold ffF at h
    by_cases q : ffF bad n = -1
    · rw [if_pos q] at h
      have hb : bad n = false := by
        cases hb : bad n
        · rfl
        · rw [hb, if_pos rfl] at h; omega
      by_cases q2 : k = n
      · rw [q2]; exact hb
      · exact ih q k (by omega)
    · rw [if_neg q] at h; exact absurd h q
theorem ff_b {bad : Nat → Bool} : ∀ n : Nat, -1 ≤ ffF bad n ∧ ffF bad n ≤ n := by
  intro n
  induction n with
  | zero => exact (by decide : (-1 : Int) ≤ -1 ∧ (-1 : Int) ≤ ((0 : Nat) : Int))
  | succ n ih => unfold ffF; split <;> (try split) <;> omega
theorem ft_ok {a b n : Int} {T : Nat → Int} (hn : 0 ≤ n) (h : ftF a b T n = -1) : ∀ k : Nat, (k : Int) < b * (a + 1) - 1 → (if (k : Int) % (a + 1) = a then T k = 47 else 48 ≤ T k ∧ T k ≤ 53) := by
  intro k hk
  unfold ftF at h
  by_cases q : ffF (badT a b T) n.toNat = -1
  · rw [if_pos q] at h
    by_cases q2 : n < b * (a + 1) - 1
    · rw [if_pos q2] at h; omega
    · have := ff_all _ q k (by omega)
      unfold badT at this
      exact (Classical.byContradiction (fun z => (of_decide_eq_false this) z)).2
  · rw [if_neg q] at h; exact absurd h q
theorem tix_m {a b : Int} {t : Nat} (ha : 3 ≤ a) (hb : 3 ≤ b) (ht : (t : Int) < a * b) : ((tix a t : Nat) : Int) % (a + 1) ≠ a ∧ ((tix a t : Nat) : Int) < b * (a + 1) - 1 := by
  obtain ⟨x1, x2, x3⟩ := idx_t (w := a) (h := b) (t := (t : Int)) (by omega) (by omega) ht
  have m1 := mul_b (a := (t : Int) / a) (b := a + 1) (A := b - 1) (B := a + 1) (by omega) (by omega) (by omega) (by omega)
  have m3 : b * (a + 1) = (b - 1) * (a + 1) + (a + 1) := by rw [Int.sub_mul, Int.one_mul]; omega
  have e : ((tix a t : Nat) : Int) = (t : Int) / a * (a + 1) + (t : Int) % a := by unfold tix; omega
  rw [e]
  refine ⟨?_, by omega⟩
  rw [Int.mul_comm, idx_x (by omega) (by omega)]
  omega
theorem ft_cg {a b n : Int} {T T' : Nat → Int} (h : ∀ k : Nat, (k : Int) < n → T k = T' k) (hn : 0 ≤ n) : ftF a b T n = ftF a b T' n := by
  have e : ffF (badT a b T) n.toNat = ffF (badT a b T') n.toNat := ff_cg _ (fun k hk => by unfold badT; rw [h k (by omega)])
  unfold ftF
  rw [e]
section P4
variable {l : Launch} {D : va_G} {cy : Nat → ClassId} {ad : Nat → Nat}
theorem ok_X8_reset (hA : jA ad 46) : OK_X8_reset l D cy ad := met_X8_reset hA (ok_X3_tiles hA) (ok_X8_beginAnew hA) (ok_X8_isSize hA) (by
  rintro p a b M0 ⟨hp, h0, σ0, h⟩ hM ra rb
  subst h0
  refine ⟨trivial, ?_⟩
  rintro x2 M1 - - ⟨hc2, rfl⟩
  have hx2 := if_x hc2
  have bad : ¬ szO a b → c_X8_reset 0 a b M1 (-2) M1 := fun q σ hσ => ⟨by unfold F_reset; rw [if_neg q], by unfold G_reset; rw [if_neg q]; exact hσ⟩
  refine ⟨fun z => ⟨trivial, bad (fun q => hx2.mp z q.1)⟩, fun z => ⟨trivial, ?_⟩⟩
  rintro x4 M3 - - ⟨hc4, rfl⟩
  have hx4 := if_x hc4
  refine ⟨fun z4 => ?_, fun z4 => ⟨trivial, bad (fun q => hx4.mp (Classical.byContradiction z4) q.2)⟩⟩
  have ha := Classical.byContradiction (fun y => z (hx2.mpr y))
  have hb := Classical.byContradiction (fun y => z4 (hx4.mpr y))
  refine ⟨⟨hp, rfl, ha, hb, abs_pt h⟩, ?_⟩
  rintro x6 M5 - - hc6
  have hs5 : surf M5 := hc6.2.1
  refine ⟨hp, ⟨rfl, rfl, hs5.1.1, hs5.1.2.1⟩, ?_⟩
  rintro x8 M7 - - ⟨rfl, rfl⟩
  refine ⟨trivial, fun σ hσ => ⟨?_, beg_x ⟨ha, hb⟩ (abs_pt hσ) hσ.1.1.2.2.2.1 hσ.1.1.2.2.2.2.1 hσ.1.2.2.2.2.1 hc6⟩⟩
  have g0 : M7 1 4 = a := hc6.2.2.1.1
  have g1 : M7 1 5 = b := hc6.2.2.1.2.1
  unfold F_reset
  rw [if_pos ⟨ha, hb⟩, g0, g1])
theorem ok_X8_setSeam (hA : jA ad 46) : OK_X8_setSeam l D cy ad := met_X8_setSeam hA (ok_X3_changeSeam hA) (ok_X3_columns hA) (ok_X3_rows hA) (ok_X8_repairParts hA) (by
  rintro p e k s M0 ⟨hp, h0, σ0, h⟩ hM re rk rs
  subst h0
  obtain ⟨hS, hw⟩ := abs_sw h
  have len : ∀ σ, absX M0 σ → σ 0 0 = M0 1 4 ∧ σ 0 1 = M0 1 5 := fun σ hσ => ⟨(congrFun hσ.1.2.1.1 0).symm, (congrFun hσ.1.2.1.1 1).symm⟩
  have bad : (∀ σ, absX M0 σ → ¬ smO σ e k s) → c_X8_setSeam 0 e k s M0 (-2) M0 := fun q σ hσ => ⟨by unfold F_setSeam; rw [if_neg (q σ hσ)], by unfold G_setSeam; rw [if_neg (q σ hσ)]; exact hσ⟩
  have rest : (∀ σ, absX M0 σ → smO σ e k s) → ∀ (x4 : Int) (M3 : Mem), c_X3_changeSeam 1 e k s M0 x4 M3 → (¬ x4 = 0 → p_X8_repairParts 0 M3 ∧ ∀ (x6 : Int) (M5 : Mem), inR x6 → okM M5 → c_X8_repairParts 0 M3 x6 M5 → True ∧ c_X8_setSeam 0 e k s M0 1 M5) ∧ (¬ ¬ x4 = 0 → True ∧ c_X8_setSeam 0 e k s M0 0 M3) := fun q x4 M3 hc => by
    refine ⟨fun z => ?_, fun z => ⟨trivial, fun σ hσ => ?_⟩⟩
    · obtain ⟨a1, a2, a3, a4⟩ := seam_x h (q σ0 h) hc
      refine ⟨⟨hp, rfl, absB_s a1, by rw [a4]; exact abs_pt h⟩, ?_⟩
      rintro x6 M5 - - hc6
      refine ⟨trivial, fun σ hσ => ?_⟩
      obtain ⟨b1, b2, b3, b4⟩ := seam_x hσ (q σ hσ) hc
      refine ⟨?_, (rep_x b1 hc6).1⟩
      unfold F_setSeam
      rw [if_pos (q σ hσ), if_neg (fun y => z (b2.mpr y))]
    · obtain ⟨b1, b2, b3, b4⟩ := seam_x hσ (q σ hσ) hc
      have z' := Classical.byContradiction z
      refine ⟨?_, b3 z'⟩
      unfold F_setSeam
      rw [if_pos (q σ hσ), if_pos (b2.mp z')]
  refine ⟨fun z => ⟨hp, ⟨rfl, rfl⟩, ?_⟩, fun z => ⟨hp, ⟨rfl, rfl⟩, ?_⟩⟩
  · rintro x2 M1 - - ⟨rfl, rfl⟩
    refine ⟨fun z2 => ⟨trivial, bad (fun σ hσ q => by omega)⟩, fun z2 => ⟨fun z3 => ⟨trivial, bad (fun σ hσ q => by omega)⟩, fun z3 => ⟨fun z4 => ⟨trivial, bad (fun σ hσ q => by omega)⟩, fun z4 => ⟨fun z5 => ⟨hp, ⟨rfl, rfl, hS.1, hS.2, by omega, by omega, by rw [if_pos z]; exact z5⟩, fun x4 M3 _ _ hc => rest (fun σ hσ => ⟨by omega, by omega, by rw [if_pos z, (len σ hσ).2]; exact z5⟩) x4 M3 hc⟩, fun z5 => ⟨trivial, bad (fun σ hσ q => z5 (by have := q.2.2; rw [if_pos z, (len σ hσ).2] at this; exact this))⟩⟩⟩⟩⟩
  · rintro x2 M1 - - ⟨rfl, rfl⟩
    refine ⟨fun z2 => ⟨trivial, bad (fun σ hσ q => by omega)⟩, fun z2 => ⟨fun z3 => ⟨trivial, bad (fun σ hσ q => by omega)⟩, fun z3 => ⟨fun z4 => ⟨trivial, bad (fun σ hσ q => by omega)⟩, fun z4 => ⟨fun z5 => ⟨hp, ⟨rfl, rfl, hS.1, hS.2, by omega, by omega, by rw [if_neg z]; exact z5⟩, fun x4 M3 _ _ hc => rest (fun σ hσ => ⟨by omega, by omega, by rw [if_neg z, (len σ hσ).1]; exact z5⟩) x4 M3 hc⟩, fun z5 => ⟨trivial, bad (fun σ hσ q => z5 (by have := q.2.2; rw [if_neg z, (len σ hσ).1] at this; exact this))⟩⟩⟩⟩⟩)
theorem ok_X8_readTiles (hA : jA ad 46) : OK_X8_readTiles l D cy ad := met_X8_readTiles hA (ok_X0_record hA) (ok_X3_columns hA) (ok_X3_rows hA) (ok_X4_faultAsTiles hA) (ok_X8_repairParts hA) (ok_X8_takeKindsFromText hA) (by
  rintro p M0 ⟨hp, h0, σ0, h⟩ hM
  subst h0
  obtain ⟨hS, hw⟩ := abs_sw h
  obtain ⟨nE, n9, n144⟩ := nT_b hS.1
  have h12 := h.1.2.2.2.2.1
  have hlen := h.1.1.2.2.2.1
  have g0 : 3 ≤ M0 1 4 ∧ M0 1 4 ≤ 12 := hS.1.1
  have g1 : 3 ≤ M0 1 5 ∧ M0 1 5 ≤ 12 := hS.1.2.1
  refine ⟨hp, hp, ⟨rfl, rfl⟩, ?_⟩
  rintro x2 M1 - - ⟨rfl, rfl⟩
  refine ⟨hp, ⟨rfl, rfl⟩, ?_⟩
  rintro x4 M3 - - ⟨rfl, rfl⟩
  refine ⟨⟨rfl, rfl, by omega, g0, g1⟩, ?_⟩
  rintro x6 M5 - - ⟨hx6, rfl⟩
  have ef : ∀ σ, absX M5 σ → x6 = ftS σ := fun σ hσ => by
    have e12 := hσ.1.2.2.2.2.1
    have e0 : M5 1 4 = σ 0 0 := congrFun hσ.1.2.1.1 0
    have e1 : M5 1 5 = σ 0 1 := congrFun hσ.1.2.1.1 1
    rw [hx6, e12.1, e0, e1]
    exact ft_cg e12.2 hσ.1.1.2.2.2.1.1
  refine ⟨fun z => ?_, fun z => ⟨?_, trivial, fun σ hσ => ⟨?_, ?_⟩⟩⟩
  · have fit := ft_ok (a := M5 1 4) (b := M5 1 5) (T := M5 13) (n := M5 12 1) (by omega) (by rw [← hx6]; exact z)
    refine ⟨hp, hp, ⟨rfl, rfl, rfl, _, _, h.1.2.2.2.2.2.1⟩, ?_⟩
    rintro x8 M7 - - hc8
    obtain ⟨hS7, eg7⟩ := surf_congr (M' := M7) hS (fun b q1 q2 => hc8.2 b (by omega) (by omega))
    have e13 : M7 13 = M5 13 := hc8.2 13 (by decide) (by decide)
    have e6 : M7 6 = M5 6 := hc8.2 6 (by decide) (by decide)
    refine ⟨⟨hp, rfl, hS7, fun j hj => ?_⟩, ?_⟩
    · rw [eg7] at hj
      rw [e13]
      have := fit j hj
      split at this <;> omega
    rintro x10 M9 - - ⟨t1, t2, t3⟩
    have tv : ∀ t : Nat, t < nT (gX M5) → 48 ≤ M5 13 (tix (M5 1 4) t) ∧ M5 13 (tix (M5 1 4) t) ≤ 53 ∧ ((tix (M5 1 4) t : Nat) : Int) < M5 12 1 := fun t ht => by
      have nE' : ((nT (gX M5) : Nat) : Int) = M5 1 4 * M5 1 5 := nE
      obtain ⟨m1, m2⟩ := tix_m (a := M5 1 4) (b := M5 1 5) (t := t) g0.1 g1.1 (by omega)
      have := fit _ m2
      rw [if_neg m1] at this
      have hlt : ¬ M5 12 1 < M5 1 5 * (M5 1 4 + 1) - 1 := fun y => by
        have hx := z
        rw [hx6] at hx
        unfold ftF at hx
        by_cases q : ffF (badT (M5 1 4) (M5 1 5) (M5 13)) (M5 12 1).toNat = -1
        · rw [if_pos q, if_pos y] at hx; omega
        · rw [if_neg q] at hx; exact q hx
      omega
    have er : ∀ σ, absX M5 σ → ∀ t : Nat, t < nT (gX M5) → M5 13 (tix (M5 1 4) t) = σ 3 (tix (σ 0 0) t) := fun σ hσ t ht => by
      have e12 := hσ.1.2.2.2.2.1
      have e0 : M5 1 4 = σ 0 0 := congrFun hσ.1.2.1.1 0
      have := tv t ht
      rw [← e0]
      exact e12.2 _ (by omega)
    have eg0 : gX M7 0 = M5 1 4 := by rw [eg7]; rfl
    have hB : ∀ σ, absX M5 σ → absB M9 (upA (kpS σ) 1 (tkK σ)) := fun σ hσ => ed_B hσ hc8 t3 (fun j hj => by
        rw [t1 j, eg7, e13, e6]
        unfold tkK
        rw [← hσ.1.2.1.1]
        by_cases q : j < nT (gX M5)
        · rw [if_pos q, if_pos q, ← er σ hσ j q]; rfl
        · rw [if_neg q, if_neg q]; exact hσ.1.2.2.1 j hj) (fun j hj => by
        unfold tkK
        rw [← hσ.1.2.1.1]
        by_cases q : j < nT (gX M5)
        · have := tv j q
          rw [if_pos q, ← er σ hσ j q]; omega
        · rw [if_neg q]; exact hσ.1.1.2.1 j hj)
    have e90 : M9 0 = M5 0 := by rw [t3 0 (by decide), hc8.2 0 (by decide) (by decide)]
    refine ⟨⟨hp, rfl, absB_s (hB σ0 h), by rw [e90]; exact abs_pt h⟩, ?_⟩
    rintro x12 M11 - - hc12
    refine ⟨trivial, fun σ hσ => ?_⟩
    unfold F_readTiles G_readTiles
    rw [if_pos (by rw [← ef σ hσ]; exact z), if_pos (by rw [← ef σ hσ]; exact z)]
    refine ⟨?_, (rep_x (hB σ hσ) hc12).1⟩
    rw [t2, eg7, e13, e6, ← hσ.1.2.1.1]
    refine sumF_congr (fun t ht => ?_)
    have := er σ hσ t ht
    rw [← this, ← hσ.1.2.2.1 t (by omega)]
    rfl
  · have := ff_b (bad := badT (M5 1 4) (M5 1 5) (M5 13)) (M5 12 1).toNat
    have hb : -1 ≤ x6 ∧ x6 ≤ 160 := by
      rw [hx6]
      unfold ftF
      split <;> (try split) <;> omega
    omega
  · unfold F_readTiles
    rw [if_neg (by rw [← ef σ hσ]; exact z), ef σ hσ]
  · unfold G_readTiles
    rw [if_neg (by rw [← ef σ hσ]; exact z)]
    exact hσ)
end P4
