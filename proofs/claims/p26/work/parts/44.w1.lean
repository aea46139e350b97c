section W1
variable {l : Launch} {D : va_G} {cy : Nat → ClassId} {ad : Nat → Nat}
theorem ok_X7_levelWeights (hA : jA ad 46) : OK_X7_levelWeights l D cy ad := met_X7_levelWeights hA
  (fun p M0 k M μ => (∀ j : Nat, (j : Int) < k → M 8 j = 1) ∧ (∀ b, b ≠ 8 → M b = M0 b) ∧ (0 ≤ k ∧ k ≤ 6) ∧ μ = (6 - k).toNat)
  (by
    rintro p M0 ⟨hp, h7⟩ hM
    exact ⟨_, rfl, fun j hj => by omega, fun _ _ => rfl, by omega, rfl⟩)
  (by
    rintro p M0 ⟨hp, h7⟩ hM k M n ⟨hI, hf, hk, hn⟩ -
    subst h7
    refine ⟨fun h => ⟨rfl, fun j hj => hI j (by omega), hf⟩, fun h => ⟨hp, rfl, by omega, by omega, (6 - (k + 1)).toNat, by omega, rfl, fun j hj => ?_, fun b q => by rw [up_n q]; exact hf b q, by omega, rfl⟩⟩
    by_cases q : j = k.toNat
    · subst q; rw [up_sk]
    · rw [up_nk (Or.inr q)]; exact hI j (by omega))
theorem ok_X7_changeWeight (hA : jA ad 46) : OK_X7_changeWeight l D cy ad := met_X7_changeWeight hA (by
  rintro p k w M0 ⟨hp, h7, hk⟩ hM rk rw_
  subst h7
  exact ⟨hp, rfl, by omega, hp, rfl, by omega, trivial, rfl, rfl⟩)
theorem ok_X7_lengthTo (hA : jA ad 46) : OK_X7_lengthTo l D cy ad := met_X7_lengthTo hA (by
  rintro p t M0 ⟨hp, h7, ht⟩ hM rt
  subst h7
  exact ⟨hp, rfl, by omega, trivial, rfl, rfl⟩)
theorem ok_X7_stepLength (hA : jA ad 46) : OK_X7_stepLength l D cy ad := met_X7_stepLength hA (ok_X3_next hA) (by
  rintro p t d M0 ⟨hp, h7, hS, ⟨w1, w2⟩, ht, hd⟩ hM rt rd
  subst h7
  obtain ⟨nE, n9, n144⟩ := nT_b hS.1
  refine ⟨hp, ⟨rfl, rfl, by omega, hd⟩, ?_⟩
  rintro x2 M1 - - ⟨rfl, rfl⟩
  rw [(hS.2 t d ht.1 (by omega) hd.1 hd.2).1]
  have k1 := w1 t.toNat (by omega)
  refine ⟨fun h => ?_, fun h => ⟨trivial, ?_, rfl⟩⟩
  · have hu := (nx_b hS.1 (d := d) ht.1 (by omega)).resolve_left (by omega)
    have k2 := w1 (nx (gX M1) t d).toNat (by omega)
    have v1 := w2 (M1 6 t.toNat).toNat (by omega)
    have v2 := w2 (M1 6 (nx (gX M1) t d).toNat).toNat (by omega)
    have e0 : stl (gX M1) (M1 6) (M1 8) t d = if M1 8 (M1 6 t.toNat).toNat = 0 ∨ M1 8 (M1 6 (nx (gX M1) t d).toNat).toNat = 0 then 0 else M1 8 (M1 6 t.toNat).toNat + M1 8 (M1 6 (nx (gX M1) t d).toNat).toNat := by
      unfold stl
      rw [if_neg (by omega)]
    refine ⟨hp, hp, rfl, by omega, rfl, by omega, hp, hp, rfl, by omega, rfl, by omega, fun h2 => ⟨trivial, ?_, rfl⟩, fun h2 => ⟨fun h3 => ⟨by omega, trivial, ?_, rfl⟩, fun h3 => ⟨trivial, ?_, rfl⟩⟩⟩
    · rw [e0, if_pos (Or.inl h2)]
    · rw [e0, if_neg (fun z => z.elim h2 h3)]
    · rw [e0, if_pos (Or.inr (Classical.byContradiction h3))]
  · unfold stl
    rw [if_pos (by omega)])
theorem ok_X7_reach (hA : jA ad 46) : OK_X7_reach l D cy ad := met_X7_reach hA (ok_X5_add hA) (by
  rintro p t v M0 ⟨hp, h7, ht, hq⟩ hM rt rv
  subst h7
  refine ⟨hp, rfl, by omega, fun h => ⟨hp, rfl, by omega, fun h2 => ⟨rfl, ?_⟩, fun h2 => ⟨hp, rfl, by omega, rfl, ?_⟩⟩, fun h => ⟨hp, rfl, by omega, hp, ⟨rfl, ?_⟩, ?_⟩⟩
  · unfold c_X7_reach
    rw [if_neg h, if_neg (by omega)]
  · unfold c_X7_reach
    rw [if_neg h, if_pos (by omega)]
  · rw [up_n (by decide)]
    exact hq (Classical.byContradiction h)
  · rintro x2 M1 - - rfl
    refine ⟨rfl, ?_⟩
    unfold c_X7_reach
    rw [if_pos (Classical.byContradiction h), up_n (by decide)])
theorem ok_X7_takeNearestOpen (hA : jA ad 46) : OK_X7_takeNearestOpen l D cy ad := met_X7_takeNearestOpen hA (ok_X5_at hA) (ok_X5_number hA) (ok_X5_takeOut hA)
  (fun p M0 b j M μ => M = M0 ∧ (0 ≤ b ∧ b < M0 10 1) ∧ (0 ≤ j ∧ j ≤ M0 10 1) ∧ (∀ i : Nat, (i : Int) < j → M0 9 (M0 11 b.toNat).toNat ≤ M0 9 (M0 11 i).toNat) ∧ μ = (500 - j).toNat)
  (by
    rintro p M0 ⟨hp, h7, hn, hq⟩ hM
    refine ⟨_, rfl, rfl, by omega, by omega, fun i hi => ?_, rfl⟩
    rw [show i = 0 by omega]
    exact Int.le_refl _)
  (by
    rintro p M0 ⟨hp, h7, hn, hq⟩ hM b j M n ⟨rfl, hb, hj, hI, hμ⟩ -
    subst h7
    refine ⟨hp, rfl, ?_⟩
    rintro x2 M1 - - ⟨rfl, rfl⟩
    refine ⟨fun h => ⟨hp, ⟨rfl, hb, by omega⟩, ?_⟩, fun h => ⟨hp, hp, ⟨rfl, by omega⟩, ?_⟩⟩
    · rintro x4 M3 - - ⟨rfl, rfl⟩
      exact ⟨trivial, b.toNat, by omega, rfl, fun i hi => hI i (by omega), rfl⟩
    · rintro x6 M5 - - ⟨rfl, rfl⟩
      have q1 := hq j.toNat (by omega)
      have q2 := hq b.toNat (by omega)
      refine ⟨rfl, q1, hp, hp, ⟨rfl, by omega⟩, ?_⟩
      rintro x8 M7 - - ⟨rfl, rfl⟩
      refine ⟨rfl, q2, fun h2 => ⟨by omega, (500 - (j + 1)).toNat, by omega, rfl, rfl, hb, by omega, fun i hi => ?_, rfl⟩, fun h2 => ⟨by omega, (500 - (j + 1)).toNat, by omega, rfl, rfl, by omega, by omega, fun i hi => ?_, rfl⟩⟩
      · by_cases q : i = j.toNat
        · subst q; exact h2
        · exact hI i (by omega)
      · by_cases q : i = j.toNat
        · subst q; exact Int.le_refl _
        · have h3 : ¬ M7 9 (M7 11 b.toNat).toNat ≤ M7 9 (M7 11 j.toNat).toNat := h2
          have := hI i (by omega); omega)
theorem cntR_le {L : Nat → Int} {n : Nat} : sumF (fun t => if 0 ≤ L t then 1 else 0) n ≤ n := (sumF_b (fun j _ => if01 _)).2
/-- the list when a new tile is reached, and when a distance grows less -/
theorem OL_new {M : Mem} {g : Nat → Int} {Sd : Nat → Prop} {k v : Int} {u : Nat} (h : OLp M g Sd k) (hu : u < nT g) (h4 : M 9 u = -4) (hv : 0 ≤ v) (hs : ¬ Sd u) :
    OLp (up (up (up M 9 u v) 11 (M 10 1).toNat u) 10 1 (M 10 1 + 1)) g Sd k := by
  obtain ⟨h0, h1, h2, h3, h5⟩ := h
  have e9 : up (up (up M 9 u v) 11 (M 10 1).toNat u) 10 1 (M 10 1 + 1) 9 = upR (M 9) u v := by rw [up_n (by decide), up_n (by decide), up_s]
  have e11 : up (up (up M 9 u v) 11 (M 10 1).toNat u) 10 1 (M 10 1 + 1) 11 = upR (M 11) (M 10 1).toNat u := by rw [up_n (by decide), up_s, up_n (by decide)]
  have e10 : up (up (up M 9 u v) 11 (M 10 1).toNat u) 10 1 (M 10 1 + 1) 10 1 = M 10 1 + 1 := up_sk
  have old : ∀ j : Nat, (j : Int) < M 10 1 → (M 11 j).toNat ≠ u := fun j hj z => by
    have := (h1 j hj).2.1
    rw [z, h4] at this
    omega
  unfold OLp
  rw [e9, e11, e10]
  refine ⟨by omega, fun j hj => ?_, fun i j hi hj hij => ?_, fun t tl t0 ts => ?_, ?_⟩
  · by_cases q : j = (M 10 1).toNat
    · subst q
      rw [upR_s, Int.toNat_natCast, upR_s]
      exact ⟨by omega, hv, hs⟩
    · rw [upR_n q, upR_n (old j (by omega))]
      exact h1 j (by omega)
  · by_cases q : i = (M 10 1).toNat <;> by_cases q2 : j = (M 10 1).toNat
    · omega
    · rw [q, upR_s, upR_n q2] at hij
      exact absurd (by rw [← hij, Int.toNat_natCast]) (old j (by omega))
    · rw [q2, upR_s, upR_n q] at hij
      exact absurd (by rw [hij, Int.toNat_natCast]) (old i (by omega))
    · rw [upR_n q, upR_n q2] at hij
      exact h2 i j (by omega) (by omega) hij
  · by_cases q : t = u
    · exact ⟨(M 10 1).toNat, by omega, by rw [upR_s, q]⟩
    · rw [upR_n q] at t0
      obtain ⟨j, j1, j2⟩ := h3 t tl t0 ts
      exact ⟨j, by omega, by rw [upR_n (by omega)]; exact j2⟩
  · have e := sumF_upd (f := fun t => if 0 ≤ upR (M 9) u v t then (1 : Int) else 0) (h := fun t => if 0 ≤ M 9 t then (1 : Int) else 0) hu (fun j _ hj => by rw [upR_n hj])
    rw [upR_s, if_pos hv, h4, if_neg (by decide)] at e
    omega
theorem OL_less {M : Mem} {g : Nat → Int} {Sd : Nat → Prop} {k v : Int} {u : Nat} (h : OLp M g Sd k) (hu : 0 ≤ M 9 u) (hv : 0 ≤ v) : OLp (up M 9 u v) g Sd k := by
  obtain ⟨h0, h1, h2, h3, h5⟩ := h
  have e9 : up M 9 u v 9 = upR (M 9) u v := up_s
  have sg : ∀ t, (0 ≤ upR (M 9) u v t ↔ 0 ≤ M 9 t) := fun t => by
    by_cases q : t = u
    · rw [q, upR_s]; exact ⟨fun _ => hu, fun _ => hv⟩
    · rw [upR_n q]
  unfold OLp
  rw [e9, up_n (by decide), up_n (by decide)]
  refine ⟨h0, fun j hj => ?_, h2, fun t tl t0 ts => h3 t tl ((sg t).mp t0) ts, ?_⟩
  · obtain ⟨a, b, c⟩ := h1 j hj
    exact ⟨a, (sg _).mpr b, c⟩
  · rw [h5]
    refine sumF_congr fun j _ => ?_
    by_cases q : 0 ≤ M 9 j
    · rw [if_pos q, if_pos ((sg j).mpr q)]
    · rw [if_neg q, if_neg (fun z => q ((sg j).mp z))]
theorem ok_X7_spread (hA : jA ad 46) : OK_X7_spread l D cy ad := met_X7_spread hA (ok_X3_next hA) (ok_X7_reach hA) (ok_X7_stepLength hA)
  (fun p t M0 d M μ => (∀ s Sd k B, preW t M0 s Sd k B → DI (gX M0) (M0 6) (M0 8) s (M 9) Sd t d B ∧ OLp M (gX M0) Sd k) ∧ M 9 t.toNat = M0 9 t.toNat ∧ (∀ b, b ≠ 9 → b ≠ 10 → b ≠ 11 → M b = M0 b) ∧ (0 ≤ d ∧ d ≤ 4) ∧ μ = (4 - d).toNat)
  (by
    rintro p t M0 ⟨hp, h7, hS, hw, hx⟩ hM rt
    exact ⟨_, rfl, rfl, fun s Sd k B h => ⟨h.2.1, h.2.2.1⟩, rfl, fun _ _ _ _ => rfl, by omega, rfl⟩)
  (by
    rintro p t M0 ⟨hp, h7, hS, hw, s0, Sd0, k0, B0, h0⟩ hM rt d M n ⟨hI, ht9, hf, hd, hn⟩ -
    subst h7
    obtain ⟨nE, n9, n144⟩ := nT_b hS.1
    have ht := h0.1
    obtain ⟨hS1, eg⟩ := surf_congr (M' := M) hS (fun b q1 q2 => hf b (by omega) (by omega) (by omega))
    have e6 : M 6 = M0 6 := hf 6 (by decide) (by decide) (by decide)
    have e8 : M 8 = M0 8 := hf 8 (by decide) (by decide) (by decide)
    have hw1 : wok M := by unfold wok; rw [e6, e8]; exact hw
    refine ⟨fun h => ⟨rfl, fun s Sd k B hb => ?_⟩, fun h => ⟨⟨hp, rfl, hS1, hw1, by rw [eg]; exact ht, by omega⟩, ?_⟩⟩
    · obtain ⟨a, b⟩ := hI s Sd k B hb
      rw [show d = 4 by omega] at a
      exact ⟨a, b, hf⟩
    · rintro x2 M1 - - ⟨rfl, rfl⟩
      rw [eg, e6, e8]
      obtain ⟨s1, s2, s3⟩ := stl_b hw.1 hw.2 hS.1 (t := t) (d := d) ht.1 ht.2
      -- the function's step, for any reading
      have rel : ∀ s Sd k B, preW t M0 s Sd k B → _ := fun s Sd k B hb => DI_relax (d := d) hw.1 hw.2 hS.1 ht.1 ⟨hd.1, by omega⟩ (by rw [ht9]; exact hb.2.2.2.1) (hI s Sd k B hb).1
      refine ⟨fun h2 => ⟨by omega, (4 - (d + 1)).toNat, by omega, rfl, rfl, fun s Sd k B hb => ⟨(rel s Sd k B hb).1 (fun z => by omega), (hI s Sd k B hb).2⟩, ht9, hf, by omega, rfl⟩, fun h2 => ⟨hp, ⟨rfl, rfl, by omega, by omega⟩, ?_⟩⟩
      rintro x4 M3 - - ⟨rfl, rfl⟩
      have hT := (hS1.2 t d ht.1 (by rw [eg]; omega) hd.1 (by omega)).1
      rw [eg] at hT
      rw [hT]
      have hu := s3 (by omega)
      have hDI0 := (hI s0 Sd0 k0 B0 h0).1
      have hOL0 := (hI s0 Sd0 k0 B0 h0).2
      have hcL := (hDI0.2.2.1 t.toNat (by omega) (hDI0.2.2.2.1 ht.1).2).1
      have hB0 := h0.2.2.2
      refine ⟨hp, rfl, by omega, by rw [ht9]; omega, ⟨hp, rfl, by omega, fun z => ⟨hOL0.1, ?_⟩⟩, ?_⟩
      · have e5 := hOL0.2.2.2.2
        have := sumF_lt (f := fun t => if 0 ≤ M3 9 t then (1 : Int) else 0) (n := nT (gX M0)) (k := (nx (gX M0) t d).toNat) (fun j _ => if01 _) (by omega) (by rw [z, if_neg (by decide)])
        omega
      · rintro x6 M5 - - rfl
        have hune : t.toNat ≠ (nx (gX M0) t d).toNat → True := fun _ => trivial
        by_cases z : M3 9 (nx (gX M0) t d).toNat = -4
        · rw [if_pos z]
          have hne : t.toNat ≠ (nx (gX M0) t d).toNat := fun y => by rw [← y] at z; omega
          refine ⟨by omega, (4 - (d + 1)).toNat, by omega, rfl, rfl, fun s Sd k B hb => ?_, ?_, fun b b1 b2 b3 => by rw [up_n b2, up_n b3, up_n b1]; exact hf b b1 b2 b3, by omega, rfl⟩
          · obtain ⟨r1, r2⟩ := (rel s Sd k B hb).2 ⟨by omega, Or.inl z⟩
            refine ⟨?_, ?_⟩
            · rw [up_n (by decide), up_n (by decide), up_s]; exact r2
            · have := OL_new (u := (nx (gX M0) t d).toNat) (hI s Sd k B hb).2 (by omega) z (v := M3 9 t.toNat + stl (gX M0) (M0 6) (M0 8) t d) (by omega) r1
              rwa [show (((nx (gX M0) t d).toNat : Nat) : Int) = nx (gX M0) t d by omega] at this
          · rw [up_n (by decide), up_n (by decide), up_s, upR_n hne]; exact ht9
        · rw [if_neg z]
          by_cases z2 : M3 9 t.toNat + stl (gX M0) (M0 6) (M0 8) t d < M3 9 (nx (gX M0) t d).toNat
          · rw [if_pos z2]
            have hne : t.toNat ≠ (nx (gX M0) t d).toNat := fun y => by rw [← y] at z2; omega
            refine ⟨by omega, (4 - (d + 1)).toNat, by omega, rfl, rfl, fun s Sd k B hb => ?_, ?_, fun b b1 b2 b3 => by rw [up_n b1]; exact hf b b1 b2 b3, by omega, rfl⟩
            · obtain ⟨r1, r2⟩ := (rel s Sd k B hb).2 ⟨by omega, Or.inr z2⟩
              exact ⟨by rw [up_s]; exact r2, OL_less (hI s Sd k B hb).2 (by omega) (by omega)⟩
            · rw [up_s, upR_n hne]; exact ht9
          · rw [if_neg z2]
            exact ⟨by omega, (4 - (d + 1)).toNat, by omega, rfl, rfl, fun s Sd k B hb => ⟨(rel s Sd k B hb).1 (fun y => by rcases y.2 with y2 | y2; exact z y2; exact z2 y2), (hI s Sd k B hb).2⟩, ht9, hf, by omega, rfl⟩)
end W1
