/-! ===== the class's distances: measured ===== -/
theorem OL_take {M : Mem} {g : Nat → Int} {Sd : Nat → Prop} {k : Int} {i : Nat} (h : OLp M g Sd k) (hi : (i : Int) < M 10 1) : OLp (up (up M 10 1 (M 10 1 - 1)) 11 i (M 11 (M 10 1 - 1).toNat)) g (fun t => Sd t ∨ t = (M 11 i).toNat) (k + 1) := by
  obtain ⟨h0, h1, h2, h3, h5⟩ := h
  have e9 : up (up M 10 1 (M 10 1 - 1)) 11 i (M 11 (M 10 1 - 1).toNat) 9 = M 9 := by rw [up_n (by decide), up_n (by decide)]
  have e11 : up (up M 10 1 (M 10 1 - 1)) 11 i (M 11 (M 10 1 - 1).toNat) 11 = upR (M 11) i (M 11 (M 10 1 - 1).toNat) := by rw [up_s, up_n (by decide)]
  have e10 : up (up M 10 1 (M 10 1 - 1)) 11 i (M 11 (M 10 1 - 1).toNat) 10 1 = M 10 1 - 1 := by rw [up_n (by decide), up_sk]
  have hl : ((M 10 1 - 1).toNat : Int) < M 10 1 := by omega
  have hlast := h1 (M 10 1 - 1).toNat hl
  have hii := h1 i hi
  have ne : ∀ j : Nat, (j : Int) < M 10 1 → j ≠ i → (M 11 j).toNat ≠ (M 11 i).toNat := fun j hj q z => by
    have := (h1 j hj).1
    exact q (h2 j i hj hi (by omega))
  unfold OLp
  rw [e9, e11, e10]
  refine ⟨by omega, fun j hj => ?_, fun a b ha hb hab => ?_, fun t tl t0 ts => ?_, by omega⟩
  · by_cases q : j = i
    · rw [q, upR_s]
      exact ⟨hlast.1, hlast.2.1, fun z => z.elim hlast.2.2 (ne _ hl (by omega))⟩
    · rw [upR_n q]
      have := h1 j (by omega)
      exact ⟨this.1, this.2.1, fun z => z.elim this.2.2 (ne _ (by omega) q)⟩
  · by_cases q : a = i <;> by_cases q2 : b = i
    · omega
    · rw [q, upR_s, upR_n q2] at hab
      have := h2 _ b hl (by omega) hab
      omega
    · rw [q2, upR_s, upR_n q] at hab
      have := h2 a _ (by omega) hl hab
      omega
    · rw [upR_n q, upR_n q2] at hab
      exact h2 a b (by omega) (by omega) hab
  · obtain ⟨j, j1, j2⟩ := h3 t tl t0 (fun z => ts (Or.inl z))
    have ji : j ≠ i := fun z => ts (Or.inr (by rw [← z, j2]; omega))
    by_cases q : j = (M 10 1 - 1).toNat
    · exact ⟨i, by omega, by rw [upR_s, ← q]; exact j2⟩
    · exact ⟨j, by omega, by rw [upR_n ji]; exact j2⟩
theorem onw_b {g κ wt L : Nat → Int} (hκ : ∀ t : Nat, t < 144 → 0 ≤ κ t ∧ κ t ≤ 5) (hw : ∀ k : Nat, k < 6 → 0 ≤ wt k ∧ wt k ≤ 9) (G : gOK g) {t : Int} (h0 : 0 ≤ t) (h1 : t < nT g) : ∀ n, 0 ≤ onw g κ wt L t n ∧ onw g κ wt L t n < nT g := by
  intro n
  induction n with
  | zero => exact ⟨h0, h1⟩
  | succ n ih =>
    unfold onw
    obtain ⟨s1, s2, s3⟩ := stl_b hκ hw G (t := t) (d := 3 - (n : Int)) h0 h1
    split
    next q => exact s3 q.1
    next => exact ih
section W2
variable {l : Launch} {D : va_G} {cy : Nat → ClassId} {ad : Nat → Nat}
theorem ok_X7_measureFrom (hA : jA ad 46) : OK_X7_measureFrom l D cy ad := met_X7_measureFrom hA (ok_X3_tiles hA) (ok_X5_clear hA) (ok_X5_number hA) (ok_X7_reach hA) (ok_X7_spread hA) (ok_X7_takeNearestOpen hA)
  (fun p s M0 j M μ => (∀ t : Nat, (t : Int) < j → M 9 t = -4) ∧ (∀ b, b ≠ 9 → M b = M0 b) ∧ (0 ≤ j ∧ j ≤ nT (gX M0)) ∧ μ = (1500 - j).toNat)
  (fun p s M0 k M μ => (∃ Sd c, DI (gX M0) (M0 6) (M0 8) s.toNat (M 9) Sd c 4 (18 * k) ∧ OLp M (gX M0) Sd k) ∧ (∀ b, b ≠ 9 → b ≠ 10 → b ≠ 11 → M b = M0 b) ∧ (0 ≤ k ∧ k ≤ 144) ∧ μ = (500 - k).toNat)
  (by
    rintro p s M0 ⟨hp, h7, hS, hw, hs⟩ hM rs
    exact ⟨_, rfl, rfl, fun t ht => by omega, fun _ _ => rfl, by omega, rfl⟩)
  (by
    rintro p s M0 ⟨hp, h7, hS, hw, hs⟩ hM rs j M n ⟨hI, hf, hj, hμ⟩ -
    subst h7
    obtain ⟨nE, n9, n144⟩ := nT_b hS.1
    obtain ⟨hS1, eg⟩ := surf_congr (M' := M) hS (fun b q1 q2 => hf b (by omega))
    refine ⟨hp, ⟨rfl, rfl, ?_⟩, ?_⟩
    · exact ⟨by have := hS1.1; exact this.1, hS1.1.2.1⟩
    rintro x2 M1 - - ⟨rfl, rfl⟩
    have hn : M1 1 4 * M1 1 5 = nT (gX M0) := by rw [← eg]; exact (nT_b hS1.1).1.symm
    rw [hn]
    refine ⟨fun h => ⟨hp, rfl, ?_⟩, fun h => ⟨hp, rfl, by omega, by omega, (1500 - (j + 1)).toNat, by omega, rfl, rfl, fun t ht => ?_, fun b q => by rw [up_n q]; exact hf b q, by omega, rfl⟩⟩
    · rintro x4 M3 - - rfl
      have hlen : ∀ t : Nat, t < nT (gX M0) → up M1 10 1 0 9 t = -4 := fun t tl => by rw [up_n (by decide)]; exact hI t (by omega)
      have h40 : up M1 10 1 0 9 s.toNat = -4 := hlen _ (by omega)
      have e101 : up M1 10 1 0 10 1 = 0 := up_sk
      refine ⟨⟨hp, rfl, by omega, fun _ => by rw [e101]; decide⟩, ?_⟩
      rintro x6 M5 - - rfl
      rw [if_pos h40]
      have hO : OLp (up M1 10 1 0) (gX M0) (fun _ => False) 0 := by
        refine ⟨by omega, fun j hj => by omega, fun i j hi hj => by omega, fun t tl t0 => by have := hlen t tl; omega, ?_⟩
        rw [e101, sumF_low (fun j hj => by rw [if_neg (by have := hlen j hj; omega)])]
        rfl
      have hO2 := OL_new (u := s.toNat) (v := 0) hO (by omega) h40 (by decide) (fun z => z)
      rw [show ((s.toNat : Nat) : Int) = s by omega] at hO2
      refine ⟨(500 - 0 : Int).toNat, by omega, rfl, rfl, ⟨fun _ => False, -1, ?_, hO2⟩, fun b b1 b2 b3 => by rw [up_n b2, up_n b3, up_n b1, up_n b2]; exact hf b b1, by omega, rfl⟩
      refine DI_ini (by omega) (fun t tl => ?_) (by decide)
      rw [up_n (by decide), up_n (by decide), up_s]
      by_cases q : t = s.toNat
      · rw [q, upR_s, if_pos rfl]
      · rw [upR_n q, if_neg q]; exact hlen t tl
    · by_cases q : t = j.toNat
      · subst q; rw [up_sk]
      · rw [up_nk (Or.inr q)]; exact hI t (by omega))
  (by
    rintro p s M0 ⟨hp, h7, hS, hw, hs⟩ hM rs k M n ⟨⟨Sd, c, hD, hO⟩, hf, hk, hμ⟩ -
    subst h7
    obtain ⟨nE, n9, n144⟩ := nT_b hS.1
    obtain ⟨hS1, eg⟩ := surf_congr (M' := M) hS (fun b q1 q2 => hf b (by omega) (by omega) (by omega))
    have e6 : M 6 = M0 6 := hf 6 (by decide) (by decide) (by decide)
    have e8 : M 8 = M0 8 := hf 8 (by decide) (by decide) (by decide)
    have hle : k + M 10 1 ≤ 144 := by
      have e5 := hO.2.2.2.2
      have := cntR_le (L := M 9) (n := nT (gX M0))
      omega
    have fin : M 10 1 ≤ 0 → c_X7_measureFrom 7 s M0 0 M := fun z => by
      refine ⟨DI_end hD (fun u ul u0 => Classical.byContradiction fun y => ?_), fun j hj => ?_, hf⟩
      · obtain ⟨i, i1, i2⟩ := hO.2.2.2.1 u ul u0 y
        omega
      · have := hD.2.1 j hj; omega
    refine ⟨fun h => ⟨rfl, fin (by omega)⟩, fun h => ⟨hp, rfl, ?_⟩⟩
    rintro x2 M1 - - ⟨rfl, rfl⟩
    refine ⟨fun h2 => ⟨rfl, fin h2⟩, fun h2 => ⟨⟨hp, rfl, by omega, fun j hj => by have := (hO.2.1 j hj).1; omega⟩, ?_⟩⟩
    rintro x4 M3 - - ⟨i, hi, rfl, hmin, rfl⟩
    have hii := hO.2.1 i hi
    have hO3 := OL_take hO hi
    have e9 : up (up M1 10 1 (M1 10 1 - 1)) 11 i (M1 11 (M1 10 1 - 1).toNat) 9 = M1 9 := by rw [up_n (by decide), up_n (by decide)]
    have hP := DI_pick (DI_B hD (B' := 18 * (k + 1)) (by omega)) (k := (M1 11 i).toNat) (by omega) hii.2.2 hii.2.1 (fun u ul us u0 => by
      obtain ⟨j, j1, j2⟩ := hO.2.2.2.1 u ul u0 us
      have := hmin j j1
      rw [j2, Int.toNat_natCast] at this
      exact this)
    rw [show (((M1 11 i).toNat : Nat) : Int) = M1 11 i by omega] at hP
    generalize hM3 : up (up M1 10 1 (M1 10 1 - 1)) 11 i (M1 11 (M1 10 1 - 1).toNat) = M3 at hO3 e9 ⊢
    have hf3 : ∀ b, b ≠ 9 → b ≠ 10 → b ≠ 11 → M3 b = M0 b := fun b b1 b2 b3 => by rw [← hM3, up_n b3, up_n b2]; exact hf b b1 b2 b3
    obtain ⟨hS3, eg3⟩ := surf_congr (M' := M3) hS (fun b q1 q2 => hf3 b (by omega) (by omega) (by omega))
    have e63 : M3 6 = M0 6 := hf3 6 (by decide) (by decide) (by decide)
    have e83 : M3 8 = M0 8 := hf3 8 (by decide) (by decide) (by decide)
    have hpre : preW (M1 11 i) M3 s.toNat (fun t => Sd t ∨ t = (M1 11 i).toNat) (k + 1) (18 * (k + 1)) := by
      unfold preW
      rw [eg3, e63, e83, e9]
      have := hD.2.1 (M1 11 i).toNat (by omega)
      exact ⟨hii.1, hP, hO3, by omega, by omega, by omega⟩
    refine ⟨⟨hp, rfl, hS3, by unfold wok; rw [e63, e83]; exact hw, _, _, _, _, hpre⟩, ?_⟩
    rintro x6 M5 - - hc
    obtain ⟨r1, r2, r3⟩ := hc _ _ _ _ hpre
    rw [eg3, e63, e83] at r1
    rw [eg3] at r2
    exact ⟨by omega, (500 - (k + 1)).toNat, by omega, rfl, rfl, ⟨_, _, r1, r2⟩, fun b b1 b2 b3 => by rw [r3 b b1 b2 b3]; exact hf3 b b1 b2 b3, by omega, rfl⟩)
theorem ok_X7_nextOnRoute (hA : jA ad 46) : OK_X7_nextOnRoute l D cy ad := met_X7_nextOnRoute hA (ok_X3_next hA) (ok_X7_stepLength hA)
  (fun p t M0 d M μ => M = M0 ∧ (∀ L, lenR M0 L → onw (gX M0) (M0 6) (M0 8) L t 4 = onw (gX M0) (M0 6) (M0 8) L t (4 - d).toNat) ∧ (0 ≤ d ∧ d ≤ 4) ∧ μ = (4 - d).toNat)
  (by
    rintro p t M0 ⟨hp, h7, hS, hw, ht, hl⟩ hM rt
    exact ⟨_, rfl, rfl, rfl, fun L hL => rfl, by omega, rfl⟩)
  (by
    rintro p t M0 ⟨hp, h7, hS, hw, ht, hl⟩ hM rt d M n ⟨rfl, hI, hd, hμ⟩ -
    subst h7
    obtain ⟨nE, n9, n144⟩ := nT_b hS.1
    refine ⟨fun h => ⟨trivial, fun L hL => ?_, rfl⟩, fun h => ⟨⟨hp, rfl, hS, hw, ht, by omega⟩, ?_⟩⟩
    · rw [hI L hL, show (4 - d).toNat = 0 by omega]; rfl
    rintro x2 M1 - - ⟨rfl, rfl⟩
    have e1 : (4 - d).toNat = (3 - d).toNat + 1 := by omega
    have e2 : (3 : Int) - ((3 - d).toNat : Nat) = d := by omega
    have e3 : (4 - (d + 1)).toNat = (3 - d).toNat := by omega
    obtain ⟨s1, s2, s3⟩ := stl_b hw.1 hw.2 hS.1 (t := t) (d := d) ht.1 ht.2
    have no : ¬ (0 < stl (gX M1) (M1 6) (M1 8) t d ∧ M1 9 (nx (gX M1) t d).toNat + stl (gX M1) (M1 6) (M1 8) t d = M1 9 t.toNat) → ∀ L, lenR M1 L → onw (gX M1) (M1 6) (M1 8) L t 4 = onw (gX M1) (M1 6) (M1 8) L t (4 - (d + 1)).toNat := fun z L hL => by
      rw [hI L hL, e3, e1]
      show (if 0 < stl (gX M1) (M1 6) (M1 8) t (3 - ((3 - d).toNat : Nat)) ∧ L (nx (gX M1) t (3 - ((3 - d).toNat : Nat))).toNat + stl (gX M1) (M1 6) (M1 8) t (3 - ((3 - d).toNat : Nat)) = L t.toNat then _ else _) = _
      rw [e2, if_neg]
      rintro ⟨z1, z2⟩
      rw [← hL t.toNat (by omega), ← hL _ (by have := s3 z1; omega)] at z2
      exact z ⟨z1, z2⟩
    refine ⟨fun h2 => ⟨by omega, (4 - (d + 1)).toNat, by omega, rfl, rfl, rfl, no fun z => by omega, by omega, rfl⟩, fun h2 => ⟨hp, ⟨rfl, by omega, by omega⟩, ?_⟩⟩
    rintro x4 M3 - - ⟨rfl, rfl⟩
    rw [(hS.2 t d ht.1 (by omega) hd.1 (by omega)).1]
    have hu := s3 (by omega)
    have b1 := hl (nx (gX M3) t d).toNat (by omega)
    refine ⟨hp, rfl, by omega, by omega, hp, rfl, by omega, fun h3 => ⟨by omega, (4 - (d + 1)).toNat, by omega, rfl, rfl, rfl, no fun z => h3 z.2, by omega, rfl⟩, fun h3 => ⟨trivial, fun L hL => ?_, rfl⟩⟩
    have h4 := Classical.byContradiction h3
    rw [hI L hL, e1]
    show _ = (if 0 < stl (gX M3) (M3 6) (M3 8) t (3 - ((3 - d).toNat : Nat)) ∧ L (nx (gX M3) t (3 - ((3 - d).toNat : Nat))).toNat + stl (gX M3) (M3 6) (M3 8) t (3 - ((3 - d).toNat : Nat)) = L t.toNat then _ else _)
    rw [e2, if_pos]
    rw [← hL t.toNat (by omega), ← hL _ (by omega)]
    exact ⟨by omega, h4⟩)
theorem ok_X7_routeTile (hA : jA ad 46) : OK_X7_routeTile l D cy ad := met_X7_routeTile hA (ok_X7_nextOnRoute hA)
  (fun p t o k M0 a c M μ => M = M0 ∧ (0 ≤ a ∧ a < nT (gX M0)) ∧ (∀ L, lenR M0 L → rgo (gX M0) (M0 6) (M0 8) L o k 144 t 0 = rgo (gX M0) (M0 6) (M0 8) L o k (144 - c).toNat a c) ∧ (0 ≤ c ∧ c ≤ 144) ∧ μ = (144 - c).toNat)
  (by
    rintro p t o k M0 ⟨hp, h7, hS, hw, ht, hl⟩ hM rt ro rk
    exact ⟨_, rfl, rfl, rfl, rfl, rfl, ht, fun L hL => rfl, by omega, rfl⟩)
  (by
    rintro p t o k M0 ⟨hp, h7, hS, hw, ht, hl⟩ hM rt ro rk a c M n ⟨rfl, ha, hI, hc, hμ⟩ -
    subst h7
    have stop : (a = o ∨ c = k ∨ (144 : Int) ≤ c) → ∀ L, lenR M L → rgo (gX M) (M 6) (M 8) L o k 144 t 0 = (if k = -1 then c else if c = k then a else -5) := fun z L hL => by
      rw [hI L hL]
      by_cases q : (144 : Int) ≤ c
      · rw [show (144 - c).toNat = 0 by omega]; rfl
      · rw [show (144 - c).toNat = (143 - c).toNat + 1 by omega]
        show (if a = o ∨ c = k then _ else _) = _
        rw [if_pos (by omega)]
    have leaf : (a = o ∨ c = k ∨ (144 : Int) ≤ c) → (¬ k = (-1 : Int) → (¬ c = k → True ∧ c_X7_routeTile 7 t o k M (-5) M) ∧ (¬ ¬ c = k → True ∧ c_X7_routeTile 7 t o k M a M)) ∧ (¬ ¬ k = (-1 : Int) → True ∧ c_X7_routeTile 7 t o k M c M) := fun z => by
      refine ⟨fun q => ⟨fun q2 => ⟨trivial, fun L hL => ?_, rfl⟩, fun q2 => ⟨trivial, fun L hL => ?_, rfl⟩⟩, fun q => ⟨trivial, fun L hL => ?_, rfl⟩⟩
      · rw [stop z L hL, if_neg q, if_neg q2]
      · rw [stop z L hL, if_neg q, if_pos (Classical.byContradiction q2)]
      · rw [stop z L hL, if_pos (Classical.byContradiction q)]
    refine ⟨fun h => leaf (Or.inl h), fun h => ⟨fun h2 => leaf (Or.inr (Or.inl h2)), fun h2 => ⟨fun h3 => leaf (Or.inr (Or.inr h3)), fun h3 => ⟨⟨hp, rfl, hS, hw, ha, hl⟩, ?_⟩⟩⟩⟩
    rintro x2 M1 - - ⟨hx, rfl⟩
    have hb := onw_b (L := M1 9) hw.1 hw.2 hS.1 ha.1 ha.2 4
    rw [← hx (M1 9) (fun _ _ => rfl)] at hb
    refine ⟨by omega, (144 - (c + 1)).toNat, by omega, rfl, rfl, rfl, rfl, rfl, hb, fun L hL => ?_, by omega, rfl⟩
    rw [hI L hL, show (144 - c).toNat = (144 - (c + 1)).toNat + 1 by omega, hx L hL]
    show (if a = o ∨ c = k then _ else _) = _
    rw [if_neg (fun z => z.elim h h2)])
theorem ok_X7_farthestTile (hA : jA ad 46) : OK_X7_farthestTile l D cy ad := met_X7_farthestTile hA (ok_X3_tiles hA)
  (fun p s M0 b j M μ => M = M0 ∧ (0 ≤ b ∧ b < nT (gX M0)) ∧ (∀ L, lenR M0 L → b = faF L s j.toNat) ∧ (0 ≤ j ∧ j ≤ nT (gX M0)) ∧ μ = (500 - j).toNat)
  (by
    rintro p s M0 ⟨hp, h7, hS, hs⟩ hM rs
    exact ⟨_, rfl, rfl, rfl, hs, fun L hL => rfl, by omega, rfl⟩)
  (by
    rintro p s M0 ⟨hp, h7, hS, hs⟩ hM rs b j M n ⟨rfl, hb, hI, hj, hμ⟩ -
    subst h7
    obtain ⟨nE, n9, n144⟩ := nT_b hS.1
    refine ⟨hp, ⟨rfl, rfl, hS.1.1, hS.1.2.1⟩, ?_⟩
    rintro x2 M1 - - ⟨rfl, rfl⟩
    have hn : M1 1 4 * M1 1 5 = nT (gX M1) := nE.symm
    rw [hn]
    have stp : ¬ (nT (gX M1) : Int) ≤ j → ∀ L, lenR M1 L → faF L s (j + 1).toNat = if M1 9 b.toNat < M1 9 j.toNat then j else b := fun h L hL => by
      rw [show (j + 1).toNat = j.toNat + 1 by omega]
      show (if L (faF L s j.toNat).toNat < L j.toNat then ((j.toNat : Nat) : Int) else faF L s j.toNat) = _
      rw [← hI L hL, hL _ (by omega), hL _ (by omega), show ((j.toNat : Nat) : Int) = j by omega]
    refine ⟨fun h => ⟨trivial, fun L hL => ?_, rfl⟩, fun h => ⟨hp, rfl, by omega, hp, rfl, by omega, fun h2 => ⟨by omega, (500 - (j + 1)).toNat, by omega, rfl, rfl, rfl, hb, fun L hL => ?_, by omega, rfl⟩, fun h2 => ⟨by omega, (500 - (j + 1)).toNat, by omega, rfl, rfl, rfl, by omega, fun L hL => ?_, by omega, rfl⟩⟩⟩
    · rw [hI L hL, show j.toNat = nT (gX M1) by omega]
    · rw [stp h L hL, if_neg (by omega)]
    · rw [stp h L hL, if_pos (by omega)])
theorem ok_X7_tilesUpTo (hA : jA ad 46) : OK_X7_tilesUpTo l D cy ad := met_X7_tilesUpTo hA (ok_X3_tiles hA)
  (fun p v M0 c j M μ => M = M0 ∧ (∀ L, lenR M0 L → c = sumF (fun t => if L t ≠ -4 ∧ L t ≤ v then 1 else 0) j.toNat) ∧ (0 ≤ j ∧ j ≤ nT (gX M0)) ∧ μ = (500 - j).toNat)
  (by
    rintro p v M0 ⟨hp, h7, hS⟩ hM rv
    exact ⟨_, rfl, rfl, rfl, fun L hL => rfl, by omega, rfl⟩)
  (by
    rintro p v M0 ⟨hp, h7, hS⟩ hM rv c j M n ⟨rfl, hI, hj, hμ⟩ -
    subst h7
    obtain ⟨nE, n9, n144⟩ := nT_b hS.1
    refine ⟨hp, ⟨rfl, rfl, hS.1.1, hS.1.2.1⟩, ?_⟩
    rintro x2 M1 - - ⟨rfl, rfl⟩
    have hn : M1 1 4 * M1 1 5 = nT (gX M1) := nE.symm
    rw [hn]
    have cb : 0 ≤ c ∧ c ≤ 144 := by
      have e := hI (M1 9) (fun _ _ => rfl)
      have := sumF_b (f := fun t => if M1 9 t ≠ -4 ∧ M1 9 t ≤ v then (1 : Int) else 0) (n := j.toNat) (fun j _ => if01 _)
      omega
    have stp : ¬ (nT (gX M1) : Int) ≤ j → ∀ L, lenR M1 L → sumF (fun t => if L t ≠ -4 ∧ L t ≤ v then 1 else 0) (j + 1).toNat = c + if M1 9 j.toNat ≠ -4 ∧ M1 9 j.toNat ≤ v then 1 else 0 := fun h L hL => by
      rw [show (j + 1).toNat = j.toNat + 1 by omega]
      show sumF _ j.toNat + (if L j.toNat ≠ -4 ∧ L j.toNat ≤ v then 1 else 0) = _
      rw [← hI L hL, hL _ (by omega)]
    refine ⟨fun h => ⟨trivial, fun L hL => ?_, rfl⟩, fun h => ⟨hp, rfl, by omega, fun h2 => ⟨by omega, (500 - (j + 1)).toNat, by omega, rfl, rfl, rfl, fun L hL => ?_, by omega, rfl⟩, fun h2 => ⟨hp, rfl, by omega, fun h3 => ⟨by omega, (500 - (j + 1)).toNat, by omega, rfl, rfl, rfl, fun L hL => ?_, by omega, rfl⟩, fun h3 => ⟨by omega, by omega, (500 - (j + 1)).toNat, by omega, rfl, rfl, rfl, fun L hL => ?_, by omega, rfl⟩⟩⟩⟩
    · rw [hI L hL, show j.toNat = nT (gX M1) by omega]
    · rw [stp h L hL, if_neg (fun z => z.1 h2)]; omega
    · rw [stp h L hL, if_neg (fun z => by omega)]; omega
    · rw [stp h L hL, if_pos ⟨h2, by omega⟩])
theorem ok_X7_nearestOf (hA : jA ad 46) : OK_X7_nearestOf l D cy ad := met_X7_nearestOf hA (ok_X3_tiles hA)
  (fun p k M0 b j M μ => M = M0 ∧ (b = -5 ∨ (0 ≤ b ∧ b < nT (gX M0))) ∧ (∀ L κ, lenR M0 L → kin M0 κ → b = neF L κ k j.toNat) ∧ (0 ≤ j ∧ j ≤ nT (gX M0)) ∧ μ = (500 - j).toNat)
  (by
    rintro p k M0 ⟨hp, h7, hS⟩ hM rk
    exact ⟨_, rfl, rfl, rfl, Or.inl rfl, fun L κ hL hκ => rfl, by omega, rfl⟩)
  (by
    rintro p k M0 ⟨hp, h7, hS⟩ hM rk b j M n ⟨rfl, hb, hI, hj, hμ⟩ -
    subst h7
    obtain ⟨nE, n9, n144⟩ := nT_b hS.1
    refine ⟨hp, ⟨rfl, rfl, hS.1.1, hS.1.2.1⟩, ?_⟩
    rintro x2 M1 - - ⟨rfl, rfl⟩
    have hn : M1 1 4 * M1 1 5 = nT (gX M1) := nE.symm
    rw [hn]
    have stp : ¬ (nT (gX M1) : Int) ≤ j → ∀ L κ, lenR M1 L → kin M1 κ → neF L κ k (j + 1).toNat = if M1 6 j.toNat = k ∧ M1 9 j.toNat ≠ -4 ∧ (b = -5 ∨ M1 9 j.toNat < M1 9 b.toNat) then j else b := fun h L κ hL hκ => by
      rw [show (j + 1).toNat = j.toNat + 1 by omega]
      show (if κ j.toNat = k ∧ L j.toNat ≠ -4 ∧ (neF L κ k j.toNat = -5 ∨ L j.toNat < L (neF L κ k j.toNat).toNat) then ((j.toNat : Nat) : Int) else neF L κ k j.toNat) = _
      rw [← hI L κ hL hκ, hL _ (by omega), hκ _ (by omega), show ((j.toNat : Nat) : Int) = j by omega]
      rcases hb with q | q
      · simp only [q, true_or]
      · rw [hL _ (by omega)]
    refine ⟨fun h => ⟨trivial, fun L κ hL hκ => ?_, rfl⟩, fun h => ⟨hp, rfl, by omega, fun h2 => ⟨by omega, (500 - (j + 1)).toNat, by omega, rfl, rfl, rfl, hb, fun L κ hL hκ => ?_, by omega, rfl⟩, fun h2 => ⟨hp, rfl, by omega, fun h3 => ⟨by omega, (500 - (j + 1)).toNat, by omega, rfl, rfl, rfl, hb, fun L κ hL hκ => ?_, by omega, rfl⟩, fun h3 => ⟨fun h4 => ⟨by omega, (500 - (j + 1)).toNat, by omega, rfl, rfl, rfl, by omega, fun L κ hL hκ => ?_, by omega, rfl⟩, fun h4 => ⟨hp, rfl, by omega, hp, rfl, by omega, fun h5 => ⟨by omega, (500 - (j + 1)).toNat, by omega, rfl, rfl, rfl, hb, fun L κ hL hκ => ?_, by omega, rfl⟩, fun h5 => ⟨by omega, (500 - (j + 1)).toNat, by omega, rfl, rfl, rfl, by omega, fun L κ hL hκ => ?_, by omega, rfl⟩⟩⟩⟩⟩⟩
    · rw [hI L κ hL hκ, show j.toNat = nT (gX M1) by omega]
    · rw [stp h L κ hL hκ, if_neg (fun z => h2 z.1)]
    · rw [stp h L κ hL hκ, if_neg (fun z => z.2.1 h3)]
    · rw [stp h L κ hL hκ, if_pos ⟨Classical.byContradiction h2, h3, Or.inl h4⟩]
    · rw [stp h L κ hL hκ, if_neg (fun z => z.2.2.elim h4 (by omega))]
    · rw [stp h L κ hL hκ, if_pos ⟨Classical.byContradiction h2, h3, Or.inr (by omega)⟩])
end W2
