section Q1
variable {l : Launch} {D : va_G} {cy : Nat → ClassId} {ad : Nat → Nat}
theorem surf_N {M : Mem} (h : surf M) : M 1 4 * M 1 5 = ((nT (gX M) : Nat) : Int) := (nT_b h.1).1.symm
theorem k4 {t d : Int} (ht : 0 ≤ t) (hd : 0 ≤ d ∧ d < 4) : (t * 4 + d).toNat / 4 = t.toNat ∧ (t * 4 + d).toNat % 4 = d.toNat := by omega
theorem nxk_of {g : Nat → Int} {t d : Int} (ht : 0 ≤ t) (hd : 0 ≤ d ∧ d < 4) : nxk g (t * 4 + d).toNat = nx g t d := by
  obtain ⟨e1, e2⟩ := k4 ht hd
  unfold nxk
  rw [e1, e2, show ((t.toNat : Nat) : Int) = t by omega, show ((d.toNat : Nat) : Int) = d by omega]
theorem ok_X1_changesSince (hA : jA ad 46) : OK_X1_changesSince l D cy ad := met_X1_changesSince hA (ok_X3_tiles hA)
  (fun p q t M0 c j M μ => M = M0 ∧ (∀ L L2, labR p M0 L → labR q M0 L2 → c = sumF (fun j => if (j : Int) ≠ t ∧ L j ≠ L2 j then 1 else 0) j.toNat) ∧ (0 ≤ j ∧ j ≤ nT (gX M0)) ∧ (0 ≤ c ∧ c ≤ j) ∧ μ = (500 - j).toNat)
  (by
    rintro p q t M0 ⟨hp, hq, hS⟩ hM rt
    exact ⟨_, rfl, rfl, rfl, rfl, fun _ _ _ _ => rfl, by omega, by omega, rfl⟩)
  (by
    rintro p q t M0 ⟨hp, hq, hS⟩ hM rt c j M n ⟨rfl, hI, hj, hc, hn⟩ -
    obtain ⟨⟨a1, b1⟩, -⟩ := kd1a hp
    obtain ⟨⟨a2, b2⟩, -⟩ := kd1a hq
    obtain ⟨nE, n9, n144⟩ := nT_b hS.1
    refine ⟨hp, ⟨rfl, rfl, surf_gB hS⟩, ?_⟩
    rintro x2 M1 - - ⟨rfl, rfl⟩
    rw [surf_N hS]
    have st : ∀ c' : Int, (∀ L L2, labR p M1 L → labR q M1 L2 → c' = c + (if j ≠ t ∧ L j.toNat ≠ L2 j.toNat then 1 else 0)) → ∀ L L2, labR p M1 L → labR q M1 L2 → c' = sumF (fun j => if (j : Int) ≠ t ∧ L j ≠ L2 j then 1 else 0) (j + 1).toNat := by
      intro c' h L L2 h1 h2
      rw [sumF_s (show (j + 1).toNat = j.toNat + 1 by omega), ← hI L L2 h1 h2, h L L2 h1 h2, show ((j.toNat : Nat) : Int) = j by omega]
    refine ⟨fun h => ⟨trivial, fun L L2 h1 h2 => ?_, rfl⟩, fun h => ⟨fun h2 => ⟨by omega, (500 - (j + 1)).toNat, by omega, rfl, rfl, rfl, rfl, st c (fun L L2 _ _ => ?_), by omega, by omega, rfl⟩, fun h2 => ⟨hp, a1, ⟨by omega, by rw [b1]; omega⟩, hq, a2, ⟨by omega, by rw [b2]; omega⟩, fun h3 => ⟨by omega, (500 - (j + 1)).toNat, by omega, rfl, rfl, rfl, rfl, st c (fun L L2 q1 q2 => ?_), by omega, by omega, rfl⟩, fun h3 => ⟨by omega, by omega, (500 - (j + 1)).toNat, by omega, rfl, rfl, rfl, rfl, st (c + 1) (fun L L2 q1 q2 => ?_), by omega, by omega, rfl⟩⟩⟩⟩
    · rw [hI L L2 h1 h2, show j.toNat = nT (gX M1) by omega]
    · rw [if_neg (fun z => z.1 h2)]; omega
    · rw [q1 _ (by omega), q2 _ (by omega)] at h3
      rw [if_neg (fun z => z.2 h3)]; omega
    · rw [q1 _ (by omega), q2 _ (by omega)] at h3
      rw [if_pos ⟨h2, h3⟩])
theorem ok_X1_labelNumber (hA : jA ad 46) : OK_X1_labelNumber l D cy ad := met_X1_labelNumber hA (ok_X3_tiles hA)
  (fun p k M0 b j M μ => M = M0 ∧ (∀ L, labR p M0 L → b = cntS L j.toNat ∧ kthF L k j.toNat = -5) ∧ (0 ≤ j ∧ j ≤ nT (gX M0)) ∧ (0 ≤ b ∧ b ≤ j) ∧ μ = (500 - j).toNat)
  (by
    rintro p k M0 ⟨hp, hS⟩ hM rk
    exact ⟨_, rfl, rfl, rfl, fun _ _ => ⟨rfl, rfl⟩, by omega, by omega, rfl⟩)
  (by
    rintro p k M0 ⟨hp, hS⟩ hM rk b j M n ⟨rfl, hI, hj, hb, hn⟩ -
    obtain ⟨⟨a1, b1⟩, -⟩ := kd1a hp
    obtain ⟨nE, n9, n144⟩ := nT_b hS.1
    refine ⟨hp, ⟨rfl, rfl, surf_gB hS⟩, ?_⟩
    rintro x2 M1 - - ⟨rfl, rfl⟩
    rw [surf_N hS]
    have ej : (j + 1).toNat = j.toNat + 1 := by omega
    have hjn : ((j.toNat : Nat) : Int) = j := by omega
    refine ⟨fun h => ⟨trivial, fun L h1 => ?_, rfl⟩, fun h => ⟨hp, a1, ⟨by omega, by rw [b1]; omega⟩, fun h2 => ⟨by omega, (500 - (j + 1)).toNat, by omega, rfl, rfl, rfl, fun L h1 => ?_, by omega, by omega, rfl⟩, fun h2 => ⟨fun h3 => ⟨by omega, by omega, (500 - (j + 1)).toNat, by omega, rfl, rfl, rfl, fun L h1 => ?_, by omega, by omega, rfl⟩, fun h3 => ⟨trivial, fun L h1 => ?_, rfl⟩⟩⟩⟩
    · rw [show nT (gX M1) = j.toNat by omega]
      exact (hI L h1).2.symm
    · obtain ⟨w1, w2⟩ := hI L h1
      rw [h1 _ (by omega)] at h2
      rw [ej]
      refine ⟨?_, ?_⟩
      · show b = cntS L j.toNat + (if L j.toNat = ((j.toNat : Nat) : Int) then 1 else 0)
        rw [hjn, if_neg h2, ← w1]; omega
      · show (if kthF L k j.toNat = -5 then _ else _) = _
        rw [if_pos w2, hjn, if_neg (fun z => h2 z.1)]
    · obtain ⟨w1, w2⟩ := hI L h1
      have h2 := Classical.byContradiction h2
      rw [h1 _ (by omega)] at h2
      rw [ej]
      refine ⟨?_, ?_⟩
      · show b + 1 = cntS L j.toNat + (if L j.toNat = ((j.toNat : Nat) : Int) then 1 else 0)
        rw [hjn, if_pos h2, ← w1]
      · show (if kthF L k j.toNat = -5 then _ else _) = _
        rw [if_pos w2, hjn, if_neg (fun z => h3 (by rw [w1]; exact z.2))]
    · obtain ⟨w1, w2⟩ := hI L h1
      have h2 := Classical.byContradiction h2
      have h3 := Classical.byContradiction h3
      rw [h1 _ (by omega)] at h2
      have := kth_at w2 (by rw [hjn]; exact h2) (by rw [← w1]; exact h3) (nT (gX M1) - (j.toNat + 1))
      rw [show j.toNat + 1 + (nT (gX M1) - (j.toNat + 1)) = nT (gX M1) by omega, hjn] at this
      exact this.symm)
theorem ok_X1_greatestOf (hA : jA ad 46) : OK_X1_greatestOf l D cy ad := met_X1_greatestOf hA (ok_X3_tiles hA)
  (fun p k M0 b j M μ => M = M0 ∧ (∀ L κ S, labR p M0 L → kin M0 κ → (∀ t : Nat, t < nT (gX M0) → L t = t → M0 (p + 2) t = S t) → b = grF (fun t => decide (L t = t ∧ κ t = k)) S j.toNat) ∧ (0 ≤ j ∧ j ≤ nT (gX M0)) ∧ (b = -5 ∨ (0 ≤ b ∧ b < j ∧ M0 (p + 1) b.toNat = b)) ∧ μ = (500 - j).toNat)
  (by
    rintro p k M0 ⟨hp, hS⟩ hM rk
    exact ⟨_, rfl, rfl, rfl, fun _ _ _ _ _ _ => rfl, by omega, Or.inl rfl, rfl⟩)
  (by
    rintro p k M0 ⟨hp, hS⟩ hM rk b j M n ⟨rfl, hI, hj, hb, hn⟩ -
    obtain ⟨⟨a1, b1⟩, ⟨a2, b2⟩, -⟩ := kd1a hp
    obtain ⟨nE, n9, n144⟩ := nT_b hS.1
    refine ⟨hp, ⟨rfl, rfl, surf_gB hS⟩, ?_⟩
    rintro x2 M1 - - ⟨rfl, rfl⟩
    rw [surf_N hS]
    have ej : (j + 1).toNat = j.toNat + 1 := by omega
    have hjn : ((j.toNat : Nat) : Int) = j := by omega
    -- one step of the function
    have st : ∀ (b' : Int), (∀ (L κ S : Nat → Int), labR p M1 L → kin M1 κ → (∀ t : Nat, t < nT (gX M1) → L t = t → M1 (p + 2) t = S t) → b' = (if decide (L j.toNat = j ∧ κ j.toNat = k) = true ∧ (b = -5 ∨ S b.toNat < S j.toNat) then j else b)) →
        ∀ (L κ S : Nat → Int), labR p M1 L → kin M1 κ → (∀ t : Nat, t < nT (gX M1) → L t = t → M1 (p + 2) t = S t) → b' = grF (fun t => decide (L t = t ∧ κ t = k)) S (j + 1).toNat := by
      intro b' h L κ S h1 h2 h3
      rw [ej, h L κ S h1 h2 h3]
      unfold grF
      rw [← hI L κ S h1 h2 h3, hjn]
    refine ⟨fun h => ⟨trivial, fun L κ S h1 h2 h3 => ?_, rfl⟩, fun h => ⟨hp, a1, ⟨by omega, by rw [b1]; omega⟩, fun h2 => ⟨by omega, (500 - (j + 1)).toNat, by omega, rfl, rfl, rfl, st b (fun L κ S q1 q2 q3 => ?_), by omega, by omega, rfl⟩, fun h2 => ⟨hp, rfl, by omega, fun h3 => ⟨by omega, (500 - (j + 1)).toNat, by omega, rfl, rfl, rfl, st b (fun L κ S q1 q2 q3 => ?_), by omega, by omega, rfl⟩, fun h3 => ⟨fun h4 => ⟨by omega, (500 - (j + 1)).toNat, by omega, rfl, rfl, rfl, st j (fun L κ S q1 q2 q3 => ?_), by omega, Or.inr ⟨by omega, by omega, Classical.byContradiction h2⟩, rfl⟩, fun h4 => ⟨hp, a2, ⟨by omega, by rw [b2]; omega⟩, hp, a2, ⟨by omega, by rw [b2]; omega⟩, fun h5 => ⟨by omega, (500 - (j + 1)).toNat, by omega, rfl, rfl, rfl, st b (fun L κ S q1 q2 q3 => ?_), by omega, by omega, rfl⟩, fun h5 => ⟨by omega, (500 - (j + 1)).toNat, by omega, rfl, rfl, rfl, st j (fun L κ S q1 q2 q3 => ?_), by omega, Or.inr ⟨by omega, by omega, Classical.byContradiction h2⟩, rfl⟩⟩⟩⟩⟩⟩
    · rw [hI L κ S h1 h2 h3, show j.toNat = nT (gX M1) by omega]
    · rw [q1 _ (by omega)] at h2
      rw [if_neg (fun z => h2 (of_decide_eq_true z.1).1)]
    · rw [q2 _ (by omega)] at h3
      rw [if_neg (fun z => h3 (of_decide_eq_true z.1).2)]
    · have h2 := Classical.byContradiction h2
      have h3 := Classical.byContradiction h3
      rw [q1 _ (by omega)] at h2
      rw [q2 _ (by omega)] at h3
      rw [if_pos ⟨decide_eq_true ⟨h2, h3⟩, Or.inl h4⟩]
    · have h2 := Classical.byContradiction h2
      have hb2 := hb.resolve_left h4
      have e1 := q1 j.toNat (by omega)
      have e2 := q1 b.toNat (by omega)
      rw [h2] at e1
      rw [hb2.2.2] at e2
      rw [q3 j.toNat (by omega) (by omega), q3 b.toNat (by omega) (by omega)] at h5
      rw [if_neg (fun z => by rcases z.2 with y | y; exact h4 y; omega)]
    · have h2 := Classical.byContradiction h2
      have h3 := Classical.byContradiction h3
      have hb2 := hb.resolve_left h4
      have e1 := q1 j.toNat (by omega)
      have e2 := q1 b.toNat (by omega)
      rw [h2] at e1
      rw [hb2.2.2] at e2
      rw [q3 j.toNat (by omega) (by omega), q3 b.toNat (by omega) (by omega)] at h5
      rw [q2 _ (by omega)] at h3
      rw [if_pos ⟨decide_eq_true ⟨e1.symm, h3⟩, Or.inr (by omega)⟩])
theorem ok_X1_leadsOut (hA : jA ad 46) : OK_X1_leadsOut l D cy ad := met_X1_leadsOut hA (ok_X3_next hA) (by
  rintro p t d M0 ⟨hp, hS, ht, hd⟩ hM rt rd
  obtain ⟨⟨a1, b1⟩, -⟩ := kd1a hp
  obtain ⟨nE, n9, n144⟩ := nT_b hS.1
  refine ⟨hp, ⟨rfl, rfl, by omega, hd⟩, ?_⟩
  rintro x2 M1 - - ⟨rfl, rfl⟩
  rw [(hS.2 t d ht.1 (by omega) hd.1 hd.2).1]
  refine ⟨fun h => ⟨Or.inl rfl, ?_, rfl⟩, fun h => ?_⟩
  · rw [if_neg (fun z => by omega)]
  · have hu := (nx_b hS.1 (d := d) ht.1 (by omega)).resolve_left (by omega)
    refine ⟨hp, a1, ⟨by omega, by rw [b1]; omega⟩, hp, a1, ⟨by omega, by rw [b1]; omega⟩, fun h2 => ⟨Or.inl rfl, ?_, rfl⟩, fun h2 => ⟨Or.inr rfl, ?_, rfl⟩⟩
    · rw [if_neg (fun z => z.2 h2)]
    · rw [if_pos ⟨by omega, h2⟩])
theorem ok_X1_loopOver (hA : jA ad 46) : OK_X1_loopOver l D cy ad := met_X1_loopOver hA (ok_X3_crossing hA) (ok_X3_next hA) (by
  rintro p t d M0 ⟨hp, hS, ht, hd⟩ hM rt rd
  obtain ⟨⟨a1, b1⟩, -, -, ⟨a4, b4⟩, -⟩ := kd1a hp
  obtain ⟨nE, n9, n144⟩ := nT_b hS.1
  refine ⟨hp, ⟨rfl, rfl, by omega, hd⟩, ?_⟩
  rintro x2 M1 - - ⟨rfl, rfl⟩
  obtain ⟨e1, e2⟩ := hS.2 t d ht.1 (by omega) hd.1 hd.2
  rw [e1]
  refine ⟨fun h => ⟨trivial, ?_, rfl⟩, fun h => ?_⟩
  · rw [if_neg (fun z => by omega)]
  · have hu := (nx_b hS.1 (d := d) ht.1 (by omega)).resolve_left (by omega)
    refine ⟨hp, a1, ⟨by omega, by rw [b1]; omega⟩, hp, a1, ⟨by omega, by rw [b1]; omega⟩, fun h2 => ⟨hp, a4, ⟨by omega, by rw [b4]; omega⟩, hp, ⟨rfl, rfl, by omega, hd⟩, ?_⟩, fun h2 => ⟨trivial, ?_, rfl⟩⟩
    · rintro x4 M3 - - ⟨rfl, rfl⟩
      refine ⟨hp, a4, ⟨by omega, by rw [b4]; omega⟩, trivial, ?_, rfl⟩
      rw [if_pos ⟨by omega, h2⟩, e2]
    · rw [if_neg (fun z => h2 z.2)])
/-- nested loops over tiles and directions that count -/
theorem cnt4 {q : Nat → Int} {o o' t d : Int} (ht : 0 ≤ t) (hd : 0 ≤ d) (ho : o = sumF q (t * 4 + d).toNat) (he : o' = o + q (t * 4 + d).toNat) : o' = sumF q (t * 4 + (d + 1)).toNat := by
  rw [sumF_s (show (t * 4 + (d + 1)).toNat = (t * 4 + d).toNat + 1 by omega), ← ho, he]
theorem ok_X1_bordersToOthers (hA : jA ad 46) : OK_X1_bordersToOthers l D cy ad := met_X1_bordersToOthers hA (ok_X1_leadsOut hA) (ok_X3_tiles hA)
  (fun p f M0 o t M μ => M = M0 ∧ (∀ L, labR p M0 L → o = sumF (qO L (gX M0) f) (t * 4).toNat) ∧ (0 ≤ t ∧ t ≤ nT (gX M0)) ∧ (0 ≤ o ∧ o ≤ t * 4) ∧ μ = ((200 - t) * 10).toNat)
  (fun p f M0 o t d M μ => M = M0 ∧ (∀ L, labR p M0 L → o = sumF (qO L (gX M0) f) (t * 4 + d).toNat) ∧ (0 ≤ t ∧ t < nT (gX M0)) ∧ (0 ≤ o ∧ o ≤ t * 4 + d) ∧ (0 ≤ d ∧ d ≤ 4) ∧ μ = ((200 - t) * 10 - 1 - d).toNat)
  (by
    rintro p f M0 ⟨hp, hS, hf, hl⟩ hM rf
    refine ⟨_, rfl, rfl, rfl, fun L h => ?_, by omega, by omega, rfl⟩
    rw [sumF_low]
    intro j hj
    have := hl (j / 4) (by omega)
    rw [h _ (by omega)] at this
    unfold qO
    rw [if_neg (fun z => this z.1)])
  (by
    rintro p f M0 ⟨hp, hS, hf, hl⟩ hM rf o t M n ⟨rfl, hI, ht, ho, hn⟩ -
    obtain ⟨nE, n9, n144⟩ := nT_b hS.1
    refine ⟨hp, ⟨rfl, rfl, surf_gB hS⟩, ?_⟩
    rintro x2 M1 - - ⟨rfl, rfl⟩
    rw [surf_N hS]
    refine ⟨fun h => ⟨trivial, fun L h1 => ?_, rfl⟩, fun h => ⟨((200 - t) * 10 - 1 - 0).toNat, by omega, rfl, rfl, rfl, fun L h1 => ?_, by omega, by omega, by omega, rfl⟩⟩
    · rw [hI L h1, show (t * 4).toNat = nT (gX M1) * 4 by omega]
    · rw [Int.add_zero]; exact hI L h1)
  (by
    rintro p f M0 ⟨hp, hS, hf, hl⟩ hM rf o t d M n ⟨rfl, hI, ht, ho, hd, hn⟩ -
    obtain ⟨⟨a1, b1⟩, -⟩ := kd1a hp
    obtain ⟨nE, n9, n144⟩ := nT_b hS.1
    refine ⟨fun h => ⟨by omega, ((200 - (t + 1)) * 10).toNat, by omega, rfl, rfl, rfl, fun L h1 => ?_, by omega, by omega, rfl⟩, fun h => ⟨hp, a1, ⟨by omega, by rw [b1]; omega⟩, fun h2 => ⟨by omega, ((200 - t) * 10 - 1 - (d + 1)).toNat, by omega, rfl, rfl, rfl, fun L h1 => cnt4 ht.1 hd.1 (hI L h1) ?_, by omega, by omega, by omega, rfl⟩, fun h2 => ⟨⟨hp, hS, ht, by omega⟩, ?_⟩⟩⟩
    · rw [hI L h1, show (t * 4 + d).toNat = ((t + 1) * 4).toNat by omega]
    · rw [h1 _ (by omega)] at h2
      unfold qO
      rw [(k4 ht.1 ⟨hd.1, by omega⟩).1, if_neg (fun z => h2 z.1)]; omega
    · have h2 := Classical.byContradiction h2
      rintro x2 M1 - - ⟨hx, rfl⟩
      have val : ∀ L, labR p M1 L → qO L (gX M1) f (t * 4 + d).toNat = x2 := by
        intro L h1
        have h3 := h2
        rw [h1 _ (by omega)] at h3
        rw [hx]
        unfold qO
        rw [(k4 ht.1 ⟨hd.1, by omega⟩).1, nxk_of ht.1 ⟨hd.1, by omega⟩, h3]
        rcases nx_b hS.1 (d := d) ht.1 (by omega) with q | q
        · rw [if_neg (by omega), if_neg (by omega)]
        · rw [h1 _ (by omega), h1 _ (by omega), h3]
          by_cases z : L (nx (gX M1) t d).toNat = f
          · rw [if_neg (fun y => y.2.2 z), if_neg (fun y => y.2 z)]
          · rw [if_pos ⟨rfl, q.1, z⟩, if_pos ⟨q.1, z⟩]
      have hx01 : x2 = 0 ∨ x2 = 1 := by rw [hx]; split <;> omega
      refine ⟨fun h3 => ⟨by omega, ((200 - t) * 10 - 1 - (d + 1)).toNat, by omega, rfl, rfl, rfl, fun L h1 => cnt4 ht.1 hd.1 (hI L h1) ?_, by omega, by omega, by omega, rfl⟩, fun h3 => ⟨by omega, by omega, ((200 - t) * 10 - 1 - (d + 1)).toNat, by omega, rfl, rfl, rfl, fun L h1 => cnt4 ht.1 hd.1 (hI L h1) ?_, by omega, by omega, by omega, rfl⟩⟩
      · rw [val L h1]; omega
      · rw [val L h1]; omega)
end Q1
