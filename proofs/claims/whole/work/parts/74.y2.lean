/-! ===== the model goes through the parts ===== -/
theorem RY_vis {M B : Mem} {g κ : Nat → Int} {f : Int} {k d : Nat} (G : gOK g) (hk : kiY M κ) (h : RYq M g B) (hF : BF g κ f k d B) (hq : (k : Int) < B 4 0) (hd : d < 4) :
    (¬ (0 ≤ nx g (B 3 k) d ∧ M 5 (nx g (B 3 k) d).toNat < 0 ∧ M 1 (nx g (B 3 k) d).toNat = M 1 (B 3 k).toNat) → RYq M g (bvis g κ f (B 3 k) d B) ∧ bvis g κ f (B 3 k) d B 4 0 = B 4 0) ∧
    (0 ≤ nx g (B 3 k) d ∧ M 5 (nx g (B 3 k) d).toNat < 0 ∧ M 1 (nx g (B 3 k) d).toNat = M 1 (B 3 k).toNat → ((0 ≤ B 4 0 ∧ B 4 0 < 144) ∧ M 7 (B 3 k).toNat ≤ 144 ∧ 0 ≤ M 7 (B 3 k).toNat) ∧
      RYq (up (up (up (up M 5 (nx g (B 3 k) d).toNat f) 6 (nx g (B 3 k) d).toNat (bXor (M 6 (B 3 k).toNat) (sm g (B 3 k) d))) 7 (nx g (B 3 k) d).toNat (M 7 (B 3 k).toNat + 1)) 8 (B 4 0).toNat (nx g (B 3 k) d)) g (bvis g κ f (B 3 k) d B) ∧ bvis g κ f (B 3 k) d B 4 0 = B 4 0 + 1) := by
  obtain ⟨hS, hQ⟩ := h
  obtain ⟨⟨hf, hff⟩, h1, ⟨h2, h3⟩, h4, h5, h6⟩ := id hF
  obtain ⟨nE, n9, n144⟩ := nT_b G
  obtain ⟨ht, htl, htd⟩ := h4 k hq
  have eqv : (0 ≤ nx g (B 3 k) d ∧ M 5 (nx g (B 3 k) d).toNat < 0 ∧ M 1 (nx g (B 3 k) d).toNat = M 1 (B 3 k).toNat) ↔ (0 ≤ nx g (B 3 k) d ∧ B 0 (nx g (B 3 k) d).toNat < 0 ∧ κ (nx g (B 3 k) d).toNat = κ (B 3 k).toNat) := by
    refine and_congr_right fun hn => ?_
    have hu := (nx_b G (d := (d : Int)) ht.1 (by omega)).resolve_left (by omega)
    rw [hk _ (by omega), hk _ (by omega), (hS _ (by omega)).1]
  constructor
  · intro hc
    rw [eqv] at hc
    unfold bvis
    rw [if_neg hc]
    exact ⟨⟨hS, hQ⟩, rfl⟩
  · intro hc
    have hc' := eqv.mp hc
    have hu := (nx_b G (d := (d : Int)) ht.1 (by omega)).resolve_left (by omega)
    have hul : (nx g (B 3 k) d).toNat < nT g := by omega
    have hu1 : B 0 (nx g (B 3 k) d).toNat = -1 := (h1 _ hul).resolve_right (fun z => by omega)
    have hTl := (h1 (B 3 k).toNat (by omega)).resolve_left (by omega)
    have hst := hS (B 3 k).toNat (by omega)
    obtain ⟨r6, r7⟩ := hst.2 (by omega)
    have hlt : B 4 0 ≤ nT g - 1 := by
      rw [h3]
      exact sumF_lt (fun j _ => if01 _) hul (by rw [if_neg (by omega)])
    refine ⟨⟨by omega, by rw [r7]; exact hTl.2.2.1.2, by rw [r7]; exact hTl.2.2.1.1⟩, ?_⟩
    unfold bvis
    rw [if_pos hc', r6, r7]
    refine ⟨⟨fun t tl => ?_, fun j hj => ?_⟩, badd_4⟩
    · rw [badd_0, badd_1, badd_2, up_n (by decide), up_n (by decide), up_n (by decide), up_s, up_n (by decide), up_n (by decide), up_s, up_n (by decide), up_n (by decide), up_s, up_n (by decide), up_n (by decide)]
      by_cases q : t = (nx g (B 3 k) d).toNat
      · rw [q, upR_s, upR_s, upR_s, upR_s, upR_s, upR_s]
        exact ⟨rfl, fun _ => ⟨rfl, rfl⟩⟩
      · rw [upR_n q, upR_n q, upR_n q, upR_n q, upR_n q, upR_n q]
        exact hS t tl
    · rw [badd_4] at hj
      rw [badd_3, up_s, up_n (by decide), up_n (by decide), up_n (by decide)]
      by_cases q : j = (B 4 0).toNat
      · rw [q, upR_s, upR_s]
      · rw [upR_n q, upR_n q]
        exact hQ j (by omega)
section Y2
variable {l : Launch} {D : va_G} {cy : Nat → ClassId} {ad : Nat → Nat}
theorem ok_X9_spread (hA : jA ad 12) : OK_X9_spread l D cy ad := met_X9_spread hA (ok_X9_next hA) (ok_X9_seamOf hA)
  (fun p f M0 a e M μ => ∃ k : Nat, a = k ∧ k ≤ 144 ∧ (∀ κ B, preFy f M0 κ B → RYq M (gY M0) (bfl (gY M0) κ f B k) ∧ e = bfl (gY M0) κ f B k 4 0) ∧ (∀ b, b ≠ 5 → b ≠ 6 → b ≠ 7 → b ≠ 8 → M b = M0 b) ∧ μ = ((200 - (k : Int)) * 10).toNat)
  (fun p f M0 a e t d M μ => ∃ k : Nat, a = k + 1 ∧ (∀ κ B, preFy f M0 κ B → (k : Int) < bfl (gY M0) κ f B k 4 0 ∧ t = bfl (gY M0) κ f B k 3 k ∧ RYq M (gY M0) (bexp (gY M0) κ f t d.toNat (bfl (gY M0) κ f B k)) ∧ e = bexp (gY M0) κ f t d.toNat (bfl (gY M0) κ f B k) 4 0) ∧ (∀ b, b ≠ 5 → b ≠ 6 → b ≠ 7 → b ≠ 8 → M b = M0 b) ∧ (0 ≤ d ∧ d ≤ 4) ∧ μ = ((200 - (k : Int)) * 10 - 1 - d).toNat)
  (by
    rintro p f M0 ⟨hp, h0, hG, κ0, B0, hP0⟩ hM rf
    subst h0
    obtain ⟨n2, n9, n144⟩ := gY_n hG
    have hf := hP0.2.2.2.1
    refine ⟨hp, rfl, by decide, hp, rfl, by omega, hp, rfl, by omega, hp, rfl, by omega, _, rfl, rfl, 0, rfl, by decide, fun κ B hP => ?_, fun b b5 b6 b7 b8 => by rw [up_n b7, up_n b6, up_n b5, up_n b8], rfl⟩
    obtain ⟨q1, q2, q3, q4, q5⟩ := hP
    show RYq _ (gY M0) (bini f B) ∧ 1 = bini f B 4 0
    rw [Int.toNat_zero]
    refine ⟨⟨fun t tl => ?_, fun j hj => ?_⟩, bini_4.symm⟩
    · rw [bini_0, bini_1, bini_2, up_n (by decide), up_n (by decide), up_s, up_n (by decide), up_n (by decide), up_s, up_n (by decide), up_n (by decide), up_s, up_n (by decide), up_n (by decide), up_n (by decide)]
      by_cases q : t = f.toNat
      · rw [q, upR_s, upR_s, upR_s, upR_s, upR_s, upR_s]
        exact ⟨rfl, fun _ => ⟨rfl, rfl⟩⟩
      · rw [upR_n q, upR_n q, upR_n q, upR_n q, upR_n q, upR_n q]
        exact q2 t tl
    · rw [bini_4] at hj
      rw [bini_3, up_n (by decide), up_n (by decide), up_n (by decide), up_s, show j = 0 by omega, upR_s]
      exact upR_s.symm)
  (by
    rintro p f M0 ⟨hp, h0, hG, κ0, B0, hP0⟩ hM rf a e M n ⟨k, rfl, hk, hI, hfr, hμ⟩ -
    subst h0
    obtain ⟨n2, n9, n144⟩ := gY_n hG
    refine ⟨fun h => ⟨rfl, fun κ B hP => ?_⟩, fun h => ?_⟩
    · obtain ⟨r1, r2⟩ := hI κ B hP
      rw [bfl_all (by omega) hk]
      exact ⟨r1.1, hfr⟩
    · have hBF : ∀ κ B, preFy f M0 κ B → BF (gY M0) κ f k 0 (bfl (gY M0) κ f B k) := fun κ B hP => (BF_fl hG.1 hP.2.2.1 hP.2.2.2.1 hP.2.2.2.2 k).1
      have hq := BF_q hG.1 (hBF κ0 B0 hP0)
      have he := (hI κ0 B0 hP0).2
      refine ⟨hp, rfl, by omega, by omega, ((200 - (k : Int)) * 10 - 1 - 0).toNat, by omega, rfl, rfl, k, rfl, fun κ B hP => ?_, hfr, by omega, rfl⟩
      obtain ⟨r1, r2⟩ := hI κ B hP
      exact ⟨by omega, by rw [Int.toNat_natCast]; exact r1.2 k (by omega), r1, r2⟩)
  (by
    rintro p f M0 ⟨hp, h0, hG, κ0, B0, hP0⟩ hM rf a e t d M n ⟨k, rfl, hI, hfr, hd, hμ⟩ -
    subst h0
    obtain ⟨n2, n9, n144⟩ := gY_n hG
    have hBF0 : ∀ κ B, preFy f M0 κ B → BF (gY M0) κ f k 0 (bfl (gY M0) κ f B k) := fun κ B hP => (BF_fl hG.1 hP.2.2.1 hP.2.2.2.1 hP.2.2.2.2 k).1
    have hq0 := BF_q hG.1 (hBF0 κ0 B0 hP0)
    obtain ⟨i1, i2, i3, i4⟩ := hI κ0 B0 hP0
    have e0 : M 0 = M0 0 := hfr 0 (by decide) (by decide) (by decide) (by decide)
    have e1 : M 1 = M0 1 := hfr 1 (by decide) (by decide) (by decide) (by decide)
    obtain ⟨hG1, eg⟩ := gY_congr hG e0
    have ht : 0 ≤ t ∧ t < nT (gY M0) := by rw [i2]; exact ((hBF0 κ0 B0 hP0).2.2.2.1 k i1).1
    refine ⟨fun h => ⟨((200 - ((k + 1 : Nat) : Int)) * 10).toNat, by omega, rfl, rfl, k + 1, rfl, by omega, fun κ B hP => ?_, hfr, rfl⟩, fun h => ⟨⟨hp, rfl, hG1, by rw [eg]; exact ht, by omega⟩, ?_⟩⟩
    · obtain ⟨j1, j2, j3, j4⟩ := hI κ B hP
      have eb : bfl (gY M0) κ f B (k + 1) = bexp (gY M0) κ f t d.toNat (bfl (gY M0) κ f B k) := by
        show (if (k : Int) < bfl (gY M0) κ f B k 4 0 then bexp (gY M0) κ f (bfl (gY M0) κ f B k 3 k) 4 (bfl (gY M0) κ f B k) else _) = _
        rw [if_pos j1, show d.toNat = 4 by omega, j2]
      rw [eb]
      exact ⟨j3, j4⟩
    · rintro x2 M1 - - ⟨rfl, rfl⟩
      rw [eg]
      -- one direction, for any reading
      have stp : ∀ κ B, preFy f M0 κ B → _ := fun κ B hP => by
        obtain ⟨j1, j2, j3, j4⟩ := hI κ B hP
        obtain ⟨b1, b2, b3, b4⟩ := BF_exp hG.1 j1 (hBF0 κ B hP) d.toNat (by omega)
        rw [← j2] at b1 b2 b3
        have e3 : bexp (gY M0) κ f t d.toNat (bfl (gY M0) κ f B k) 3 k = t := (b2 k j1).trans j2.symm
        have := RY_vis (M := M1) (d := d.toNat) hG.1 (fun j hj => by rw [e1]; exact hP.1 j hj) j3 b1 (by omega) (by omega)
        rw [e3, show ((d.toNat : Nat) : Int) = d by omega] at this
        exact this
      have es : ∀ κ B, bexp (gY M0) κ f t (d + 1).toNat (bfl (gY M0) κ f B k) = bvis (gY M0) κ f t d (bexp (gY M0) κ f t d.toNat (bfl (gY M0) κ f B k)) := fun κ B => by
        rw [show (d + 1).toNat = d.toNat + 1 by omega]
        show bvis (gY M0) κ f t ((d.toNat : Nat) : Int) _ = _
        rw [show ((d.toNat : Nat) : Int) = d by omega]
      have no : ¬ (0 ≤ nx (gY M0) t d ∧ M1 5 (nx (gY M0) t d).toNat < 0 ∧ M1 1 (nx (gY M0) t d).toNat = M1 1 t.toNat) → ∀ κ B, preFy f M0 κ B → (k : Int) < bfl (gY M0) κ f B k 4 0 ∧ t = bfl (gY M0) κ f B k 3 k ∧ RYq M1 (gY M0) (bexp (gY M0) κ f t (d + 1).toNat (bfl (gY M0) κ f B k)) ∧ e = bexp (gY M0) κ f t (d + 1).toNat (bfl (gY M0) κ f B k) 4 0 := fun z κ B hP => by
        obtain ⟨j1, j2, j3, j4⟩ := hI κ B hP
        obtain ⟨s1, s2⟩ := (stp κ B hP).1 z
        rw [es]
        exact ⟨j1, j2, s1, by rw [s2]; exact j4⟩
      refine ⟨fun h2 => ⟨by omega, ((200 - (k : Int)) * 10 - 1 - (d + 1)).toNat, by omega, rfl, rfl, k, rfl, no (fun z => by omega), hfr, by omega, rfl⟩, fun h2 => ?_⟩
      have hu := (nx_b hG.1 (d := d) ht.1 (by have := (nT_b hG.1).1; omega)).resolve_left (by omega)
      have nE := (nT_b hG.1).1
      refine ⟨hp, rfl, by omega, fun h3 => ⟨by omega, ((200 - (k : Int)) * 10 - 1 - (d + 1)).toNat, by omega, rfl, rfl, k, rfl, no (fun z => by omega), hfr, by omega, rfl⟩, fun h3 => ⟨hp, rfl, by omega, hp, rfl, by omega, fun h4 => ⟨by omega, ((200 - (k : Int)) * 10 - 1 - (d + 1)).toNat, by omega, rfl, rfl, k, rfl, no (fun z => h4 z.2.2), hfr, by omega, rfl⟩, fun h4 => ?_⟩⟩
      have yes : 0 ≤ nx (gY M0) t d ∧ M1 5 (nx (gY M0) t d).toNat < 0 ∧ M1 1 (nx (gY M0) t d).toNat = M1 1 t.toNat := ⟨by omega, by omega, Classical.byContradiction h4⟩
      obtain ⟨⟨u1, u2, u3⟩, -, -⟩ := (stp κ0 B0 hP0).2 yes
      have e50 : up M1 5 (nx (gY M0) t d).toNat f 0 = M0 0 := by rw [up_n (by decide), e0]
      obtain ⟨hG3, eg3⟩ := gY_congr hG e50
      refine ⟨hp, rfl, by omega, hp, hp, rfl, by omega, ⟨hp, rfl, hG3, by rw [eg3]; exact ht, by omega⟩, ?_⟩
      rintro x4 M3 - - ⟨rfl, rfl⟩
      rw [eg3]
      rw [up_n (show (6 : Nat) ≠ 5 by decide)]
      rw [up_n (show (7 : Nat) ≠ 6 by decide), up_n (show (7 : Nat) ≠ 5 by decide)]
      refine ⟨rfl, by omega, hp, hp, rfl, by omega, by omega, rfl, by omega, hp, rfl, by omega, by omega, by omega, ((200 - (k : Int)) * 10 - 1 - (d + 1)).toNat, by omega, rfl, rfl, k, rfl, fun κ B hP => ?_, fun b b5 b6 b7 b8 => by rw [up_n b8, up_n b7, up_n b6, up_n b5]; exact hfr b b5 b6 b7 b8, by omega, rfl⟩
      obtain ⟨j1, j2, j3, j4⟩ := hI κ B hP
      obtain ⟨-, s1, s2⟩ := (stp κ B hP).2 yes
      rw [es, s2]
      rw [← j4] at s1 ⊢
      exact ⟨j1, j2, s1, rfl⟩)
theorem ok_X9_layLabels (hA : jA ad 12) : OK_X9_layLabels l D cy ad := met_X9_layLabels hA (ok_X9_spread hA)
  (fun p M0 t M μ => (∀ j : Nat, (j : Int) < t → M 5 j = -1) ∧ (∀ b, b ≠ 5 → M b = M0 b) ∧ (0 ≤ t ∧ t ≤ nT (gY M0)) ∧ μ = (1500 - t).toNat)
  (fun p M0 t M μ => (∀ κ, kiY M0 κ → RYs M (gY M0) (bly (gY M0) κ t.toNat)) ∧ (∀ b, b ≠ 5 → b ≠ 6 → b ≠ 7 → b ≠ 8 → M b = M0 b) ∧ (0 ≤ t ∧ t ≤ nT (gY M0)) ∧ μ = (500 - t).toNat)
  (by
    rintro p M0 ⟨hp, h0, hG⟩ hM
    exact ⟨_, rfl, fun j hj => by omega, fun _ _ => rfl, by omega, rfl⟩)
  (by
    rintro p M0 ⟨hp, h0, hG⟩ hM t M n ⟨hI, hf, ht, hμ⟩ -
    subst h0
    obtain ⟨n2, n9, n144⟩ := gY_n hG
    have e0 : M 0 = M0 0 := hf 0 (by decide)
    rw [e0, n2]
    refine ⟨hp, fun h => ⟨(500 - 0 : Int).toNat, by omega, rfl, fun κ hκ j hj => ⟨hI j (by omega), fun z => ?_⟩, fun b b5 _ _ _ => hf b b5, by omega, rfl⟩, fun h => ⟨hp, rfl, by omega, by omega, (1500 - (t + 1)).toNat, by omega, rfl, fun j hj => ?_, fun b q => by rw [up_n q]; exact hf b q, by omega, rfl⟩⟩
    · exact absurd z (by show ¬ (0 : Int) ≤ -1; decide)
    · by_cases q : j = t.toNat
      · rw [q, up_sk]
      · rw [up_nk (Or.inr q)]; exact hI j (by omega))
  (by
    rintro p M0 ⟨hp, h0, hG⟩ hM t M n ⟨hI, hf, ht, hμ⟩ -
    subst h0
    obtain ⟨n2, n9, n144⟩ := gY_n hG
    have e0 : M 0 = M0 0 := hf 0 (by decide) (by decide) (by decide) (by decide)
    have e1 : M 1 = M0 1 := hf 1 (by decide) (by decide) (by decide) (by decide)
    obtain ⟨hG1, eg⟩ := gY_congr hG e0
    have hκ0 : kiY M0 (M0 1) := fun _ _ => rfl
    rw [e0, n2]
    refine ⟨hp, fun h => ⟨rfl, fun κ hκ => ⟨fun j hj => ?_, hf⟩⟩, fun h => ⟨hp, rfl, by omega, fun h2 => ⟨by omega, (500 - (t + 1)).toNat, by omega, rfl, fun κ hκ => ?_, hf, by omega, rfl⟩, fun h2 => ?_⟩⟩
    · have r := hI κ hκ
      rw [show t.toNat = nT (gY M0) by omega] at r
      obtain ⟨z1, z2⟩ := r j hj
      have lf := lab_facts (κ := κ) hG.1 hj
      obtain ⟨z3, z4⟩ := z2 lf.1.1
      exact ⟨z1, z3, z4⟩
    · have r := hI κ hκ
      have z := (r t.toNat (by omega)).1
      rw [show (t + 1).toNat = t.toNat + 1 by omega]
      unfold bly
      rw [if_neg (by omega)]
      exact r
    · have pre : ∀ κ, kiY M0 κ → preFy t M κ (bly (gY M0) κ t.toNat) := fun κ hκ => by
        have r := hI κ hκ
        have z := (r t.toNat (by omega)).1
        exact ⟨fun j hj => by rw [e1]; exact hκ j hj, by rw [eg]; exact r, by rw [eg]; exact (BG_ly hG.1 t.toNat (by omega)).1, by rw [eg]; omega, by omega⟩
      refine ⟨⟨hp, rfl, hG1, _, _, pre _ hκ0⟩, ?_⟩
      rintro x2 M1 - - hC
      refine ⟨by omega, (500 - (t + 1)).toNat, by omega, rfl, fun κ hκ => ?_, fun b b5 b6 b7 b8 => by rw [(hC _ _ (pre _ hκ0)).2 b b5 b6 b7 b8]; exact hf b b5 b6 b7 b8, by omega, rfl⟩
      have c1 := (hC _ _ (pre κ hκ)).1
      have ng := (pre κ hκ).2.2.2.2
      rw [eg] at c1
      rw [show (t + 1).toNat = t.toNat + 1 by omega]
      unfold bly
      rw [if_pos ng, show ((t.toNat : Nat) : Int) = t by omega]
      exact c1)
theorem ok_X9_parts (hA : jA ad 12) : OK_X9_parts l D cy ad := met_X9_parts hA (ok_X9_layLabels hA)
  (fun p M0 c t M μ => (∀ κ, kiY M0 κ → layY M (gY M0) κ ∧ c = cntS (lab (gY M0) κ) t.toNat) ∧ (∀ b, b ≠ 5 → b ≠ 6 → b ≠ 7 → b ≠ 8 → M b = M0 b) ∧ (0 ≤ t ∧ t ≤ nT (gY M0)) ∧ μ = (500 - t).toNat)
  (by
    rintro p M0 ⟨hp, h0, hG⟩ hM
    subst h0
    refine ⟨⟨hp, rfl, hG⟩, ?_⟩
    rintro x2 M1 - - hC
    exact ⟨_, rfl, fun κ hκ => ⟨(hC κ hκ).1, rfl⟩, (hC _ (fun _ _ => rfl)).2, by omega, rfl⟩)
  (by
    rintro p M0 ⟨hp, h0, hG⟩ hM c t M n ⟨hI, hf, ht, hμ⟩ -
    subst h0
    obtain ⟨n2, n9, n144⟩ := gY_n hG
    have e0 : M 0 = M0 0 := hf 0 (by decide) (by decide) (by decide) (by decide)
    have hκ0 : kiY M0 (M0 1) := fun _ _ => rfl
    have cb : 0 ≤ c ∧ c ≤ t.toNat := by
      rw [(hI _ hκ0).2]
      exact sumF_b (fun j _ => if01 _)
    rw [e0, n2]
    have stp : ¬ (nT (gY M0) : Int) ≤ t → ∀ κ, kiY M0 κ → cntS (lab (gY M0) κ) (t + 1).toNat = c + if M 5 t.toNat = t then 1 else 0 := fun h κ hκ => by
      obtain ⟨r1, r2⟩ := hI κ hκ
      rw [show (t + 1).toNat = t.toNat + 1 by omega, r2, (r1 t.toNat (by omega)).1]
      show sumF _ t.toNat + (if lab (gY M0) κ t.toNat = ((t.toNat : Nat) : Int) then (1 : Int) else 0) = _
      rw [show ((t.toNat : Nat) : Int) = t by omega]
    refine ⟨hp, fun h => ⟨trivial, fun κ hκ => ⟨?_, (hI κ hκ).1, hf⟩⟩, fun h => ⟨hp, rfl, by omega, fun h2 => ⟨by omega, by omega, (500 - (t + 1)).toNat, by omega, rfl, fun κ hκ => ⟨(hI κ hκ).1, ?_⟩, hf, by omega, rfl⟩, fun h2 => ⟨by omega, by omega, (500 - (t + 1)).toNat, by omega, rfl, fun κ hκ => ⟨(hI κ hκ).1, ?_⟩, hf, by omega, rfl⟩⟩⟩
    · rw [(hI κ hκ).2, show t.toNat = nT (gY M0) by omega]
    · rw [stp h κ hκ, if_neg h2]
    · rw [stp h κ hκ, if_pos (Classical.byContradiction h2)])
theorem ok_X9_sizeOf (hA : jA ad 12) : OK_X9_sizeOf l D cy ad := met_X9_sizeOf hA
  (fun p f M0 c t M μ => M = M0 ∧ (∀ L, lbY M0 L → c = cntL L f t.toNat) ∧ (0 ≤ t ∧ t ≤ nT (gY M0)) ∧ μ = (500 - t).toNat)
  (by
    rintro p f M0 ⟨hp, h0, hG⟩ hM rf
    exact ⟨_, rfl, rfl, rfl, fun _ _ => rfl, by omega, rfl⟩)
  (by
    rintro p f M0 ⟨hp, h0, hG⟩ hM rf c t M n ⟨rfl, hI, ht, hμ⟩ -
    subst h0
    obtain ⟨n2, n9, n144⟩ := gY_n hG
    have cb : 0 ≤ c ∧ c ≤ t.toNat := by
      rw [hI (M 5) (fun _ _ => rfl)]
      exact sumF_b (fun j _ => if01 _)
    rw [n2]
    have stp : ¬ (nT (gY M) : Int) ≤ t → ∀ L, lbY M L → cntL L f (t + 1).toNat = c + if M 5 t.toNat = f then 1 else 0 := fun h L hL => by
      rw [show (t + 1).toNat = t.toNat + 1 by omega, hI L hL, hL t.toNat (by omega)]
      rfl
    refine ⟨hp, fun h => ⟨trivial, fun L hL => ?_, rfl⟩, fun h => ⟨hp, rfl, by omega, fun h2 => ⟨by omega, by omega, (500 - (t + 1)).toNat, by omega, rfl, rfl, rfl, fun L hL => ?_, by omega, rfl⟩, fun h2 => ⟨by omega, by omega, (500 - (t + 1)).toNat, by omega, rfl, rfl, rfl, fun L hL => ?_, by omega, rfl⟩⟩⟩
    · rw [hI L hL, show t.toNat = nT (gY M) by omega]
    · rw [stp h L hL, if_neg h2]
    · rw [stp h L hL, if_pos (Classical.byContradiction h2)])
theorem ok_X9_reach (hA : jA ad 12) : OK_X9_reach l D cy ad := met_X9_reach hA
  (fun p f M0 b t M μ => M = M0 ∧ (∀ L E, lbY M0 L → (∀ t : Nat, t < nT (gY M0) → M0 7 t = E t) → b = gdF L E f t.toNat) ∧ (0 ≤ t ∧ t ≤ nT (gY M0)) ∧ μ = (500 - t).toNat)
  (by
    rintro p f M0 ⟨hp, h0, hG⟩ hM rf
    exact ⟨_, rfl, rfl, rfl, fun _ _ _ _ => rfl, by omega, rfl⟩)
  (by
    rintro p f M0 ⟨hp, h0, hG⟩ hM rf b t M n ⟨rfl, hI, ht, hμ⟩ -
    subst h0
    obtain ⟨n2, n9, n144⟩ := gY_n hG
    rw [n2]
    have stp : ¬ (nT (gY M) : Int) ≤ t → ∀ L E, lbY M L → (∀ t : Nat, t < nT (gY M) → M 7 t = E t) → gdF L E f (t + 1).toNat = if M 5 t.toNat = f ∧ b < M 7 t.toNat then M 7 t.toNat else b := fun h L E hL hE => by
      rw [show (t + 1).toNat = t.toNat + 1 by omega, hI L E hL hE, hL t.toNat (by omega), hE t.toNat (by omega)]
      rfl
    refine ⟨hp, fun h => ⟨trivial, fun L E hL hE => ?_, rfl⟩, fun h => ⟨hp, rfl, by omega, fun h2 => ⟨by omega, (500 - (t + 1)).toNat, by omega, rfl, rfl, rfl, fun L E hL hE => ?_, by omega, rfl⟩, fun h2 => ⟨hp, rfl, by omega, fun h3 => ⟨by omega, (500 - (t + 1)).toNat, by omega, rfl, rfl, rfl, fun L E hL hE => ?_, by omega, rfl⟩, fun h3 => ⟨hp, rfl, by omega, by omega, (500 - (t + 1)).toNat, by omega, rfl, rfl, rfl, fun L E hL hE => ?_, by omega, rfl⟩⟩⟩⟩
    · rw [hI L E hL hE, show t.toNat = nT (gY M) by omega]
    · rw [stp h L E hL hE, if_neg (fun z => h2 z.1)]
    · rw [stp h L E hL hE, if_neg (fun z => by omega)]
    · rw [stp h L E hL hE, if_pos ⟨Classical.byContradiction h2, by omega⟩])
theorem ok_X9_border (hA : jA ad 12) : OK_X9_border l D cy ad := met_X9_border hA (ok_X9_next hA)
  (fun p f o M0 c k M μ => M = M0 ∧ (∀ κ, kiY M0 κ → layY M0 (gY M0) κ → c = (if o = 0 then sumF (qO (lab (gY M0) κ) (gY M0) f) k.toNat else sumF (qN (lab (gY M0) κ) (gY M0) f) k.toNat)) ∧ (0 ≤ k ∧ k ≤ 4 * (nT (gY M0) : Int)) ∧ μ = (1000 - k).toNat)
  (by
    rintro p f o M0 ⟨hp, h0, hG, κ0, hκ0, hl0⟩ hM rf ro
    exact ⟨_, rfl, rfl, rfl, rfl, fun _ _ _ => by split <;> rfl, by omega, rfl⟩)
  (by
    rintro p f o M0 ⟨hp, h0, hG, κ0, hκ0, hl0⟩ hM rf ro c k M n ⟨rfl, hI, hk, hμ⟩ -
    subst h0
    obtain ⟨n2, n9, n144⟩ := gY_n hG
    have cb : 0 ≤ c ∧ c ≤ k.toNat := by
      rw [hI κ0 hκ0 hl0]
      split
      · exact sumF_b (fun j _ => if01 _)
      · exact sumF_b (fun j _ => if01 _)
    rw [n2]
    refine ⟨hp, by omega, fun h => ⟨trivial, fun κ hκ hl => ?_, rfl⟩, fun h => ⟨⟨hk.1, by decide⟩, by decide, ⟨hp, rfl, hG, by omega, ?_⟩, ?_⟩⟩
    · rw [hI κ hκ hl, show k.toNat = nT (gY M) * 4 by omega]
    · rw [Int.tmod_eq_emod_of_nonneg hk.1]; omega
    rintro x2 M1 - - ⟨rfl, rfl⟩
    rw [Int.tmod_eq_emod_of_nonneg hk.1]
    have e : nxk (gY M1) k.toNat = nx (gY M1) (k / 4) (k % 4) := by unfold nxk; rw [show ((k.toNat / 4 : Nat) : Int) = k / 4 by omega, show ((k.toNat % 4 : Nat) : Int) = k % 4 by omega]
    have ek : k.toNat / 4 = (k / 4).toNat := by omega
    have ht : (k / 4).toNat < nT (gY M1) := by omega
    have hu := nx_b hG.1 (t := k / 4) (d := k % 4) (by omega) (by have := (nT_b hG.1).1; omega)
    have nE := (nT_b hG.1).1
    have k1 : (k + 1).toNat = k.toNat + 1 := by omega
    have nxt : ∀ v : Int, (∀ κ, kiY M1 κ → layY M1 (gY M1) κ → v = (if o = 0 then qO (lab (gY M1) κ) (gY M1) f k.toNat else qN (lab (gY M1) κ) (gY M1) f k.toNat)) → ∀ κ, kiY M1 κ → layY M1 (gY M1) κ → c + v = (if o = 0 then sumF (qO (lab (gY M1) κ) (gY M1) f) (k + 1).toNat else sumF (qN (lab (gY M1) κ) (gY M1) f) (k + 1).toNat) := fun v hv κ hκ hl => by
      rw [hv κ hκ hl, hI κ hκ hl, k1]
      split <;> rfl
    have out : ∀ v : Int, v = 0 ∨ v = 1 → (∀ κ, kiY M1 κ → layY M1 (gY M1) κ → v = (if o = 0 then qO (lab (gY M1) κ) (gY M1) f k.toNat else qN (lab (gY M1) κ) (gY M1) f k.toNat)) → inR (c + v) ∧ inR (k + 1) ∧ ∃ μ : Nat, μ < n ∧ (0 : Nat) = 0 ∧ f = f ∧ o = o ∧ (M1 = M1 ∧ (∀ κ, kiY M1 κ → layY M1 (gY M1) κ → c + v = (if o = 0 then sumF (qO (lab (gY M1) κ) (gY M1) f) (k + 1).toNat else sumF (qN (lab (gY M1) κ) (gY M1) f) (k + 1).toNat)) ∧ (0 ≤ k + 1 ∧ k + 1 ≤ 4 * (nT (gY M1) : Int)) ∧ μ = (1000 - (k + 1)).toNat) := fun v h01 hv =>
      ⟨by omega, by omega, (1000 - (k + 1)).toNat, by omega, rfl, rfl, rfl, rfl, nxt v hv, by omega, rfl⟩
    have off : ¬ M1 5 (k / 4).toNat = f → ∀ κ, kiY M1 κ → layY M1 (gY M1) κ → (0 : Int) = (if o = 0 then qO (lab (gY M1) κ) (gY M1) f k.toNat else qN (lab (gY M1) κ) (gY M1) f k.toNat) := fun z κ hκ hl => by
      rw [(hl _ ht).1] at z
      by_cases q : o = 0
      · rw [if_pos q]; unfold qO; rw [ek, if_neg (fun w => z w.1)]
      · rw [if_neg q]; unfold qN; rw [ek, if_neg (fun w => z w.1)]
    refine ⟨fun ho => ⟨fun h2 => ⟨hp, rfl, by omega, fun h3 => out 0 (Or.inl rfl) (off h3), fun h3 => ⟨fun _ => out 0 (Or.inl rfl) (fun κ hκ hl => ?_), fun y => absurd rfl y⟩⟩, fun h2 => ⟨hp, rfl, by omega, hp, rfl, by omega, fun h4 => ⟨hp, rfl, by omega, fun h3 => out 0 (Or.inl rfl) (off h3), fun h3 => ⟨fun _ => out 0 (Or.inl rfl) (fun κ hκ hl => ?_), fun y => absurd rfl y⟩⟩, fun h4 => ⟨hp, rfl, by omega, fun h3 => out 0 (Or.inl rfl) (off h3), fun h3 => ⟨fun y => absurd y (by decide), fun _ => out 1 (Or.inr rfl) (fun κ hκ hl => ?_)⟩⟩⟩⟩, fun ho => ⟨fun h2 => ⟨hp, rfl, by omega, fun h3 => out 0 (Or.inl rfl) (off h3), fun h3 => ⟨fun _ => out 0 (Or.inl rfl) (fun κ hκ hl => ?_), fun y => absurd rfl y⟩⟩, fun h2 => ⟨hp, rfl, by omega, fun h3 => out 0 (Or.inl rfl) (off h3), fun h3 => ⟨fun y => absurd y (by decide), fun _ => out 1 (Or.inr rfl) (fun κ hκ hl => ?_)⟩⟩⟩⟩
    · rw [if_pos ho]
      unfold qO
      rw [e, if_neg (fun w => by omega)]
    · have hul : (nx (gY M1) (k / 4) (k % 4)).toNat < nT (gY M1) := by omega
      have lt := lab_facts (κ := κ) hG.1 ht
      have h3' := Classical.byContradiction h3
      rw [(hl _ ht).1] at h3'
      rw [hκ _ (by omega), hκ _ (by omega)] at h4
      have := lt.2.2.2.2.2 (k % 4) (by omega) (by omega) (by rw [show (((k / 4).toNat : Nat) : Int) = k / 4 by omega]; omega) (by rw [show (((k / 4).toNat : Nat) : Int) = k / 4 by omega]; exact h4)
      rw [show (((k / 4).toNat : Nat) : Int) = k / 4 by omega] at this
      rw [if_pos ho]
      unfold qO
      rw [e, if_neg (fun w => w.2.2 (by rw [this, h3']))]
    · have hul : (nx (gY M1) (k / 4) (k % 4)).toNat < nT (gY M1) := by omega
      have lt := lab_facts (κ := κ) hG.1 ht
      have lu := lab_facts (κ := κ) hG.1 hul
      have h3' := Classical.byContradiction h3
      rw [(hl _ ht).1] at h3'
      rw [hκ _ (by omega), hκ _ (by omega)] at h4
      rw [if_pos ho]
      unfold qO
      rw [e, ek, if_pos ⟨h3', by omega, fun w => h4 (by rw [← lu.2.2.2.2.1, ← lt.2.2.2.2.1, w, h3'])⟩]
    · rw [if_neg ho]
      unfold qN
      rw [e, if_neg (fun w => by omega)]
    · have h3' := Classical.byContradiction h3
      rw [(hl _ ht).1] at h3'
      rw [if_neg ho]
      unfold qN
      rw [e, ek, if_pos ⟨h3', by omega⟩])
end Y2
