/-! ===== the class's walker and its kept maps ===== -/
theorem entW_5 {S : Nat → Int} {t : Int} : entW S t 5 = S 5 := by
  unfold entW
  split
  · rw [upR_n (by omega), upR_n (by omega), upR_n (by omega)]
  · rw [upR_n (by omega)]
theorem wkb_st {g S : Nat → Int} {n c : Int} (G : gOK g) (h : wkb g S n) : wkb g (stW g c S) (n + 1) := by
  obtain ⟨nE, n9, n144⟩ := nT_b G
  obtain ⟨h0, h1, h2, h3, h4, h5⟩ := h
  unfold stW
  split
  · exact ⟨h0, h1, h2, by omega, by omega, h5⟩
  · split
    · split
      · refine ⟨?_, ?_, ?_, ?_, ?_, ?_⟩
        · rw [upR_n (by omega)]; exact h0
        · rw [upR_n (by omega)]; exact h1
        · rw [upR_n (by omega)]; exact h2
        · rw [upR_n (by omega)]; omega
        · rw [upR_n (by omega)]; omega
        · rw [upR_s]; omega
      next hn =>
        have hb := (nx_b G (t := S 0) (d := S 1) h0.1 (by omega)).resolve_left (by omega)
        have e2 : (if flp g (S 0) (S 1) then 1 - S 2 else S 2) = 0 ∨ (if flp g (S 0) (S 1) then 1 - S 2 else S 2) = 1 := by split <;> omega
        generalize (if flp g (S 0) (S 1) then 1 - S 2 else S 2) = v at e2
        unfold entW
        split
        · refine ⟨?_, ?_, ?_, ?_, ?_, ?_⟩
          · rw [upR_n (by omega), upR_n (by omega), upR_s]; omega
          · rw [upR_n (by omega), upR_n (by omega), upR_n (by omega), upR_n (by omega), upR_n (by omega)]; exact h1
          · rw [upR_n (by omega), upR_n (by omega), upR_n (by omega), upR_n (by omega), upR_s]; exact e2
          · rw [upR_n (by omega), upR_n (by omega), upR_n (by omega), upR_s]; omega
          · rw [upR_s, upR_n (by omega), upR_n (by omega)]; omega
          · rw [upR_n (by omega), upR_n (by omega), upR_n (by omega), upR_n (by omega), upR_n (by omega)]; exact h5
        · refine ⟨?_, ?_, ?_, ?_, ?_, ?_⟩
          · rw [upR_s]; omega
          · rw [upR_n (by omega), upR_n (by omega), upR_n (by omega)]; exact h1
          · rw [upR_n (by omega), upR_n (by omega), upR_s]; exact e2
          · rw [upR_n (by omega), upR_s]; omega
          · rw [upR_n (by omega), upR_n (by omega), upR_n (by omega)]; omega
          · rw [upR_n (by omega), upR_n (by omega), upR_n (by omega)]; exact h5
    · refine ⟨?_, ?_, ?_, ?_, ?_, ?_⟩
      · rw [upR_n (by omega)]; exact h0
      · rw [upR_s]; unfold trn; split <;> split <;> omega
      · rw [upR_n (by omega)]; exact h2
      · rw [upR_n (by omega)]; omega
      · rw [upR_n (by omega)]; omega
      · rw [upR_n (by omega)]; exact h5
theorem wlk_b {g T : Nat → Int} {t y : Int} (G : gOK g) (ht : 0 ≤ t ∧ t < nT g) (hy : 0 ≤ y ∧ y < 4) : ∀ n : Nat, wkb g (wlk g T t y n) n := by
  intro n
  induction n with
  | zero =>
    have e0 : wlk g T t y 0 0 = t := rfl
    have e1 : wlk g T t y 0 1 = y := rfl
    have e2 : wlk g T t y 0 2 = 0 := by
      show (if (2 : Nat) = 0 then t else if (2 : Nat) = 1 then y else if (2 : Nat) = 4 ∨ (2 : Nat) = 5 ∨ (2 : Nat) = 6 + t.toNat then (1 : Int) else 0) = 0
      rw [if_neg (by omega), if_neg (by omega), if_neg (by omega)]
    have e3 : wlk g T t y 0 3 = 0 := by
      show (if (3 : Nat) = 0 then t else if (3 : Nat) = 1 then y else if (3 : Nat) = 4 ∨ (3 : Nat) = 5 ∨ (3 : Nat) = 6 + t.toNat then (1 : Int) else 0) = 0
      rw [if_neg (by omega), if_neg (by omega), if_neg (by omega)]
    have e4 : wlk g T t y 0 4 = 1 := rfl
    have e5 : wlk g T t y 0 5 = 1 := rfl
    exact ⟨by rw [e0]; exact ht, by rw [e1]; exact hy, by rw [e2]; exact Or.inl rfl, by rw [e3]; omega, by rw [e4]; omega, by rw [e5]; exact Or.inr rfl⟩
  | succ n ih => exact wkb_st G ih
theorem wlk_stay {g T : Nat → Int} {t y : Int} {n : Nat} (h : wlk g T t y n 5 = 0) : ∀ j : Nat, wlk g T t y (n + j) = wlk g T t y n := by
  intro j
  induction j with
  | zero => rfl
  | succ j ih =>
    show stW g (T (n + j)) (wlk g T t y (n + j)) = _
    rw [ih]
    unfold stW
    rw [if_pos h]
theorem flp_b {g : Nat → Int} {t d : Int} (hn : 0 ≤ nx g t d) : bAnd (cx g t d) 4 = 0 ↔ ¬ flp g t d := by
  unfold cx
  rw [if_neg (by omega)]
  unfold flp cxb
  have c0 : bAnd 0 4 = 0 := by decide
  have c1 : bAnd 1 4 = 0 := by decide
  have c2 : bAnd 2 4 = 0 := by decide
  have c5 : bAnd 5 4 = 4 := by decide
  have c6 : bAnd 6 4 = 4 := by decide
  rcases sm_b (g := g) (t := t) (d := d) with q | q | q
  · rw [q, if_neg (by decide), if_neg (by decide), c0]
    exact ⟨fun _ => by omega, fun _ => rfl⟩
  · rw [q, if_pos rfl]
    by_cases z : g 2 = 2
    · rw [if_pos z, c5]; omega
    · rw [if_neg z, c1]; omega
  · rw [q, if_neg (by decide), if_pos rfl]
    by_cases z : g 4 = 2
    · rw [if_pos z, c6]; omega
    · rw [if_neg z, c2]; omega
section WK
variable {l : Launch} {D : va_G} {cy : Nat → ClassId} {ad : Nat → Nat}
theorem ok_X6_enter (hA : jA ad 46) : OK_X6_enter l D cy ad := met_X6_enter hA (by
  rintro p t M0 ⟨hp, h14, ht, h6⟩ hM rt
  subst h14
  have e15 : up M0 14 2 t 15 = M0 15 := up_n (by decide)
  refine ⟨hp, hp, rfl, ht, fun h => ⟨rfl, fun S hW => ?_, fun b b1 b2 => by rw [up_n b1]⟩, fun h => ⟨hp, rfl, ht, Or.inr rfl, hp, ?_, hp, rfl, fun S hW => ?_, fun b b1 b2 => by rw [up_n b1, up_n b2, up_n b1]⟩⟩
  · rw [e15] at h
    obtain ⟨w2, w3, w4, w5, w6, w15⟩ := hW
    unfold entW
    rw [if_neg (by rw [← w15 _ (by omega)]; exact h)]
    refine ⟨?_, ?_, ?_, ?_, ?_, fun j hj => ?_⟩
    · rw [up_sk, upR_s]
    · rw [up_nk (Or.inr (by decide)), upR_n (by decide)]; exact w3
    · rw [up_nk (Or.inr (by decide)), upR_n (by decide)]; exact w4
    · rw [up_nk (Or.inr (by decide)), upR_n (by decide)]; exact w5
    · rw [up_nk (Or.inr (by decide)), upR_n (by decide)]; exact w6
    · rw [e15, upR_n (by omega)]; exact w15 j hj
  · rw [up_n (by decide), up_nk (Or.inr (by decide))]; omega
  · have h2 := Classical.byContradiction h
    rw [e15] at h2
    obtain ⟨w2, w3, w4, w5, w6, w15⟩ := hW
    unfold entW
    rw [if_pos (by rw [← w15 _ (by omega)]; exact h2)]
    refine ⟨?_, ?_, ?_, ?_, ?_, fun j hj => ?_⟩
    · rw [up_nk (Or.inr (by decide)), up_n (by decide), up_sk, upR_n (by omega), upR_n (by omega), upR_s]
    · rw [up_nk (Or.inr (by decide)), up_n (by decide), up_nk (Or.inr (by decide)), upR_n (by omega), upR_n (by omega), upR_n (by omega)]; exact w3
    · rw [up_nk (Or.inr (by decide)), up_n (by decide), up_nk (Or.inr (by decide)), upR_n (by omega), upR_n (by omega), upR_n (by omega)]; exact w4
    · rw [up_nk (Or.inr (by decide)), up_n (by decide), up_nk (Or.inr (by decide)), upR_n (by omega), upR_n (by omega), upR_n (by omega)]; exact w5
    · rw [up_sk, up_n (by decide), up_nk (Or.inr (by decide)), upR_s, w6]
    · rw [up_n (by decide), up_s, e15]
      by_cases q : j = t.toNat
      · rw [q, upR_s, upR_n (by omega), upR_s]
      · rw [upR_n q, upR_n (by omega), upR_n (by omega), upR_n (by omega)]; exact w15 j hj)
theorem ok_X6_begin (hA : jA ad 46) : OK_X6_begin l D cy ad := met_X6_begin hA (ok_X6_enter hA)
  (fun p t y M0 k M μ => (∀ j : Nat, (j : Int) < k → M 15 j = 0) ∧ (∀ b, b ≠ 15 → M b = M0 b) ∧ (0 ≤ k ∧ k ≤ 144) ∧ μ = (500 - k).toNat)
  (by
    rintro p t y M0 ⟨hp, h14, ht⟩ hM rt ry
    exact ⟨_, rfl, rfl, rfl, fun j hj => by omega, fun _ _ => rfl, by omega, rfl⟩)
  (by
    rintro p t y M0 ⟨hp, h14, ht⟩ hM rt ry k M n ⟨hI, hf, hk, hμ⟩ -
    subst h14
    refine ⟨fun h => ⟨hp, hp, hp, hp, ⟨hp, rfl, ht, ?_⟩, ?_⟩, fun h => ⟨hp, rfl, by omega, Or.inl rfl, by omega, (500 - (k + 1)).toNat, by omega, rfl, rfl, rfl, fun j hj => ?_, fun b q => by rw [up_n q]; exact hf b q, by omega, rfl⟩⟩
    · rw [up_sk]; omega
    · rintro x2 M1 - - ⟨hE, hF⟩
      have hW : WR (up (up (up (up M 14 3 y) 14 4 0) 14 5 0) 14 6 0) (fun i => if i = 0 then M 14 2 else if i = 1 then y else if i = 5 then 1 else 0) := by
        refine ⟨?_, ?_, ?_, ?_, ?_, fun j hj => ?_⟩
        · rw [up_nk (Or.inr (by decide)), up_nk (Or.inr (by decide)), up_nk (Or.inr (by decide)), up_nk (Or.inr (by decide))]; rfl
        · rw [up_nk (Or.inr (by decide)), up_nk (Or.inr (by decide)), up_nk (Or.inr (by decide)), up_sk]; rfl
        · rw [up_nk (Or.inr (by decide)), up_nk (Or.inr (by decide)), up_sk]; rfl
        · rw [up_nk (Or.inr (by decide)), up_sk]; rfl
        · rw [up_sk]; rfl
        · rw [up_n (by decide), up_n (by decide), up_n (by decide), up_n (by decide), hI j (by omega)]
          show 0 = if 6 + j = 0 then _ else _
          rw [if_neg (by omega), if_neg (by omega), if_neg (by omega)]
      have h1 := hE _ hW
      have e : entW (fun i => if i = 0 then M 14 2 else if i = 1 then y else if i = 5 then 1 else 0) t = wlk (gX M0) (M0 13) t y 0 := by
        unfold entW
        rw [if_pos (by show (if 6 + t.toNat = 0 then M 14 2 else if 6 + t.toNat = 1 then y else if 6 + t.toNat = 5 then (1 : Int) else 0) = 0; rw [if_neg (by omega), if_neg (by omega), if_neg (by omega)])]
        funext i
        show _ = if i = 0 then t else if i = 1 then y else if i = 4 ∨ i = 5 ∨ i = 6 + t.toNat then (1 : Int) else 0
        simp only [upR]
        (repeat' split) <;> omega
      rw [e] at h1
      exact ⟨rfl, h1, fun b b1 b2 => by rw [hF b b1 b2, up_n b1, up_n b1, up_n b1, up_n b1]; exact hf b b2⟩
    · by_cases q : j = k.toNat
      · subst q; rw [up_sk]
      · rw [up_nk (Or.inr q)]; exact hI j (by omega))
theorem ok_X6_turn (hA : jA ad 46) : OK_X6_turn l D cy ad := met_X6_turn hA (by
  rintro p c M0 ⟨hp, h14, hc, hh⟩ hM rc
  subst h14
  have key : ∀ v, v = trn (decide (c ≠ 0)) (M0 14 4) (M0 14 3) → c_X6_turn 14 c M0 0 (up M0 14 3 v) := fun v hv => by rw [hv]
  have dn : ∀ v, (decide (c ≠ 0) = decide (M0 14 4 = 0)) → v = (if M0 14 3 = 3 then 0 else M0 14 3 + 1) → c_X6_turn 14 c M0 0 (up M0 14 3 v) := fun v q hv => key v (by unfold trn; rw [if_pos q]; exact hv)
  have un : ∀ v, (decide (c ≠ 0) ≠ decide (M0 14 4 = 0)) → v = (if M0 14 3 = 0 then 3 else M0 14 3 - 1) → c_X6_turn 14 c M0 0 (up M0 14 3 v) := fun v q hv => key v (by unfold trn; rw [if_neg q]; exact hv)
  refine ⟨hp, fun h => ⟨fun h2 => ?_, fun h2 => ?_⟩, fun h => ⟨fun h2 => ?_, fun h2 => ?_⟩⟩
  · have q : decide (c ≠ 0) ≠ decide (M0 14 4 = 0) := by rw [decide_eq_true h2, decide_eq_false h]; decide
    refine ⟨fun _ => ⟨hp, fun h4 => ⟨hp, by omega, hp, rfl, un _ q (by rw [if_neg h4])⟩, fun h4 => ⟨hp, rfl, un _ q (by rw [if_pos (Classical.byContradiction h4)])⟩⟩, fun y => absurd rfl y⟩
  · have q : decide (c ≠ 0) = decide (M0 14 4 = 0) := by rw [decide_eq_false h2, decide_eq_false h]
    refine ⟨fun y => absurd y (by decide), fun _ => ⟨hp, fun h4 => ⟨hp, by omega, hp, rfl, dn _ q (by rw [if_neg h4])⟩, fun h4 => ⟨hp, rfl, dn _ q (by rw [if_pos (Classical.byContradiction h4)])⟩⟩⟩
  · have q : decide (c ≠ 0) ≠ decide (M0 14 4 = 0) := by rw [decide_eq_false (by omega), decide_eq_true (Classical.byContradiction h)]; decide
    refine ⟨fun _ => ⟨hp, fun h4 => ⟨hp, by omega, hp, rfl, un _ q (by rw [if_neg h4])⟩, fun h4 => ⟨hp, rfl, un _ q (by rw [if_pos (Classical.byContradiction h4)])⟩⟩, fun y => absurd rfl y⟩
  · have q : decide (c ≠ 0) = decide (M0 14 4 = 0) := by rw [decide_eq_true (by omega), decide_eq_true (Classical.byContradiction h)]
    refine ⟨fun y => absurd y (by decide), fun _ => ⟨hp, fun h4 => ⟨hp, by omega, hp, rfl, dn _ q (by rw [if_neg h4])⟩, fun h4 => ⟨hp, rfl, dn _ q (by rw [if_pos (Classical.byContradiction h4)])⟩⟩⟩)
theorem ok_X6_step (hA : jA ad 46) : OK_X6_step l D cy ad := met_X6_step hA (ok_X3_crossing hA) (ok_X3_next hA) (ok_X6_enter hA) (by
  rintro p M0 ⟨hp, h14, hS, S0, n0, hW0, hb0, h50, hn0⟩ hM
  subst h14
  obtain ⟨nE, n9, n144⟩ := nT_b hS.1
  obtain ⟨w2, w3, w4, w5, w6, w15⟩ := id hW0
  obtain ⟨b0, b1, b2, b3, b4, b5⟩ := id hb0
  refine ⟨hp, hp, hp, ⟨rfl, rfl, by omega, by omega⟩, ?_⟩
  rintro x2 M1 - - ⟨rfl, rfl⟩
  have hT := hS.2 (M1 14 2) (M1 14 3) (by omega) (by omega) (by omega) (by omega)
  rw [hT.1]
  refine ⟨fun h => ⟨hp, hp, hp, ⟨rfl, rfl, by omega, by omega⟩, ?_⟩, fun h => ⟨Or.inl rfl, fun S n ⟨hW, hb, h5, hn⟩ => ?_, fun _ _ _ => rfl⟩⟩
  · rintro x4 M3 - - ⟨rfl, rfl⟩
    rw [hT.2]
    have hu := (nx_b hS.1 (t := M3 14 2) (d := M3 14 3) (by omega) (by omega)).resolve_left (by omega)
    have hfl := flp_b (g := gX M3) (t := M3 14 2) (d := M3 14 3) h
    have leaf : ∀ (v : Int) (M : Mem), v = (if flp (gX M3) (M3 14 2) (M3 14 3) then 1 - M3 14 4 else M3 14 4) → (M 14 2 = M3 14 2 ∧ M 14 3 = M3 14 3 ∧ M 14 4 = v ∧ M 14 5 = M3 14 5 + 1 ∧ M 14 6 = M3 14 6 ∧ M 15 = M3 15) → (∀ b, b ≠ 14 → b ≠ 15 → M b = M3 b) → ∀ x6 M5, c_X6_enter 14 (nx (gX M3) (M3 14 2) (M3 14 3)) M x6 M5 → c_X6_step 14 M3 1 M5 := by
      rintro v M hv ⟨m2, m3, m4, m5, m6, m15⟩ hf x6 M5 ⟨hE, hF⟩
      refine ⟨fun S n ⟨hW, hb, h5, hn⟩ => ?_, fun b q1 q2 => by rw [hF b q1 q2, hf b q1 q2]⟩
      obtain ⟨v2, v3, v4, v5, v6, v15⟩ := hW
      have e : stW (gX M3) 102 S = entW (upR (upR S 2 v) 3 (S 3 + 1)) (nx (gX M3) (M3 14 2) (M3 14 3)) := by
        unfold stW
        rw [if_neg (by omega), if_pos rfl, ← v2, ← v3, ← v4, if_neg (by omega), ← hv]
      rw [e]
      refine ⟨hE _ ⟨?_, ?_, ?_, ?_, ?_, fun j hj => ?_⟩, ?_⟩
      · rw [upR_n (by decide), upR_n (by decide), m2]; exact v2
      · rw [upR_n (by decide), upR_n (by decide), m3]; exact v3
      · rw [upR_n (by decide), upR_s, m4]
      · rw [upR_s, m5, v5]
      · rw [upR_n (by decide), upR_n (by decide), m6]; exact v6
      · rw [upR_n (by omega), upR_n (by omega), m15]; exact v15 j hj
      · rw [entW_5, upR_n (by decide), upR_n (by decide), h5]
    refine ⟨fun h2 => ⟨hp, by omega, hp, ⟨hp, rfl, by omega, ?_⟩, ?_⟩, fun h2 => ⟨hp, by omega, hp, hp, ?_, hp, ⟨hp, rfl, by omega, ?_⟩, ?_⟩⟩
    · rw [up_nk (Or.inr (by decide))]; omega
    · rintro x6 M5 - - hc
      refine ⟨Or.inr rfl, leaf (M3 14 4) _ (by rw [if_neg (hfl.mp h2)]) ⟨?_, ?_, ?_, ?_, ?_, ?_⟩ (fun b q1 q2 => up_n q1) x6 M5 hc⟩
      · rw [up_nk (Or.inr (by decide))]
      · rw [up_nk (Or.inr (by decide))]
      · rw [up_nk (Or.inr (by decide))]
      · rw [up_sk]
      · rw [up_nk (Or.inr (by decide))]
      · rw [up_n (by decide)]
    · rw [up_nk (Or.inr (by decide))]; omega
    · rw [up_nk (Or.inr (by decide)), up_nk (Or.inr (by decide))]; omega
    · rintro x8 M7 - - hc
      refine ⟨Or.inr rfl, leaf (1 - M3 14 4) _ (by rw [if_pos (Classical.byContradiction (fun z => h2 (hfl.mpr z)))]) ⟨?_, ?_, ?_, ?_, ?_, ?_⟩ (fun b q1 q2 => by rw [up_n q1, up_n q1]) x8 M7 hc⟩
      · rw [up_nk (Or.inr (by decide)), up_nk (Or.inr (by decide))]
      · rw [up_nk (Or.inr (by decide)), up_nk (Or.inr (by decide))]
      · rw [up_nk (Or.inr (by decide)), up_sk]
      · rw [up_sk, up_nk (Or.inr (by decide))]
      · rw [up_nk (Or.inr (by decide)), up_nk (Or.inr (by decide))]
      · rw [up_n (by decide), up_n (by decide)]
  · obtain ⟨v2, v3, v4, v5, v6, v15⟩ := hW
    have e : stW (gX M1) 102 S = upR S 5 0 := by
      unfold stW
      rw [if_neg (by omega), if_pos rfl, ← v2, ← v3, if_pos (by omega)]
    rw [e]
    refine ⟨⟨?_, ?_, ?_, ?_, ?_, fun j hj => ?_⟩, (upR_s).symm⟩
    · rw [upR_n (by decide)]; exact v2
    · rw [upR_n (by decide)]; exact v3
    · rw [upR_n (by decide)]; exact v4
    · rw [upR_n (by decide)]; exact v5
    · rw [upR_n (by decide)]; exact v6
    · rw [upR_n (by omega)]; exact v15 j hj)
theorem ok_X6_obey (hA : jA ad 46) : OK_X6_obey l D cy ad := met_X6_obey hA (ok_X6_step hA) (ok_X6_turn hA) (by
  rintro p c M0 ⟨hp, h14, hc, hS, S0, n0, hp0⟩ hM rc
  subst h14
  obtain ⟨hW0, hb0, h50, hn0⟩ := id hp0
  obtain ⟨w2, w3, w4, w5, w6, w15⟩ := id hW0
  obtain ⟨b0, b1, b2, b3, b4, b5⟩ := id hb0
  have leaf : ∀ r : Bool, r = decide (c = 114) → c ≠ 102 → c_X6_obey 14 c M0 1 (up M0 14 3 (trn r (M0 14 4) (M0 14 3))) := fun r hr h => by
    refine ⟨fun S n ⟨hW, hb, h5, hn⟩ => ?_, fun b q1 q2 => up_n q1⟩
    obtain ⟨v2, v3, v4, v5, v6, v15⟩ := hW
    have e : stW (gX M0) c S = upR S 1 (trn r (M0 14 4) (M0 14 3)) := by
      unfold stW
      rw [if_neg (by omega), if_neg h, ← hr, v4, v3]
    rw [e]
    refine ⟨⟨?_, ?_, ?_, ?_, ?_, fun j hj => ?_⟩, ?_⟩
    · rw [up_nk (Or.inr (by decide)), upR_n (by decide)]; exact v2
    · rw [up_sk, upR_s]
    · rw [up_nk (Or.inr (by decide)), upR_n (by decide)]; exact v4
    · rw [up_nk (Or.inr (by decide)), upR_n (by decide)]; exact v5
    · rw [up_nk (Or.inr (by decide)), upR_n (by decide)]; exact v6
    · rw [up_n (by decide), upR_n (by omega)]; exact v15 j hj
    · rw [upR_n (by decide), h5]
  refine ⟨fun h => ⟨fun h2 => ⟨⟨hp, rfl, by omega, by omega⟩, ?_⟩, fun h2 => ⟨⟨hp, rfl, by omega, by omega⟩, ?_⟩⟩, fun h => ⟨⟨hp, rfl, hS, S0, n0, hp0⟩, ?_⟩⟩
  · rintro x2 M1 - - rfl
    exact ⟨Or.inr rfl, leaf _ (by rw [decide_eq_false h2]; rfl) h⟩
  · rintro x2 M1 - - rfl
    exact ⟨Or.inr rfl, leaf _ (by rw [decide_eq_true (Classical.byContradiction h2)]; rfl) h⟩
  · rintro x6 M5 - - ⟨hE, hF⟩
    have e := (hE S0 n0 hp0).2
    have := (wkb_st (c := 102) hS.1 hb0).2.2.2.2.2
    exact ⟨by omega, by rw [Classical.byContradiction h]; exact ⟨hE, hF⟩⟩)
theorem ok_X6_follow (hA : jA ad 46) : OK_X6_follow l D cy ad := met_X6_follow hA (ok_X4_at hA) (ok_X4_length hA) (ok_X6_begin hA) (ok_X6_obey hA)
  (fun p q t y M0 g k M μ => WR M (wlk (gX M0) (M0 13) t y k.toNat) ∧ g = wlk (gX M0) (M0 13) t y k.toNat 5 ∧ (∀ b, b ≠ 14 → b ≠ 15 → M b = M0 b) ∧ (0 ≤ k ∧ k ≤ M0 12 1) ∧ μ = (500 - k).toNat)
  (by
    rintro p q t y M0 ⟨hp, h14, h12, hS, hl, hT, ht, hy⟩ hM rt ry
    obtain ⟨nE, n9, n144⟩ := nT_b hS.1
    refine ⟨⟨hp, h14, by omega⟩, ?_⟩
    rintro x2 M1 - - ⟨hW, hF⟩
    exact ⟨_, rfl, rfl, rfl, rfl, hW, rfl, hF, by omega, rfl⟩)
  (by
    rintro p q t y M0 ⟨hp, h14, h12, hS, hl, hT, ht, hy⟩ hM rt ry g k M n ⟨hI, hg, hf, hk, hμ⟩ -
    subst h14 h12
    obtain ⟨hS1, eg⟩ := surf_congr (M' := M) hS (fun b q1 q2 => hf b (by omega) (by omega))
    have hwb := wlk_b (T := M0 13) hS.1 ht hy k.toNat
    have e12 : M 12 = M0 12 := hf 12 (by decide) (by decide)
    have e13 : M 13 = M0 13 := hf 13 (by decide) (by decide)
    refine ⟨⟨rfl, rfl⟩, ?_⟩
    rintro x2 M1 - - ⟨rfl, rfl⟩
    rw [e12]
    refine ⟨fun h => ⟨rfl, ?_, hf⟩, fun h => ⟨fun h2 => ⟨rfl, ?_, hf⟩, fun h2 => ⟨⟨rfl, rfl, by omega, by rw [e13]; exact hT _ (by omega)⟩, ?_⟩⟩⟩
    · rw [show (M0 12 1).toNat = k.toNat by omega]; exact hI
    · have := wlk_stay (g := gX M0) (T := M0 13) (t := t) (y := y) (n := k.toNat) (by omega) ((M0 12 1).toNat - k.toNat)
      rw [show k.toNat + ((M0 12 1).toNat - k.toNat) = (M0 12 1).toNat by omega] at this
      rw [this]; exact hI
    · rintro x4 M3 - - ⟨rfl, rfl⟩
      rw [e13]
      have h51 : wlk (gX M0) (M0 13) t y k.toNat 5 = 1 := by have := hwb.2.2.2.2.2; omega
      have hpre : preWk M3 (wlk (gX M0) (M0 13) t y k.toNat) k.toNat := ⟨hI, by rw [eg]; exact hwb, h51, by omega⟩
      refine ⟨⟨hp, rfl, hT _ (by omega), hS1, _, _, hpre⟩, ?_⟩
      rintro x6 M5 - - ⟨hE, hF⟩
      obtain ⟨r1, r2⟩ := hE _ _ hpre
      rw [eg] at r1 r2
      have ek : wlk (gX M0) (M0 13) t y (k + 1).toNat = stW (gX M0) (M0 13 k.toNat) (wlk (gX M0) (M0 13) t y k.toNat) := by
        rw [show (k + 1).toNat = k.toNat + 1 by omega]; rfl
      exact ⟨by omega, (500 - (k + 1)).toNat, by omega, rfl, rfl, rfl, rfl, by rw [ek]; exact r1, by rw [ek]; exact r2, fun b b1 b2 => by rw [hF b b1 b2]; exact hf b b1 b2, by omega, rfl⟩)
theorem ok_X6_tell (hA : jA ad 46) : OK_X6_tell l D cy ad := met_X6_tell hA (by
  rintro p w M0 ⟨hp, h14, hw⟩ hM rw_
  subst h14
  refine ⟨fun h => ⟨hp, trivial, fun S hW => ?_, rfl⟩, fun h => ⟨hp, trivial, fun S hW => ?_, rfl⟩, fun h => ⟨hp, trivial, fun S hW => ?_, rfl⟩, fun h => ⟨hp, trivial, fun S hW => ?_, rfl⟩, fun h => ⟨hp, trivial, fun S hW => ?_, rfl⟩, trivial⟩ <;> obtain ⟨v2, v3, v4, v5, v6, v15⟩ := hW
  · rw [show w.toNat = 4 by omega]; exact v6
  · rw [show w.toNat = 0 by omega]; exact v2
  · rw [show w.toNat = 1 by omega]; exact v3
  · rw [show w.toNat = 2 by omega]; exact v4
  · rw [show w.toNat = 3 by omega]; exact v5)
end WK
