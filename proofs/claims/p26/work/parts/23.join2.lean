/-! the tables are laid, the seams -/
section JOIN2
variable {l : Launch} {D : va_G} {cy : Nat → ClassId} {ad : Nat → Nat}
/-- the inner steps, and those over the side seam from the rows ahead of k -/
def Sdk (g : Nat → Int) (k : Int) : Int → Int → Bool := fun t a => decide (sm g t a = 0 ∨ (sm g t a = 1 ∧ t < g 0 * k))
/-- all but those over the end seam from the columns from k on -/
def Sek (g : Nat → Int) (k : Int) : Int → Int → Bool := fun t a => decide (sm g t a = 0 ∨ sm g t a = 1 ∨ t < g 0 * (g 1 - 1) + k)
theorem cxb1 {g : Nat → Int} : cxb g 1 = if g 2 = 2 then 5 else 1 := by unfold cxb; rw [if_pos rfl]
theorem cxb2 {g : Nat → Int} : cxb g 2 = if g 4 = 2 then 6 else 2 := by unfold cxb; rw [if_neg (by decide), if_pos rfl]
theorem sm_le {g : Nat → Int} (G : gOK g) {t : Int} (h0 : 0 ≤ t) (h1 : t < g 0 * g 1) : (sm g t 0 = 0 ∨ sm g t 0 = 1) ∧ (sm g t 1 = 0 ∨ (sm g t 1 = 2 ∧ g 0 * (g 1 - 1) ≤ t)) := by
  obtain ⟨hx, hy, ht⟩ := idx_t (by have := G.1; omega) h0 h1
  obtain ⟨s0, s1, -⟩ := sm_inner G hy hx
  rw [← ht] at s0 s1
  refine ⟨by rw [s0]; split <;> omega, ?_⟩
  rw [s1]
  split
  · exact Or.inl rfl
  · refine Or.inr ⟨rfl, ?_⟩
    have e : t / g 0 = g 1 - 1 := by omega
    rw [← e]; omega
theorem ok_X3_joinSide (hA : jA ad 46) : OK_X3_joinSide l D cy ad := met_X3_joinSide hA (ok_X2_crossing hA) (ok_X2_placeBeyond hA) (ok_X2_style hA) (ok_X3_join hA)
  (fun p M0 r M μ => ¬ gX M0 2 = 0 ∧ tabS (gX M0) (Sdk (gX M0) r) M ∧ (∀ b, b ≠ 4 → b ≠ 5 → M b = M0 b) ∧ (0 ≤ r ∧ r ≤ gX M0 1) ∧ μ = (13 - r).toNat)
  (by
    rintro p M0 ⟨hp, h1, G, hT⟩ hM
    subst h1
    refine ⟨hp, rfl, ?_⟩
    rintro x2 M1 - - ⟨rfl, rfl⟩
    refine ⟨fun h => ⟨_, rfl, h, tabS_congr G hT (fun t a q0 q1 qa _ => ?_), fun b _ _ => rfl, by have := G.2.1; omega, rfl⟩, fun h => ⟨rfl, tabS_congr G hT (fun t a q0 q1 qa qn => ?_), fun b _ _ => rfl⟩⟩
    · unfold Sdk Sin
      rw [decide_eq_decide, Int.mul_zero]
      omega
    · unfold Ssd Sin
      rw [decide_eq_decide]
      refine ⟨fun q => q.resolve_right fun q2 => ?_, Or.inl⟩
      have h3 : gX M1 2 = 0 := Classical.byContradiction h
      unfold nx opn at qn
      unfold sm at q2
      rw [if_neg (by omega)] at qn
      omega)
  (by
    rintro p M0 ⟨hp, h1, G, hT⟩ hM r M n ⟨h2, hS, hf, hr, hn⟩ -
    subst h1
    have e4 : M 1 4 = gX M0 0 := by rw [hf 1 (by decide) (by decide)]; rfl
    have e5 : M 1 5 = gX M0 1 := by rw [hf 1 (by decide) (by decide)]; rfl
    have e20 : M 2 0 = gX M0 2 := by rw [hf 2 (by decide) (by decide)]; rfl
    have e21 : M 2 1 = gX M0 3 := by rw [hf 2 (by decide) (by decide)]; rfl
    obtain ⟨G1, G2, G3, G4, -⟩ := id G
    rw [e4, e5]
    have em : r * gX M0 0 = gX M0 0 * r := Int.mul_comm _ _
    rw [em]
    refine ⟨hp, fun h => ⟨rfl, tabS_congr G hS (fun t a q0 q1 qa _ => ?_), hf⟩, fun h => ?_⟩
    · unfold Ssd Sdk
      rw [decide_eq_decide, show r = gX M0 1 by omega]
      omega
    · have hrl : r < gX M0 1 := by omega
      obtain ⟨b1, b2⟩ := idx_b (w := gX M0 0) (h := gX M0 1) (x := gX M0 0 - 1) (y := r) (by omega) (by omega) hr.1 hrl
      have hN := gN G
      obtain ⟨s0, -, -, -, n0, -⟩ := sm_inner G (r := r) (c := gX M0 0 - 1) ⟨hr.1, hrl⟩ ⟨by omega, by omega⟩
      rw [if_neg (by omega)] at s0
      have n0 := n0 (by omega)
      rw [if_neg h2] at n0
      have acb := ac_b (k := gX M0 2) (s := gX M0 3) (a := r) (b := gX M0 1) (f := true) hr.1 hrl G4.1 G4.2
      have ub := (nx_b G (d := 0) b1 b2).resolve_left (by
        rw [n0]
        have := Int.mul_nonneg (a := gX M0 0) (b := ac (gX M0 2) (gX M0 3) r (gX M0 1) true) (by omega) acb.1
        omega)
      rw [n0] at ub
      have et : gX M0 0 * r + gX M0 0 - 1 = gX M0 0 * r + (gX M0 0 - 1) := by omega
      refine ⟨hp, by omega, hp, by omega, by omega, hp, hp, ⟨rfl, ⟨hr.1, hrl⟩, by omega, by omega⟩, ?_⟩
      rintro x2 M1 - - ⟨rfl, rfl⟩
      rw [e20, e21, e4, Int.mul_comm (ac _ _ _ _ _) (gX M0 0)]
      refine ⟨hp, by omega, hp, ⟨rfl, Or.inl rfl⟩, ?_⟩
      rintro x4 M3 - - ⟨rfl, rfl⟩
      refine ⟨⟨hp, rfl, by omega, Or.inl rfl, by omega⟩, ?_⟩
      rintro x6 M5 - - rfl
      refine ⟨by omega, (13 - (r + 1)).toNat, by omega, rfl, h2, ?_, fun b q4 q5 => by rw [join_fr q4 q5]; exact hf b q4 q5, by omega, rfl⟩
      rw [et, e20]
      refine tabS_congr G (join_S G hS b1 b2 (Or.inl rfl) n0 ub.1 ?_) (fun t a q0 q1 qa _ => ?_)
      · rw [s0, cxb1]
        split <;> rfl
      · unfold addS Sdk
        have e6 : gX M0 0 * (r + 1) = gX M0 0 * r + gX M0 0 := by rw [Int.mul_add, Int.mul_one]
        rw [Bool.eq_iff_iff, Bool.or_eq_true, decide_eq_true_eq, decide_eq_true_eq, decide_eq_true_eq, e6]
        constructor
        · rintro (q | ⟨q, q3⟩)
          · exact Or.inl (Or.inl q)
          · by_cases hl : t < gX M0 0 * r
            · exact Or.inl (Or.inr ⟨q, hl⟩)
            · refine Or.inr ?_
              obtain ⟨sl1, sl2⟩ := sm_le G q0 q1
              have ha0 : a = 0 := by rcases qa with rfl | rfl; rfl; omega
              refine ⟨?_, ha0⟩
              rw [ha0] at q
              obtain ⟨hx, hy, ht⟩ := idx_t (t := t) (by have := G.1; omega) q0 q1
              have hy2 : t / gX M0 0 = r := by
                have a1 : ¬ r + 1 ≤ t / gX M0 0 := fun z => by
                  have := Int.mul_le_mul_of_nonneg_left (c := gX M0 0) z (by omega)
                  rw [e6] at this; omega
                have a2 : ¬ t / gX M0 0 ≤ r - 1 := fun z => by
                  have := Int.mul_le_mul_of_nonneg_left (c := gX M0 0) z (by omega)
                  rw [Int.mul_sub, Int.mul_one] at this; omega
                omega
              obtain ⟨z0, -⟩ := sm_inner G hy hx
              rw [← ht, q] at z0
              rw [hy2] at ht
              by_cases z : t % gX M0 0 < gX M0 0 - 1
              · rw [if_pos z] at z0; omega
              · omega
        · rintro ((q | ⟨q, q3⟩) | ⟨rfl, rfl⟩)
          · exact Or.inl q
          · exact Or.inr ⟨q, by omega⟩
          · exact Or.inr ⟨s0, by omega⟩)
theorem ok_X3_joinEnd (hA : jA ad 46) : OK_X3_joinEnd l D cy ad := met_X3_joinEnd hA (ok_X2_crossing hA) (ok_X2_placeBeyond hA) (ok_X2_style hA) (ok_X3_join hA)
  (fun p M0 r M μ => ¬ gX M0 4 = 0 ∧ tabS (gX M0) (Sek (gX M0) r) M ∧ (∀ b, b ≠ 4 → b ≠ 5 → M b = M0 b) ∧ (0 ≤ r ∧ r ≤ gX M0 0) ∧ μ = (13 - r).toNat)
  (by
    rintro p M0 ⟨hp, h1, G, hT⟩ hM
    subst h1
    refine ⟨hp, rfl, ?_⟩
    rintro x2 M1 - - ⟨rfl, rfl⟩
    refine ⟨fun h => ⟨_, rfl, h, tabS_congr G hT (fun t a q0 q1 qa _ => ?_), fun b _ _ => rfl, by have := G.1; omega, rfl⟩, fun h => ⟨rfl, tabS_congr G hT (fun t a q0 q1 qa qn => ?_), fun b _ _ => rfl⟩⟩
    · unfold Sek Ssd
      obtain ⟨sl1, sl2⟩ := sm_le G q0 q1
      rw [decide_eq_decide]
      rcases qa with rfl | rfl <;> omega
    · unfold Ssd
      symm
      rw [decide_eq_true_eq]
      have h3 : gX M1 4 = 0 := Classical.byContradiction h
      have := sm_b (g := gX M1) (t := t) (d := a)
      refine Classical.byContradiction fun z => ?_
      unfold nx opn at qn
      unfold sm at this z
      rw [if_neg (by omega)] at qn
      omega)
  (by
    rintro p M0 ⟨hp, h1, G, hT⟩ hM r M n ⟨h2, hS, hf, hr, hn⟩ -
    subst h1
    have e4 : M 1 4 = gX M0 0 := by rw [hf 1 (by decide) (by decide)]; rfl
    have e5 : M 1 5 = gX M0 1 := by rw [hf 1 (by decide) (by decide)]; rfl
    have e20 : M 3 0 = gX M0 4 := by rw [hf 3 (by decide) (by decide)]; rfl
    have e21 : M 3 1 = gX M0 5 := by rw [hf 3 (by decide) (by decide)]; rfl
    obtain ⟨G1, G2, G3, G4, G5, G6⟩ := id G
    rw [e4, e5]
    have em : (gX M0 1 - 1) * gX M0 0 = gX M0 0 * (gX M0 1 - 1) := Int.mul_comm _ _
    rw [em]
    refine ⟨hp, fun h => ⟨rfl, tabS_congr G hS (fun t a q0 q1 qa _ => ?_), hf⟩, fun h => ?_⟩
    · unfold Sek
      symm
      rw [decide_eq_true_eq, show r = gX M0 0 by omega, Int.mul_sub, Int.mul_one]
      omega
    · have hrl : r < gX M0 0 := by omega
      obtain ⟨b1, b2⟩ := idx_b (w := gX M0 0) (h := gX M0 1) (x := r) (y := gX M0 1 - 1) hr.1 hrl (by omega) (by omega)
      have hN := gN G
      obtain ⟨-, s0, -, -, -, n0⟩ := sm_inner G (r := gX M0 1 - 1) (c := r) ⟨by omega, by omega⟩ ⟨hr.1, hrl⟩
      rw [if_neg (by omega)] at s0
      have n0 := n0 (by omega)
      rw [if_neg h2] at n0
      have acb := ac_b (k := gX M0 4) (s := gX M0 5) (a := r) (b := gX M0 0) (f := true) hr.1 hrl G6.1 G6.2
      have ub := (nx_b G (d := 1) b1 b2).resolve_left (by rw [n0]; omega)
      rw [n0] at ub
      refine ⟨hp, by omega, hp, by omega, by omega, hp, hp, ⟨rfl, ⟨hr.1, hrl⟩, by omega, by omega⟩, ?_⟩
      rintro x2 M1 - - ⟨rfl, rfl⟩
      rw [e20, e21]
      refine ⟨hp, ⟨rfl, Or.inr rfl⟩, ?_⟩
      rintro x4 M3 - - ⟨rfl, rfl⟩
      refine ⟨⟨hp, rfl, by omega, Or.inr rfl, by omega⟩, ?_⟩
      rintro x6 M5 - - rfl
      refine ⟨by omega, (13 - (r + 1)).toNat, by omega, rfl, h2, ?_, fun b q4 q5 => by rw [join_fr q4 q5]; exact hf b q4 q5, by omega, rfl⟩
      rw [e20]
      refine tabS_congr G (join_S G hS b1 b2 (Or.inr rfl) n0 ub.1 ?_) (fun t a q0 q1 qa _ => ?_)
      · rw [s0, cxb2]
        split <;> rfl
      · unfold addS Sek
        rw [Bool.eq_iff_iff, Bool.or_eq_true, decide_eq_true_eq, decide_eq_true_eq, decide_eq_true_eq]
        obtain ⟨sl1, sl2⟩ := sm_le G q0 q1
        rcases qa with rfl | rfl <;> omega)
theorem ok_X3_joinTiles (hA : jA ad 46) : OK_X3_joinTiles l D cy ad := met_X3_joinTiles hA (ok_X3_joinEnd hA) (ok_X3_joinInside hA) (ok_X3_joinSide hA) (ok_X3_tiles hA)
  (fun p M0 k M μ => (∀ j : Int, 0 ≤ j → j < k → M 4 j.toNat = -5 ∧ M 5 j.toNat = 0) ∧ (∀ b, b ≠ 4 → b ≠ 5 → M b = M0 b) ∧ (0 ≤ k ∧ k ≤ gX M0 0 * gX M0 1 * 4) ∧ μ = (1000 - k).toNat)
  (by
    rintro p M0 ⟨hp, h1, G⟩ hM
    have hN := gN G
    exact ⟨_, rfl, fun j h0 h2 => by omega, fun b _ _ => rfl, by omega, rfl⟩)
  (by
    rintro p M0 ⟨hp, h1, G⟩ hM k M n ⟨hz, hf, hk, hn⟩ -
    subst h1
    have hN := gN G
    have eg : gX M = gX M0 := gX_congr (hf 1 (by decide) (by decide)) (hf 2 (by decide) (by decide)) (hf 3 (by decide) (by decide))
    have e4 : M 1 4 = gX M0 0 := by rw [hf 1 (by decide) (by decide)]; rfl
    have e5 : M 1 5 = gX M0 1 := by rw [hf 1 (by decide) (by decide)]; rfl
    refine ⟨⟨hp, rfl, ⟨by rw [e4]; exact G.1, by rw [e5]; exact G.2.1⟩⟩, ?_⟩
    rintro x2 M1 - - ⟨rfl, rfl⟩
    rw [e4, e5]
    refine ⟨by omega, fun h => ⟨⟨hp, rfl, by rw [eg]; exact G, ?_⟩, ?_⟩, fun h => ⟨hp, rfl, by omega, hp, rfl, by omega, by omega, (1000 - (k + 1)).toNat, by omega, rfl, ?_, ?_, by omega, rfl⟩⟩
    · rw [eg]
      intro t d h0 h1 h2 h3
      obtain ⟨z1, z2⟩ := hz (t * 4 + d) (by omega) (by omega)
      have : ¬ (ent (gX M0) (fun _ _ => false) t d = true ∧ 0 ≤ nx (gX M0) t d) := fun z => by
        have := z.1
        unfold ent at this
        split at this <;> exact Bool.false_ne_true this
      rw [if_neg this, if_neg this]
      exact ⟨z1, z2⟩
    · rintro x4 M3 - - ⟨s3, f3⟩
      have eg3 : gX M3 = gX M0 := (gX_congr (f3 1 (by decide) (by decide)) (f3 2 (by decide) (by decide)) (f3 3 (by decide) (by decide))).trans eg
      rw [eg] at s3
      refine ⟨⟨hp, rfl, by rw [eg3]; exact G, by rw [eg3]; exact s3⟩, ?_⟩
      rintro x6 M5 - - ⟨s5, f5⟩
      have eg5 : gX M5 = gX M0 := (gX_congr (f5 1 (by decide) (by decide)) (f5 2 (by decide) (by decide)) (f5 3 (by decide) (by decide))).trans eg3
      rw [eg3] at s5
      refine ⟨⟨hp, rfl, by rw [eg5]; exact G, by rw [eg5]; exact s5⟩, ?_⟩
      rintro x8 M7 - - ⟨s7, f7⟩
      rw [eg5] at s7
      refine ⟨rfl, fun t d h0 h1 h2 h3 => ?_, fun b q4 q5 => ?_⟩
      · obtain ⟨w1, w2⟩ := s7 t d h0 h1 h2 h3
        have et : ent (gX M0) (fun _ _ => true) t d = true := by unfold ent; split <;> rfl
        rw [w1, w2]
        unfold cx
        rcases nx_b G (d := d) h0 h1 with q | q
        · rw [if_neg (by omega), if_neg (by omega), if_pos (by omega)]
          exact ⟨q.symm, rfl⟩
        · rw [if_pos ⟨et, q.1⟩, if_pos ⟨et, q.1⟩, if_neg (by omega)]
          exact ⟨rfl, rfl⟩
      · rw [f7 b q4 q5, f5 b q4 q5, f3 b q4 q5]; exact hf b q4 q5
    · intro j j0 j1
      by_cases ej : j = k
      · subst ej
        exact ⟨by rw [up_n (by decide), up_sk], up_sk⟩
      · obtain ⟨z1, z2⟩ := hz j j0 (by omega)
        exact ⟨by rw [up_n (by decide), up_nk (Or.inr (by omega))]; exact z1, by rw [up_nk (Or.inr (by omega)), up_n (by decide)]; exact z2⟩
    · intro b q4 q5
      rw [up_n q5, up_n q4]; exact hf b q4 q5)
theorem ok_X3_begin (hA : jA ad 46) : OK_X3_begin l D cy ad := met_X3_begin hA (ok_X2_change hA) (ok_X3_joinTiles hA) (by
  rintro p a b M0 ⟨hp, h1, ha, hb⟩ hM ra rb
  subst h1
  refine ⟨hp, hp, hp, rfl, ?_⟩
  rintro x2 M1 - - ⟨rfl, -⟩
  refine ⟨hp, rfl, ?_⟩
  rintro x4 M3 - - ⟨rfl, -⟩
  have hg : ∀ M' : Mem, M' = up (up (up (up (up (up M0 1 4 a) 1 5 b) 2 0 0) 2 1 0) 3 0 0) 3 1 0 → (gX M' 0 = a ∧ gX M' 1 = b ∧ gX M' 2 = 0 ∧ gX M' 3 = 0 ∧ gX M' 4 = 0 ∧ gX M' 5 = 0) := by
    rintro M' rfl
    refine ⟨?_, ?_, ?_, ?_, ?_, ?_⟩
    · show up _ 3 1 0 1 4 = a
      rw [up_n (by decide), up_n (by decide), up_n (by decide), up_n (by decide), up_nk (Or.inr (by decide)), up_sk]
    · show up _ 3 1 0 1 5 = b
      rw [up_n (by decide), up_n (by decide), up_n (by decide), up_n (by decide), up_sk]
    · show up _ 3 1 0 2 0 = 0
      rw [up_n (by decide), up_n (by decide), up_nk (Or.inr (by decide)), up_sk]
    · show up _ 3 1 0 2 1 = 0
      rw [up_n (by decide), up_n (by decide), up_sk]
    · show up _ 3 1 0 3 0 = 0
      rw [up_nk (Or.inr (by decide)), up_sk]
    · show up _ 3 1 0 3 1 = 0
      rw [up_sk]
  obtain ⟨g0, g1, g2, g3, g4, g5⟩ := hg _ rfl
  have G : gOK (gX (up (up (up (up (up (up M0 1 4 a) 1 5 b) 2 0 0) 2 1 0) 3 0 0) 3 1 0)) := by
    unfold gOK
    rw [g0, g1, g2, g3, g4, g5]
    omega
  refine ⟨⟨hp, rfl, G⟩, ?_⟩
  rintro x6 M5 - - ⟨hT, hf⟩
  have eg := gX_congr (hf 1 (by decide) (by decide)) (hf 2 (by decide) (by decide)) (hf 3 (by decide) (by decide))
  refine ⟨rfl, by rw [eg]; exact hT, by rw [eg]; exact G, by rw [eg]; exact ⟨g0, g1, g2, g3, g4, g5⟩, fun c c1 c2 c3 c4 c5 => ?_⟩
  rw [hf c c4 c5, up_n c3, up_n c3, up_n c2, up_n c2, up_n c1, up_n c1])
theorem ok_X3_changeSeam (hA : jA ad 46) : OK_X3_changeSeam l D cy ad := met_X3_changeSeam hA (ok_X2_change hA) (ok_X3_joinTiles hA) (by
  rintro p e k s M0 ⟨hp, h1, G, hT, hk, hs0, hs⟩ hM re rk rs
  subst h1
  refine ⟨fun he => ⟨hp, rfl, ?_⟩, fun he => ⟨hp, rfl, ?_⟩⟩
  · rw [if_pos he] at hs
    rintro x2 M1 - - ⟨rfl, hx⟩
    have h0 : gX (up (up M0 2 0 k) 2 1 s) 0 = gX M0 0 := by show up _ 2 1 s 1 4 = M0 1 4; rw [up_n (by decide), up_n (by decide)]
    have h1 : gX (up (up M0 2 0 k) 2 1 s) 1 = gX M0 1 := by show up _ 2 1 s 1 5 = M0 1 5; rw [up_n (by decide), up_n (by decide)]
    have h2 : gX (up (up M0 2 0 k) 2 1 s) 2 = k := by show up _ 2 1 s 2 0 = k; rw [up_nk (Or.inr (by decide)), up_sk]
    have h3 : gX (up (up M0 2 0 k) 2 1 s) 3 = s := by show up _ 2 1 s 2 1 = s; rw [up_sk]
    have h4 : gX (up (up M0 2 0 k) 2 1 s) 4 = gX M0 4 := by show up _ 2 1 s 3 0 = M0 3 0; rw [up_n (by decide), up_n (by decide)]
    have h5 : gX (up (up M0 2 0 k) 2 1 s) 5 = gX M0 5 := by show up _ 2 1 s 3 1 = M0 3 1; rw [up_n (by decide), up_n (by decide)]
    have G1 : gOK (gX (up (up M0 2 0 k) 2 1 s)) := by
      unfold gOK at G ⊢
      rw [h0, h1, h2, h3, h4, h5]
      omega
    refine ⟨fun hx2 => ⟨⟨hp, rfl, G1⟩, ?_⟩, fun hx2 => ⟨Or.inl rfl, ?_, ?_, ⟨h0, h1, by rw [if_pos he]; exact h2, by rw [if_pos he]; exact h3, by rw [if_pos he]; exact h4, by rw [if_pos he]; exact h5⟩, fun b b2 b3 b4 b5 => by rw [up_n b2, up_n b2]⟩⟩
    · rintro x4 M3 - - ⟨hT3, hf3⟩
      have eg := gX_congr (hf3 1 (by decide) (by decide)) (hf3 2 (by decide) (by decide)) (hf3 3 (by decide) (by decide))
      refine ⟨Or.inr rfl, by rw [eg]; exact hT3, ?_, by rw [eg]; exact ⟨h0, h1, by rw [if_pos he]; exact h2, by rw [if_pos he]; exact h3, by rw [if_pos he]; exact h4, by rw [if_pos he]; exact h5⟩, fun b b2 b3 b4 b5 => by rw [hf3 b b4 b5, up_n b2, up_n b2]⟩
      rw [if_neg]
      intro z
      rw [if_pos he] at z
      have z : M0 2 0 = k ∧ M0 2 1 = s := z
      rw [if_pos z] at hx
      exact hx2 hx
    · have hz : M0 2 0 = k ∧ M0 2 1 = s := Classical.byContradiction fun z => by rw [if_neg z] at hx; exact hx2 (by omega)
      have em : gX (up (up M0 2 0 k) 2 1 s) = gX M0 := by
        funext i
        unfold gX
        match i with
        | 0 => exact h0
        | 1 => exact h1
        | 2 => exact h2.trans hz.1.symm
        | 3 => exact h3.trans hz.2.symm
        | 4 => exact h4
        | _ + 5 => exact h5
      rw [em]
      intro t d a1 a2 a3 a4
      rw [up_n (by decide), up_n (by decide), up_n (by decide), up_n (by decide)]
      exact hT t d a1 a2 a3 a4
    · have hz : M0 2 0 = k ∧ M0 2 1 = s := Classical.byContradiction fun z => by rw [if_neg z] at hx; exact hx2 (by omega)
      rw [if_pos]
      rw [if_pos he]
      exact hz
  · rw [if_neg he] at hs
    rintro x2 M1 - - ⟨rfl, hx⟩
    have h0 : gX (up (up M0 3 0 k) 3 1 s) 0 = gX M0 0 := by show up _ 3 1 s 1 4 = M0 1 4; rw [up_n (by decide), up_n (by decide)]
    have h1 : gX (up (up M0 3 0 k) 3 1 s) 1 = gX M0 1 := by show up _ 3 1 s 1 5 = M0 1 5; rw [up_n (by decide), up_n (by decide)]
    have h2 : gX (up (up M0 3 0 k) 3 1 s) 2 = gX M0 2 := by show up _ 3 1 s 2 0 = M0 2 0; rw [up_n (by decide), up_n (by decide)]
    have h3 : gX (up (up M0 3 0 k) 3 1 s) 3 = gX M0 3 := by show up _ 3 1 s 2 1 = M0 2 1; rw [up_n (by decide), up_n (by decide)]
    have h4 : gX (up (up M0 3 0 k) 3 1 s) 4 = k := by show up _ 3 1 s 3 0 = k; rw [up_nk (Or.inr (by decide)), up_sk]
    have h5 : gX (up (up M0 3 0 k) 3 1 s) 5 = s := by show up _ 3 1 s 3 1 = s; rw [up_sk]
    have G1 : gOK (gX (up (up M0 3 0 k) 3 1 s)) := by
      unfold gOK at G ⊢
      rw [h0, h1, h2, h3, h4, h5]
      omega
    refine ⟨fun hx2 => ⟨⟨hp, rfl, G1⟩, ?_⟩, fun hx2 => ⟨Or.inl rfl, ?_, ?_, ⟨h0, h1, by rw [if_neg he]; exact h2, by rw [if_neg he]; exact h3, by rw [if_neg he]; exact h4, by rw [if_neg he]; exact h5⟩, fun b b2 b3 b4 b5 => by rw [up_n b3, up_n b3]⟩⟩
    · rintro x4 M3 - - ⟨hT3, hf3⟩
      have eg := gX_congr (hf3 1 (by decide) (by decide)) (hf3 2 (by decide) (by decide)) (hf3 3 (by decide) (by decide))
      refine ⟨Or.inr rfl, by rw [eg]; exact hT3, ?_, by rw [eg]; exact ⟨h0, h1, by rw [if_neg he]; exact h2, by rw [if_neg he]; exact h3, by rw [if_neg he]; exact h4, by rw [if_neg he]; exact h5⟩, fun b b2 b3 b4 b5 => by rw [hf3 b b4 b5, up_n b3, up_n b3]⟩
      rw [if_neg]
      intro z
      rw [if_neg he] at z
      have z : M0 3 0 = k ∧ M0 3 1 = s := z
      rw [if_pos z] at hx
      exact hx2 hx
    · have hz : M0 3 0 = k ∧ M0 3 1 = s := Classical.byContradiction fun z => by rw [if_neg z] at hx; exact hx2 (by omega)
      have em : gX (up (up M0 3 0 k) 3 1 s) = gX M0 := by
        funext i
        unfold gX
        match i with
        | 0 => exact h0
        | 1 => exact h1
        | 2 => exact h2
        | 3 => exact h3
        | 4 => exact h4.trans hz.1.symm
        | _ + 5 => exact h5.trans hz.2.symm
      rw [em]
      intro t d a1 a2 a3 a4
      rw [up_n (by decide), up_n (by decide), up_n (by decide), up_n (by decide)]
      exact hT t d a1 a2 a3 a4
    · have hz : M0 3 0 = k ∧ M0 3 1 = s := Classical.byContradiction fun z => by rw [if_neg z] at hx; exact hx2 (by omega)
      rw [if_pos]
      rw [if_neg he]
      exact hz)
end JOIN2
