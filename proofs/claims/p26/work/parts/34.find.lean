section FIND
variable {l : Launch} {D : va_G} {cy : Nat → ClassId} {ad : Nat → Nat}
theorem ok_X1_number (hA : jA ad 46) : OK_X1_number l D cy ad := met_X1_number hA (by
  intro p M0 hp hM
  exact ⟨hp, trivial, rfl, rfl⟩)
theorem ok_X1_labelOf (hA : jA ad 46) : OK_X1_labelOf l D cy ad := met_X1_labelOf hA (by
  intro p t M0 ⟨hp, ht⟩ hM rt
  obtain ⟨⟨a1, b1⟩, -⟩ := kd1a hp
  exact ⟨hp, a1, ⟨ht.1, by rw [b1]; exact ht.2⟩, trivial, rfl, rfl⟩)
theorem ok_X1_sizeOf (hA : jA ad 46) : OK_X1_sizeOf l D cy ad := met_X1_sizeOf hA (by
  intro p t M0 ⟨hp, ht⟩ hM rt
  obtain ⟨-, ⟨a1, b1⟩, -⟩ := kd1a hp
  exact ⟨hp, a1, ⟨ht.1, by rw [b1]; exact ht.2⟩, trivial, rfl, rfl⟩)
theorem ok_X1_enter (hA : jA ad 46) : OK_X1_enter l D cy ad := met_X1_enter hA (ok_X5_add hA) (by
  intro p t f e c M0 ⟨hp, ht, hq⟩ hM rt rf re rc
  obtain ⟨⟨a1, b1⟩, -, ⟨a3, b3⟩, ⟨a4, b4⟩, -, a6⟩ := kd1a hp
  have e6 : up (up (up M0 (p + 1) t.toNat f) (p + 3) t.toNat e) (p + 4) t.toNat c (p + 6) = M0 (p + 6) := by
    rw [up_n (by omega), up_n (by omega), up_n (by omega)]
  refine ⟨hp, a1, ⟨ht.1, by rw [b1]; exact ht.2⟩, hp, a3, ⟨ht.1, by rw [b3]; exact ht.2⟩, hp, a4, ⟨ht.1, by rw [b4]; exact ht.2⟩, hp, ⟨a6, by rw [e6]; exact hq⟩, ?_⟩
  rintro x2 M1 - - rfl
  refine ⟨rfl, ?_⟩
  show _ = entM p t f e c M0
  unfold entM
  rw [e6])
theorem ok_X1_spread (hA : jA ad 46) : OK_X1_spread l D cy ad := met_X1_spread hA (ok_X1_enter hA) (ok_X3_crossing hA) (ok_X3_next hA)
  (fun p t M0 d M μ => (∀ κ f k B, preSp p t M0 κ f k B → RX p M (gX M0) (bexp (gX M0) κ f t d.toNat B)) ∧ (∀ b, b ≠ p + 1 → b ≠ p + 3 → b ≠ p + 4 → b ≠ p + 6 → b ≠ p + 7 → M b = M0 b) ∧ (0 ≤ d ∧ d ≤ 4) ∧ μ = (4 - d).toNat)
  (by
    intro p t M0 ⟨hp, hS, hw⟩ hM rt
    exact ⟨_, rfl, rfl, fun κ f k B h => h.2.1, fun _ _ _ _ _ _ => rfl, by omega, rfl⟩)
  (by
    rintro p t M0 ⟨hp, hS, κ0, f0, k0, B0, h0⟩ hM rt d M n ⟨hI, hf, hd, hn⟩ hM1
    obtain ⟨⟨a1, b1⟩, -, ⟨a3, b3⟩, ⟨a4, b4⟩, -, a6⟩ := kd1a hp
    have hpg := kd1g hp
    have hfr : ∀ b, b ≤ 6 → M b = M0 b := fun b hb => hf b (by omega) (by omega) (by omega) (by omega) (by omega)
    obtain ⟨hS1, eg⟩ := surf_congr (M' := M) hS (fun b q1 q2 => hfr b (by omega))
    have G := hS.1
    obtain ⟨nE, n9, n144⟩ := nT_b G
    -- what the function does, for any reading of the rows
    have key : ∀ κ f k B, preSp p t M0 κ f k B → d < 4 → (0 ≤ t ∧ t < nT (gX M0)) ∧ RX p M (gX M0) (bexp (gX M0) κ f t d.toNat B) ∧ BF (gX M0) κ f k d.toNat (bexp (gX M0) κ f t d.toNat B) ∧ (k : Int) < bexp (gX M0) κ f t d.toNat B 4 0 ∧ t = bexp (gX M0) κ f t d.toNat B 3 k ∧ kin M κ := by
      intro κ f k B h hd4
      obtain ⟨q1, q2, q3, q4, q5⟩ := id h
      obtain ⟨w1, w2, w3, w4⟩ := BF_exp G q4 q3 d.toNat (by omega)
      rw [← q5] at w1 w2 w3 w4
      have hb := (q3.2.2.2.1 k q4).1
      rw [← q5] at hb
      exact ⟨hb, hI κ f k B h, w1, by omega, by rw [w2 k q4, q5], kin_congr q1 (hfr 6 (by decide))⟩
    refine ⟨fun h => ⟨rfl, fun κ f k B hb => ⟨?_, hf⟩⟩, fun h => ⟨hp, ⟨rfl, rfl, ?_, by omega⟩, ?_⟩⟩
    · have := hI κ f k B hb
      rwa [show d.toNat = 4 by omega] at this
    · have := (key κ0 f0 k0 B0 h0 (by omega)).1
      omega
    · obtain ⟨ht, -⟩ := key κ0 f0 k0 B0 h0 (by omega)
      have hT := hS1.2
      rw [eg] at hT
      obtain ⟨t1, t2⟩ := hT t d ht.1 (by omega) hd.1 (by omega)
      have hdn : ((d.toNat : Nat) : Int) = d := by omega
      have e1 : (d + 1).toNat = d.toNat + 1 := by omega
      -- a step that adds nothing
      have stay : ∀ M1 : Mem, M1 = M → ¬ (0 ≤ nx (gX M0) t d ∧ M 6 (nx (gX M0) t d).toNat = M 6 t.toNat ∧ M (p + 1) (nx (gX M0) t d).toNat = -5) → ∃ μ : Nat, μ < n ∧ p = p ∧ t = t ∧ (∀ κ f k B, preSp p t M0 κ f k B → RX p M1 (gX M0) (bexp (gX M0) κ f t (d + 1).toNat B)) ∧ (∀ b, b ≠ p + 1 → b ≠ p + 3 → b ≠ p + 4 → b ≠ p + 6 → b ≠ p + 7 → M1 b = M0 b) ∧ (0 ≤ d + 1 ∧ d + 1 ≤ 4) ∧ μ = (4 - (d + 1)).toNat := by
        rintro M1 rfl hc
        refine ⟨_, by omega, rfl, rfl, fun κ f k B hb => ?_, hf, by omega, rfl⟩
        obtain ⟨-, w1, w2, w3, w4, w5⟩ := key κ f k B hb (by omega)
        have := (RX_vis hp G w5 w1 w2 w3 (by omega)).1
        rw [← w4, hdn] at this
        rw [e1]
        show RX p M1 (gX M0) (bvis (gX M0) κ f t d.toNat (bexp (gX M0) κ f t d.toNat B))
        rw [hdn]
        exact this hc
      rintro x2 M1 - - ⟨rfl, rfl⟩
      rw [t1]
      refine ⟨fun h2 => ⟨by omega, stay M1 rfl (fun z => by omega)⟩, fun h2 => ?_⟩
      have hu := (nx_b G (d := d) ht.1 (by omega)).resolve_left (by omega)
      refine ⟨hp, rfl, by omega, hp, rfl, by omega, fun h3 => ⟨by omega, stay M1 rfl (fun z => h3 z.2.1)⟩, fun h3 => ⟨hp, a1, ⟨by omega, by rw [b1]; omega⟩, fun h4 => ⟨by omega, stay M1 rfl (fun z => h4 z.2.2)⟩, fun h4 => ?_⟩⟩
      refine ⟨hp, a4, ⟨by omega, by rw [b4]; omega⟩, hp, ⟨rfl, rfl, by omega, by omega⟩, ?_⟩
      rintro x4 M3 - - ⟨rfl, rfl⟩
      rw [t2]
      obtain ⟨-, w1, w2, w3, w4, w5⟩ := key κ0 f0 k0 B0 h0 (by omega)
      obtain ⟨z1, z2, z3⟩ := w2.2.2.2.1 k0 w3
      rw [← w4] at z1 z2 z3
      have zl := (w2.2.1 t.toNat (by omega)).resolve_left (by have := w2.1.1; omega)
      have rr := (w1.1 t.toNat (by omega)).2 (by have := w2.1.1; omega)
      have hqB := BF_q G w2
      have hlt : bexp (gX M0) κ0 f0 t d.toNat B0 4 0 ≤ nT (gX M0) - 1 := by
        rw [w2.2.2.1.2]
        have hu0 := (w1.1 (nx (gX M0) t d).toNat (by omega)).1
        have := sumF_lt (f := fun j => if bexp (gX M0) κ0 f0 t d.toNat B0 0 j = f0 then (1 : Int) else 0) (n := nT (gX M0)) (k := (nx (gX M0) t d).toNat) (fun j _ => if01 _) (by omega) (by
          rw [if_neg]
          intro q
          rw [q] at hu0
          have := w2.1.1
          rw [if_neg (by omega)] at hu0
          have h5 := Classical.byContradiction h4
          omega)
        exact this
      refine ⟨hp, a1, ⟨by omega, by rw [b1]; omega⟩, hp, a3, ⟨by omega, by rw [b3]; omega⟩, by rw [rr.2]; omega, ⟨hp, by omega, by rw [w1.2.2]; have := w2.2.2.1.1; omega⟩, ?_⟩
      rintro x6 M5 - - rfl
      refine ⟨by omega, (4 - (d + 1)).toNat, by omega, rfl, rfl, fun κ f k B hb => ?_, fun b q1 q3 q4 q6 q7 => by rw [entM_n q1 q3 q4 q6 q7]; exact hf b q1 q3 q4 q6 q7, by omega, rfl⟩
      obtain ⟨-, v1, v2, v3, v4, v5⟩ := key κ f k B hb (by omega)
      have := (RX_vis hp G v5 v1 v2 v3 (by omega)).2
      rw [← v4, hdn] at this
      rw [e1]
      show RX p _ (gX M0) (bvis (gX M0) κ f t d.toNat (bexp (gX M0) κ f t d.toNat B))
      rw [hdn]
      exact this ⟨by omega, Classical.byContradiction h3, Classical.byContradiction h4⟩)
theorem RXs_ini {p : Nat} {M B : Mem} {g : Nat → Int} {f : Int} (hf : 0 ≤ f) (h : RXs p M g B) : RX p (entM p f f 0 0 (up M (p + 6) 1 0)) g (bini f B) := by
  refine ⟨fun t tl => ?_, fun j hj => ?_, ?_⟩
  · rw [entM_1, entM_3, entM_4, bini_0, bini_1, bini_2, up_n (by omega), up_n (by omega), up_n (by omega)]
    by_cases q : t = f.toNat
    · subst q
      rw [upR_s, upR_s, upR_s, upR_s, upR_s, upR_s, if_neg (by omega)]
      exact ⟨rfl, fun _ => ⟨rfl, rfl⟩⟩
    · rw [upR_n q, upR_n q, upR_n q, upR_n q, upR_n q, upR_n q]
      exact h t tl
  · rw [bini_4] at hj
    rw [entM_7, bini_3, up_sk, show j = 0 by omega, show (0 : Int).toNat = 0 from rfl, upR_s, upR_s]
  · rw [entM_6, bini_4, up_sk]; rfl
theorem ok_X1_flood (hA : jA ad 46) : OK_X1_flood l D cy ad := met_X1_flood hA (ok_X1_enter hA) (ok_X1_spread hA) (ok_X5_at hA) (ok_X5_clear hA) (ok_X5_number hA)
  (fun p f M0 k M μ => (∀ κ B, preFl p f M0 κ B → RX p M (gX M0) (bfl (gX M0) κ f B k.toNat)) ∧ (∀ b, b ≠ p + 1 → b ≠ p + 3 → b ≠ p + 4 → b ≠ p + 6 → b ≠ p + 7 → M b = M0 b) ∧ (0 ≤ k ∧ k ≤ 144) ∧ μ = (144 - k).toNat)
  (by
    rintro p f M0 ⟨hp, hS, κ0, B0, h0⟩ hM rf
    obtain ⟨⟨a1, b1⟩, -, ⟨a3, b3⟩, ⟨a4, b4⟩, -, a6⟩ := kd1a hp
    obtain ⟨nE, n9, n144⟩ := nT_b hS.1
    have hf0 := h0.2.2.2.1
    refine ⟨hp, a6, ?_⟩
    rintro x2 M1 - - rfl
    refine ⟨⟨hp, by omega, by rw [up_sk]; omega⟩, ?_⟩
    rintro x4 M3 - - rfl
    exact ⟨_, rfl, rfl, fun κ B hb => RXs_ini hf0.1 hb.2.1, fun b q1 q3 q4 q6 q7 => by rw [entM_n q1 q3 q4 q6 q7, up_n q6], by omega, rfl⟩)
  (by
    rintro p f M0 ⟨hp, hS, κ0, B0, h0⟩ hM rf k M n ⟨hI, hf, hk, hn⟩ -
    obtain ⟨⟨a1, b1⟩, ⟨a2, b2⟩, ⟨a3, b3⟩, ⟨a4, b4⟩, -, a6⟩ := kd1a hp
    have hpg := kd1g hp
    have G := hS.1
    obtain ⟨nE, n9, n144⟩ := nT_b G
    have hfr : ∀ b, b ≤ 6 → M b = M0 b := fun b hb => hf b (by omega) (by omega) (by omega) (by omega) (by omega)
    obtain ⟨hS1, eg⟩ := surf_congr (M' := M) hS (fun b q1 q2 => hfr b (by omega))
    have hf0 := h0.2.2.2.1
    have hkn : ((k.toNat : Nat) : Int) = k := by omega
    have fin : (∀ κ B, preFl p f M0 κ B → bfl (gX M0) κ f B 144 = bfl (gX M0) κ f B k.toNat) → ∀ κ B, preFl p f M0 κ B → RXs p (up M (p + 2) f.toNat (M (p + 6) 1)) (gX M0) (bfl (gX M0) κ f B 144) ∧ up M (p + 2) f.toNat (M (p + 6) 1) (p + 2) = upR (M0 (p + 2)) f.toNat (bfl (gX M0) κ f B 144 4 0) ∧ (∀ b, b ≠ p + 2 → b ≠ p + 1 → b ≠ p + 3 → b ≠ p + 4 → b ≠ p + 6 → b ≠ p + 7 → up M (p + 2) f.toNat (M (p + 6) 1) b = M0 b) := by
      intro he κ B hb
      have hR := hI κ B hb
      rw [he κ B hb]
      refine ⟨fun t tl => ?_, ?_, fun b q2 q1 q3 q4 q6 q7 => by rw [up_n q2]; exact hf b q1 q3 q4 q6 q7⟩
      · rw [up_n (by omega), up_n (by omega), up_n (by omega)]
        exact hR.1 t tl
      · rw [up_s, hR.2.2, hf (p + 2) (by omega) (by omega) (by omega) (by omega) (by omega)]
    refine ⟨fun h => ⟨hp, hp, a6, ?_⟩, fun h => ⟨hp, a6, ?_⟩⟩
    · rintro x2 M1 - - ⟨rfl, rfl⟩
      exact ⟨a2, ⟨hf0.1, by rw [b2]; omega⟩, rfl, fin (fun κ B _ => by rw [show k.toNat = 144 by omega])⟩
    · rintro x4 M3 - - ⟨rfl, rfl⟩
      refine ⟨fun h2 => ⟨hp, hp, a6, ?_⟩, fun h2 => ⟨hp, ⟨a6, by omega⟩, ?_⟩⟩
      · rintro x6 M5 - - ⟨rfl, rfl⟩
        refine ⟨a2, ⟨hf0.1, by rw [b2]; omega⟩, rfl, fin (fun κ B hb => bfl_all ?_ (by omega))⟩
        rw [← (hI κ B hb).2.2]; omega
      · rintro x8 M7 - - ⟨rfl, rfl⟩
        have pre : ∀ κ B, preFl p f M0 κ B → preSp p (M7 (p + 7) k.toNat) M7 κ f k.toNat (bfl (gX M0) κ f B k.toNat) := by
          intro κ B hb
          have hR := hI κ B hb
          refine ⟨kin_congr hb.1 (hfr 6 (by decide)), by rw [eg]; exact hR, by rw [eg]; exact (BF_fl G hb.2.2.1 hb.2.2.2.1 hb.2.2.2.2 k.toNat).1, by rw [← hR.2.2]; omega, ?_⟩
          exact hR.2.1 k.toNat (by rw [← hR.2.2]; omega)
        refine ⟨⟨hp, hS1, κ0, f, k.toNat, _, pre κ0 B0 h0⟩, ?_⟩
        rintro x10 M9 - - hC
        refine ⟨by omega, (144 - (k + 1)).toNat, by omega, rfl, rfl, fun κ B hb => ?_, ?_, by omega, rfl⟩
        · have hR := hI κ B hb
          have := (hC κ f k.toNat _ (pre κ B hb)).1
          rw [eg, hR.2.1 k.toNat (by rw [← hR.2.2]; omega)] at this
          rw [show (k + 1).toNat = k.toNat + 1 by omega]
          unfold bfl
          rw [if_pos (by rw [← hR.2.2]; omega)]
          exact this
        · intro b q1 q3 q4 q6 q7
          rw [(hC κ0 f k.toNat _ (pre κ0 B0 h0)).2 b q1 q3 q4 q6 q7]
          exact hf b q1 q3 q4 q6 q7)
end FIND
