/-! ===== the class's rows of parts against the function ===== -/
def phi (g : Nat → Int) (c : Int) : Int := if c = 0 then 0 else if c = 3 then bXor (cxb g 1) (cxb g 2) else cxb g c
abbrev surf (M : Mem) : Prop := gOK (gX M) ∧ tab (gX M) M
def kin (M : Mem) (κ : Nat → Int) : Prop := ∀ t : Nat, t < 144 → M 6 t = κ t
def RXs (p : Nat) (M : Mem) (g : Nat → Int) (B : Mem) : Prop := ∀ t : Nat, t < nT g → M (p + 1) t = (if B 0 t < 0 then -5 else B 0 t) ∧ (0 ≤ B 0 t → M (p + 4) t = phi g (B 1 t) ∧ M (p + 3) t = B 2 t)
def RX (p : Nat) (M : Mem) (g : Nat → Int) (B : Mem) : Prop := RXs p M g B ∧ (∀ j : Nat, (j : Int) < B 4 0 → M (p + 7) j = B 3 j) ∧ M (p + 6) 1 = B 4 0
def preSp (p : Nat) (t : Int) (M : Mem) (κ : Nat → Int) (f : Int) (k : Nat) (B : Mem) : Prop := kin M κ ∧ RX p M (gX M) B ∧ BF (gX M) κ f k 0 B ∧ (k : Int) < B 4 0 ∧ t = B 3 k
def preFl (p : Nat) (f : Int) (M : Mem) (κ : Nat → Int) (B : Mem) : Prop := kin M κ ∧ RXs p M (gX M) B ∧ BG (gX M) κ B ∧ (0 ≤ f ∧ f < nT (gX M)) ∧ B 0 f.toNat < 0
def partsOK (p : Nat) (M : Mem) (g κ : Nat → Int) : Prop := (∀ t : Nat, t < nT g → M (p + 1) t = lab g κ t ∧ M (p + 4) t = phi g (crs g κ t) ∧ M (p + 3) t = dep g κ t ∧ (lab g κ t = t → M (p + 2) t = cntL (lab g κ) t (nT g))) ∧ M p 8 = cntS (lab g κ) (nT g)
def entM (p : Nat) (t f e c : Int) (M : Mem) : Mem := up (up (up (up (up M (p + 1) t.toNat f) (p + 3) t.toNat e) (p + 4) t.toNat c) (p + 7) (M (p + 6) 1).toNat t) (p + 6) 1 (M (p + 6) 1 + 1)
theorem entM_1 {p : Nat} {t f e c : Int} {M : Mem} : entM p t f e c M (p + 1) = upR (M (p + 1)) t.toNat f := by
  unfold entM; rw [up_n (by omega), up_n (by omega), up_n (by omega), up_n (by omega), up_s]
theorem entM_3 {p : Nat} {t f e c : Int} {M : Mem} : entM p t f e c M (p + 3) = upR (M (p + 3)) t.toNat e := by
  unfold entM; rw [up_n (by omega), up_n (by omega), up_n (by omega), up_s, up_n (by omega)]
theorem entM_4 {p : Nat} {t f e c : Int} {M : Mem} : entM p t f e c M (p + 4) = upR (M (p + 4)) t.toNat c := by
  unfold entM; rw [up_n (by omega), up_n (by omega), up_s, up_n (by omega), up_n (by omega)]
theorem entM_7 {p : Nat} {t f e c : Int} {M : Mem} : entM p t f e c M (p + 7) = upR (M (p + 7)) (M (p + 6) 1).toNat t := by
  unfold entM; rw [up_n (by omega), up_s, up_n (by omega), up_n (by omega), up_n (by omega)]
theorem entM_6 {p : Nat} {t f e c : Int} {M : Mem} : entM p t f e c M (p + 6) 1 = M (p + 6) 1 + 1 := by
  unfold entM; rw [up_sk]
theorem entM_n {p b : Nat} {t f e c : Int} {M : Mem} (h1 : b ≠ p + 1) (h3 : b ≠ p + 3) (h4 : b ≠ p + 4) (h6 : b ≠ p + 6) (h7 : b ≠ p + 7) : entM p t f e c M b = M b := by
  unfold entM; rw [up_n h6, up_n h7, up_n h4, up_n h3, up_n h1]
theorem cxb_v (g : Nat → Int) : (cxb g 1 = 1 ∨ cxb g 1 = 5) ∧ (cxb g 2 = 2 ∨ cxb g 2 = 6) := by
  rw [cxb1, cxb2]
  constructor <;> split <;> omega
theorem phi_x {g : Nat → Int} {c s : Int} (hc : 0 ≤ c ∧ c ≤ 3) (hs : s = 0 ∨ s = 1 ∨ s = 2) : bXor (phi g c) (cxb g s) = phi g (bXor c s) := by
  have e0 : cxb g 0 = 0 := by unfold cxb; rw [if_neg (by decide), if_neg (by decide)]
  have x01 : bXor 0 1 = 1 := by decide
  have x02 : bXor 0 2 = 2 := by decide
  have x11 : bXor 1 1 = 0 := by decide
  have x12 : bXor 1 2 = 3 := by decide
  have x21 : bXor 2 1 = 3 := by decide
  have x22 : bXor 2 2 = 0 := by decide
  have x31 : bXor 3 1 = 2 := by decide
  have x32 : bXor 3 2 = 1 := by decide
  have x00 : bXor 0 0 = 0 := by decide
  have x10 : bXor 1 0 = 1 := by decide
  have x20 : bXor 2 0 = 2 := by decide
  have x30 : bXor 3 0 = 3 := by decide
  have p0 : phi g 0 = 0 := rfl
  have p1 : phi g 1 = cxb g 1 := rfl
  have p2 : phi g 2 = cxb g 2 := rfl
  have p3 : phi g 3 = bXor (cxb g 1) (cxb g 2) := rfl
  obtain ⟨v1, v2⟩ := cxb_v g
  rcases (by omega : c = 0 ∨ c = 1 ∨ c = 2 ∨ c = 3) with rfl | rfl | rfl | rfl <;> rcases hs with rfl | rfl | rfl <;> simp only [e0, x00, x01, x02, x10, x11, x12, x20, x21, x22, x30, x31, x32, p0, p1, p2, p3] <;> rcases v1 with v1 | v1 <;> rcases v2 with v2 | v2 <;> first | decide | (simp only [v1, v2] <;> decide)
/-- one direction, on the class's rows -/
theorem RX_vis {p k d : Nat} {M B : Mem} {g κ : Nat → Int} {f : Int} (hp : kdX p = 1) (G : gOK g) (hk : kin M κ) (h : RX p M g B) (hF : BF g κ f k d B) (hq : (k : Int) < B 4 0) (hd : d < 4) :
    (¬ (0 ≤ nx g (B 3 k) d ∧ M 6 (nx g (B 3 k) d).toNat = M 6 (B 3 k).toNat ∧ M (p + 1) (nx g (B 3 k) d).toNat = -5) → RX p M g (bvis g κ f (B 3 k) d B)) ∧
    (0 ≤ nx g (B 3 k) d ∧ M 6 (nx g (B 3 k) d).toNat = M 6 (B 3 k).toNat ∧ M (p + 1) (nx g (B 3 k) d).toNat = -5 →
      RX p (entM p (nx g (B 3 k) d) (M (p + 1) (B 3 k).toNat) (M (p + 3) (B 3 k).toNat + 1) (bXor (M (p + 4) (B 3 k).toNat) (cx g (B 3 k) d)) M) g (bvis g κ f (B 3 k) d B)) := by
  obtain ⟨hS, hQ, hN⟩ := h
  obtain ⟨⟨hf, hff⟩, h1, ⟨h2, h3⟩, h4, h5, h6⟩ := id hF
  obtain ⟨nE, n9, n144⟩ := nT_b G
  obtain ⟨ht, htl, htd⟩ := h4 k hq
  have eqv : (0 ≤ nx g (B 3 k) d ∧ M 6 (nx g (B 3 k) d).toNat = M 6 (B 3 k).toNat ∧ M (p + 1) (nx g (B 3 k) d).toNat = -5) ↔ (0 ≤ nx g (B 3 k) d ∧ B 0 (nx g (B 3 k) d).toNat < 0 ∧ κ (nx g (B 3 k) d).toNat = κ (B 3 k).toNat) := by
    refine and_congr_right fun hn => ?_
    have hu := (nx_b G (d := (d : Int)) ht.1 (by omega)).resolve_left (by omega)
    rw [hk _ (by omega), hk _ (by omega), (hS _ (by omega)).1]
    constructor
    · rintro ⟨a, b⟩
      refine ⟨?_, a⟩
      by_cases q : B 0 (nx g (B 3 k) d).toNat < 0
      · exact q
      · rw [if_neg q] at b; omega
    · rintro ⟨a, b⟩
      exact ⟨b, if_pos a⟩
  constructor
  · intro hc
    rw [eqv] at hc
    unfold bvis
    rw [if_neg hc]
    exact ⟨hS, hQ, hN⟩
  · intro hc
    have hc2 := eqv.mp hc
    obtain ⟨c1, c2, c3⟩ := hc2
    unfold bvis
    rw [if_pos ⟨c1, c2, c3⟩]
    have hu := (nx_b G (d := (d : Int)) ht.1 (by omega)).resolve_left (by omega)
    have hTl := (h1 (B 3 k).toNat (by omega)).resolve_left (by omega)
    obtain ⟨r1, r2⟩ := hS (B 3 k).toNat (by omega)
    obtain ⟨r2, r3⟩ := r2 (by omega)
    rw [if_neg (by omega), htl] at r1
    have ec : cx g (B 3 k) d = cxb g (sm g (B 3 k) d) := by unfold cx; rw [if_neg (by omega)]
    rw [r1, r2, r3, ec, phi_x hTl.2.1 sm_b]
    refine ⟨fun t tl => ?_, fun j hj => ?_, ?_⟩
    · rw [entM_1, entM_3, entM_4, badd_0, badd_1, badd_2]
      by_cases q : t = (nx g (B 3 k) d).toNat
      · subst q
        rw [upR_s, upR_s, upR_s, upR_s, upR_s, upR_s, if_neg (by omega)]
        exact ⟨rfl, fun _ => ⟨rfl, rfl⟩⟩
      · rw [upR_n q, upR_n q, upR_n q, upR_n q, upR_n q, upR_n q]
        exact hS t tl
    · rw [badd_4] at hj
      rw [entM_7, badd_3, hN]
      by_cases q : j = (B 4 0).toNat
      · subst q
        rw [upR_s, upR_s]
      · rw [upR_n q, upR_n q]
        exact hQ j (by omega)
    · rw [entM_6, badd_4, hN]
theorem kd1a {p : Nat} (h : kdX p = 1) : (kdX (p + 1) = 21 ∧ lnX (p + 1) = 144) ∧ (kdX (p + 2) = 21 ∧ lnX (p + 2) = 144) ∧ (kdX (p + 3) = 21 ∧ lnX (p + 3) = 144) ∧ (kdX (p + 4) = 21 ∧ lnX (p + 4) = 144) ∧ (kdX (p + 5) = 22 ∧ lnX (p + 5) = 144) ∧ kdX (p + 6) = 5 := by
  rcases kd1 h with rfl | rfl <;> decide
theorem kd1g {p : Nat} (h : kdX p = 1) : 30 ≤ p ∧ p ≤ 38 := by
  rcases kd1 h with rfl | rfl <;> decide
theorem surf_congr {M M' : Mem} (h : surf M) (e : ∀ b, 1 ≤ b → b ≤ 5 → M' b = M b) : surf M' ∧ gX M' = gX M := by
  have eg : gX M' = gX M := gX_congr (e 1 (by decide) (by decide)) (e 2 (by decide) (by decide)) (e 3 (by decide) (by decide))
  refine ⟨⟨by rw [eg]; exact h.1, ?_⟩, eg⟩
  rw [eg]
  intro t d h0 h1 h2 h3
  rw [e 4 (by decide) (by decide), e 5 (by decide) (by decide)]
  exact h.2 t d h0 h1 h2 h3
theorem surf_gB {M : Mem} (h : surf M) : gB M := ⟨h.1.1, h.1.2.1⟩
theorem kin_congr {M M' : Mem} {κ : Nat → Int} (h : kin M κ) (e : M' 6 = M 6) : kin M' κ := fun t ht => by rw [e]; exact h t ht
