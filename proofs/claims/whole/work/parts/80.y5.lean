/-! ===== the model's distances ===== -/
def LD (g κ wt : Nat → Int) (s : Nat) (M : Mem) (r : Int) : Prop :=
  (∃ Sd c, DI g κ wt s (dY M) Sd c 4 (18 * r) ∧ ∀ t : Nat, t < nT g → (Sd t ↔ (M 4 t = 1 ∧ M 11 t ≠ 1000000))) ∧
  (∀ j : Nat, j < nT g → M 11 j = 1000000 ∨ (0 ≤ M 11 j ∧ M 11 j ≤ 18 * r)) ∧ (∀ j : Nat, j < nT g → M 4 j = 0 ∨ M 4 j = 1) ∧
  sumF (fun t => if M 4 t = 1 then 1 else 0) (nT g) = r ∧
  ((∀ t : Nat, t < nT g → M 4 t = 1 → M 11 t ≠ 1000000) ∨ (∀ u : Nat, u < nT g → M 4 u = 0 → M 11 u = 1000000))
def LE (g κ wt : Nat → Int) (s : Nat) (M : Mem) (r b d : Int) : Prop :=
  (∀ j : Nat, j < nT g → M 11 j = 1000000 ∨ (0 ≤ M 11 j ∧ M 11 j ≤ 18 * (r + 1))) ∧ (∀ j : Nat, j < nT g → M 4 j = 0 ∨ M 4 j = 1) ∧
  sumF (fun t => if M 4 t = 1 then 1 else 0) (nT g) = r + 1 ∧ M 4 b.toNat = 1 ∧
  ((M 11 b.toNat ≠ 1000000 ∧ (0 ≤ M 11 b.toNat ∧ M 11 b.toNat ≤ 18 * r) ∧ (∃ Sd, DI g κ wt s (dY M) Sd b d (18 * (r + 1)) ∧ ∀ t : Nat, t < nT g → (Sd t ↔ (M 4 t = 1 ∧ M 11 t ≠ 1000000))) ∧ (∀ t : Nat, t < nT g → M 4 t = 1 → M 11 t ≠ 1000000)) ∨
   (M 11 b.toNat = 1000000 ∧ (∃ Sd c, DI g κ wt s (dY M) Sd c 4 (18 * (r + 1)) ∧ ∀ t : Nat, t < nT g → (Sd t ↔ (M 4 t = 1 ∧ M 11 t ≠ 1000000))) ∧ (∀ u : Nat, u < nT g → M 4 u = 0 → M 11 u = 1000000)))
theorem LE_end {g κ wt : Nat → Int} {s : Nat} {M : Mem} {r b : Int} (h : LE g κ wt s M r b 4) : LD g κ wt s M (r + 1) := by
  obtain ⟨h1, h2, h3, h4, h5⟩ := h
  rcases h5 with ⟨a1, a2, ⟨Sd, a3, a4⟩, a5⟩ | ⟨a1, ⟨Sd, c, a3, a4⟩, a5⟩
  · exact ⟨⟨Sd, b, a3, a4⟩, h1, h2, h3, Or.inl a5⟩
  · exact ⟨⟨Sd, c, a3, a4⟩, h1, h2, h3, Or.inr a5⟩
theorem LD_pick {g κ wt : Nat → Int} {s : Nat} {M : Mem} {r b : Int} (h : LD g κ wt s M r) (hr : 0 ≤ r ∧ r ≤ 144) (hb : 0 ≤ b ∧ b < nT g) (hu : M 4 b.toNat = 0) (hm : ∀ i : Nat, i < nT g → M 4 i = 0 → M 11 b.toNat ≤ M 11 i) : LE g κ wt s (up M 4 b.toNat 1) r b 0 := by
  obtain ⟨⟨Sd, c, h1, h2⟩, h3, h4, h5, h6⟩ := h
  have e11 : up M 4 b.toNat 1 11 = M 11 := up_n (by decide)
  have ed : dY (up M 4 b.toNat 1) = dY M := by funext t; unfold dY; rw [e11]
  have bl : b.toNat < nT g := by omega
  have hcb := h3 b.toNat bl
  have cnt : sumF (fun t => if up M 4 b.toNat 1 4 t = 1 then (1 : Int) else 0) (nT g) = r + 1 := by
    have e := sumF_upd (f := fun t => if up M 4 b.toNat 1 4 t = 1 then (1 : Int) else 0) (h := fun t => if M 4 t = 1 then (1 : Int) else 0) bl (fun j _ hj => by rw [up_nk (Or.inr hj)])
    rw [up_sk, if_pos rfl, hu, if_neg (by decide)] at e
    omega
  have s01 : ∀ j : Nat, j < nT g → up M 4 b.toNat 1 4 j = 0 ∨ up M 4 b.toNat 1 4 j = 1 := fun j hj => by
    by_cases q : j = b.toNat
    · rw [q, up_sk]; exact Or.inr rfl
    · rw [up_nk (Or.inr q)]; exact h4 j hj
  refine ⟨fun j hj => by rw [e11]; have := h3 j hj; omega, s01, cnt, up_sk, ?_⟩
  rw [ed, e11]
  by_cases q : M 11 b.toNat = 1000000
  · refine Or.inr ⟨q, ⟨Sd, c, DI_B h1 (by omega), fun t ht => ?_⟩, fun u hu1 hu2 => ?_⟩
    · rw [h2 t ht]
      by_cases q2 : t = b.toNat
      · rw [q2]; exact ⟨fun z => absurd q z.2, fun z => absurd q z.2⟩
      · rw [up_nk (Or.inr q2)]
    · by_cases q2 : u = b.toNat
      · rw [q2, up_sk] at hu2; omega
      · rw [up_nk (Or.inr q2)] at hu2
        have := hm u hu1 hu2
        have := h3 u hu1
        omega
  · have hA := h6.resolve_right (fun z => q (z _ bl hu))
    have dv : ∀ u : Nat, u < nT g → 0 ≤ dY M u → M 11 u ≠ 1000000 ∧ dY M u = M 11 u := fun u hu z => by
      unfold dY at z ⊢
      by_cases q2 : M 11 u = 1000000
      · rw [if_pos q2] at z; omega
      · rw [if_neg q2]; exact ⟨q2, rfl⟩
    have db : dY M b.toNat = M 11 b.toNat := by unfold dY; rw [if_neg q]
    have nS : ¬ Sd b.toNat := fun z => by have := ((h2 _ bl).mp z).1; omega
    have hP := DI_pick h1 bl nS (by rw [db]; omega) (fun u ul us u0 => by
      obtain ⟨d1, d2⟩ := dv u ul u0
      rw [db, d2]
      refine hm u ul ((h4 u ul).resolve_right (fun z => us ((h2 u ul).mpr ⟨z, d1⟩))))
    rw [show ((b.toNat : Nat) : Int) = b by omega] at hP
    refine Or.inl ⟨q, by omega, ⟨_, DI_B hP (by omega), fun t ht => ?_⟩, fun t ht z => ?_⟩
    · by_cases q2 : t = b.toNat
      · rw [q2, up_sk]; exact ⟨fun _ => ⟨rfl, q⟩, fun _ => Or.inr rfl⟩
      · rw [up_nk (Or.inr q2)]
        exact ⟨fun z => (h2 t ht).mp (z.resolve_right q2), fun z => Or.inl ((h2 t ht).mpr z)⟩
    · by_cases q2 : t = b.toNat
      · rw [q2]; exact q
      · rw [up_nk (Or.inr q2)] at z; exact hA t ht z
/-- one direction -/
theorem LE_step {g κ wt : Nat → Int} {s : Nat} {M : Mem} {r b d : Int} (hκ : ∀ t : Nat, t < 144 → 0 ≤ κ t ∧ κ t ≤ 5) (hw : ∀ k : Nat, k < 6 → 0 ≤ wt k ∧ wt k ≤ 9) (G : gOK g) (hr : 0 ≤ r ∧ r ≤ 144) (hb : 0 ≤ b ∧ b < nT g) (hd : 0 ≤ d ∧ d < 4) (h : LE g κ wt s M r b d) :
    (¬ (M 11 b.toNat ≠ 1000000 ∧ 0 < stl g κ wt b d ∧ M 11 b.toNat + stl g κ wt b d < M 11 (nx g b d).toNat) → LE g κ wt s M r b (d + 1)) ∧
    (M 11 b.toNat ≠ 1000000 → 0 < stl g κ wt b d → M 11 b.toNat + stl g κ wt b d < M 11 (nx g b d).toNat → LE g κ wt s (up M 11 (nx g b d).toNat (M 11 b.toNat + stl g κ wt b d)) r b (d + 1)) := by
  obtain ⟨h1, h2, h3, h4, h5⟩ := h
  obtain ⟨s1, s2, s3⟩ := stl_b hκ hw G (t := b) (d := d) hb.1 hb.2
  constructor
  · intro hn
    refine ⟨h1, h2, h3, h4, ?_⟩
    rcases h5 with ⟨a1, a2, ⟨Sd, a3, a4⟩, a5⟩ | hB
    · have db : dY M b.toNat = M 11 b.toNat := by unfold dY; rw [if_neg a1]
      refine Or.inl ⟨a1, a2, ⟨Sd, (DI_relax hκ hw G hb.1 hd (by rw [db]; omega) a3).1 (fun z => ?_), a4⟩, a5⟩
      have hu := s3 z.1
      have hv := h1 (nx g b d).toNat (by omega)
      refine hn ⟨a1, z.1, ?_⟩
      have zz := z.2
      rw [db] at zz
      unfold dY at zz
      by_cases q : M 11 (nx g b d).toNat = 1000000
      · omega
      · rw [if_neg q] at zz; omega
    · exact Or.inr hB
  · intro a1 hs hlt
    have hu := s3 hs
    have ul : (nx g b d).toNat < nT g := by omega
    have hv := h1 _ ul
    rcases h5 with ⟨-, a2, ⟨Sd, a3, a4⟩, a5⟩ | hB
    · have db : dY M b.toNat = M 11 b.toNat := by unfold dY; rw [if_neg a1]
      have dd : dY M (nx g b d).toNat = -4 ∨ dY M b.toNat + stl g κ wt b d < dY M (nx g b d).toNat := by
        rw [db]
        unfold dY
        by_cases q : M 11 (nx g b d).toNat = 1000000
        · rw [if_pos q]; exact Or.inl rfl
        · rw [if_neg q]; exact Or.inr hlt
      obtain ⟨nS, hD⟩ := (DI_relax hκ hw G hb.1 hd (by rw [db]; omega) a3).2 ⟨hs, dd⟩
      have u0 : M 4 (nx g b d).toNat = 0 := (h2 _ ul).resolve_right (fun z => nS ((a4 _ ul).mpr ⟨z, a5 _ ul z⟩))
      have bu : b.toNat ≠ (nx g b d).toNat := fun z => by rw [← z, h4] at u0; omega
      have e4 : up M 11 (nx g b d).toNat (M 11 b.toNat + stl g κ wt b d) 4 = M 4 := up_n (by decide)
      have ed : dY (up M 11 (nx g b d).toNat (M 11 b.toNat + stl g κ wt b d)) = upR (dY M) (nx g b d).toNat (dY M b.toNat + stl g κ wt b d) := by
        funext t
        unfold dY
        by_cases q : t = (nx g b d).toNat
        · rw [q, up_sk, upR_s, if_neg a1, if_neg (by omega)]
        · rw [up_nk (Or.inr q), upR_n q]
      refine ⟨fun j hj => ?_, by rw [e4]; exact h2, by rw [e4]; exact h3, by rw [e4]; exact h4, Or.inl ⟨by rw [up_nk (Or.inr bu)]; exact a1, by rw [up_nk (Or.inr bu)]; exact a2, ⟨Sd, by rw [ed]; exact hD, fun t ht => ?_⟩, fun t ht z => ?_⟩⟩
      · by_cases q : j = (nx g b d).toNat
        · rw [q, up_sk]; omega
        · rw [up_nk (Or.inr q)]; exact h1 j hj
      · rw [e4]
        by_cases q : t = (nx g b d).toNat
        · rw [q]; exact ⟨fun z => absurd z nS, fun z => by rw [u0] at z; omega⟩
        · rw [up_nk (Or.inr q)]; exact a4 t ht
      · rw [e4] at z
        by_cases q : t = (nx g b d).toNat
        · rw [q, u0] at z; omega
        · rw [up_nk (Or.inr q)]; exact a5 t ht z
    · exact absurd hB.1 a1
section Y5
variable {l : Launch} {D : va_G} {cy : Nat → ClassId} {ad : Nat → Nat}
theorem ok_X9_layDistances (hA : jA ad 12) : OK_X9_layDistances l D cy ad := met_X9_layDistances hA (ok_X9_next hA) (ok_X9_stepLength hA)
  (fun p s M0 t M μ => (∀ j : Nat, (j : Int) < t → M 11 j = (if (j : Int) = s then 0 else 1000000) ∧ M 4 j = 0) ∧ (∀ b, b ≠ 4 → b ≠ 11 → M b = M0 b) ∧ (0 ≤ t ∧ t ≤ nT (gY M0)) ∧ μ = (900000 - t).toNat)
  (fun p s M0 r M μ => LD (gY M0) (M0 1) (M0 2) s.toNat M r ∧ (∀ b, b ≠ 4 → b ≠ 11 → M b = M0 b) ∧ (0 ≤ r ∧ r ≤ nT (gY M0)) ∧ μ = ((200 - r) * 1000).toNat)
  (fun p s M0 r b t M μ => LD (gY M0) (M0 1) (M0 2) s.toNat M r ∧ ((b = -1 ∧ ∀ i : Nat, (i : Int) < t → M 4 i = 1) ∨ ((0 ≤ b ∧ b < t) ∧ M 4 b.toNat = 0 ∧ ∀ i : Nat, (i : Int) < t → M 4 i = 0 → M 11 b.toNat ≤ M 11 i)) ∧ (∀ b, b ≠ 4 → b ≠ 11 → M b = M0 b) ∧ (0 ≤ r ∧ r < nT (gY M0)) ∧ (0 ≤ t ∧ t ≤ nT (gY M0)) ∧ μ = ((200 - r) * 1000 - 1 - t).toNat)
  (fun p s M0 r b d M μ => LE (gY M0) (M0 1) (M0 2) s.toNat M r b d ∧ (0 ≤ b ∧ b < nT (gY M0)) ∧ (∀ b, b ≠ 4 → b ≠ 11 → M b = M0 b) ∧ (0 ≤ r ∧ r < nT (gY M0)) ∧ (0 ≤ d ∧ d ≤ 4) ∧ μ = ((200 - r) * 1000 - 500 - d).toNat)
  (by
    rintro p s M0 ⟨hp, h0, hG, hw, hs⟩ hM rs
    exact ⟨_, rfl, rfl, fun j hj => by omega, fun _ _ _ => rfl, by omega, rfl⟩)
  (by
    rintro p s M0 ⟨hp, h0, hG, hw, hs⟩ hM rs t M n ⟨hI, hf, ht, hμ⟩ -
    subst h0
    obtain ⟨n2, n9, n144⟩ := gY_n hG
    rw [hf 0 (by decide) (by decide), n2]
    have nxt : ∀ v : Int, v = (if t = s then 0 else 1000000) → ∀ j : Nat, (j : Int) < t + 1 → up (up M 11 t.toNat v) 4 t.toNat 0 11 j = (if (j : Int) = s then 0 else 1000000) ∧ up (up M 11 t.toNat v) 4 t.toNat 0 4 j = 0 := fun v hv j hj => by
      rw [up_n (by decide)]
      by_cases q : j = t.toNat
      · rw [q, up_sk, up_sk, show ((t.toNat : Nat) : Int) = t by omega]; exact ⟨hv, rfl⟩
      · rw [up_nk (Or.inr q), up_nk (Or.inr q), up_n (by decide)]; exact hI j (by omega)
    refine ⟨hp, fun h => ⟨((200 - 0) * 1000 : Int).toNat, by omega, rfl, rfl, ⟨⟨fun _ => False, -1, DI_ini (by omega) (fun t tl => ?_) (by decide), fun t tl => ⟨fun z => z.elim, fun z => ?_⟩⟩, fun j hj => ?_, fun j hj => Or.inl (hI j (by omega)).2, ?_, Or.inl (fun t tl z => ?_)⟩, hf, by omega, rfl⟩, fun h => ⟨hp, fun h2 => ⟨rfl, by omega, hp, rfl, by omega, Or.inl rfl, by omega, (900000 - (t + 1)).toNat, by omega, rfl, rfl, nxt _ (by rw [if_neg h2]), fun b b4 b11 => by rw [up_n b4, up_n b11]; exact hf b b4 b11, by omega, rfl⟩, fun h2 => ⟨rfl, by omega, hp, rfl, by omega, Or.inl rfl, by omega, (900000 - (t + 1)).toNat, by omega, rfl, rfl, nxt _ (by rw [if_pos (Classical.byContradiction h2)]), fun b b4 b11 => by rw [up_n b4, up_n b11]; exact hf b b4 b11, by omega, rfl⟩⟩⟩
    · unfold dY
      rw [(hI t (by omega)).1]
      by_cases q : t = s.toNat
      · rw [if_pos (show (t : Int) = s by omega), if_neg (by decide), if_pos q]
      · rw [if_neg (show ¬ (t : Int) = s by omega), if_pos rfl, if_neg q]
    · rw [(hI t (by omega)).2] at z; omega
    · rw [(hI j (by omega)).1]; split <;> omega
    · exact sumF_low (fun j hj => by rw [(hI j (by omega)).2]; rfl)
    · rw [(hI t (by omega)).2] at z; omega)
  (by
    rintro p s M0 ⟨hp, h0, hG, hw, hs⟩ hM rs r M n ⟨hI, hf, hr, hμ⟩ -
    subst h0
    obtain ⟨n2, n9, n144⟩ := gY_n hG
    rw [hf 0 (by decide) (by decide), n2]
    refine ⟨hp, fun h => ⟨rfl, ?_⟩, fun h => ⟨((200 - r) * 1000 - 1 - 0).toNat, by omega, rfl, rfl, hI, Or.inl ⟨rfl, fun i hi => by omega⟩, hf, by omega, by omega, rfl⟩⟩
    obtain ⟨⟨Sd, c, h1, h2⟩, h3, h4, h5, h6⟩ := hI
    have all : ∀ t : Nat, t < nT (gY M0) → M 4 t = 1 := fun t tl => Classical.byContradiction (fun z => by
      have := sumF_lt (f := fun t => if M 4 t = 1 then (1 : Int) else 0) (n := nT (gY M0)) (k := t) (fun j _ => if01 _) tl (by rw [if_neg z])
      omega)
    refine ⟨DI_end h1 (fun u ul u0 => (h2 u ul).mpr ⟨all u ul, fun z => ?_⟩), fun j hj => ?_, hf⟩
    · unfold dY at u0
      rw [if_pos z] at u0; omega
    · have := h3 j hj; omega)
  (by
    rintro p s M0 ⟨hp, h0, hG, hw, hs⟩ hM rs r b t M n ⟨hI, hb, hf, hr, ht, hμ⟩ -
    subst h0
    obtain ⟨n2, n9, n144⟩ := gY_n hG
    rw [hf 0 (by decide) (by decide), n2]
    have h3 := hI.2.1
    have h4 := hI.2.2.1
    have h5 := hI.2.2.2.1
    refine ⟨hp, fun h => ?_, fun h => ⟨hp, rfl, by omega, fun h2 => ⟨by omega, ((200 - r) * 1000 - 1 - (t + 1)).toNat, by omega, rfl, rfl, hI, ?_, hf, hr, by omega, rfl⟩, fun h2 => ⟨fun h7 => ⟨by omega, ((200 - r) * 1000 - 1 - (t + 1)).toNat, by omega, rfl, rfl, hI, Or.inr ⟨by omega, Classical.byContradiction h2, fun i hi hz => ?_⟩, hf, hr, by omega, rfl⟩, fun h7 => ⟨hp, rfl, by omega, hp, rfl, by omega, fun h8 => ⟨by omega, ((200 - r) * 1000 - 1 - (t + 1)).toNat, by omega, rfl, rfl, hI, Or.inr ?_, hf, hr, by omega, rfl⟩, fun h8 => ⟨by omega, ((200 - r) * 1000 - 1 - (t + 1)).toNat, by omega, rfl, rfl, hI, Or.inr ⟨by omega, Classical.byContradiction h2, fun i hi hz => ?_⟩, hf, hr, by omega, rfl⟩⟩⟩⟩⟩
    · rcases hb with ⟨b1, b2⟩ | ⟨b1, b2, b3⟩
      · exfalso
        have e : sumF (fun t => if M 4 t = 1 then (1 : Int) else 0) (nT (gY M0)) = sumF (fun _ => 1) (nT (gY M0)) := sumF_congr (fun j hj => by rw [if_pos (b2 j (by omega))])
        have e2 : ∀ n : Nat, sumF (fun _ => 1) n = n := fun n => by
          induction n with
          | zero => rfl
          | succ n ih => show sumF (fun _ => 1) n + 1 = _; rw [ih]; omega
        rw [e2] at e
        omega
      · exact ⟨hp, rfl, by omega, Or.inr rfl, ((200 - r) * 1000 - 500 - 0).toNat, by omega, rfl, rfl, LD_pick hI (by omega) (by omega) b2 (fun i hi => b3 i (by omega)), by omega, fun b b4 b11 => by rw [up_n b4]; exact hf b b4 b11, hr, by omega, rfl⟩
    · have h2' := (h4 t.toNat (by omega)).resolve_left h2
      rcases hb with ⟨b1, b2⟩ | ⟨b1, b2, b3⟩
      · refine Or.inl ⟨b1, fun i hi => ?_⟩
        by_cases q : i = t.toNat
        · rw [q]; exact h2'
        · exact b2 i (by omega)
      · refine Or.inr ⟨by omega, b2, fun i hi hz => ?_⟩
        by_cases q : i = t.toNat
        · rw [q, h2'] at hz; omega
        · exact b3 i (by omega) hz
    · by_cases q : i = t.toNat
      · rw [q]; exact Int.le_refl _
      · have := (hb.resolve_right (fun y => by omega)).2 i (by omega)
        omega
    · obtain ⟨b1, b2, b3⟩ := hb.resolve_left (fun y => by omega)
      refine ⟨by omega, b2, fun i hi hz => ?_⟩
      by_cases q : i = t.toNat
      · rw [q]; exact h8
      · exact b3 i (by omega) hz
    · obtain ⟨b1, b2, b3⟩ := hb.resolve_left (fun y => by omega)
      by_cases q : i = t.toNat
      · rw [q]; exact Int.le_refl _
      · have := b3 i (by omega) hz; omega)
  (by
    rintro p s M0 ⟨hp, h0, hG, hw, hs⟩ hM rs r b d M n ⟨hI, hb, hf, hr, hd, hμ⟩ -
    subst h0
    obtain ⟨n2, n9, n144⟩ := gY_n hG
    have nE := (nT_b hG.1).1
    have e0 : M 0 = M0 0 := hf 0 (by decide) (by decide)
    have e1 : M 1 = M0 1 := hf 1 (by decide) (by decide)
    have e2 : M 2 = M0 2 := hf 2 (by decide) (by decide)
    obtain ⟨hG1, eg⟩ := gY_congr hG e0
    have hw1 : woY M := by unfold woY; rw [e1, e2]; exact hw
    refine ⟨fun h => ⟨by omega, ((200 - (r + 1)) * 1000).toNat, by omega, rfl, rfl, LE_end (by rw [show d = 4 by omega] at hI; exact hI), hf, by omega, rfl⟩, fun h => ⟨⟨hp, rfl, hG1, by rw [eg]; exact hb, by omega⟩, ?_⟩⟩
    rintro x2 M1 - - ⟨rfl, rfl⟩
    have hu := nx_b hG.1 (t := b) (d := d) hb.1 (by omega)
    have hbb := hI.1 b.toNat (by omega)
    obtain ⟨s1, s2, s3⟩ := stl_b hw.1 hw.2 hG.1 (t := b) (d := d) hb.1 hb.2
    obtain ⟨st1, st2⟩ := LE_step hw.1 hw.2 hG.1 (by omega) hb ⟨hd.1, by omega⟩ hI
    have no : ∀ _ : Nat, ¬ (M1 11 b.toNat ≠ 1000000 ∧ 0 < stl (gY M0) (M0 1) (M0 2) b d ∧ M1 11 b.toNat + stl (gY M0) (M0 1) (M0 2) b d < M1 11 (nx (gY M0) b d).toNat) → inR (d + 1) ∧ ∃ μ : Nat, μ < n ∧ (0 : Nat) = 0 ∧ s = s ∧ (LE (gY M0) (M0 1) (M0 2) s.toNat M1 r b (d + 1) ∧ (0 ≤ b ∧ b < nT (gY M0)) ∧ (∀ b, b ≠ 4 → b ≠ 11 → M1 b = M0 b) ∧ (0 ≤ r ∧ r < nT (gY M0)) ∧ (0 ≤ d + 1 ∧ d + 1 ≤ 4) ∧ μ = ((200 - r) * 1000 - 500 - (d + 1)).toNat) := fun _ z =>
      ⟨by omega, ((200 - r) * 1000 - 500 - (d + 1)).toNat, by omega, rfl, rfl, st1 z, hb, hf, hr, by omega, rfl⟩
    refine ⟨hp, rfl, by omega, ⟨hp, rfl, hG1, hw1, by rw [eg]; exact hb, by rw [eg]; omega⟩, ?_⟩
    rintro x4 M3 - - hc4
    obtain ⟨rfl, hx4⟩ := sl_x hG1 hw1 (by rw [eg]; exact hb) hc4
    rw [eg, e1, e2] at hx4
    rw [eg]
    have xb : x4 = 1000000 ∨ (0 < stl (gY M0) (M0 1) (M0 2) b d ∧ x4 = stl (gY M0) (M0 1) (M0 2) b d) := by
      by_cases q : stl (gY M0) (M0 1) (M0 2) b d = 0
      · rw [if_pos q] at hx4; exact Or.inl hx4
      · rw [if_neg q] at hx4; exact Or.inr ⟨by omega, hx4⟩
    have xz : x4 = 1000000 → stl (gY M0) (M0 1) (M0 2) b d = 0 := fun z => by
      rcases xb with q | q
      · by_cases q2 : stl (gY M0) (M0 1) (M0 2) b d = 0
        · exact q2
        · rw [if_neg q2] at hx4; omega
      · omega
    refine ⟨by omega, fun h2 => no 0 (fun z => ?_), fun h2 => ?_⟩
    · rcases xb with q | q
      · have := xz q; omega
      · omega
    · have q := xb.resolve_left (fun y => by omega)
      have hn := s3 q.1
      refine ⟨hp, rfl, by omega, fun h3 => no 0 (fun z => by omega), fun h3 => ⟨hp, rfl, by omega, by omega, ((200 - r) * 1000 - 500 - (d + 1)).toNat, by omega, rfl, rfl, ?_, hb, fun b b4 b11 => by rw [up_n b11]; exact hf b b4 b11, hr, by omega, rfl⟩⟩
      rw [q.2]
      exact st2 (by omega) q.1 (by omega))
end Y5
