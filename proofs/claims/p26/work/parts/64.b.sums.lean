/-! ===== sums over parts ===== -/
theorem sumF_add {f h : Nat → Int} (n : Nat) : sumF (fun j => f j + h j) n = sumF f n + sumF h n := by
  induction n with
  | zero => rfl
  | succ n ih => unfold sumF; rw [ih]; omega
theorem sumF_mono {f h : Nat → Int} {n : Nat} (e : ∀ j, j < n → f j ≤ h j) : sumF f n ≤ sumF h n := by
  induction n with
  | zero => exact Int.le_refl _
  | succ n ih =>
    have h1 := ih (fun j hj => e j (by omega))
    have h2 := e n (by omega)
    unfold sumF
    omega
theorem sumF_nn {f : Nat → Int} {n : Nat} (e : ∀ j, j < n → 0 ≤ f j) : 0 ≤ sumF f n := by
  have := sumF_mono (f := fun _ => 0) (h := f) e
  rwa [sumF_0 (fun _ => rfl)] at this
theorem sumF_swap {f : Nat → Nat → Int} (m n : Nat) : sumF (fun i => sumF (fun j => f i j) n) m = sumF (fun j => sumF (fun i => f i j) m) n := by
  induction m with
  | zero => exact (sumF_0 (fun _ => rfl) n).symm
  | succ m ih =>
    show sumF (fun i => sumF (fun j => f i j) n) m + sumF (fun j => f m j) n = sumF (fun j => sumF (fun i => f i j) m + f m j) n
    rw [ih, sumF_add]
theorem sumF_one {v : Nat → Int} {n a : Nat} (h : a < n) : sumF (fun i => if i = a then v i else 0) n = v a := by
  rw [sumF_upd (h := fun _ => 0) h (fun j _ hj => if_neg hj), sumF_0 (fun _ => rfl), if_pos rfl]; omega
theorem sumF_mul {f : Nat → Int} (c : Int) (n : Nat) : sumF (fun j => if c = 0 then 0 else f j) n = if c = 0 then 0 else sumF f n := by
  split
  · exact sumF_0 (fun _ => rfl) n
  · rfl
theorem sumF_ge {f : Nat → Int} {n k : Nat} (h : ∀ j, j < n → 0 ≤ f j) (hk : k < n) : f k ≤ sumF f n := by
  have e := sumF_upd (f := f) (h := upR f k 0) hk (fun j _ hj => (upR_n hj).symm)
  have b := sumF_nn (f := upR f k 0) (n := n) (fun j hj => by
    by_cases q : j = k
    · subst q; rw [upR_s]; exact Int.le_refl _
    · rw [upR_n q]; exact h j hj)
  rw [upR_s] at e
  omega
/-- over the parts that begin below n -/
def sumR (L w : Nat → Int) (n : Nat) : Int := sumF (fun f => if L f = (f : Int) then w f else 0) n
/-- all parts together: every k lies in just one -/
theorem parts_sum {L : Nat → Int} {N K : Nat} {own : Nat → Nat} {w : Nat → Int} (hL : ∀ t, t < N → 0 ≤ L t ∧ L t < N) (hR : ∀ t, t < N → L (L t).toNat = L t) (ho : ∀ k, k < K → own k < N) :
    sumR L (fun f => sumF (fun k => if L (own k) = (f : Int) then w k else 0) K) N = sumF w K := by
  unfold sumR
  have e1 : ∀ f, f < N → (if L f = (f : Int) then sumF (fun k => if L (own k) = (f : Int) then w k else 0) K else 0) = sumF (fun k => if f = (L (own k)).toNat then w k else 0) K := by
    intro f hf
    split
    next hl =>
      refine sumF_congr fun k hk => ?_
      have hb := hL _ (ho k hk)
      by_cases q : L (own k) = (f : Int)
      · rw [if_pos q, if_pos (by omega)]
      · rw [if_neg q, if_neg (by omega)]
    next hl =>
      refine (sumF_low fun k hk => if_neg fun q => hl ?_).symm
      have hb := hL _ (ho k hk)
      have h2 := hR _ (ho k hk)
      rw [← q] at h2
      rw [h2]
      omega
  rw [sumF_congr e1, sumF_swap]
  refine sumF_congr fun k hk => ?_
  have hb := hL _ (ho k hk)
  exact sumF_one (v := fun _ => w k) (n := N) (a := (L (own k)).toNat) (by omega)
section PS
variable {g κ : Nat → Int}
theorem labR_b (G : gOK g) : ∀ t, t < nT g → 0 ≤ lab g κ t ∧ lab g κ t < nT g := fun t ht => (lab_facts G ht).1
theorem labR_r (G : gOK g) : ∀ t, t < nT g → lab g κ (lab g κ t).toNat = lab g κ t := fun t ht => (lab_facts G ht).2.2.2.1
theorem nxk_b (G : gOK g) {k : Nat} (hk : k < nT g * 4) : k / 4 < nT g ∧ (nxk g k = -5 ∨ (0 ≤ nxk g k ∧ (nxk g k).toNat < nT g)) := by
  obtain ⟨nE, n9, n144⟩ := nT_b G
  have h1 : k / 4 < nT g := by omega
  refine ⟨h1, ?_⟩
  rcases nx_b G (t := ((k / 4 : Nat) : Int)) (d := ((k % 4 : Nat) : Int)) (by omega) (by omega) with q | q
  · exact Or.inl q
  · exact Or.inr ⟨q.1, by show (nx g _ _).toNat < nT g; omega⟩
theorem sum_sizes (G : gOK g) : sumR (lab g κ) (fun f => cntL (lab g κ) f (nT g)) (nT g) = nT g := by
  have h := parts_sum (own := fun k => k) (w := fun _ => 1) (K := nT g) (labR_b (κ := κ) G) (labR_r G) (fun k hk => hk)
  have e : ∀ n, sumF (fun _ => (1 : Int)) n = n := by
    intro n
    induction n with
    | zero => rfl
    | succ n ih => unfold sumF; rw [ih]; omega
  rw [e] at h
  exact h
/-- a neighbour of another kind -/
abbrev qK (g κ : Nat → Int) (k : Nat) : Int := if 0 ≤ nxk g k ∧ κ (nxk g k).toNat ≠ κ (k / 4) then 1 else 0
theorem sum_borders (G : gOK g) : sumR (lab g κ) (fun f => sumF (qO (lab g κ) g f) (nT g * 4)) (nT g) = sumF (qK g κ) (nT g * 4) := by
  have h := parts_sum (own := fun k => k / 4) (w := qK g κ) (K := nT g * 4) (labR_b (κ := κ) G) (labR_r G) (fun k hk => (nxk_b G hk).1)
  rw [← h]
  unfold sumR
  refine sumF_congr fun f hf => ?_
  split
  next hl =>
    refine sumF_congr fun k hk => ?_
    obtain ⟨h1, h2⟩ := nxk_b G hk
    unfold qO qK
    by_cases q : lab g κ (k / 4) = (f : Int)
    · rw [if_pos q]
      by_cases q2 : 0 ≤ nxk g k
      · have h3 := (h2.resolve_left (by omega)).2
        by_cases q3 : κ (nxk g k).toNat = κ (k / 4)
        · have := lab_cl (κ := κ) G (k / 4) h1 ((k % 4 : Nat) : Int) (by omega) (by omega) q2 q3
          rw [if_neg (fun z => z.2.2 (by rw [← q]; exact this)), if_neg (fun z => z.2 q3)]
        · rw [if_pos ⟨q, q2, fun z => q3 (lab_k (κ := κ) G h3 h1 (by rw [q]; exact z))⟩, if_pos ⟨q2, q3⟩]
      · rw [if_neg (fun z => q2 z.2.1), if_neg (fun z => q2 z.1)]
    · rw [if_neg q, if_neg (fun z => q z.1)]
  next hl => rfl
theorem sum_open (G : gOK g) : sumR (lab g κ) (fun f => sumF (qN (lab g κ) g f) (nT g * 4)) (nT g) = sumF (fun k => if nxk g k < 0 then 1 else 0) (nT g * 4) := by
  have h := parts_sum (own := fun k => k / 4) (w := fun k => if nxk g k < 0 then 1 else 0) (K := nT g * 4) (labR_b (κ := κ) G) (labR_r G) (fun k hk => (nxk_b G hk).1)
  rw [← h]
  unfold sumR
  refine sumF_congr fun f hf => ?_
  split
  next hl =>
    refine sumF_congr fun k hk => ?_
    unfold qN
    by_cases q : lab g κ (k / 4) = (f : Int)
    · rw [if_pos q]
      by_cases q2 : nxk g k < 0
      · rw [if_pos ⟨q, q2⟩, if_pos q2]
      · rw [if_neg (fun z => q2 z.2), if_neg q2]
    · rw [if_neg q, if_neg (fun z => q z.1)]
  next hl => rfl
end PS
/-! the parts in their order -/
theorem cntS_mono {L : Nat → Int} {a b : Nat} (h : a ≤ b) : cntS L a ≤ cntS L b := by
  obtain ⟨c, rfl⟩ : ∃ c, b = a + c := ⟨b - a, by omega⟩
  induction c with
  | zero => exact Int.le_refl _
  | succ c ih =>
    have := ih (by omega)
    have e : cntS L (a + (c + 1)) = cntS L (a + c) + (if L (a + c) = ((a + c : Nat) : Int) then 1 else 0) := rfl
    have := if01 (L (a + c) = ((a + c : Nat) : Int))
    omega
theorem cntS_s {L : Nat → Int} {a : Nat} : cntS L (a + 1) = cntS L a + (if L a = (a : Int) then 1 else 0) := rfl
/-- no part begins between -/
theorem cntS_none {L : Nat → Int} {a b : Nat} (hab : a ≤ b) (e : cntS L b = cntS L a) : ∀ j, a ≤ j → j < b → L j ≠ (j : Int) := by
  intro j hj hb hl
  have h1 := cntS_mono (L := L) hj
  have h2 := cntS_mono (L := L) (show j + 1 ≤ b by omega)
  rw [cntS_s, if_pos hl] at h2
  omega
theorem sumR_none {L w : Nat → Int} {a b : Nat} (hab : a ≤ b) (e : cntS L b = cntS L a) : sumR L w b = sumR L w a := by
  have hn := cntS_none hab e
  clear e
  induction b with
  | zero => rw [show a = 0 by omega]
  | succ b ih =>
    by_cases q : a = b + 1
    · rw [q]
    · have e : sumR L w (b + 1) = sumR L w b + (if L b = (b : Int) then w b else 0) := rfl
      rw [e, if_neg (hn b (by omega) (by omega)), ih (by omega) (fun j h1 h2 => hn j h1 (by omega))]
      omega
theorem sumR_s {L w : Nat → Int} {a : Nat} (h : L a = (a : Int)) : sumR L w (a + 1) = sumR L w a + w a := by
  show sumR L w a + (if L a = (a : Int) then w a else 0) = _
  rw [if_pos h]
theorem kth_no {L : Nat → Int} {k : Int} {n : Nat} (h : cntS L n ≤ k) : kthF L k n = -5 := by
  induction n with
  | zero => rfl
  | succ n ih =>
    have h1 := cntS_mono (L := L) (show n ≤ n + 1 by omega)
    unfold kthF
    rw [if_pos (ih (by omega)), if_neg]
    rintro ⟨h2, h3⟩
    rw [cntS_s, if_pos h2] at h
    omega
theorem kth_is {L : Nat → Int} {k : Int} {n : Nat} (h0 : 0 ≤ k) (h : k < cntS L n) : ∃ t : Nat, t < n ∧ kthF L k n = t ∧ L t = t ∧ cntS L t = k := by
  induction n with
  | zero => exact absurd h (by show ¬ k < 0; omega)
  | succ n ih =>
    by_cases q : k < cntS L n
    · obtain ⟨t, t1, t2, t3, t4⟩ := ih q
      refine ⟨t, by omega, ?_, t3, t4⟩
      unfold kthF
      rw [if_neg (by rw [t2]; omega), t2]
    · have h1 := kth_no (L := L) (k := k) (n := n) (by omega)
      rw [cntS_s] at h
      have hl : L n = (n : Int) := Classical.byContradiction fun z => by
        rw [if_neg z] at h
        omega
      rw [if_pos hl] at h
      refine ⟨n, by omega, ?_, hl, by omega⟩
      unfold kthF
      rw [if_pos h1, if_pos ⟨hl, by omega⟩]
/-- one part on: the next label lies behind those that have been counted -/
theorem kth_next {L : Nat → Int} {k : Int} {n lim : Nat} (h : k < cntS L n) (hl : cntS L lim = k) : ∃ t : Nat, t < n ∧ kthF L k n = t ∧ L t = t ∧ lim ≤ t ∧ cntS L t = cntS L lim ∧ cntS L (t + 1) = k + 1 := by
  have h0 : 0 ≤ k := by
    rw [← hl]
    exact sumF_nn (fun j _ => (if01 _).1)
  obtain ⟨t, t1, t2, t3, t4⟩ := kth_is h0 h
  refine ⟨t, t1, t2, t3, ?_, by omega, by rw [cntS_s, if_pos t3, t4]⟩
  refine Classical.byContradiction fun z => ?_
  have := cntS_mono (L := L) (show t + 1 ≤ lim by omega)
  rw [cntS_s, if_pos t3] at this
  omega
/-- the greatest part, as the parts are gone through in their order -/
theorem grF_none {P : Nat → Bool} {S : Nat → Int} {a b : Nat} (hab : a ≤ b) (hn : ∀ j, a ≤ j → j < b → P j = false) : grF P S b = grF P S a := by
  induction b with
  | zero => rw [show a = 0 by omega]
  | succ b ih =>
    by_cases q : a = b + 1
    · rw [q]
    · rw [← ih (by omega) (fun j h1 h2 => hn j h1 (by omega))]
      show (if P b = true ∧ _ then (b : Int) else grF P S b) = _
      rw [if_neg (fun z => by rw [hn b (by omega) (by omega)] at z; exact absurd z.1 (by decide))]
theorem grF_b {P : Nat → Bool} {S : Nat → Int} (n : Nat) : grF P S n = -5 ∨ (0 ≤ grF P S n ∧ (grF P S n).toNat < n ∧ P (grF P S n).toNat = true) := by
  induction n with
  | zero => exact Or.inl rfl
  | succ n ih =>
    unfold grF
    split
    next h => exact Or.inr ⟨by omega, by omega, h.1⟩
    next h => exact ih.imp id (fun ⟨a, b, c⟩ => ⟨a, by omega, c⟩)
