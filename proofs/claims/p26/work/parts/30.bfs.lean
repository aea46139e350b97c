/-! ===== going through the parts, as a function: rows 0 labels, 1 classes, 2 depths, 3 the queue, 4 its length ===== -/
theorem sumF_congr {f h : Nat → Int} {n : Nat} (e : ∀ j, j < n → f j = h j) : sumF f n = sumF h n := by
  induction n with
  | zero => rfl
  | succ n ih => unfold sumF; rw [ih (fun j hj => e j (by omega)), e n (by omega)]
theorem sumF_upd {f h : Nat → Int} {n k : Nat} (hk : k < n) (e : ∀ j, j < n → j ≠ k → f j = h j) : sumF f n = sumF h n + (f k - h k) := by
  induction n with
  | zero => omega
  | succ n ih =>
    unfold sumF
    by_cases q : k = n
    · subst q
      rw [sumF_congr (fun j hj => e j (by omega) (by omega))]; omega
    · rw [ih (by omega) (fun j hj hne => e j (by omega) hne), e n (by omega) (fun z => q z.symm)]; omega
theorem sumF_b {f : Nat → Int} {n : Nat} (h : ∀ j, j < n → 0 ≤ f j ∧ f j ≤ 1) : 0 ≤ sumF f n ∧ sumF f n ≤ n := by
  induction n with
  | zero => exact ⟨Int.le_refl 0, Int.le_refl 0⟩
  | succ n ih =>
    have h1 := ih (fun j hj => h j (by omega))
    have h2 := h n (by omega)
    unfold sumF
    omega
theorem sumF_lt {f : Nat → Int} {n k : Nat} (h : ∀ j, j < n → 0 ≤ f j ∧ f j ≤ 1) (hk : k < n) (h0 : f k = 0) : sumF f n ≤ n - 1 := by
  have e := sumF_upd (f := f) (h := upR f k 1) hk (fun j _ hj => (upR_n hj).symm)
  have b := sumF_b (f := upR f k 1) (n := n) (fun j hj => by
    by_cases q : j = k
    · subst q; rw [upR_s]; omega
    · rw [upR_n q]; exact h j hj)
  rw [upR_s, h0] at e
  omega
theorem if01 (c : Prop) [Decidable c] : (0 : Int) ≤ (if c then 1 else 0) ∧ (if c then (1 : Int) else 0) ≤ 1 := by
  split <;> omega
abbrev cntL (r : Nat → Int) (f : Int) (n : Nat) : Int := sumF (fun t => if r t = f then 1 else 0) n
abbrev cntS (r : Nat → Int) (n : Nat) : Int := sumF (fun t => if r t = (t : Int) then 1 else 0) n
def badd (f u c dd : Int) (B : Mem) : Mem := up (up (up (up (up B 0 u.toNat f) 1 u.toNat c) 2 u.toNat dd) 3 (B 4 0).toNat u) 4 0 (B 4 0 + 1)
def bvis (g κ : Nat → Int) (f t d : Int) (B : Mem) : Mem :=
  if 0 ≤ nx g t d ∧ B 0 (nx g t d).toNat < 0 ∧ κ (nx g t d).toNat = κ t.toNat then badd f (nx g t d) (bXor (B 1 t.toNat) (sm g t d)) (B 2 t.toNat + 1) B else B
def bexp (g κ : Nat → Int) (f t : Int) : Nat → Mem → Mem
  | 0, B => B
  | d + 1, B => bvis g κ f t d (bexp g κ f t d B)
def bini (f : Int) (B : Mem) : Mem := up (up (up (up (up B 0 f.toNat f) 1 f.toNat 0) 2 f.toNat 0) 3 0 f) 4 0 1
def bfl (g κ : Nat → Int) (f : Int) (B : Mem) : Nat → Mem
  | 0 => bini f B
  | k + 1 => if (k : Int) < bfl g κ f B k 4 0 then bexp g κ f (bfl g κ f B k 3 k) 4 (bfl g κ f B k) else bfl g κ f B k
def bly (g κ : Nat → Int) : Nat → Mem
  | 0 => fun a _ => if a = 0 then -1 else 0
  | i + 1 => if bly g κ i 0 i < 0 then bfl g κ i (bly g κ i) 144 else bly g κ i
abbrev nT (g : Nat → Int) : Nat := (g 0 * g 1).toNat
def lab (g κ : Nat → Int) (t : Nat) : Int := bly g κ (nT g) 0 t
def crs (g κ : Nat → Int) (t : Nat) : Int := bly g κ (nT g) 1 t
def dep (g κ : Nat → Int) (t : Nat) : Int := bly g κ (nT g) 2 t
theorem badd_0 {f u c dd : Int} {B : Mem} : badd f u c dd B 0 = upR (B 0) u.toNat f := by
  unfold badd; rw [up_n (by decide), up_n (by decide), up_n (by decide), up_n (by decide), up_s]
theorem badd_1 {f u c dd : Int} {B : Mem} : badd f u c dd B 1 = upR (B 1) u.toNat c := by
  unfold badd; rw [up_n (by decide), up_n (by decide), up_n (by decide), up_s, up_n (by decide)]
theorem badd_2 {f u c dd : Int} {B : Mem} : badd f u c dd B 2 = upR (B 2) u.toNat dd := by
  unfold badd; rw [up_n (by decide), up_n (by decide), up_s, up_n (by decide), up_n (by decide)]
theorem badd_3 {f u c dd : Int} {B : Mem} : badd f u c dd B 3 = upR (B 3) (B 4 0).toNat u := by
  unfold badd; rw [up_n (by decide), up_s, up_n (by decide), up_n (by decide), up_n (by decide)]
theorem badd_4 {f u c dd : Int} {B : Mem} : badd f u c dd B 4 0 = B 4 0 + 1 := by
  unfold badd; rw [up_sk]
theorem bini_0 {f : Int} {B : Mem} : bini f B 0 = upR (B 0) f.toNat f := by
  unfold bini; rw [up_n (by decide), up_n (by decide), up_n (by decide), up_n (by decide), up_s]
theorem bini_1 {f : Int} {B : Mem} : bini f B 1 = upR (B 1) f.toNat 0 := by
  unfold bini; rw [up_n (by decide), up_n (by decide), up_n (by decide), up_s, up_n (by decide)]
theorem bini_2 {f : Int} {B : Mem} : bini f B 2 = upR (B 2) f.toNat 0 := by
  unfold bini; rw [up_n (by decide), up_n (by decide), up_s, up_n (by decide), up_n (by decide)]
theorem bini_3 {f : Int} {B : Mem} : bini f B 3 = upR (B 3) 0 f := by
  unfold bini; rw [up_n (by decide), up_s, up_n (by decide), up_n (by decide), up_n (by decide)]
theorem bini_4 {f : Int} {B : Mem} : bini f B 4 0 = 1 := by
  unfold bini; rw [up_sk]
/-- between floods -/
def BG (g κ : Nat → Int) (B : Mem) : Prop := ∀ t : Nat, t < nT g → B 0 t = -1 ∨
  ((0 ≤ B 0 t ∧ B 0 t < nT g) ∧ (0 ≤ B 1 t ∧ B 1 t ≤ 3) ∧ (0 ≤ B 2 t ∧ B 2 t ≤ 144) ∧ B 0 (B 0 t).toNat = B 0 t ∧ κ (B 0 t).toNat = κ t ∧
    ∀ d : Int, 0 ≤ d → d < 4 → 0 ≤ nx g t d → κ (nx g t d).toNat = κ t → B 0 (nx g t d).toNat = B 0 t)
/-- while the part of f is gone through: k tiles of the queue are done, and d directions of the next -/
def BF (g κ : Nat → Int) (f : Int) (k : Nat) (d : Nat) (B : Mem) : Prop :=
  ((0 ≤ f ∧ f < nT g) ∧ B 0 f.toNat = f) ∧
  (∀ t : Nat, t < nT g → B 0 t = -1 ∨ ((0 ≤ B 0 t ∧ B 0 t < nT g) ∧ (0 ≤ B 1 t ∧ B 1 t ≤ 3) ∧ (0 ≤ B 2 t ∧ B 2 t ≤ 144) ∧ B 0 (B 0 t).toNat = B 0 t ∧ κ (B 0 t).toNat = κ t ∧
    (B 0 t ≠ f → ∀ d : Int, 0 ≤ d → d < 4 → 0 ≤ nx g t d → κ (nx g t d).toNat = κ t → B 0 (nx g t d).toNat = B 0 t))) ∧
  (1 ≤ B 4 0 ∧ B 4 0 = cntL (B 0) f (nT g)) ∧
  (∀ j : Nat, (j : Int) < B 4 0 → (0 ≤ B 3 j ∧ B 3 j < nT g) ∧ B 0 (B 3 j).toNat = f ∧ B 2 (B 3 j).toNat ≤ j) ∧
  (∀ t : Nat, t < nT g → B 0 t = f → ∃ j : Nat, (j : Int) < B 4 0 ∧ B 3 j = t) ∧
  (∀ j : Nat, (j : Int) < B 4 0 → ∀ e : Int, 0 ≤ e → e < 4 → (j < k ∨ (j = k ∧ e < d)) → 0 ≤ nx g (B 3 j) e → κ (nx g (B 3 j) e).toNat = κ (B 3 j).toNat → B 0 (nx g (B 3 j) e).toNat = f)
theorem nT_b {g : Nat → Int} (G : gOK g) : ((nT g : Nat) : Int) = g 0 * g 1 ∧ 9 ≤ nT g ∧ nT g ≤ 144 := by
  have := gN G
  unfold nT
  omega
theorem BF_q {g κ : Nat → Int} (G : gOK g) {f : Int} {k d : Nat} {B : Mem} (h : BF g κ f k d B) : B 4 0 ≤ nT g := by
  rw [h.2.2.1.2]
  exact (sumF_b (fun j _ => if01 _)).2
theorem bX3 {a s : Int} (ha : 0 ≤ a ∧ a ≤ 3) (hs : s = 0 ∨ s = 1 ∨ s = 2) : 0 ≤ bXor a s ∧ bXor a s ≤ 3 := by
  rcases (by omega : a = 0 ∨ a = 1 ∨ a = 2 ∨ a = 3) with rfl | rfl | rfl | rfl <;> rcases hs with rfl | rfl | rfl <;> decide
/-- one direction -/
theorem BF_vis {g κ : Nat → Int} (G : gOK g) {f : Int} {k d : Nat} {B : Mem} (hd : d < 4) (hk : (k : Int) < B 4 0) (h : BF g κ f k d B) :
    BF g κ f k (d + 1) (bvis g κ f (B 3 k) d B) ∧ (∀ j : Nat, (j : Int) < B 4 0 → bvis g κ f (B 3 k) d B 3 j = B 3 j) ∧ B 4 0 ≤ bvis g κ f (B 3 k) d B 4 0 ∧ (∀ t : Nat, t < nT g → 0 ≤ B 0 t → bvis g κ f (B 3 k) d B 0 t = B 0 t ∧ bvis g κ f (B 3 k) d B 1 t = B 1 t ∧ bvis g κ f (B 3 k) d B 2 t = B 2 t) := by
  obtain ⟨⟨hf, hff⟩, h1, ⟨h2, h3⟩, h4, h5, h6⟩ := id h
  obtain ⟨nE, n9, n144⟩ := nT_b G
  obtain ⟨ht, htl, htd⟩ := h4 k hk
  have hqN := BF_q G h
  unfold bvis
  split
  next hc =>
    obtain ⟨c1, c2, c3⟩ := hc
    have hu := (nx_b G (d := (d : Int)) ht.1 (by omega)).resolve_left (by omega)
    generalize hue : nx g (B 3 k) d = u at *
    have hul : u.toNat < nT g := by omega
    have hu1 : B 0 u.toNat = -1 := (h1 _ hul).resolve_right (fun z => by omega)
    have hT : B 3 k = ((B 3 k).toNat : Int) := by omega
    have hTl := (h1 (B 3 k).toNat (by omega)).resolve_left (by omega)
    have hfu : f.toNat ≠ u.toNat := fun z => by rw [z] at hff; omega
    have hlt : B 4 0 ≤ nT g - 1 := by
      rw [h3]
      have := sumF_lt (f := fun t => if B 0 t = f then (1 : Int) else 0) (n := nT g) (k := u.toNat) (fun j _ => if01 _) hul (by rw [if_neg (by omega)])
      omega
    refine ⟨⟨⟨hf, by rw [badd_0, upR_n hfu]; exact hff⟩, fun t tl => ?_, ⟨by rw [badd_4]; omega, ?_⟩, fun j hj => ?_, fun t tl tf => ?_, fun j hj e e0 e4 hje hn hκ => ?_⟩, fun j hj => ?_, by rw [badd_4]; omega, fun t tl t0 => ?_⟩
    · rw [badd_0, badd_1, badd_2]
      by_cases q : t = u.toNat
      · subst q
        rw [upR_s, upR_s, upR_s, upR_n hfu]
        refine Or.inr ⟨hf, bX3 hTl.2.1 sm_b, by omega, hff, ?_, fun z => absurd rfl z⟩
        have e1 := hTl.2.2.2.2.1
        rw [htl] at e1
        rw [e1, c3]
      · rw [upR_n q, upR_n q, upR_n q]
        rcases h1 t tl with z | ⟨z1, z2, z3, z4, z5, z6⟩
        · exact Or.inl z
        · have hne : (B 0 t).toNat ≠ u.toNat := fun y => by rw [y] at z4; omega
          refine Or.inr ⟨z1, z2, z3, by rw [upR_n hne]; exact z4, z5, fun y d' d0 d4 y1 y2 => ?_⟩
          have hv := z6 y d' d0 d4 y1 y2
          rw [upR_n (fun w => by rw [w] at hv; omega)]
          exact hv
    · rw [badd_4, badd_0]
      show _ = sumF _ _
      rw [sumF_upd (f := fun t => if upR (B 0) u.toNat f t = f then (1 : Int) else 0) (h := fun t => if B 0 t = f then (1 : Int) else 0) hul (fun j _ hj => by rw [upR_n hj])]
      rw [upR_s, if_pos rfl, if_neg (by omega), h3]
      show cntL (B 0) f (nT g) + 1 = cntL (B 0) f (nT g) + (1 - 0)
      omega
    · rw [badd_4] at hj
      rw [badd_3, badd_0, badd_2]
      by_cases q : j = (B 4 0).toNat
      · subst q
        rw [upR_s, upR_s, upR_s]
        exact ⟨by omega, rfl, by omega⟩
      · obtain ⟨w1, w2, w3⟩ := h4 j (by omega)
        have hne : (B 3 j).toNat ≠ u.toNat := fun y => by rw [y] at w2; omega
        rw [upR_n q, upR_n hne, upR_n hne]
        exact ⟨w1, w2, w3⟩
    · rw [badd_4, badd_3]
      by_cases q : t = u.toNat
      · exact ⟨(B 4 0).toNat, by omega, by rw [upR_s]; omega⟩
      · rw [badd_0, upR_n q] at tf
        obtain ⟨j, j1, j2⟩ := h5 t tl tf
        exact ⟨j, by omega, by rw [upR_n (by omega)]; exact j2⟩
    · rw [badd_4] at hj
      rw [badd_3] at hn hκ ⊢
      by_cases q : j = (B 4 0).toNat
      · omega
      · rw [upR_n q] at hn hκ ⊢
        rw [badd_0]
        by_cases q2 : (nx g (B 3 j) e).toNat = u.toNat
        · rw [q2, upR_s]
        · rw [upR_n q2]
          rcases hje with hje | ⟨hje, hed⟩
          · exact h6 j (by omega) e e0 e4 (Or.inl hje) hn hκ
          · by_cases q3 : e = d
            · rw [hje, q3, hue] at q2
              exact absurd rfl q2
            · exact h6 j (by omega) e e0 e4 (Or.inr ⟨hje, by omega⟩) hn hκ
    · rw [badd_3, upR_n (by omega)]
    · have hne : t ≠ u.toNat := fun y => by rw [y] at t0; omega
      rw [badd_0, badd_1, badd_2, upR_n hne, upR_n hne, upR_n hne]
      exact ⟨rfl, rfl, rfl⟩
  next hc =>
    refine ⟨⟨⟨hf, hff⟩, h1, ⟨h2, h3⟩, h4, h5, fun j hj e e0 e4 hje hn hκ => ?_⟩, fun j hj => rfl, Int.le_refl _, fun t tl t0 => ⟨rfl, rfl, rfl⟩⟩
    rcases hje with hje | ⟨hje, hed⟩
    · exact h6 j hj e e0 e4 (Or.inl hje) hn hκ
    · by_cases q3 : e = d
      · subst hje
        rw [q3] at hn hκ ⊢
        -- the neighbour is labelled: by f, or it was closed before
        have hu := (nx_b G (d := (d : Int)) ht.1 (by omega)).resolve_left (by omega)
        have hl0 : ¬ B 0 (nx g (B 3 j) d).toNat < 0 := fun z => hc ⟨hn, z, hκ⟩
        have hlu := (h1 (nx g (B 3 j) d).toNat (by omega)).resolve_left (by omega)
        refine Classical.byContradiction fun hne => ?_
        have hcast : (((nx g (B 3 j) d).toNat : Nat) : Int) = nx g (B 3 j) d := by omega
        obtain ⟨i1, -⟩ := nx_inv G ht.1 (by omega) (d := (d : Int)) (by omega) hn
        obtain ⟨r1, r2, -⟩ := rev_b (d := (d : Int)) (by omega)
        have := hlu.2.2.2.2.2 hne (rev d) r1 r2 (by rw [hcast, i1]; exact ht.1) (by rw [hcast, i1, ← hκ])
        rw [hcast, i1, htl] at this
        exact hne this.symm
      · exact h6 j hj e e0 e4 (Or.inr ⟨hje, by omega⟩) hn hκ
