/-! ===== distances: that there are some, that they are alike both ways; routes ===== -/
theorem min_int {P : Int → Prop} (h0 : ∀ v, P v → 0 ≤ v) (h : ∃ v, P v) : ∃ v, P v ∧ ∀ w, P w → v ≤ w := by
  have key : ∀ (n : Nat) (v : Int), P v → v.toNat = n → ∃ v, P v ∧ ∀ w, P w → v ≤ w := by
    intro n
    induction n using Nat.strongRecOn with
    | ind n ih =>
      intro v hv hn
      by_cases q : ∀ w, P w → v ≤ w
      · exact ⟨v, hv, q⟩
      · obtain ⟨w, hw⟩ := Classical.not_forall.mp q
        obtain ⟨hw1, hw2⟩ := Classical.not_imp.mp hw
        have b1 := h0 v hv
        have b2 := h0 w hw1
        exact ih w.toNat (by omega) w hw1 rfl
  obtain ⟨v, hv⟩ := h
  exact key _ v hv rfl
/-- n steps from s to t have the length v -/
def wk (g κ wt : Nat → Int) (s : Nat) : Nat → Nat → Int → Prop
  | 0, t, v => t = s ∧ v = 0
  | n + 1, t, v => ∃ u : Nat, u < nT g ∧ ∃ e : Int, 0 ≤ e ∧ e < 4 ∧ 0 < stl g κ wt u e ∧ nx g u e = t ∧ wk g κ wt s n u (v - stl g κ wt u e)
theorem wk_nn {g κ wt : Nat → Int} {s : Nat} : ∀ (n t : Nat) (v : Int), wk g κ wt s n t v → 0 ≤ v := by
  intro n
  induction n with
  | zero => intro t v h; rw [h.2]; exact Int.le_refl _
  | succ n ih =>
    intro t v h
    obtain ⟨u, -, e, -, -, es, -, hu⟩ := h
    have := ih u _ hu
    omega
section DD
variable {g κ wt : Nat → Int}
theorem dst_ex (G : gOK g) (hκ : ∀ t : Nat, t < 144 → 0 ≤ κ t ∧ κ t ≤ 5) (hw : ∀ k : Nat, k < 6 → 0 ≤ wt k ∧ wt k ≤ 9) {s : Nat} (hs : s < nT g) : isDist g κ wt s (dst g κ wt s) := by
  obtain ⟨nE, n9, n144⟩ := nT_b G
  have ex : ∀ t : Nat, ∃ v : Int, (v = -4 ∧ ∀ n k, ¬ wk g κ wt s n t k) ∨ (0 ≤ v ∧ (∃ n, wk g κ wt s n t v) ∧ ∀ n k, wk g κ wt s n t k → v ≤ k) := by
    intro t
    by_cases q : ∃ v, ∃ n, wk g κ wt s n t v
    · obtain ⟨v, h1, h2⟩ := min_int (P := fun v => ∃ n, wk g κ wt s n t v) (fun v ⟨n, hn⟩ => wk_nn n t v hn) q
      exact ⟨v, Or.inr ⟨wk_nn _ t v h1.choose_spec, h1, fun n k hk => h2 k ⟨n, hk⟩⟩⟩
    · exact ⟨-4, Or.inl ⟨rfl, fun n k hk => q ⟨k, n, hk⟩⟩⟩
  let L : Nat → Int := fun t => Classical.choose (ex t)
  have hL : ∀ t : Nat, (L t = -4 ∧ ∀ n k, ¬ wk g κ wt s n t k) ∨ (0 ≤ L t ∧ (∃ n, wk g κ wt s n t (L t)) ∧ ∀ n k, wk g κ wt s n t k → L t ≤ k) := fun t => Classical.choose_spec (ex t)
  have rel : ∀ t : Nat, t < nT g → 0 ≤ L t → ∀ e : Int, 0 ≤ e → e < 4 → 0 < stl g κ wt t e → 0 ≤ L (nx g t e).toNat ∧ L (nx g t e).toNat ≤ L t + stl g κ wt t e := by
    intro t tl t0 e e0 e4 es
    have hb := (stl_b hκ hw G (t := (t : Int)) (d := e) (by omega) (by omega)).2.2 es
    have h1 := (hL t).resolve_left (fun z => by omega)
    obtain ⟨n, hn⟩ := h1.2.1
    have hk : wk g κ wt s (n + 1) (nx g t e).toNat (L t + stl g κ wt t e) := ⟨t, tl, e, e0, e4, es, by omega, by rw [Int.add_sub_cancel]; exact hn⟩
    rcases hL (nx g t e).toNat with z | z
    · exact absurd hk (z.2 _ _)
    · exact ⟨z.1, z.2.2 _ _ hk⟩
  refine dst_is (L := L) ⟨⟨hs, ?_⟩, fun t tl => ?_, rel, fun t tl ts t0 => ?_⟩
  · have h0 : wk g κ wt s 0 s 0 := ⟨rfl, rfl⟩
    rcases hL s with z | z
    · exact absurd h0 (z.2 _ _)
    · have := z.2.2 _ _ h0
      have := z.1
      omega
  · exact (hL t).imp (fun z => z.1) (fun z => z.1)
  · have h1 := (hL t).resolve_left (fun z => by omega)
    obtain ⟨n, hn⟩ := h1.2.1
    cases n with
    | zero => exact absurd hn.1 ts
    | succ n =>
      obtain ⟨u, ul, e, e0, e4, es, en, hu⟩ := hn
      have h2 := (hL u).resolve_left (fun z => z.2 _ _ hu)
      have h3 := h2.2.2 _ _ hu
      have h4 := (rel u ul h2.1 e e0 e4 es).2
      rw [en, Int.toNat_natCast] at h4
      exact ⟨u, ul, h2.1, e, e0, e4, es, en, by omega⟩
theorem stl_rev (G : gOK g) {t e : Int} (h0 : 0 ≤ t) (h1 : t < nT g) (he : 0 ≤ e ∧ e < 4) (hn : 0 ≤ nx g t e) : nx g (nx g t e) (rev e) = t ∧ stl g κ wt (nx g t e) (rev e) = stl g κ wt t e := by
  obtain ⟨nE, n9, n144⟩ := nT_b G
  have hi := (nx_inv G h0 (by omega) he hn).1
  refine ⟨hi, ?_⟩
  unfold stl
  rw [hi, if_neg (show ¬ t < 0 by omega), if_neg (show ¬ nx g t e < 0 by omega)]
  by_cases q : wt (κ t.toNat).toNat = 0 ∨ wt (κ (nx g t e).toNat).toNat = 0
  · rw [if_pos q, if_pos q.symm]
  · rw [if_neg q, if_neg (fun z => q z.symm)]
    omega
/-- no way over a tile is shorter -/
theorem dst_tri {s u : Nat} {Ls Lu : Nat → Int} (hs : isDist g κ wt s Ls) (hu : isDist g κ wt u Lu) (h0 : 0 ≤ Ls u) : ∀ (v x : Nat), x < nT g → 0 ≤ Lu x → Lu x = v → 0 ≤ Ls x ∧ Ls x ≤ Ls u + Lu x := by
  intro v
  induction v using Nat.strongRecOn with
  | ind v ih =>
    intro x xl x0 xv
    by_cases q : x = u
    · subst q
      have := hu.1.2
      omega
    · obtain ⟨y, yl, y0, e, e0, e4, es, en, eL⟩ := hu.2.2.2 x xl q x0
      obtain ⟨w1, w2⟩ := ih (Lu y).toNat (by omega) y yl y0 (by omega)
      have := hs.2.2.1 y yl w1 e e0 e4 es
      rw [en, Int.toNat_natCast] at this
      omega
theorem dst_sym1 (G : gOK g) {D : Nat → Nat → Int} (hD : ∀ s, s < nT g → isDist g κ wt s (D s)) {s : Nat} (hs : s < nT g) : ∀ (v t : Nat), t < nT g → 0 ≤ D s t → D s t = v → 0 ≤ D t s ∧ D t s ≤ D s t := by
  intro v
  induction v using Nat.strongRecOn with
  | ind v ih =>
    intro t tl t0 tv
    by_cases q : t = s
    · subst q
      omega
    · obtain ⟨u, ul, u0, e, e0, e4, es, en, eL⟩ := (hD s hs).2.2.2 t tl q t0
      obtain ⟨w1, w2⟩ := ih (D s u).toNat (by omega) u ul u0 (by omega)
      obtain ⟨r1, r2⟩ := stl_rev (κ := κ) (wt := wt) G (t := (u : Int)) (e := e) (by omega) (by omega) ⟨e0, e4⟩ (by omega)
      rw [en] at r1 r2
      obtain ⟨b1, b2, -⟩ := rev_b (d := e) ⟨e0, e4⟩
      have hz := (hD t tl).1.2
      have h1 := (hD t tl).2.2.1 t tl (by omega) (rev e) b1 b2 (by rw [r2]; exact es)
      rw [r1, r2, Int.toNat_natCast] at h1
      have h2 := dst_tri (hD t tl) (hD u ul) h1.1 (D u s).toNat s hs w1 (by omega)
      omega
theorem dst_sym (G : gOK g) (hκ : ∀ t : Nat, t < 144 → 0 ≤ κ t ∧ κ t ≤ 5) (hw : ∀ k : Nat, k < 6 → 0 ≤ wt k ∧ wt k ≤ 9) {s t : Nat} (hs : s < nT g) (ht : t < nT g) : dst g κ wt s t = dst g κ wt t s := by
  have hD : ∀ s, s < nT g → isDist g κ wt s (dst g κ wt s) := fun s hs => dst_ex G hκ hw hs
  rcases (hD s hs).2.1 t ht with a | a
  · rcases (hD t ht).2.1 s hs with b | b
    · omega
    · have := (dst_sym1 G hD ht (dst g κ wt t s).toNat s hs b (by omega)).1
      omega
  · have h1 := dst_sym1 G hD hs (dst g κ wt s t).toNat t ht a (by omega)
    have h2 := dst_sym1 G hD ht (dst g κ wt t s).toNat s hs h1.1 (by omega)
    omega
/-! routes -/
abbrev gd (g κ wt L : Nat → Int) (t d : Int) : Prop := 0 < stl g κ wt t d ∧ L (nx g t d).toNat + stl g κ wt t d = L t.toNat
theorem onw_first {L : Nat → Int} {t : Int} : ∀ n : Nat, n ≤ 4 → (∃ d : Int, 4 - (n : Int) ≤ d ∧ d < 4 ∧ gd g κ wt L t d) → ∃ d : Int, 4 - (n : Int) ≤ d ∧ d < 4 ∧ gd g κ wt L t d ∧ onw g κ wt L t n = nx g t d ∧ ∀ e : Int, 4 - (n : Int) ≤ e → e < d → ¬ gd g κ wt L t e := by
  intro n
  induction n with
  | zero => rintro _ ⟨d, d1, d2, -⟩; omega
  | succ n ih =>
    rintro hn ⟨d, d1, d2, d3⟩
    unfold onw
    by_cases q : gd g κ wt L t (3 - n)
    · rw [if_pos q]
      exact ⟨3 - n, by omega, by omega, q, rfl, fun e e1 e2 => by omega⟩
    · rw [if_neg q]
      have hd : d ≠ 3 - n := fun z => q (by rw [← z]; exact d3)
      obtain ⟨d', a1, a2, a3, a4, a5⟩ := ih (by omega) ⟨d, by omega, d2, d3⟩
      refine ⟨d', by omega, a2, a3, a4, fun e e1 e2 => ?_⟩
      by_cases q2 : e = 3 - n
      · rw [q2]; exact q
      · exact a5 e (by omega) e2
theorem onw_step (G : gOK g) {o : Nat} {L : Nat → Int} (h : isDist g κ wt o L) {t : Int} (t0 : 0 ≤ t) (t1 : t < nT g) (hL : 0 ≤ L t.toNat) (hne : t ≠ o) : ∃ d : Int, 0 ≤ d ∧ d < 4 ∧ gd g κ wt L t d ∧ onw g κ wt L t 4 = nx g t d ∧ ∀ e : Int, 0 ≤ e → e < d → ¬ gd g κ wt L t e := by
  obtain ⟨u, ul, u0, e, e0, e4, es, en, eL⟩ := h.2.2.2 t.toNat (by omega) (by omega) hL
  obtain ⟨r1, r2⟩ := stl_rev (κ := κ) (wt := wt) G (t := (u : Int)) (e := e) (by omega) (by omega) ⟨e0, e4⟩ (by omega)
  rw [en, Int.toNat_of_nonneg t0] at r1 r2
  obtain ⟨b1, b2, -⟩ := rev_b (d := e) ⟨e0, e4⟩
  exact onw_first 4 (Nat.le_refl 4) ⟨rev e, by omega, b2, by rw [r2]; exact es, by rw [r1, r2, Int.toNat_natCast]; omega⟩
/-- the tiles of the way that goes on so -/
def pth (g κ wt L : Nat → Int) (a : Int) : Nat → Int
  | 0 => a
  | i + 1 => onw g κ wt L (pth g κ wt L a i) 4
theorem pth_s {L : Nat → Int} {a : Int} (i : Nat) : pth g κ wt L a (i + 1) = pth g κ wt L (onw g κ wt L a 4) i := by
  induction i with
  | zero => rfl
  | succ i ih =>
    show onw g κ wt L (pth g κ wt L a (i + 1)) 4 = _
    rw [ih]
    rfl
abbrev clo (g L : Nat → Int) (a : Int) : Int := sumF (fun t => if 0 ≤ L t ∧ L t < L a.toNat then 1 else 0) (nT g)
def pthOK (g κ wt L : Nat → Int) (o : Nat) (a : Int) (q : Nat) : Prop := pth g κ wt L a q = o ∧ ∀ i : Nat, i ≤ q → (0 ≤ pth g κ wt L a i ∧ pth g κ wt L a i < nT g) ∧ 0 ≤ L (pth g κ wt L a i).toNat ∧ (i < q → pth g κ wt L a i ≠ o)
theorem pth_ex (G : gOK g) (hκ : ∀ t : Nat, t < 144 → 0 ≤ κ t ∧ κ t ≤ 5) (hw : ∀ k : Nat, k < 6 → 0 ≤ wt k ∧ wt k ≤ 9) {o : Nat} {L : Nat → Int} (h : isDist g κ wt o L) : ∀ (v : Nat) (a : Int), 0 ≤ a → a < nT g → 0 ≤ L a.toNat → clo g L a = v → ∃ q : Nat, (q : Int) ≤ clo g L a ∧ pthOK g κ wt L o a q := by
  intro v
  induction v using Nat.strongRecOn with
  | ind v ih =>
    intro a a0 a1 aL av
    by_cases q : a = o
    · refine ⟨0, by rw [av]; omega, q, fun i hi => ?_⟩
      rw [show i = 0 by omega]
      exact ⟨⟨a0, a1⟩, aL, fun z => by omega⟩
    · obtain ⟨d, d0, d4, ⟨s1, s2⟩, en, -⟩ := onw_step G h a0 a1 aL q
      have hb := (stl_b hκ hw G (t := a) (d := d) a0 a1).2.2 s1
      have hr := h.2.2.1 a.toNat (by omega) aL d d0 d4 (by rw [Int.toNat_of_nonneg a0]; exact s1)
      rw [Int.toNat_of_nonneg a0] at hr
      generalize hbe : nx g a d = b at *
      have hc : clo g L b + 1 ≤ clo g L a := by
        have h1 : sumF (fun t => (if 0 ≤ L t ∧ L t < L b.toNat then (1 : Int) else 0) + (if t = b.toNat then 1 else 0)) (nT g) ≤ clo g L a := by
          refine sumF_mono fun j hj => ?_
          by_cases z : j = b.toNat
          · subst z
            rw [if_neg (fun y => by omega), if_pos rfl, if_pos ⟨by omega, by omega⟩]
            omega
          · rw [if_neg z]
            by_cases y : 0 ≤ L j ∧ L j < L b.toNat
            · rw [if_pos y, if_pos ⟨y.1, by omega⟩]; omega
            · rw [if_neg y]
              have := if01 (0 ≤ L j ∧ L j < L a.toNat)
              omega
        rw [sumF_add, sumF_one (v := fun _ => 1) (by omega)] at h1
        exact h1
      have hcb : 0 ≤ clo g L b := sumF_nn (fun j _ => (if01 _).1)
      obtain ⟨q', q1, q2, q3⟩ := ih (clo g L b).toNat (by omega) b hb.1 hb.2 (by omega) (by omega)
      refine ⟨q' + 1, by omega, ?_, fun i hi => ?_⟩
      · rw [pth_s, en]; exact q2
      · cases i with
        | zero => exact ⟨⟨a0, a1⟩, aL, fun _ => q⟩
        | succ i =>
          rw [pth_s, en]
          obtain ⟨c1, c2, c3⟩ := q3 i (by omega)
          exact ⟨c1, c2, fun z => c3 (by omega)⟩
theorem clo_lt {L : Nat → Int} {a : Int} (a0 : 0 ≤ a) (a1 : a < nT g) : clo g L a ≤ (nT g : Int) - 1 := sumF_lt (k := a.toNat) (fun j _ => if01 _) (by omega) (if_neg (fun z => by omega))
theorem rgo_is {L : Nat → Int} {o : Nat} {a : Int} {q : Nat} (h : pthOK g κ wt L o a q) {k : Int} (hk : -1 ≤ k) : ∀ n i : Nat, i ≤ q → q ≤ n + i → (k = -1 ∨ (i : Int) ≤ k) → rgo g κ wt L o k n (pth g κ wt L a i) i = if k = -1 then (q : Int) else if k ≤ q then pth g κ wt L a k.toNat else -5 := by
  intro n
  induction n with
  | zero =>
    intro i h1 h2 h3
    have e : i = q := by omega
    subst e
    unfold rgo
    by_cases z : k = -1
    · rw [if_pos z, if_pos z]
    · rw [if_neg z, if_neg z]
      by_cases y : (i : Int) = k
      · rw [if_pos y, if_pos (by omega), show k.toNat = i by omega]
      · rw [if_neg y, if_neg (by omega)]
  | succ n ih =>
    intro i h1 h2 h3
    unfold rgo
    by_cases c : pth g κ wt L a i = o ∨ (i : Int) = k
    · rw [if_pos c]
      by_cases z : k = -1
      · rw [if_pos z, if_pos z]
        have : ¬ i < q := fun y => (h.2 i h1).2.2 y (c.resolve_right (by omega))
        omega
      · rw [if_neg z, if_neg z]
        by_cases y : (i : Int) = k
        · rw [if_pos y, if_pos (by omega), show k.toNat = i by omega]
        · have : ¬ i < q := fun y2 => (h.2 i h1).2.2 y2 (c.resolve_right y)
          rw [if_neg y, if_neg (by omega)]
    · rw [if_neg c]
      have hi : i < q := by
        refine Nat.lt_of_le_of_ne h1 (fun z => c (Or.inl ?_))
        rw [z]; exact h.1
      have := ih (i + 1) (by omega) (by omega) (by omega)
      rw [show ((i + 1 : Nat) : Int) = (i : Int) + 1 by omega] at this
      exact this
/-! the farthest, the nearest -/
theorem dst_pos {s : Nat} {L : Nat → Int} (h : isDist g κ wt s L) {t : Nat} (ht : t < nT g) (h0 : L t = 0) : t = s := Classical.byContradiction fun z => by
  obtain ⟨u, ul, u0, e, e0, e4, es, en, eL⟩ := h.2.2.2 t ht z (by omega)
  omega
theorem fa_is {s : Nat} {L : Nat → Int} (h : isDist g κ wt s L) : ∀ n : Nat, n ≤ nT g → (0 ≤ faF L s n ∧ faF L s n < nT g) ∧ 0 ≤ L (faF L s n).toNat ∧ (∀ t : Nat, t < n → L t ≤ L (faF L s n).toNat) ∧ (faF L s n = s ∨ (faF L s n < n ∧ ∀ t : Nat, t < n → L t = L (faF L s n).toNat → faF L s n ≤ t)) := by
  intro n
  induction n with
  | zero =>
    intro _
    have := h.1.1
    refine ⟨⟨by show (0 : Int) ≤ s; omega, by show (s : Int) < nT g; omega⟩, ?_, fun t ht => by omega, Or.inl rfl⟩
    show 0 ≤ L ((s : Int)).toNat
    rw [Int.toNat_natCast, h.1.2]
    exact Int.le_refl _
  | succ n ih =>
    intro hn
    obtain ⟨a1, a2, a3, a4⟩ := ih (by omega)
    unfold faF
    split
    next hc =>
      refine ⟨⟨by omega, by omega⟩, by rw [Int.toNat_natCast]; omega, fun t ht => ?_, Or.inr ⟨by omega, fun t ht he => ?_⟩⟩
      · rw [Int.toNat_natCast]
        by_cases z : t = n
        · rw [z]; exact Int.le_refl _
        · have := a3 t (by omega); omega
      · rw [Int.toNat_natCast] at he
        by_cases z : t = n
        · omega
        · have := a3 t (by omega); omega
    next hc =>
      refine ⟨a1, a2, fun t ht => ?_, a4.imp id fun z => ⟨by omega, fun t ht he => ?_⟩⟩
      · by_cases z : t = n
        · rw [z]; omega
        · exact a3 t (by omega)
      · by_cases y : t = n
        · omega
        · exact z.2 t (by omega) he
theorem far_is {s : Nat} {L : Nat → Int} (h : isDist g κ wt s L) : (0 ≤ faF L s (nT g) ∧ faF L s (nT g) < nT g) ∧ 0 ≤ L (faF L s (nT g)).toNat ∧ ∀ t : Nat, t < nT g → L t ≤ L (faF L s (nT g)).toNat ∧ (L t = L (faF L s (nT g)).toNat → faF L s (nT g) ≤ t) := by
  obtain ⟨a1, a2, a3, a4⟩ := fa_is h (nT g) (Nat.le_refl _)
  refine ⟨a1, a2, fun t ht => ⟨a3 t ht, fun he => ?_⟩⟩
  rcases a4 with z | z
  · rw [z, Int.toNat_natCast, h.1.2] at he
    have := dst_pos h ht he
    omega
  · exact z.2 t ht he
theorem ne_b {L κ' : Nat → Int} {k : Int} (n : Nat) : neF L κ' k n = -5 ∨ (0 ≤ neF L κ' k n ∧ neF L κ' k n < n ∧ L (neF L κ' k n).toNat ≠ -4) := by
  induction n with
  | zero => exact Or.inl rfl
  | succ n ih =>
    unfold neF
    split
    next h => exact Or.inr ⟨by omega, by omega, by rw [Int.toNat_natCast]; exact h.2.1⟩
    next h => exact ih.imp id (fun ⟨a, b, c⟩ => ⟨a, by omega, c⟩)
end DD
