/-! ===== the map's state, apart from how it is kept: row 0 size, seams, length of the text, number of kept maps; 1 kinds; 2 weights; 3 the text; 4 the kept maps ===== -/
def gS (σ : Mem) : Nat → Int := fun i => match i with
  | 0 => σ 0 0
  | 1 => σ 0 1
  | 2 => σ 0 2
  | 3 => σ 0 3
  | 4 => σ 0 4
  | _ => σ 0 5
def okS (σ : Mem) : Prop := gOK (gS σ) ∧ (∀ t : Nat, t < 144 → 0 ≤ σ 1 t ∧ σ 1 t ≤ 5) ∧ (∀ k : Nat, k < 6 → 0 ≤ σ 2 k ∧ σ 2 k ≤ 9) ∧ (0 ≤ σ 0 6 ∧ σ 0 6 ≤ 160) ∧ (∀ j : Nat, (j : Int) < σ 0 6 → 0 ≤ σ 3 j ∧ σ 3 j < 65536) ∧ (0 ≤ σ 0 7 ∧ σ 0 7 ≤ 12) ∧ (∀ i : Nat, (i : Int) < 144 * σ 0 7 → 0 ≤ σ 4 i ∧ σ 4 i ≤ 5)
def absB (M σ : Mem) : Prop := okS σ ∧ (gX M = gS σ ∧ tab (gX M) M) ∧ kin M (σ 1) ∧ (∀ k : Nat, k < 6 → M 8 k = σ 2 k) ∧ (M 12 1 = σ 0 6 ∧ ∀ j : Nat, (j : Int) < σ 0 6 → M 13 j = σ 3 j) ∧ HR M (σ 4) (σ 0 7) ∧ ((M 0 6 = 30 ∧ M 0 7 = 38) ∨ (M 0 6 = 38 ∧ M 0 7 = 30))
def absX (M σ : Mem) : Prop := absB M σ ∧ partsOK (M 0 6).toNat M (gS σ) (σ 1)
/-- where the text has the kind of a tile -/
def tix (a : Int) (t : Nat) : Nat := ((t : Int) / a * (a + 1) + (t : Int) % a).toNat
abbrev hasS (σ : Mem) (t : Int) : Prop := 0 ≤ t ∧ t < nT (gS σ)
abbrev labS (σ : Mem) : Nat → Int := lab (gS σ) (σ 1)
noncomputable abbrev dstS (σ : Mem) (t : Int) : Nat → Int := dst (gS σ) (σ 1) (σ 2) t.toNat
def kpS (σ : Mem) : Mem := fun a i => if a = 4 then kpH (σ 4) (σ 0 7) (σ 1) i else if a = 0 ∧ i = 7 then (if σ 0 7 = 12 then 12 else σ 0 7 + 1) else σ a i
def tkK (σ : Mem) : Nat → Int := fun t => if t < nT (gS σ) then σ 3 (tix (σ 0 0) t) - 48 else σ 1 t
def fiK (σ : Mem) (t k : Int) : Nat → Int := fun j => if j < nT (gS σ) ∧ labS σ j = labS σ t.toNat then k else σ 1 j
abbrev szO (a b : Int) : Prop := (3 ≤ a ∧ a ≤ 12) ∧ 3 ≤ b ∧ b ≤ 12
abbrev smO (σ : Mem) (e k s : Int) : Prop := (0 ≤ k ∧ k ≤ 2) ∧ 0 ≤ s ∧ s < (if e = 0 then σ 0 1 else σ 0 0)
abbrev smE (σ : Mem) (e k s : Int) : Prop := (e = 0 → σ 0 2 = k ∧ σ 0 3 = s) ∧ (e ≠ 0 → σ 0 4 = k ∧ σ 0 5 = s)
def F_reset (_ : Mem) (a b : Int) : Int := if szO a b then a * b else -2
def G_reset (σ : Mem) (a b : Int) : Mem := if szO a b then (fun r i => if r = 0 then (if i = 0 then a else if i = 1 then b else if i = 6 then σ 0 6 else 0) else if r = 1 then 0 else if r = 2 then 1 else σ r i) else σ
def F_setSeam (σ : Mem) (e k s : Int) : Int := if smO σ e k s then (if smE σ e k s then 0 else 1) else -2
def G_setSeam (σ : Mem) (e k s : Int) : Mem := if smO σ e k s then (if e = 0 then up (up σ 0 2 k) 0 3 s else up (up σ 0 4 k) 0 5 s) else σ
def F_value (σ : Mem) (w : Int) : Int := if w = 0 then σ 0 0 else if w = 1 then σ 0 1 else if w = 2 then σ 0 2 else if w = 3 then σ 0 3 else if w = 4 then σ 0 4 else if w = 5 then σ 0 5 else if w = 6 then cntS (labS σ) (nT (gS σ)) else if w = 7 then sumF (fun k => if nxk (gS σ) k = -5 then 0 else 1) (nT (gS σ) * 4) else if w = 8 then σ 0 7 else -2
def F_kind (σ : Mem) (t : Int) : Int := if hasS σ t then σ 1 t.toNat else -1
def F_neighbour (σ : Mem) (t d : Int) : Int := if hasS σ t then (if 0 ≤ d ∧ d < 4 then nx (gS σ) t d else -2) else -1
def F_type (σ : Mem) (_ : Int) : Int := if σ 0 6 = 160 then -3 else σ 0 6 + 1
def G_type (σ : Mem) (c : Int) : Mem := if σ 0 6 = 160 then σ else up (up σ 3 (σ 0 6).toNat c) 0 6 (σ 0 6 + 1)
def F_clearText (σ : Mem) : Int := σ 0 6
def G_clearText (σ : Mem) : Mem := up σ 0 6 0
def ftS (σ : Mem) : Int := ftF (σ 0 0) (σ 0 1) (σ 3) (σ 0 6)
def F_readTiles (σ : Mem) : Int := if ftS σ = -1 then sumF (fun t => if σ 3 (tix (σ 0 0) t) - 48 = σ 1 t then 0 else 1) (nT (gS σ)) else -100 - ftS σ
def G_readTiles (σ : Mem) : Mem := if ftS σ = -1 then upA (kpS σ) 1 (tkK σ) else σ
def fwS (σ : Mem) : Int := ffF (badW (σ 3)) (σ 0 6).toNat
def F_walk (σ : Mem) (t y w : Int) : Int := if hasS σ t then (if (0 ≤ y ∧ y < 4) ∧ 0 ≤ w ∧ w ≤ 4 then (if fwS σ = -1 then wlk (gS σ) (σ 3) t y (σ 0 6).toNat w.toNat else -100 - fwS σ) else -2) else -1
abbrev kdO (k : Int) : Prop := 0 ≤ k ∧ k ≤ 5
def F_setTile (σ : Mem) (t k : Int) : Int := if hasS σ t then (if kdO k then sumF (fun j => if (j : Int) ≠ t ∧ lab (gS σ) (upR (σ 1) t.toNat k) j ≠ labS σ j then 1 else 0) (nT (gS σ)) else -2) else -1
def G_setTile (σ : Mem) (t k : Int) : Mem := if hasS σ t ∧ kdO k then upA (kpS σ) 1 (upR (σ 1) t.toNat k) else σ
def F_fill (σ : Mem) (t k : Int) : Int := if hasS σ t then (if kdO k then cntL (lab (gS σ) (fiK σ t k)) (lab (gS σ) (fiK σ t k) t.toNat) (nT (gS σ)) else -2) else -1
def G_fill (σ : Mem) (t k : Int) : Mem := if hasS σ t ∧ kdO k then upA (kpS σ) 1 (fiK σ t k) else σ
def F_undo (σ : Mem) : Int := if σ 0 7 = 0 then -5 else σ 0 7 - 1
def G_undo (σ : Mem) : Mem := if σ 0 7 = 0 then σ else upA (up σ 0 7 (σ 0 7 - 1)) 1 (fun t => σ 4 ((144 * (σ 0 7 - 1)).toNat + t))
def F_label (σ : Mem) (t : Int) : Int := if hasS σ t then labS σ t.toNat else -1
def F_part (σ : Mem) (k : Int) : Int := if k < 0 then -2 else kthF (labS σ) k (nT (gS σ))
def F_ofPart (σ : Mem) (f w : Int) : Int := if hasS σ f ∧ labS σ f.toNat = f then (if 0 ≤ w ∧ w ≤ 7 then propF (gS σ) (σ 1) f w else -2) else -1
def F_greatestPart (σ : Mem) (k : Int) : Int := if kdO k then grF (fun t => decide (labS σ t = t ∧ σ 1 t = k)) (fun t => cntL (labS σ) t (nT (gS σ))) (nT (gS σ)) else -2
def F_partsIf (σ : Mem) (t k : Int) : Int := if hasS σ t then (if kdO k then cntS (lab (gS σ) (upR (σ 1) t.toNat k)) (nT (gS σ)) else -2) else -1
def F_setWeight (σ : Mem) (k v : Int) : Int := if kdO k ∧ 0 ≤ v ∧ v ≤ 9 then σ 2 k.toNat else -2
def G_setWeight (σ : Mem) (k v : Int) : Mem := if kdO k ∧ 0 ≤ v ∧ v ≤ 9 then up σ 2 k.toNat v else σ
noncomputable def F_distance (σ : Mem) (t o : Int) : Int := if hasS σ t ∧ hasS σ o then dstS σ t o.toNat else -1
noncomputable def F_route (σ : Mem) (t o k : Int) : Int := if hasS σ t ∧ hasS σ o then (if k < -1 then -2 else if dstS σ o t.toNat = -4 then -4 else rgo (gS σ) (σ 1) (σ 2) (dstS σ o) o k 144 t 0) else -1
noncomputable def F_farthest (σ : Mem) (t : Int) : Int := if hasS σ t then faF (dstS σ t) t (nT (gS σ)) else -1
noncomputable def F_within (σ : Mem) (t v : Int) : Int := if hasS σ t then (if v < 0 then -2 else sumF (fun j => if dstS σ t j ≠ -4 ∧ dstS σ t j ≤ v then 1 else 0) (nT (gS σ))) else -1
noncomputable def F_nearest (σ : Mem) (t k : Int) : Int := if hasS σ t then (if kdO k then neF (dstS σ t) (σ 1) k (nT (gS σ)) else -2) else -1
theorem stl_cg {g κ κ' wt wt' : Nat → Int} (hk : ∀ t : Nat, t < 144 → 0 ≤ κ t ∧ κ t ≤ 5) (eκ : ∀ t : Nat, t < 144 → κ' t = κ t) (ew : ∀ k : Nat, k < 6 → wt' k = wt k) (G : gOK g) {t d : Int} (h0 : 0 ≤ t) (h1 : t < nT g) : stl g κ' wt' t d = stl g κ wt t d := by
  obtain ⟨nE, n9, n144⟩ := nT_b G
  unfold stl
  rcases nx_b G (d := d) h0 (by omega) with q | q
  · rw [if_pos (by omega), if_pos (by omega)]
  · have k1 := hk t.toNat (by omega)
    have k2 := hk (nx g t d).toNat (by omega)
    rw [eκ t.toNat (by omega), eκ (nx g t d).toNat (by omega), ew _ (by omega), ew _ (by omega)]
theorem isDist_cg {g κ κ' wt wt' : Nat → Int} (hk : ∀ t : Nat, t < 144 → 0 ≤ κ t ∧ κ t ≤ 5) (eκ : ∀ t : Nat, t < 144 → κ' t = κ t) (ew : ∀ k : Nat, k < 6 → wt' k = wt k) (G : gOK g) {s : Nat} {L : Nat → Int} (h : isDist g κ' wt' s L) : isDist g κ wt s L := by
  obtain ⟨h1, h2, h3, h4⟩ := h
  refine ⟨h1, h2, fun t tl t0 e e0 e4 hs => ?_, fun t tl tn t0 => ?_⟩
  · have c := stl_cg hk eκ ew G (t := t) (d := e) (by omega) (by omega)
    rw [← c] at hs ⊢
    exact h3 t tl t0 e e0 e4 hs
  · obtain ⟨u, ul, u0, e, e0, e4, hs, en, eL⟩ := h4 t tl tn t0
    have c := stl_cg hk eκ ew G (t := u) (d := e) (by omega) (by omega)
    rw [c] at hs eL
    exact ⟨u, ul, u0, e, e0, e4, hs, en, eL⟩
theorem onw_cg {g κ κ' wt wt' L : Nat → Int} (hk : ∀ t : Nat, t < 144 → 0 ≤ κ t ∧ κ t ≤ 5) (eκ : ∀ t : Nat, t < 144 → κ' t = κ t) (ew : ∀ k : Nat, k < 6 → wt' k = wt k) (G : gOK g) {t : Int} (h0 : 0 ≤ t) (h1 : t < nT g) : ∀ n, onw g κ' wt' L t n = onw g κ wt L t n := by
  intro n
  induction n with
  | zero => rfl
  | succ n ih =>
    have c := stl_cg hk eκ ew G (t := t) (d := 3 - (n : Int)) h0 h1
    unfold onw
    rw [c, ih]
theorem rgo_cg {g κ κ' wt wt' L : Nat → Int} (hk : ∀ t : Nat, t < 144 → 0 ≤ κ t ∧ κ t ≤ 5) (hw : ∀ k : Nat, k < 6 → 0 ≤ wt k ∧ wt k ≤ 9) (eκ : ∀ t : Nat, t < 144 → κ' t = κ t) (ew : ∀ k : Nat, k < 6 → wt' k = wt k) (G : gOK g) {o k : Int} : ∀ (n : Nat) (a c : Int), 0 ≤ a → a < nT g → rgo g κ' wt' L o k n a c = rgo g κ wt L o k n a c := by
  intro n
  induction n with
  | zero => intro a c _ _; rfl
  | succ n ih =>
    intro a c a0 a1
    unfold rgo
    have b := onw_b (L := L) hk hw G a0 a1 4
    rw [onw_cg hk eκ ew G a0 a1, ih _ _ b.1 b.2]
theorem ff_cg {b b' : Nat → Bool} : ∀ n : Nat, (∀ k, k < n → b k = b' k) → ffF b n = ffF b' n := by
  intro n
  induction n with
  | zero => intro _; rfl
  | succ n ih =>
    intro h
    unfold ffF
    rw [ih (fun k hk => h k (by omega)), h n (by omega)]
theorem wlk_cg {g T T' : Nat → Int} {t y : Int} : ∀ n : Nat, (∀ k, k < n → T k = T' k) → wlk g T t y n = wlk g T' t y n := by
  intro n
  induction n with
  | zero => intro _; rfl
  | succ n ih =>
    intro h
    unfold wlk
    rw [ih (fun k hk => h k (by omega)), h n (by omega)]
/-- nothing that the state speaks of has changed -/
theorem absB_congr {M M' σ : Mem} (h : absB M σ) (e : ∀ b, b ≠ 9 → b ≠ 10 → b ≠ 11 → b ≠ 14 → b ≠ 15 → b < 30 → M' b = M b) : absB M' σ := by
  obtain ⟨h1, ⟨h2, h3⟩, h4, h5, ⟨h6, h7⟩, h8, h9⟩ := h
  have e0 := e 0 (by decide) (by decide) (by decide) (by decide) (by decide) (by decide)
  have e6 := e 6 (by decide) (by decide) (by decide) (by decide) (by decide) (by decide)
  have e8 := e 8 (by decide) (by decide) (by decide) (by decide) (by decide) (by decide)
  have e12 := e 12 (by decide) (by decide) (by decide) (by decide) (by decide) (by decide)
  have e13 := e 13 (by decide) (by decide) (by decide) (by decide) (by decide) (by decide)
  have hs : surf M := ⟨by rw [h2]; exact h1.1, h3⟩
  obtain ⟨hS1, eg⟩ := surf_congr (M' := M') hs (fun b q1 q2 => e b (by omega) (by omega) (by omega) (by omega) (by omega) (by omega))
  refine ⟨h1, ⟨by rw [eg]; exact h2, hS1.2⟩, by unfold kin; rw [e6]; exact h4, by rw [e8]; exact h5, by rw [e12, e13]; exact ⟨h6, h7⟩, HR_congr h8 (fun b hb => e b (by omega) (by omega) (by omega) (by omega) (by omega) (by omega)) (fun _ _ => rfl), by rw [e0]; exact h9⟩
theorem partsOK_cg {p : Nat} {M M' : Mem} {g κ : Nat → Int} (h : partsOK p M g κ) (e : ∀ b, (b = p ∨ b = p + 1 ∨ b = p + 2 ∨ b = p + 3 ∨ b = p + 4) → M' b = M b) : partsOK p M' g κ := by
  unfold partsOK at h ⊢
  rw [e p (by omega), e (p + 1) (by omega), e (p + 2) (by omega), e (p + 3) (by omega), e (p + 4) (by omega)]
  exact h
theorem absX_congr {M M' σ : Mem} (h : absX M σ) (e : ∀ b, b ≠ 9 → b ≠ 10 → b ≠ 11 → b ≠ 14 → b ≠ 15 → (b < (M 0 7).toNat ∨ (M 0 7).toNat + 7 < b) → b ≠ (M 0 6).toNat + 5 → M' b = M b) : absX M' σ := by
  have hp := h.1.2.2.2.2.2.2
  have e0 := e 0 (by decide) (by decide) (by decide) (by decide) (by decide) (by omega) (by omega)
  refine ⟨absB_congr h.1 (fun b b1 b2 b3 b4 b5 b6 => e b b1 b2 b3 b4 b5 (by omega) (by omega)), ?_⟩
  rw [e0]
  exact partsOK_cg h.2 (fun b hb => e b (by omega) (by omega) (by omega) (by omega) (by omega) (by omega) (by omega))
