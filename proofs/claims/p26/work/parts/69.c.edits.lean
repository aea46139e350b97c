/-! ===== the law's edits ===== -/
section EP
variable (M0 σ0 : Mem) (g k j : Int)
def EK (g1 k1 j1 r t d : Int) : Prop := g = g1 ∧ k = k1 ∧ j = j1 ∧ r = nT (gS σ0) ∧ hasS σ0 t ∧ 0 ≤ d ∧ d < 3
def E34 (g1 k1 j1 r t d : Int) (M : Mem) : Prop := EK σ0 g k j g1 k1 j1 r t d ∧ TT M0 M
def E39 (g1 k1 j1 r t d : Int) (M : Mem) : Prop := EK σ0 g k j g1 k1 j1 r t d ∧ TT M0 M
abbrev ptF (t d : Int) : Int := cntS (lab (gS σ0) (upR (σ0 1) t.toNat d)) (nT (gS σ0))
def E64 (g1 k1 j1 r t d o y u : Int) (M : Mem) : Prop := EK σ0 g k j g1 k1 j1 r t d ∧ TT M0 M ∧ y = ptF σ0 t d ∧ o = o ∧ ((64 : Nat) : Int) = u
def E66 (g1 k1 j1 r t d o y : Int) (M : Mem) : Prop := EK σ0 g k j g1 k1 j1 r t d ∧ (M0 = M0 ∧ o = o) ∧ absX M σ0 ∧ y = ptF σ0 t d
def E71 (g1 k1 j1 r t d o y i : Int) (M : Mem) : Prop := EK σ0 g k j g1 k1 j1 r t d ∧ (M0 = M0 ∧ o = o) ∧ absX M σ0 ∧ y = ptF σ0 t d ∧ (0 ≤ i ∧ i ≤ r) ∧ ∀ n : Nat, (n : Int) < i → M 46 n = labS σ0 n
def E118 (g1 k1 j1 r t d o y q z i : Int) (M : Mem) : Prop := EK σ0 g k j g1 k1 j1 r t d ∧ (M0 = M0 ∧ o = o) ∧ (∃ σ1, absX M σ1 ∧ ED σ0 σ1 ∧ σ1 1 = upR (σ0 1) t.toNat d ∧ z = sumF (fun n => if (n : Int) ≠ t ∧ labS σ1 n ≠ labS σ0 n then 1 else 0) i.toNat ∧ q = sumF (fun n => if (n : Int) ≠ t ∧ labS σ1 n ≠ labS σ0 n then 1 else 0) (nT (gS σ0))) ∧ y = ptF σ0 t d ∧ (0 ≤ i ∧ i ≤ r) ∧ ∀ n : Nat, (n : Int) < r → M 46 n = labS σ0 n
abbrev chF (k : Int) (i : Int) : Int := sumF (fun n => if σ0 1 n = itI k n then 0 else 1) i.toNat
def E309 (g1 k1 j1 r t d o y q z i : Int) (M : Mem) : Prop := EK σ0 g k j g1 k1 j1 r t d ∧ (M0 = M0 ∧ o = o) ∧ (∃ σ', absX M σ' ∧ sameT σ0 σ' ∧ σ' 0 6 = lnT q i ∧ TX q k (σ' 3) i (lnT q i)) ∧ q = gS σ0 0 ∧ (0 < i → z = lnT q i) ∧ (0 ≤ i ∧ i ≤ r) ∧ y = chF σ0 k i
def E336 (g1 k1 j1 r t d o y q z i : Int) (M : Mem) : Prop := EK σ0 g k j g1 k1 j1 r t d ∧ (M0 = M0 ∧ o = o ∧ z = z) ∧ (∃ σ', absX M σ' ∧ sameT σ0 σ' ∧ σ' 0 6 = i + i / q ∧ TX q k (σ' 3) i (i + i / q)) ∧ q = gS σ0 0 ∧ (0 ≤ i ∧ i < r) ∧ y = chF σ0 k i
def E482 (g1 k1 j1 r t d : Int) (M : Mem) : Prop := EK σ0 g k j g1 k1 j1 r t d ∧ M0 = M0 ∧ ∃ σ1, absX M σ1 ∧ ED σ0 σ1
def E507 (g1 k1 j1 r t d : Int) (M : Mem) : Prop := EK σ0 g k j g1 k1 j1 r t d ∧ M0 = M0 ∧ ∃ σ1, absX M σ1 ∧ ED σ0 σ1
def E540 (g1 k1 j1 r t d y : Int) (M : Mem) : Prop := EK σ0 g k j g1 k1 j1 r t d ∧ M0 = M0 ∧ 0 ≤ y ∧ ∃ σ2, absX M σ2 ∧ (gS σ2 = gS σ0 ∧ σ2 2 = σ0 2 ∧ σ2 0 7 = y) ∧ ∀ t : Nat, t < 144 → σ2 1 t = σ0 1 t
def E549 (g1 k1 j1 r t d y : Int) (M : Mem) : Prop := E540 M0 σ0 g k j g1 k1 j1 r t d y M
def E554 (g1 k1 j1 r t d y : Int) (M : Mem) : Prop := EK σ0 g k j g1 k1 j1 r t d ∧ M0 = M ∧ y = y ∧ False
end EP
theorem F_opI {σ : Mem} (h : okS σ) {t : Int} (ht : hasS σ t) : F_ofPart σ (labS σ t.toNat) 1 = cntL (labS σ) (labS σ t.toNat) (nT (gS σ)) := by
  obtain ⟨tl, te⟩ := toN ht
  have hl := lab_facts (κ := σ 1) h.1 tl
  have hc : (((labS σ t.toNat).toNat : Nat) : Int) = labS σ t.toNat := Int.toNat_of_nonneg hl.1.1
  have h1 := F_op1 (σ := σ) (t := (labS σ t.toNat).toNat) (by have h9 : 0 ≤ labS σ t.toNat ∧ labS σ t.toNat < nT (gS σ) := hl.1; omega) (by rw [hc]; exact hl.2.2.2.1)
  rw [hc] at h1
  exact h1
theorem lg_self (x : Int64) : lg_cmp x x = 0 := by
  unfold lg_cmp
  simp
section EM
variable {p : Program} {l : Launch} {e : Env} {s : State} {m : MethodId} {args : Array Value} {below : List Frame} {meth : Method} {c : Code} {D : va_G} {cy : Nat → ClassId} {ad : Nat → Nat} {A : Nat → Prop} {cells slots : Nat} {H0 : Heap} {Q : State → Prop} {post : Int → Mem → Prop} {M0 σ0 : Mem} {g k j : Int} {v0 : Int64}
set_option maxHeartbeats 1000000 in
theorem es_549x (hA : jA ad 46) (C : jC p l e rm_L_edits s m args below meth c cL_edits 15 RL D cy ad kdX lnX 46 A cells slots H0 Q 1 post) (hσ : absX M0 σ0) (hn : nT (gS σ0) ≤ 64) (hj : j = σ0 0 7) (hpost : ∀ x M, (0 ≤ x ∧ ∃ σ', absX M σ' ∧ σ' 0 7 = x ∧ gS σ' = gS σ0 ∧ σ' 2 = σ0 2) → post x M)
     :
    ∀ (w7_ : Option AV) (w8_ : Option AV) (w9_ : Option AV) (w11_ : Option AV) (w12_ : Option AV) (w13_ : Option AV) (w14_ : Option AV) (g1 : Int) (k1 : Int) (j1 : Int) (r : Int) (t : Int) (d : Int) (y : Int) (M : Mem), E549 M0 σ0 g k j g1 k1 j1 r t d y M → jSt p l e rm_L_edits s m args below meth c 15 D cy ad kdX lnX 46 A cells slots [(7, .long v0)] H0 Q 549 [some (.inr 0), some (.inl g1), some (.inl k1), some (.inl j1), some (.inl r), some (.inl t), some (.inl d), w7_, w8_, w9_, some (.inl y), w11_, w12_, w13_, w14_] [] M := by
  rintro w7_ w8_ w9_ w11_ w12_ w13_ w14_ g1 k1 j1 r t d y M ⟨⟨rfl, rfl, rfl, hr, ht, hd⟩, -, hy, σ2, a2, hx, -⟩
  exact sg_L_edits_549x   rfl C  w7_ w8_ w9_ w11_ w12_ w13_ w14_ g k j r t d y M ⟨trivial, hpost _ _ ⟨hy, σ2, a2, hx.2.2, hx.1, hx.2.1⟩⟩
set_option maxHeartbeats 1000000 in
theorem es_549z (hA : jA ad 47) (C : jC p l e rm_L_edits s m args below meth c cL_edits 15 RL D cy ad kdZ (lnZ 64) 47 A cells slots H0 Q 1 post) (hσ : absX M0 σ0) (hn : nT (gS σ0) ≤ 64) (hj : j = σ0 0 7) (hpost : ∀ x M, (0 ≤ x ∧ ∃ σ', absX M σ' ∧ σ' 0 7 = x ∧ gS σ' = gS σ0 ∧ σ' 2 = σ0 2) → post x M)
     :
    ∀ (w7_ : Option AV) (w8_ : Option AV) (w9_ : Option AV) (w11_ : Option AV) (w12_ : Option AV) (w13_ : Option AV) (w14_ : Option AV) (g1 : Int) (k1 : Int) (j1 : Int) (r : Int) (t : Int) (d : Int) (y : Int) (M : Mem), E549 M0 σ0 g k j g1 k1 j1 r t d y M → jSt p l e rm_L_edits s m args below meth c 15 D cy ad kdZ (lnZ 64) 47 A cells slots [(7, .long v0)] H0 Q 549 [some (.inr 0), some (.inl g1), some (.inl k1), some (.inl j1), some (.inl r), some (.inl t), some (.inl d), w7_, w8_, w9_, some (.inl y), w11_, w12_, w13_, w14_] [] M := by
  rintro w7_ w8_ w9_ w11_ w12_ w13_ w14_ g1 k1 j1 r t d y M ⟨⟨rfl, rfl, rfl, hr, ht, hd⟩, -, hy, σ2, a2, hx, -⟩
  exact sg_L_edits_549z   rfl C  w7_ w8_ w9_ w11_ w12_ w13_ w14_ g k j r t d y M ⟨trivial, hpost _ _ ⟨hy, σ2, a2, hx.2.2, hx.1, hx.2.1⟩⟩
set_option maxHeartbeats 1000000 in
theorem es_507x (hA : jA ad 46) (C : jC p l e rm_L_edits s m args below meth c cL_edits 15 RL D cy ad kdX lnX 46 A cells slots H0 Q 1 post) (hσ : absX M0 σ0) (hn : nT (gS σ0) ≤ 64) (hj : j = σ0 0 7) (hpost : ∀ x M, (0 ≤ x ∧ ∃ σ', absX M σ' ∧ σ' 0 7 = x ∧ gS σ' = gS σ0 ∧ σ' 2 = σ0 2) → post x M)
    (H540 : ∀ (w7_ : Option AV) (w8_ : Option AV) (w9_ : Option AV) (w11_ : Option AV) (w12_ : Option AV) (w13_ : Option AV) (w14_ : Option AV) (g1 : Int) (k1 : Int) (j1 : Int) (r : Int) (t : Int) (d : Int) (y : Int) (M : Mem), E540 M0 σ0 g k j g1 k1 j1 r t d y M → jSt p l e rm_L_edits s m args below meth c 15 D cy ad kdX lnX 46 A cells slots [(7, .long v0)] H0 Q 540 [some (.inr 0), some (.inl g1), some (.inl k1), some (.inl j1), some (.inl r), some (.inl t), some (.inl d), w7_, w8_, w9_, some (.inl y), w11_, w12_, w13_, w14_] [.inr 0] M)
    (H554 : ∀ (w7_ : Option AV) (w8_ : Option AV) (w9_ : Option AV) (w11_ : Option AV) (w12_ : Option AV) (w13_ : Option AV) (w14_ : Option AV) (g1 : Int) (k1 : Int) (j1 : Int) (r : Int) (t : Int) (d : Int) (y : Int) (M : Mem), E554 M0 σ0 g k j g1 k1 j1 r t d y M → jSt p l e rm_L_edits s m args below meth c 15 D cy ad kdX lnX 46 A cells slots [(7, .long v0)] H0 Q 554 [some (.inr 0), some (.inl g1), some (.inl k1), some (.inl j1), some (.inl r), some (.inl t), some (.inl d), w7_, w8_, w9_, some (.inl y), w11_, w12_, w13_, w14_] [] M) :
    ∀ (w7_ : Option AV) (w8_ : Option AV) (w9_ : Option AV) (w10_ : Option AV) (w11_ : Option AV) (w12_ : Option AV) (w13_ : Option AV) (w14_ : Option AV) (g1 : Int) (k1 : Int) (j1 : Int) (r : Int) (t : Int) (d : Int) (M : Mem), E507 M0 σ0 g k j g1 k1 j1 r t d M → jSt p l e rm_L_edits s m args below meth c 15 D cy ad kdX lnX 46 A cells slots [(7, .long v0)] H0 Q 507 [some (.inr 0), some (.inl g1), some (.inl k1), some (.inl j1), some (.inl r), some (.inl t), some (.inl d), w7_, w8_, w9_, w10_, w11_, w12_, w13_, w14_] [] M := by
  rintro w7_ w8_ w9_ w10_ w11_ w12_ w13_ w14_ g1 k1 j1 r t d M ⟨⟨rfl, rfl, rfl, hr, ht, hd⟩, -, σ1, a1, hE⟩
  have h0 := hσ.1.1
  have h7 := okS_7 h0
  have hK : EK σ0 g k j g k j r t d := ⟨rfl, rfl, rfl, hr, ht, hd⟩
  have e7 := hE.2.2.1
  refine sg_L_edits_507x (ok_X8_undo hA) (E540 M0 σ0 g k j) (E554 M0 σ0 g k j) rfl C H540 H554 w7_ w8_ w9_ w10_ w11_ w12_ w13_ w14_ g k j r t d M ⟨fun h1 => ⟨fun h2 => ⟨trivial, hpost _ _ ⟨by decide, σ1, a1, by rw [e7, if_pos (by omega)], hE.1, hE.2.1⟩⟩, fun h2 => ⟨⟨by omega, by omega⟩, trivial, hpost _ _ ⟨by omega, σ1, a1, by rw [e7, if_neg (by omega)]; omega, hE.1, hE.2.1⟩⟩⟩, fun h1 => ⟨⟨rfl, rfl, σ1, a1⟩, fun x1 M1 _ _ hc => ?_⟩⟩
  obtain ⟨e1, b1⟩ := hc σ1 a1
  obtain ⟨⟨u1, u2, u3⟩, u4, u5⟩ := ED_undo hE h0
  rw [u5] at e1
  have done : 0 ≤ x1 → E540 M0 σ0 g k j g k j r t d x1 M1 := fun z => ⟨hK, rfl, z, _, b1, ⟨u1, u2, by rw [u3, e1]⟩, u4⟩
  refine ⟨fun h2 => ?_, fun h2 => ?_⟩
  · rw [if_pos (by omega)] at e1
    exact ⟨fun z => absurd e1 z, fun _ => done (by omega)⟩
  · rw [if_neg (by omega)] at e1
    exact ⟨fun z => absurd (by omega) z, fun _ => done (by omega)⟩
set_option maxHeartbeats 1000000 in
theorem es_507z (hA : jA ad 47) (C : jC p l e rm_L_edits s m args below meth c cL_edits 15 RL D cy ad kdZ (lnZ 64) 47 A cells slots H0 Q 1 post) (hσ : absX M0 σ0) (hn : nT (gS σ0) ≤ 64) (hj : j = σ0 0 7) (hpost : ∀ x M, (0 ≤ x ∧ ∃ σ', absX M σ' ∧ σ' 0 7 = x ∧ gS σ' = gS σ0 ∧ σ' 2 = σ0 2) → post x M)
    (H540 : ∀ (w7_ : Option AV) (w8_ : Option AV) (w9_ : Option AV) (w11_ : Option AV) (w12_ : Option AV) (w13_ : Option AV) (w14_ : Option AV) (g1 : Int) (k1 : Int) (j1 : Int) (r : Int) (t : Int) (d : Int) (y : Int) (M : Mem), E540 M0 σ0 g k j g1 k1 j1 r t d y M → jSt p l e rm_L_edits s m args below meth c 15 D cy ad kdZ (lnZ 64) 47 A cells slots [(7, .long v0)] H0 Q 540 [some (.inr 0), some (.inl g1), some (.inl k1), some (.inl j1), some (.inl r), some (.inl t), some (.inl d), w7_, w8_, w9_, some (.inl y), w11_, w12_, w13_, w14_] [.inr 0] M)
    (H554 : ∀ (w7_ : Option AV) (w8_ : Option AV) (w9_ : Option AV) (w11_ : Option AV) (w12_ : Option AV) (w13_ : Option AV) (w14_ : Option AV) (g1 : Int) (k1 : Int) (j1 : Int) (r : Int) (t : Int) (d : Int) (y : Int) (M : Mem), E554 M0 σ0 g k j g1 k1 j1 r t d y M → jSt p l e rm_L_edits s m args below meth c 15 D cy ad kdZ (lnZ 64) 47 A cells slots [(7, .long v0)] H0 Q 554 [some (.inr 0), some (.inl g1), some (.inl k1), some (.inl j1), some (.inl r), some (.inl t), some (.inl d), w7_, w8_, w9_, some (.inl y), w11_, w12_, w13_, w14_] [] M) :
    ∀ (w7_ : Option AV) (w8_ : Option AV) (w9_ : Option AV) (w10_ : Option AV) (w11_ : Option AV) (w12_ : Option AV) (w13_ : Option AV) (w14_ : Option AV) (g1 : Int) (k1 : Int) (j1 : Int) (r : Int) (t : Int) (d : Int) (M : Mem), E507 M0 σ0 g k j g1 k1 j1 r t d M → jSt p l e rm_L_edits s m args below meth c 15 D cy ad kdZ (lnZ 64) 47 A cells slots [(7, .long v0)] H0 Q 507 [some (.inr 0), some (.inl g1), some (.inl k1), some (.inl j1), some (.inl r), some (.inl t), some (.inl d), w7_, w8_, w9_, w10_, w11_, w12_, w13_, w14_] [] M := by
  rintro w7_ w8_ w9_ w10_ w11_ w12_ w13_ w14_ g1 k1 j1 r t d M ⟨⟨rfl, rfl, rfl, hr, ht, hd⟩, -, σ1, a1, hE⟩
  have h0 := hσ.1.1
  have h7 := okS_7 h0
  have hK : EK σ0 g k j g k j r t d := ⟨rfl, rfl, rfl, hr, ht, hd⟩
  have e7 := hE.2.2.1
  refine sg_L_edits_507z (okz_X8_undo hA (ok_X8_undo (jA_le hA (by decide)))) (E540 M0 σ0 g k j) (E554 M0 σ0 g k j) rfl C H540 H554 w7_ w8_ w9_ w10_ w11_ w12_ w13_ w14_ g k j r t d M ⟨fun h1 => ⟨fun h2 => ⟨trivial, hpost _ _ ⟨by decide, σ1, a1, by rw [e7, if_pos (by omega)], hE.1, hE.2.1⟩⟩, fun h2 => ⟨⟨by omega, by omega⟩, trivial, hpost _ _ ⟨by omega, σ1, a1, by rw [e7, if_neg (by omega)]; omega, hE.1, hE.2.1⟩⟩⟩, fun h1 => ⟨⟨rfl, rfl, σ1, a1⟩, fun x1 M1 _ _ hc => ?_⟩⟩
  obtain ⟨e1, b1⟩ := hc.1 σ1 a1
  obtain ⟨⟨u1, u2, u3⟩, u4, u5⟩ := ED_undo hE h0
  rw [u5] at e1
  have done : 0 ≤ x1 → E540 M0 σ0 g k j g k j r t d x1 M1 := fun z => ⟨hK, rfl, z, _, b1, ⟨u1, u2, by rw [u3, e1]⟩, u4⟩
  refine ⟨fun h2 => ?_, fun h2 => ?_⟩
  · rw [if_pos (by omega)] at e1
    exact ⟨fun z => absurd e1 z, fun _ => done (by omega)⟩
  · rw [if_neg (by omega)] at e1
    exact ⟨fun z => absurd (by omega) z, fun _ => done (by omega)⟩
set_option maxHeartbeats 1000000 in
theorem es_482x (hA : jA ad 46) (C : jC p l e rm_L_edits s m args below meth c cL_edits 15 RL D cy ad kdX lnX 46 A cells slots H0 Q 1 post) (hσ : absX M0 σ0) (hn : nT (gS σ0) ≤ 64) (hj : j = σ0 0 7) (hpost : ∀ x M, (0 ≤ x ∧ ∃ σ', absX M σ' ∧ σ' 0 7 = x ∧ gS σ' = gS σ0 ∧ σ' 2 = σ0 2) → post x M)
    (H507 : ∀ (w7_ : Option AV) (w8_ : Option AV) (w9_ : Option AV) (w10_ : Option AV) (w11_ : Option AV) (w12_ : Option AV) (w13_ : Option AV) (w14_ : Option AV) (g1 : Int) (k1 : Int) (j1 : Int) (r : Int) (t : Int) (d : Int) (M : Mem), E507 M0 σ0 g k j g1 k1 j1 r t d M → jSt p l e rm_L_edits s m args below meth c 15 D cy ad kdX lnX 46 A cells slots [(7, .long v0)] H0 Q 507 [some (.inr 0), some (.inl g1), some (.inl k1), some (.inl j1), some (.inl r), some (.inl t), some (.inl d), w7_, w8_, w9_, w10_, w11_, w12_, w13_, w14_] [] M) :
    ∀ (w7_ : Option AV) (w8_ : Option AV) (w9_ : Option AV) (w10_ : Option AV) (w11_ : Option AV) (w12_ : Option AV) (w13_ : Option AV) (w14_ : Option AV) (g1 : Int) (k1 : Int) (j1 : Int) (r : Int) (t : Int) (d : Int) (M : Mem), E482 M0 σ0 g k j g1 k1 j1 r t d M → jSt p l e rm_L_edits s m args below meth c 15 D cy ad kdX lnX 46 A cells slots [(7, .long v0)] H0 Q 482 [some (.inr 0), some (.inl g1), some (.inl k1), some (.inl j1), some (.inl r), some (.inl t), some (.inl d), w7_, w8_, w9_, w10_, w11_, w12_, w13_, w14_] [] M := by
  rintro w7_ w8_ w9_ w10_ w11_ w12_ w13_ w14_ g1 k1 j1 r t d M ⟨⟨rfl, rfl, rfl, hr, ht, hd⟩, -, σ1, a1, hE⟩
  have h0 := hσ.1.1
  have h7 := okS_7 h0
  have hK : EK σ0 g k j g k j r t d := ⟨rfl, rfl, rfl, hr, ht, hd⟩
  refine sg_L_edits_482x (ok_X8_value hA) (E507 M0 σ0 g k j) rfl C H507 w7_ w8_ w9_ w10_ w11_ w12_ w13_ w14_ g k j r t d M ⟨⟨rfl, rfl, σ1, a1⟩, fun x1 M1 _ _ hc => ?_⟩
  obtain ⟨e1, b1⟩ := hc σ1 a1
  have e2 : x1 = (if σ0 0 7 = 12 then 12 else σ0 0 7 + 1) := e1.trans hE.2.2.1
  refine ⟨fun h1 => ⟨fun h2 => ⟨hK, rfl, σ1, b1, hE⟩, fun h2 => absurd (by rw [e2, if_pos (by omega)]) h2⟩, fun h1 => ⟨⟨by omega, by omega⟩, fun h2 => ⟨hK, rfl, σ1, b1, hE⟩, fun h2 => absurd (by rw [e2, if_neg (by omega)]; omega) h2⟩⟩
set_option maxHeartbeats 1000000 in
theorem es_482z (hA : jA ad 47) (C : jC p l e rm_L_edits s m args below meth c cL_edits 15 RL D cy ad kdZ (lnZ 64) 47 A cells slots H0 Q 1 post) (hσ : absX M0 σ0) (hn : nT (gS σ0) ≤ 64) (hj : j = σ0 0 7) (hpost : ∀ x M, (0 ≤ x ∧ ∃ σ', absX M σ' ∧ σ' 0 7 = x ∧ gS σ' = gS σ0 ∧ σ' 2 = σ0 2) → post x M)
    (H507 : ∀ (w7_ : Option AV) (w8_ : Option AV) (w9_ : Option AV) (w10_ : Option AV) (w11_ : Option AV) (w12_ : Option AV) (w13_ : Option AV) (w14_ : Option AV) (g1 : Int) (k1 : Int) (j1 : Int) (r : Int) (t : Int) (d : Int) (M : Mem), E507 M0 σ0 g k j g1 k1 j1 r t d M → jSt p l e rm_L_edits s m args below meth c 15 D cy ad kdZ (lnZ 64) 47 A cells slots [(7, .long v0)] H0 Q 507 [some (.inr 0), some (.inl g1), some (.inl k1), some (.inl j1), some (.inl r), some (.inl t), some (.inl d), w7_, w8_, w9_, w10_, w11_, w12_, w13_, w14_] [] M) :
    ∀ (w7_ : Option AV) (w8_ : Option AV) (w9_ : Option AV) (w10_ : Option AV) (w11_ : Option AV) (w12_ : Option AV) (w13_ : Option AV) (w14_ : Option AV) (g1 : Int) (k1 : Int) (j1 : Int) (r : Int) (t : Int) (d : Int) (M : Mem), E482 M0 σ0 g k j g1 k1 j1 r t d M → jSt p l e rm_L_edits s m args below meth c 15 D cy ad kdZ (lnZ 64) 47 A cells slots [(7, .long v0)] H0 Q 482 [some (.inr 0), some (.inl g1), some (.inl k1), some (.inl j1), some (.inl r), some (.inl t), some (.inl d), w7_, w8_, w9_, w10_, w11_, w12_, w13_, w14_] [] M := by
  rintro w7_ w8_ w9_ w10_ w11_ w12_ w13_ w14_ g1 k1 j1 r t d M ⟨⟨rfl, rfl, rfl, hr, ht, hd⟩, -, σ1, a1, hE⟩
  have h0 := hσ.1.1
  have h7 := okS_7 h0
  have hK : EK σ0 g k j g k j r t d := ⟨rfl, rfl, rfl, hr, ht, hd⟩
  refine sg_L_edits_482z (okz_X8_value hA (ok_X8_value (jA_le hA (by decide)))) (E507 M0 σ0 g k j) rfl C H507 w7_ w8_ w9_ w10_ w11_ w12_ w13_ w14_ g k j r t d M ⟨⟨rfl, rfl, σ1, a1⟩, fun x1 M1 _ _ hc => ?_⟩
  obtain ⟨e1, b1⟩ := hc.1 σ1 a1
  have e2 : x1 = (if σ0 0 7 = 12 then 12 else σ0 0 7 + 1) := e1.trans hE.2.2.1
  refine ⟨fun h1 => ⟨fun h2 => ⟨hK, rfl, σ1, b1, hE⟩, fun h2 => absurd (by rw [e2, if_pos (by omega)]) h2⟩, fun h1 => ⟨⟨by omega, by omega⟩, fun h2 => ⟨hK, rfl, σ1, b1, hE⟩, fun h2 => absurd (by rw [e2, if_neg (by omega)]; omega) h2⟩⟩
set_option maxHeartbeats 1000000 in
theorem es_336x (hA : jA ad 46) (C : jC p l e rm_L_edits s m args below meth c cL_edits 15 RL D cy ad kdX lnX 46 A cells slots H0 Q 1 post) (hσ : absX M0 σ0) (hn : nT (gS σ0) ≤ 64) (hj : j = σ0 0 7) (hpost : ∀ x M, (0 ≤ x ∧ ∃ σ', absX M σ' ∧ σ' 0 7 = x ∧ gS σ' = gS σ0 ∧ σ' 2 = σ0 2) → post x M)
    (N : Nat) (H309 : ∀ (w7_ : Option AV) (w8_ : Option AV) (w14_ : Option AV) (g1 : Int) (k1 : Int) (j1 : Int) (r : Int) (t : Int) (d : Int) (o : Int) (y : Int) (q : Int) (z : Int) (i : Int) (M : Mem), (r - i).toNat < N → E309 M0 σ0 g k j g1 k1 j1 r t d o y q z i M → jSt p l e rm_L_edits s m args below meth c 15 D cy ad kdX lnX 46 A cells slots [(7, .long v0)] H0 Q 309 [some (.inr 0), some (.inl g1), some (.inl k1), some (.inl j1), some (.inl r), some (.inl t), some (.inl d), w7_, w8_, some (.inl o), some (.inl y), some (.inl q), some (.inl z), some (.inl i), w14_] [] M) :
    ∀ (w7_ : Option AV) (w8_ : Option AV) (w14_ : Option AV) (g1 : Int) (k1 : Int) (j1 : Int) (r : Int) (t : Int) (d : Int) (o : Int) (y : Int) (q : Int) (z : Int) (i : Int) (M : Mem), (r - i).toNat ≤ N → E336 M0 σ0 g k j g1 k1 j1 r t d o y q z i M → jSt p l e rm_L_edits s m args below meth c 15 D cy ad kdX lnX 46 A cells slots [(7, .long v0)] H0 Q 336 [some (.inr 0), some (.inl g1), some (.inl k1), some (.inl j1), some (.inl r), some (.inl t), some (.inl d), w7_, w8_, some (.inl o), some (.inl y), some (.inl q), some (.inl z), some (.inl i), w14_] [] M := by
  rintro w7_ w8_ w14_ g1 k1 j1 r t d o y q z i M hnN ⟨⟨rfl, rfl, rfl, hr, ht, hd⟩, -, ⟨σ', a', hs, h6, hT⟩, hq, hi, hy⟩
  have h0 := hσ.1.1
  have hK : EK σ0 g k j g k j r t d := ⟨rfl, rfl, rfl, hr, ht, hd⟩
  have hN := nT_s h0
  have G := h0.1
  have hg := sameT_g hs
  have hq0 : 3 ≤ q := by rw [hq]; exact G.1.1
  have hmb := Int.tmod_nonneg 13 hi.1
  have hml := Int.tmod_lt_of_pos i (show (0 : Int) < 13 by decide)
  have hdb : 0 ≤ i / q ∧ i / q ≤ i := ⟨Int.ediv_nonneg hi.1 (by omega), Int.ediv_le_self q hi.1⟩
  refine sg_L_edits_336x (ok_L_low hA) (ok_X8_kind hA) (ok_X8_type hA) (fun g' k' j' r' t' d' o' y' q' z' i' M' => (r' - i').toNat < N ∧ E309 M0 σ0 g k j g' k' j' r' t' d' o' y' q' z' i' M') rfl C (fun w7_9 w8_9 w14_9 g' k' j' r' t' d' o' y' q' z' i' M' hP => H309 w7_9 w8_9 w14_9 _ _ _ _ _ _ _ _ _ _ _ M' hP.1 hP.2) w7_ w8_ w14_ g k j r t d o y q z i M ⟨by decide, ⟨hi.1, by decide⟩, ⟨by omega, by omega⟩, by show (0 : Int) < 3; decide, fun x1 M1 _ _ hc => ?_⟩
  obtain ⟨e1, rfl⟩ := hc
  have e1 : x1 = itI k i := e1
  have hb := itI_b k i
  refine ⟨⟨rfl, rfl, σ', a'⟩, fun x2 M2 _ _ hc => ?_⟩
  obtain ⟨e2, a2⟩ := hc σ' a'
  rw [F_kd (sameT_h hs ⟨hi.1, by omega⟩), hs.2.1] at e2
  have by_ := sumF_b (f := fun n => if σ0 1 n = itI k n then (0 : Int) else 1) (n := i.toNat) (fun _ _ => by split <;> omega)
  have hy2 : chF σ0 k (i + 1) = y + (if x2 = x1 then 0 else 1) := by
    unfold chF
    rw [sumF_s (show (i + 1).toNat = i.toNat + 1 by omega), hy, e1, e2, Int.toNat_of_nonneg hi.1]
  have hyb : 0 ≤ y ∧ y ≤ i := by rw [hy]; exact ⟨by_.1, Int.le_trans by_.2 (by omega)⟩
  have hty := type_3 (σ := σ') (c := 48 + x1) (by omega)
  have hln : lnT q (i + 1) = i + i / q + 1 := by
    unfold lnT
    rw [if_neg (by omega), show i + 1 - 1 = i by omega]
    omega
  have go : ∀ (y' x3 : Int) (M3 : Mem), y' = y + (if x2 = x1 then 0 else 1) → c_X8_type 0 (48 + x1) M2 x3 M3 → E309 M0 σ0 g k j g k j r t d o y' q x3 (i + 1) M3 := fun y' x3 M3 hy' hc => by
    obtain ⟨e3, a3⟩ := hc σ' a2
    refine ⟨hK, ⟨rfl, rfl⟩, ⟨_, a3, sameT_tr hs sameT_type, by rw [hty.2.1, h6, hln], ?_⟩, hq, fun _ => by rw [e3, hty.2.2, h6, hln], by omega, by rw [hy', ← hy2]⟩
    rw [hty.1, h6, hln]
    exact TX_tile (by omega) hi.1 hT rfl (by rw [e1])
  exact ⟨fun h1 => ⟨⟨by omega, by omega⟩, ⟨by omega, by omega⟩, ⟨by omega, by omega⟩, ⟨rfl, rfl, ⟨σ', a2⟩, by omega, by omega⟩, fun x3 M3 _ _ hc => ⟨⟨by omega, by omega⟩, by omega, go _ x3 M3 (by rw [if_pos h1]) hc⟩⟩, fun h1 => ⟨⟨by omega, by omega⟩, ⟨by omega, by omega⟩, ⟨by omega, by omega⟩, ⟨rfl, rfl, ⟨σ', a2⟩, by omega, by omega⟩, fun x3 M3 _ _ hc => ⟨⟨by omega, by omega⟩, by omega, go _ x3 M3 (by rw [if_neg h1]) hc⟩⟩⟩
set_option maxHeartbeats 1000000 in
theorem es_309x (hA : jA ad 46) (C : jC p l e rm_L_edits s m args below meth c cL_edits 15 RL D cy ad kdX lnX 46 A cells slots H0 Q 1 post) (hσ : absX M0 σ0) (hn : nT (gS σ0) ≤ 64) (hj : j = σ0 0 7) (hpost : ∀ x M, (0 ≤ x ∧ ∃ σ', absX M σ' ∧ σ' 0 7 = x ∧ gS σ' = gS σ0 ∧ σ' 2 = σ0 2) → post x M)
    (H482 : ∀ (w7_ : Option AV) (w8_ : Option AV) (w9_ : Option AV) (w10_ : Option AV) (w11_ : Option AV) (w12_ : Option AV) (w13_ : Option AV) (w14_ : Option AV) (g1 : Int) (k1 : Int) (j1 : Int) (r : Int) (t : Int) (d : Int) (M : Mem), E482 M0 σ0 g k j g1 k1 j1 r t d M → jSt p l e rm_L_edits s m args below meth c 15 D cy ad kdX lnX 46 A cells slots [(7, .long v0)] H0 Q 482 [some (.inr 0), some (.inl g1), some (.inl k1), some (.inl j1), some (.inl r), some (.inl t), some (.inl d), w7_, w8_, w9_, w10_, w11_, w12_, w13_, w14_] [] M) :
    ∀ (w7_ : Option AV) (w8_ : Option AV) (w14_ : Option AV) (g1 : Int) (k1 : Int) (j1 : Int) (r : Int) (t : Int) (d : Int) (o : Int) (y : Int) (q : Int) (z : Int) (i : Int) (M : Mem), E309 M0 σ0 g k j g1 k1 j1 r t d o y q z i M → jSt p l e rm_L_edits s m args below meth c 15 D cy ad kdX lnX 46 A cells slots [(7, .long v0)] H0 Q 309 [some (.inr 0), some (.inl g1), some (.inl k1), some (.inl j1), some (.inl r), some (.inl t), some (.inl d), w7_, w8_, some (.inl o), some (.inl y), some (.inl q), some (.inl z), some (.inl i), w14_] [] M := by
  have key : ∀ (n : Nat) (w7_ : Option AV) (w8_ : Option AV) (w14_ : Option AV) (g1 : Int) (k1 : Int) (j1 : Int) (r : Int) (t : Int) (d : Int) (o : Int) (y : Int) (q : Int) (z : Int) (i : Int) (M : Mem), (r - i).toNat = n → E309 M0 σ0 g k j g1 k1 j1 r t d o y q z i M → jSt p l e rm_L_edits s m args below meth c 15 D cy ad kdX lnX 46 A cells slots [(7, .long v0)] H0 Q 309 [some (.inr 0), some (.inl g1), some (.inl k1), some (.inl j1), some (.inl r), some (.inl t), some (.inl d), w7_, w8_, some (.inl o), some (.inl y), some (.inl q), some (.inl z), some (.inl i), w14_] [] M := by
    intro n
    induction n using Nat.strongRecOn with
    | ind n ih =>
      rintro w7_ w8_ w14_ g1 k1 j1 r t d o y q z i M hnn ⟨⟨rfl, rfl, rfl, hr, ht, hd⟩, -, ⟨σ', a', hs, h6, hT⟩, hq, hz, hi, hy⟩
      have h0 := hσ.1.1
      have hK : EK σ0 g k j g k j r t d := ⟨rfl, rfl, rfl, hr, ht, hd⟩
      have hN := nT_s h0
      have G := h0.1
      have hg := sameT_g hs
      have hq0 : 3 ≤ q := by rw [hq]; exact G.1.1
      have hln := lnT_at (q := q) (i := i) (by omega) hi.1
      have hdb : 0 ≤ i / q ∧ i / q ≤ i := ⟨Int.ediv_nonneg hi.1 (by omega), Int.ediv_le_self q hi.1⟩
      refine sg_L_edits_309x (ok_X8_clearText hA) (ok_X8_readTiles hA) (ok_X8_type hA) (ok_X8_value hA) (fun g' k' j' r' t' d' o' y' q' z' i' M' => (r' - i').toNat ≤ n ∧ E336 M0 σ0 g k j g' k' j' r' t' d' o' y' q' z' i' M') (E482 M0 σ0 g k j) rfl C (fun w7_9 w8_9 w14_9 g' k' j' r' t' d' o' y' q' z' i' M' hP => es_336x hA C hσ hn hj hpost n (fun w7_B w8_B w14_B g2 k2 j2 r2 t2 d2 o2 y2 q2 z2 i2 M2 hh1 hh2 => ih _ hh1 w7_B w8_B w14_B g2 k2 j2 r2 t2 d2 o2 y2 q2 z2 i2 M2 rfl hh2) w7_9 w8_9 w14_9 _ _ _ _ _ _ _ _ _ _ _ M' hP.1 hP.2) H482 w7_ w8_ w14_ g k j r t d o y q z i M ⟨fun h1 => ?_, fun h1 => ?_⟩
      · have hir : i = gS σ0 0 * gS σ0 1 := by omega
        have hL : lnT q i = gS σ0 1 * (q + 1) - 1 := by rw [hir, hq]; exact lnT_n (by omega) (by omega)
        have hz := hz (by omega)
        have hL0 : 0 ≤ lnT q i := by rw [hln]; split <;> omega
        have hL1 : lnT q i ≤ 128 := by rw [hln]; split <;> omega
        have s0 : σ' 0 0 = q := by rw [hq, ← hg]; rfl
        have s1 : σ' 0 1 = gS σ0 1 := by rw [← hg]; rfl
        have f1 : ftS σ' = -1 := by
          unfold ftS
          rw [s0, s1, h6]
          exact TX_ok hT hL hL0
        refine ⟨⟨rfl, rfl, σ', a'⟩, fun x1 M1 _ _ hc => ?_⟩
        obtain ⟨e1, a1⟩ := hc σ' a'
        have eG : G_readTiles σ' = upA (kpS σ') 1 (tkK σ') := if_pos f1
        have e2 : x1 = y := by
          rw [e1]
          unfold F_readTiles
          rw [if_pos f1, hg, hy]
          unfold chF
          rw [show i.toNat = nT (gS σ0) by omega]
          refine sumF_congr (fun n hn => ?_)
          rw [s0, hT.2 n (by omega), hs.2.1]
          by_cases x : σ0 1 n = itI k n
          · rw [if_pos x, if_pos (by omega)]
          · rw [if_neg x, if_neg (by omega)]
        rw [eG] at a1
        have hE : ED σ0 (upA (kpS σ') 1 (tkK σ')) := ED_l (ED_up a'.1.1) hs
        generalize hσ1 : upA (kpS σ') 1 (tkK σ') = σ1 at a1 hE
        have h16 : σ1 0 6 = lnT q i := by rw [← hσ1, ed_0 (by decide), h6]
        have h13 : σ1 3 = σ' 3 := by rw [← hσ1]; exact ed_r (Or.inr rfl)
        refine ⟨fun _ => ⟨⟨rfl, rfl, ⟨σ1, a1⟩, by decide, by decide⟩, fun x2 M2 _ _ hc => ?_⟩, fun x => absurd e2 x⟩
        have a2 := (hc σ1 a1).2
        have ty := type_3 (σ := σ1) (c := 47) (by omega)
        have hE2 := ED_r hE (sameT_type (c := 47))
        have q0 : G_type σ1 47 0 0 = q := by rw [hq, ← hE2.1]; rfl
        have q1 : G_type σ1 47 0 1 = gS σ0 1 := by rw [← hE2.1]; rfl
        have f2 : ftS (G_type σ1 47) = lnT q i := by
          unfold ftS
          rw [q0, q1, ty.1, ty.2.1, h16, h13]
          exact TX_long hT hL hL0 47
        have fne : ¬ ftS (G_type σ1 47) = -1 := by omega
        refine ⟨⟨rfl, rfl, _, a2⟩, fun x3 M3 _ _ hc => ?_⟩
        obtain ⟨e3, a3⟩ := hc _ a2
        have e3 : x3 = -100 - lnT q i := by
          rw [e3]
          unfold F_readTiles
          rw [if_neg fne, f2]
        rw [show G_readTiles (G_type σ1 47) = G_type σ1 47 from if_neg fne] at a3
        refine ⟨⟨by omega, by omega⟩, fun x => absurd (by omega) x, fun _ => ⟨⟨rfl, rfl, _, a3⟩, fun x4 M4 _ _ hc => ?_⟩⟩
        obtain ⟨e4, a4⟩ := hc _ a3
        have e4 : x4 = gS σ0 1 := e4.trans q1
        have hlr : lnT q i = r + x4 - 1 := by
          rw [hL, hr, hN.1, e4, hq, Int.mul_add, Int.mul_one, Int.mul_comm]
        refine ⟨⟨by omega, by omega⟩, ⟨by omega, by omega⟩, fun _ => ⟨⟨rfl, rfl, _, a4⟩, fun x5 M5 _ _ hc => ?_⟩, fun x => absurd (by omega) x⟩
        have a5 := (hc _ a4).2
        have hE5 := ED_r hE2 (sameT_clear (σ := G_type σ1 47))
        generalize hσ5 : G_clearText (G_type σ1 47) = σ5 at a5 hE5
        have h56 : σ5 0 6 = 0 := by rw [← hσ5]; exact clear_3.2
        refine ⟨⟨rfl, rfl, ⟨σ5, a5⟩, by decide, by decide⟩, fun x6 M6 _ _ hc => ?_⟩
        have a6 := (hc _ a5).2
        have ty6 := type_3 (σ := σ5) (c := 48) (by omega)
        have hE6 := ED_r hE5 (sameT_type (c := 48))
        have p0 : G_type σ5 48 0 0 = q := by rw [hq, ← hE6.1]; rfl
        have p1 : G_type σ5 48 0 1 = gS σ0 1 := by rw [← hE6.1]; rfl
        have g1 := G.2.1
        have hdue : 3 * (q + 1) ≤ gS σ0 1 * (q + 1) := Int.mul_le_mul_of_nonneg_right (by omega) (by omega)
        have t60 : G_type σ5 48 3 0 = 48 := by rw [ty6.1, h56]; exact upR_s
        have bd0 : badT q (gS σ0 1) (G_type σ5 48 3) 0 = false := by
          have h9 := badT_i (a := q) (b := gS σ0 1) (T := G_type σ5 48 3) (k := 0) (by decide)
          have h9 : badT q (gS σ0 1) (G_type σ5 48 3) 0 = _ := h9
          rw [h9]
          refine decide_eq_false (fun x => x ⟨by omega, ?_⟩)
          rw [if_neg (by rw [Int.zero_emod]; omega)]
          show 48 ≤ G_type σ5 48 3 0 ∧ G_type σ5 48 3 0 ≤ 53
          rw [t60]
          decide
        have f6 : ftS (G_type σ5 48) = 1 := by
          unfold ftS
          rw [p0, p1, ty6.2.1, h56]
          unfold ftF
          rw [show ((0 : Int) + 1).toNat = 0 + 1 from rfl, ff_ok (t := 0) rfl bd0, if_pos rfl, if_pos (by omega)]
          rfl
        have fne6 : ¬ ftS (G_type σ5 48) = -1 := by omega
        refine ⟨⟨rfl, rfl, _, a6⟩, fun x7 M7 _ _ hc => ?_⟩
        obtain ⟨e7, a7⟩ := hc _ a6
        have e7 : x7 = -101 := by
          rw [e7]
          unfold F_readTiles
          rw [if_neg fne6, f6]
          rfl
        rw [show G_readTiles (G_type σ5 48) = G_type σ5 48 from if_neg fne6] at a7
        refine ⟨fun _ => ⟨⟨rfl, rfl, ⟨_, a7⟩, by decide, by decide⟩, fun x8 M8 _ _ hc => ?_⟩, fun x => absurd e7 x⟩
        have a8 := (hc _ a7).2
        have h66 : G_type σ5 48 0 6 = 1 := by rw [ty6.2.1, h56]; rfl
        have ty8 := type_3 (σ := G_type σ5 48) (c := 54) (by omega)
        have hE8 := ED_r hE6 (sameT_type (c := 54))
        have r0 : G_type (G_type σ5 48) 54 0 0 = q := by rw [hq, ← hE8.1]; rfl
        have r1 : G_type (G_type σ5 48) 54 0 1 = gS σ0 1 := by rw [← hE8.1]; rfl
        have t81 : G_type (G_type σ5 48) 54 3 1 = 54 := by rw [ty8.1, h66]; exact upR_s
        have t80 : badT q (gS σ0 1) (G_type (G_type σ5 48) 54 3) 0 = false := by
          have e9 : G_type (G_type σ5 48) 54 3 0 = G_type σ5 48 3 0 := by rw [ty8.1, h66]; exact upR_n (by decide)
          unfold badT at bd0 ⊢
          rw [e9]
          exact bd0
        have bd1 : badT q (gS σ0 1) (G_type (G_type σ5 48) 54 3) ((1 : Int)).toNat = true := by
          rw [badT_i (by decide)]
          refine decide_eq_true (fun x => ?_)
          have h9 := x.2
          rw [if_neg (by rw [Int.emod_eq_of_lt (by decide) (by omega)]; omega)] at h9
          have h10 : 48 ≤ G_type (G_type σ5 48) 54 3 1 ∧ G_type (G_type σ5 48) 54 3 1 ≤ 53 := h9
          rw [t81] at h10
          exact absurd h10 (by decide)
        have f8 : ftS (G_type (G_type σ5 48) 54) = 1 := by
          unfold ftS
          rw [r0, r1, ty8.2.1, h66]
          exact ft_bad (k := 1) (ff_ok (t := 0) rfl t80) bd1 (by decide) (by decide)
        have fne8 : ¬ ftS (G_type (G_type σ5 48) 54) = -1 := by omega
        refine ⟨⟨rfl, rfl, _, a8⟩, fun x9 M9 _ _ hc => ?_⟩
        obtain ⟨e9, a9⟩ := hc _ a8
        have e9 : x9 = -101 := by
          rw [e9]
          unfold F_readTiles
          rw [if_neg fne8, f8]
          rfl
        rw [show G_readTiles (G_type (G_type σ5 48) 54) = G_type (G_type σ5 48) 54 from if_neg fne8] at a9
        exact ⟨fun _ => ⟨hK, rfl, _, a9, hE8⟩, fun x => absurd e9 x⟩
      · have et : Int.tmod i q = i % q := Int.tmod_eq_emod_of_nonneg hi.1
        have same : ¬ (0 < i ∧ i % q = 0) → (r - i).toNat ≤ n ∧ E336 M0 σ0 g k j g k j r t d o y q z i M := fun x => by
          rw [if_neg x] at hln
          exact ⟨by omega, hK, ⟨rfl, rfl, rfl⟩, ⟨σ', a', hs, by rw [h6, hln], by rw [← hln]; exact hT⟩, hq, by omega, hy⟩
        refine ⟨fun h2 => same (by omega), fun h2 => ⟨by omega, fun h3 => same (by omega), fun h3 => ⟨⟨rfl, rfl, ⟨σ', a'⟩, by decide, by decide⟩, fun x1 M1 _ _ hc => ?_⟩⟩⟩
        have a1 := (hc σ' a').2
        have hx : 0 < i ∧ i % q = 0 := ⟨by omega, by omega⟩
        rw [if_pos hx] at hln
        have ty := type_3 (σ := σ') (c := 47) (by omega)
        refine ⟨by omega, hK, ⟨rfl, rfl, rfl⟩, ⟨_, a1, sameT_tr hs sameT_type, by rw [ty.2.1, h6, hln]; omega, ?_⟩, hq, by omega, hy⟩
        rw [ty.1, h6]
        have := TX_slash (by omega) hx.1 hx.2 hT hln
        rw [show i + i / q = lnT q i + 1 by omega]
        exact this
  rintro w7_ w8_ w14_ g1 k1 j1 r t d o y q z i M hP
  exact key _ w7_ w8_ w14_ g1 k1 j1 r t d o y q z i M rfl hP
set_option maxHeartbeats 1000000 in
theorem es_118z (hA : jA ad 47) (C : jC p l e rm_L_edits s m args below meth c cL_edits 15 RL D cy ad kdZ (lnZ 64) 47 A cells slots H0 Q 1 post) (hσ : absX M0 σ0) (hn : nT (gS σ0) ≤ 64) (hj : j = σ0 0 7) (hpost : ∀ x M, (0 ≤ x ∧ ∃ σ', absX M σ' ∧ σ' 0 7 = x ∧ gS σ' = gS σ0 ∧ σ' 2 = σ0 2) → post x M)
    (H482 : ∀ (w7_ : Option AV) (w8_ : Option AV) (w9_ : Option AV) (w10_ : Option AV) (w11_ : Option AV) (w12_ : Option AV) (w13_ : Option AV) (w14_ : Option AV) (g1 : Int) (k1 : Int) (j1 : Int) (r : Int) (t : Int) (d : Int) (M : Mem), E482 M0 σ0 g k j g1 k1 j1 r t d M → jSt p l e rm_L_edits s m args below meth c 15 D cy ad kdZ (lnZ 64) 47 A cells slots [(7, .long v0)] H0 Q 482 [some (.inr 0), some (.inl g1), some (.inl k1), some (.inl j1), some (.inl r), some (.inl t), some (.inl d), w7_, w8_, w9_, w10_, w11_, w12_, w13_, w14_] [] M) :
    ∀ (w7_ : Option AV) (w8_ : Option AV) (g1 : Int) (k1 : Int) (j1 : Int) (r : Int) (t : Int) (d : Int) (o : Int) (y : Int) (q : Int) (z : Int) (i : Int) (M : Mem), E118 M0 σ0 g k j g1 k1 j1 r t d o y q z i M → jSt p l e rm_L_edits s m args below meth c 15 D cy ad kdZ (lnZ 64) 47 A cells slots [(7, .long v0)] H0 Q 118 [some (.inr 0), some (.inl g1), some (.inl k1), some (.inl j1), some (.inl r), some (.inl t), some (.inl d), w7_, w8_, some (.inl o), some (.inl y), some (.inr 46), some (.inl q), some (.inl z), some (.inl i)] [] M := by
  have key : ∀ (n : Nat) (w7_ : Option AV) (w8_ : Option AV) (g1 : Int) (k1 : Int) (j1 : Int) (r : Int) (t : Int) (d : Int) (o : Int) (y : Int) (q : Int) (z : Int) (i : Int) (M : Mem), (r - i).toNat = n → E118 M0 σ0 g k j g1 k1 j1 r t d o y q z i M → jSt p l e rm_L_edits s m args below meth c 15 D cy ad kdZ (lnZ 64) 47 A cells slots [(7, .long v0)] H0 Q 118 [some (.inr 0), some (.inl g1), some (.inl k1), some (.inl j1), some (.inl r), some (.inl t), some (.inl d), w7_, w8_, some (.inl o), some (.inl y), some (.inr 46), some (.inl q), some (.inl z), some (.inl i)] [] M := by
    intro n
    induction n using Nat.strongRecOn with
    | ind n ih =>
      rintro w7_ w8_ g1 k1 j1 r t d o y q z i M hn ⟨⟨rfl, rfl, rfl, hr, ht, hd⟩, -, ⟨σ1, a1, hE, hK1, hz, hq⟩, hy, hi, hw⟩
      have h0 := hσ.1.1
      have hK : EK σ0 g k j g k j r t d := ⟨rfl, rfl, rfl, hr, ht, hd⟩
      have hN := nT_s h0
      have hg1 := hE.1
      have ht1 : ∀ {t' : Int}, hasS σ0 t' → hasS σ1 t' := fun h => by unfold hasS; rw [hg1]; exact h
      have bz := sumF_b (f := fun n => if (n : Int) ≠ t ∧ labS σ1 n ≠ labS σ0 n then (1 : Int) else 0) (n := i.toNat) (fun _ _ => if01 _)
      rw [← hz] at bz
      have hs : sumF (fun n => if (n : Int) ≠ t ∧ labS σ1 n ≠ labS σ0 n then (1 : Int) else 0) (i + 1).toNat = z + (if i ≠ t ∧ labS σ1 i.toNat ≠ labS σ0 i.toNat then 1 else 0) := by
        rw [sumF_s (show (i + 1).toNat = i.toNat + 1 by omega), ← hz, Int.toNat_of_nonneg hi.1]
      refine sg_L_edits_118z (okz_X8_kind hA (ok_X8_kind (jA_le hA (by decide)))) (okz_X8_label hA (ok_X8_label (jA_le hA (by decide)))) (okz_X8_value hA (ok_X8_value (jA_le hA (by decide)))) (fun g' k' j' r' t' d' o' y' q' z' i' M' => (r' - i').toNat < n ∧ E118 M0 σ0 g k j g' k' j' r' t' d' o' y' q' z' i' M') (E482 M0 σ0 g k j) rfl C (fun w7 w8 g' k' j' r' t' d' o' y' q' z' i' M' hP => ih _ hP.1 w7 w8 _ _ _ _ _ _ _ _ _ _ _ M' rfl hP.2) H482 w7_ w8_ g k j r t d o y q z i M ⟨fun h1 => ⟨⟨rfl, rfl, σ1, a1⟩, fun x1 M1 _ _ hc => ?_⟩, fun h1 => ⟨fun h2 => by omega, fun h2 => ⟨fun h3 => ⟨⟨by omega, by omega⟩, ⟨by omega, by omega⟩, by omega, hK, ⟨rfl, rfl⟩, ⟨σ1, a1, hE, hK1, by rw [hs, if_neg (fun x => x.1 h3)], hq⟩, hy, by omega, hw⟩, fun h3 => ⟨⟨rfl, rfl, σ1, a1⟩, fun x1 M1 _ _ hc => ?_⟩⟩⟩⟩
      · obtain ⟨e1, b1⟩ := hc.1 σ1 a1
        have e2 : x1 = y := by
          rw [e1, hy]
          show cntS (lab (gS σ1) (σ1 1)) (nT (gS σ1)) = _
          rw [hg1, hK1]
        refine ⟨fun x => absurd e2 x, fun _ => ⟨⟨rfl, rfl, σ1, b1⟩, fun x2 M2 _ _ hc => ?_⟩⟩
        obtain ⟨e3, b2⟩ := hc.1 σ1 b1
        rw [F_kd (ht1 ht), hK1, upR_s] at e3
        have hzq : q = z := by rw [hq, hz, show i.toNat = nT (gS σ0) by omega]
        exact ⟨fun x => absurd e3 x, fun _ => ⟨fun x => by omega, fun _ => ⟨fun _ => ⟨hK, rfl, σ1, b2, hE⟩, fun x => absurd hzq x⟩⟩⟩
      · obtain ⟨e1, b1⟩ := hc.1 σ1 a1
        rw [F_lb (ht1 ⟨hi.1, by omega⟩)] at e1
        have e46 := hc.2 46 (Nat.le_refl _)
        have hwi : M1 46 i.toNat = labS σ0 i.toNat := by rw [e46]; exact hw _ (by omega)
        have hw1 : ∀ n : Nat, (n : Int) < r → M1 46 n = labS σ0 n := fun n hn => by rw [e46]; exact hw n hn
        refine ⟨rfl, ⟨by omega, by omega⟩, fun h4 => ⟨⟨by omega, by omega⟩, ⟨by omega, by omega⟩, by omega, hK, ⟨rfl, rfl⟩, ⟨σ1, b1, hE, hK1, by rw [hs, if_neg (fun x => x.2 (by rw [← e1, ← hwi]; exact h4))], hq⟩, hy, by omega, hw1⟩, fun h4 => ⟨⟨by omega, by omega⟩, ⟨by omega, by omega⟩, by omega, hK, ⟨rfl, rfl⟩, ⟨σ1, b1, hE, hK1, by rw [hs, if_pos ⟨h3, fun x => h4 (by rw [e1, hwi]; exact x)⟩], hq⟩, hy, by omega, hw1⟩⟩
  rintro w7_ w8_ g1 k1 j1 r t d o y q z i M hP
  exact key _ w7_ w8_ g1 k1 j1 r t d o y q z i M rfl hP
set_option maxHeartbeats 1000000 in
theorem es_71z (hA : jA ad 47) (C : jC p l e rm_L_edits s m args below meth c cL_edits 15 RL D cy ad kdZ (lnZ 64) 47 A cells slots H0 Q 1 post) (hσ : absX M0 σ0) (hn : nT (gS σ0) ≤ 64) (hj : j = σ0 0 7) (hpost : ∀ x M, (0 ≤ x ∧ ∃ σ', absX M σ' ∧ σ' 0 7 = x ∧ gS σ' = gS σ0 ∧ σ' 2 = σ0 2) → post x M)
    (H118 : ∀ (w7_ : Option AV) (w8_ : Option AV) (g1 : Int) (k1 : Int) (j1 : Int) (r : Int) (t : Int) (d : Int) (o : Int) (y : Int) (q : Int) (z : Int) (i : Int) (M : Mem), E118 M0 σ0 g k j g1 k1 j1 r t d o y q z i M → jSt p l e rm_L_edits s m args below meth c 15 D cy ad kdZ (lnZ 64) 47 A cells slots [(7, .long v0)] H0 Q 118 [some (.inr 0), some (.inl g1), some (.inl k1), some (.inl j1), some (.inl r), some (.inl t), some (.inl d), w7_, w8_, some (.inl o), some (.inl y), some (.inr 46), some (.inl q), some (.inl z), some (.inl i)] [] M) :
    ∀ (w7_ : Option AV) (w8_ : Option AV) (w13_ : Option AV) (w14_ : Option AV) (g1 : Int) (k1 : Int) (j1 : Int) (r : Int) (t : Int) (d : Int) (o : Int) (y : Int) (i : Int) (M : Mem), E71 M0 σ0 g k j g1 k1 j1 r t d o y i M → jSt p l e rm_L_edits s m args below meth c 15 D cy ad kdZ (lnZ 64) 47 A cells slots [(7, .long v0)] H0 Q 71 [some (.inr 0), some (.inl g1), some (.inl k1), some (.inl j1), some (.inl r), some (.inl t), some (.inl d), w7_, w8_, some (.inl o), some (.inl y), some (.inr 46), some (.inl i), w13_, w14_] [] M := by
  have key : ∀ (n : Nat) (w7_ : Option AV) (w8_ : Option AV) (w13_ : Option AV) (w14_ : Option AV) (g1 : Int) (k1 : Int) (j1 : Int) (r : Int) (t : Int) (d : Int) (o : Int) (y : Int) (i : Int) (M : Mem), (r - i).toNat = n → E71 M0 σ0 g k j g1 k1 j1 r t d o y i M → jSt p l e rm_L_edits s m args below meth c 15 D cy ad kdZ (lnZ 64) 47 A cells slots [(7, .long v0)] H0 Q 71 [some (.inr 0), some (.inl g1), some (.inl k1), some (.inl j1), some (.inl r), some (.inl t), some (.inl d), w7_, w8_, some (.inl o), some (.inl y), some (.inr 46), some (.inl i), w13_, w14_] [] M := by
    intro n
    induction n using Nat.strongRecOn with
    | ind n ih =>
      rintro w7_ w8_ w13_ w14_ g1 k1 j1 r t d o y i M hn ⟨⟨rfl, rfl, rfl, hr, ht, hd⟩, -, ha, hy, hi, hw⟩
      have h0 := hσ.1.1
      have hK : EK σ0 g k j g k j r t d := ⟨rfl, rfl, rfl, hr, ht, hd⟩
      have hkd : kdO d := by omega
      have hN := nT_s h0
      have e6 : G_setTile σ0 t d = upA (kpS σ0) 1 (upR (σ0 1) t.toNat d) := if_pos ⟨ht, hkd⟩
      have hE := ED_up (κ := upR (σ0 1) t.toNat d) h0
      have hK1 : upA (kpS σ0) 1 (upR (σ0 1) t.toNat d) 1 = upR (σ0 1) t.toNat d := upA_s
      have set : ∀ (x : Int) (M1 : Mem), r ≤ i → cz_X8_setTile 0 t d M x M1 → E118 M0 σ0 g k j g k j r t d o y x 0 0 M1 := fun x M1 hri hc => by
        obtain ⟨e1, a1⟩ := hc.1 σ0 ha
        rw [e6] at a1
        have e7 : ∀ j', labS (upA (kpS σ0) 1 (upR (σ0 1) t.toNat d)) j' = lab (gS σ0) (upR (σ0 1) t.toNat d) j' := fun j' => by
          show lab (gS (upA (kpS σ0) 1 (upR (σ0 1) t.toNat d))) (upA (kpS σ0) 1 (upR (σ0 1) t.toNat d) 1) j' = _
          rw [hE.1, hK1]
        refine ⟨hK, ⟨rfl, rfl⟩, ⟨_, a1, hE, hK1, rfl, ?_⟩, hy, by omega, fun n hn => ?_⟩
        · rw [e1]
          unfold F_setTile
          rw [if_pos ht, if_pos hkd]
          exact sumF_congr (fun j' _ => by rw [e7])
        · rw [hc.2 46 (Nat.le_refl _)]
          exact hw n (by omega)
      refine sg_L_edits_71z (okz_X8_label hA (ok_X8_label (jA_le hA (by decide)))) (okz_X8_setTile hA (ok_X8_setTile (jA_le hA (by decide)))) (fun g' k' j' r' t' d' o' y' i' M' => (r' - i').toNat < n ∧ E71 M0 σ0 g k j g' k' j' r' t' d' o' y' i' M') (E118 M0 σ0 g k j) rfl C (fun w7 w8 w13 w14 g' k' j' r' t' d' o' y' i' M' hP => ih _ hP.1 w7 w8 w13 w14 _ _ _ _ _ _ _ _ _ M' rfl hP.2) H118 w7_ w8_ w13_ w14_ g k j r t d o y i M ⟨fun h1 => ⟨⟨rfl, rfl, σ0, ha⟩, fun x1 M1 _ _ hc => set x1 M1 h1 hc⟩, fun h1 => ⟨fun h2 => by omega, fun h2 => ⟨⟨rfl, rfl, σ0, ha⟩, fun x1 M1 _ _ hc => ?_⟩⟩⟩
      obtain ⟨e1, a1⟩ := hc.1 σ0 ha
      rw [F_lb ⟨hi.1, by omega⟩] at e1
      have e46 := hc.2 46 (Nat.le_refl _)
      refine ⟨rfl, ⟨by omega, by omega⟩, ⟨by omega, by omega⟩, by omega, hK, ⟨rfl, rfl⟩, absX_46 a1, hy, by omega, fun n' hn' => ?_⟩
      rw [up_s]
      by_cases z : n' = i.toNat
      · rw [z, upR_s]; exact e1
      · rw [upR_n z, e46]
        exact hw n' (by omega)
  rintro w7_ w8_ w13_ w14_ g1 k1 j1 r t d o y i M hP
  exact key _ w7_ w8_ w13_ w14_ g1 k1 j1 r t d o y i M rfl hP
set_option maxHeartbeats 1000000 in
theorem es_66z (hA : jA ad 47) (C : jC p l e rm_L_edits s m args below meth c cL_edits 15 RL D cy ad kdZ (lnZ 64) 47 A cells slots H0 Q 1 post) (hσ : absX M0 σ0) (hn : nT (gS σ0) ≤ 64) (hj : j = σ0 0 7) (hpost : ∀ x M, (0 ≤ x ∧ ∃ σ', absX M σ' ∧ σ' 0 7 = x ∧ gS σ' = gS σ0 ∧ σ' 2 = σ0 2) → post x M)
    (H71 : ∀ (w7_ : Option AV) (w8_ : Option AV) (w13_ : Option AV) (w14_ : Option AV) (g1 : Int) (k1 : Int) (j1 : Int) (r : Int) (t : Int) (d : Int) (o : Int) (y : Int) (i : Int) (M : Mem), E71 M0 σ0 g k j g1 k1 j1 r t d o y i M → jSt p l e rm_L_edits s m args below meth c 15 D cy ad kdZ (lnZ 64) 47 A cells slots [(7, .long v0)] H0 Q 71 [some (.inr 0), some (.inl g1), some (.inl k1), some (.inl j1), some (.inl r), some (.inl t), some (.inl d), w7_, w8_, some (.inl o), some (.inl y), some (.inr 46), some (.inl i), w13_, w14_] [] M) :
    ∀ (w7_ : Option AV) (w8_ : Option AV) (w11_ : Option AV) (w12_ : Option AV) (w13_ : Option AV) (w14_ : Option AV) (g1 : Int) (k1 : Int) (j1 : Int) (r : Int) (t : Int) (d : Int) (o : Int) (y : Int) (M : Mem), E66 M0 σ0 g k j g1 k1 j1 r t d o y M → jSt p l e rm_L_edits s m args below meth c 15 D cy ad kdZ (lnZ 64) 47 A cells slots [(7, .long v0)] H0 Q 66 [some (.inr 0), some (.inl g1), some (.inl k1), some (.inl j1), some (.inl r), some (.inl t), some (.inl d), w7_, w8_, some (.inl o), some (.inl y), w11_, w12_, w13_, w14_] [.inr 46] M := by
  rintro w7_ w8_ w11_ w12_ w13_ w14_ g1 k1 j1 r t d o y M ⟨hK, hx, ha, hy⟩
  have hr := hK.2.2.2.1
  exact sg_L_edits_66z  (E71 M0 σ0 g k j) rfl C H71 w7_ w8_ w11_ w12_ w13_ w14_ g1 k1 j1 r t d o y M ⟨hK, hx, ha, hy, by omega, fun n hn => by omega⟩
set_option maxHeartbeats 1000000 in
theorem es_39x (hA : jA ad 46) (C : jC p l e rm_L_edits s m args below meth c cL_edits 15 RL D cy ad kdX lnX 46 A cells slots H0 Q 1 post) (hσ : absX M0 σ0) (hn : nT (gS σ0) ≤ 64) (hj : j = σ0 0 7) (hpost : ∀ x M, (0 ≤ x ∧ ∃ σ', absX M σ' ∧ σ' 0 7 = x ∧ gS σ' = gS σ0 ∧ σ' 2 = σ0 2) → post x M)
    (H64 : ∀ (w7_ : Option AV) (w8_ : Option AV) (w11_ : Option AV) (w12_ : Option AV) (w13_ : Option AV) (w14_ : Option AV) (g1 : Int) (k1 : Int) (j1 : Int) (r : Int) (t : Int) (d : Int) (o : Int) (y : Int) (u : Int) (M : Mem), E64 M0 σ0 g k j g1 k1 j1 r t d o y u M → jSt p l e rm_L_edits s m args below meth c 15 D cy ad kdX lnX 46 A cells slots [(7, .long v0)] H0 Q 64 [some (.inr 0), some (.inl g1), some (.inl k1), some (.inl j1), some (.inl r), some (.inl t), some (.inl d), w7_, w8_, some (.inl o), some (.inl y), w11_, w12_, w13_, w14_] [.inl u] M)
    (H309 : ∀ (w7_ : Option AV) (w8_ : Option AV) (w14_ : Option AV) (g1 : Int) (k1 : Int) (j1 : Int) (r : Int) (t : Int) (d : Int) (o : Int) (y : Int) (q : Int) (z : Int) (i : Int) (M : Mem), E309 M0 σ0 g k j g1 k1 j1 r t d o y q z i M → jSt p l e rm_L_edits s m args below meth c 15 D cy ad kdX lnX 46 A cells slots [(7, .long v0)] H0 Q 309 [some (.inr 0), some (.inl g1), some (.inl k1), some (.inl j1), some (.inl r), some (.inl t), some (.inl d), w7_, w8_, some (.inl o), some (.inl y), some (.inl q), some (.inl z), some (.inl i), w14_] [] M)
    (H482 : ∀ (w7_ : Option AV) (w8_ : Option AV) (w9_ : Option AV) (w10_ : Option AV) (w11_ : Option AV) (w12_ : Option AV) (w13_ : Option AV) (w14_ : Option AV) (g1 : Int) (k1 : Int) (j1 : Int) (r : Int) (t : Int) (d : Int) (M : Mem), E482 M0 σ0 g k j g1 k1 j1 r t d M → jSt p l e rm_L_edits s m args below meth c 15 D cy ad kdX lnX 46 A cells slots [(7, .long v0)] H0 Q 482 [some (.inr 0), some (.inl g1), some (.inl k1), some (.inl j1), some (.inl r), some (.inl t), some (.inl d), w7_, w8_, w9_, w10_, w11_, w12_, w13_, w14_] [] M) :
    ∀ (w7_ : Option AV) (w8_ : Option AV) (w9_ : Option AV) (w10_ : Option AV) (w11_ : Option AV) (w12_ : Option AV) (w13_ : Option AV) (w14_ : Option AV) (g1 : Int) (k1 : Int) (j1 : Int) (r : Int) (t : Int) (d : Int) (M : Mem), E39 M0 σ0 g k j g1 k1 j1 r t d M → jSt p l e rm_L_edits s m args below meth c 15 D cy ad kdX lnX 46 A cells slots [(7, .long v0)] H0 Q 39 [some (.inr 0), some (.inl g1), some (.inl k1), some (.inl j1), some (.inl r), some (.inl t), some (.inl d), w7_, w8_, w9_, w10_, w11_, w12_, w13_, w14_] [] M := by
  rintro w7_ w8_ w9_ w10_ w11_ w12_ w13_ w14_ g1 k1 j1 r t d M ⟨⟨rfl, rfl, rfl, hr, ht, hd⟩, T⟩
  have h0 := hσ.1.1
  have hg0 := T σ0 hσ
  have hK : EK σ0 g k j g k j r t d := ⟨rfl, rfl, rfl, hr, ht, hd⟩
  have hkd : kdO d := by omega
  refine sg_L_edits_39x (ok_L_low hA) (ok_X8_clearText hA) (ok_X8_fill hA) (ok_X8_kind hA) (ok_X8_label hA) (ok_X8_ofPart hA) (ok_X8_partsIf hA) (ok_X8_value hA) (E64 M0 σ0 g k j) (E309 M0 σ0 g k j) (E482 M0 σ0 g k j) rfl C H64 H309 H482 w7_ w8_ w9_ w10_ w11_ w12_ w13_ w14_ g k j r t d M ⟨by show (0 : Int) < 5; decide, fun x1 M1 _ _ hc => ?_⟩
  obtain ⟨e1, rfl⟩ := hc
  refine ⟨fun h1 => ⟨fun h2 => ⟨⟨rfl, rfl, σ0, hg0⟩, fun x2 M2 _ _ hc => ?_⟩, fun h2 => ⟨⟨rfl, rfl, σ0, hg0⟩, fun x2 M2 _ _ hc => ?_⟩⟩, fun h1 => ⟨⟨rfl, rfl, σ0, hg0⟩, fun x2 M2 _ _ hc => ?_⟩⟩
  · have a2 := (hc σ0 hg0).2
    refine ⟨⟨rfl, rfl, _, a2⟩, fun x3 M3 _ _ hc => ?_⟩
    obtain ⟨e3, a3⟩ := hc _ a2
    have e4 : x3 = gS σ0 0 := by rw [e3, ← sameT_g (sameT_clear (σ := σ0))]; rfl
    have n9 := nT_s h0
    refine ⟨hK, ⟨rfl, rfl⟩, ⟨_, a3, sameT_clear, clear_3.2, fun n hn => ?_, fun n hn => by omega⟩, e4, fun z => by omega, by omega, rfl⟩
    have hn : (n : Int) < 0 := hn
    omega
  · obtain ⟨e2, a2⟩ := hc σ0 hg0
    rw [F_lb ht] at e2
    refine ⟨⟨rfl, rfl, σ0, a2⟩, fun x3 M3 _ _ hc => ?_⟩
    obtain ⟨e3, a3⟩ := hc σ0 a2
    rw [e2, F_opI h0 ht] at e3
    refine ⟨⟨rfl, rfl, σ0, a3⟩, fun x4 M4 _ _ hc => ?_⟩
    obtain ⟨e4, a4⟩ := hc σ0 a3
    have e5 : F_fill σ0 t d = cntL (lab (gS σ0) (fiK σ0 t d)) (lab (gS σ0) (fiK σ0 t d) t.toNat) (nT (gS σ0)) := by
      unfold F_fill
      rw [if_pos ht, if_pos hkd]
    have e6 : G_fill σ0 t d = upA (kpS σ0) 1 (fiK σ0 t d) := if_pos ⟨ht, hkd⟩
    rw [e6] at a4
    rw [e5] at e4
    have hE := ED_up (κ := fiK σ0 t d) h0
    have hg1 := hE.1
    have hK1 : upA (kpS σ0) 1 (fiK σ0 t d) 1 = fiK σ0 t d := upA_s
    have h1s : okS (upA (kpS σ0) 1 (fiK σ0 t d)) := a4.1.1
    have ht1 : hasS (upA (kpS σ0) 1 (fiK σ0 t d)) t := by unfold hasS; rw [hg1]; exact ht
    have hge := fill_ge (k := d) h0 ht
    refine ⟨fun z => absurd z (by rw [e4, e3]; omega), fun _ => ⟨⟨rfl, rfl, _, a4⟩, fun x5 M5 _ _ hc => ?_⟩⟩
    obtain ⟨e7, a5⟩ := hc _ a4
    rw [F_kd ht1, hK1, fiK_at (toN ht).1 rfl] at e7
    refine ⟨fun z => absurd e7 z, fun _ => ⟨⟨rfl, rfl, _, a5⟩, fun x6 M6 _ _ hc => ?_⟩⟩
    obtain ⟨e8, a6⟩ := hc _ a5
    rw [F_lb ht1] at e8
    refine ⟨⟨rfl, rfl, _, a6⟩, fun x7 M7 _ _ hc => ?_⟩
    obtain ⟨e9, a7⟩ := hc _ a6
    rw [e8, F_opI h1s ht1] at e9
    have e10 : x7 = x4 := by
      rw [e9, e4]
      show cntL (lab (gS (upA (kpS σ0) 1 (fiK σ0 t d))) (upA (kpS σ0) 1 (fiK σ0 t d) 1)) (lab (gS (upA (kpS σ0) 1 (fiK σ0 t d))) (upA (kpS σ0) 1 (fiK σ0 t d) 1) t.toNat) (nT (gS (upA (kpS σ0) 1 (fiK σ0 t d)))) = _
      rw [hg1, hK1]
    exact ⟨fun _ => ⟨hK, rfl, _, a7, hE⟩, fun z => absurd e10 z⟩
  · obtain ⟨e2, T2⟩ := tt_call T hσ hc
    exact ⟨hK, T2, e2.trans ((if_pos ht).trans (if_pos hkd)), rfl, rfl⟩
end EM
