/-! ===== the law's walks ===== -/
def chO (o : Int) : Int := if o < 4 then 102 else if o < 6 then 114 else 108
theorem chO_b (o : Int) : 0 ≤ chO o ∧ chO o < 65536 := by
  unfold chO
  split
  · omega
  · split <;> omega
/-- the map's state σ', a walk S of i characters, a text of j -/
def WA (M0 σ0 M : Mem) (a b i j : Int) (S : Nat → Int) (q r : Int) (σ' : Mem) : Prop := RT M0 M ∧ absX M σ' ∧ sameT σ0 σ' ∧ σ' 0 6 = j ∧ (∀ n : Nat, (n : Int) < j → badW (σ' 3) n = false) ∧ S = wlk (gS σ0) (σ' 3) a b i.toNat ∧ q = gS σ0 0 ∧ (0 < j → r = j)
/-- the tiles that have been entered, in the law's row -/
def BS (g S : Nat → Int) (M : Mem) (v : Int) : Prop := (∀ j : Nat, (j : Int) < v → (0 ≤ M 46 j ∧ M 46 j < nT g) ∧ S (6 + (M 46 j).toNat) ≠ 0) ∧ ∀ τ : Nat, τ < nT g → S (6 + τ) ≠ 0 → ∃ j : Nat, (j : Int) < v ∧ M 46 j = τ
def WV (S : Nat → Int) (t d y u v w : Int) : Prop := t = S 0 ∧ d = S 1 ∧ y = S 2 ∧ u = S 3 ∧ v = S 4 ∧ w = S 5
section WALKS
variable (M0 σ0 : Mem) (a b g k i0 : Int)
abbrev K4 (a' b' g' k' i : Int) : Prop := a = a' ∧ b = b' ∧ g = g' ∧ k = k' ∧ i0 = i
def P47 (a' b' g' k' t d y u v w q r i : Int) (M : Mem) : Prop := K4 a b g k i0 a' b' g' k' i ∧ (0 ≤ i ∧ i ≤ 20) ∧ ∃ σ' S, WA M0 σ0 M a b i i S q r σ' ∧ BS (gS σ0) S M v ∧ WV S t d y u v w
def P80 (a' b' g' k' t d y u v w q r i o : Int) (M : Mem) : Prop := o = o ∧ P47 M0 σ0 a b g k i0 a' b' g' k' t d y u v w q r i M ∧ i < 20
def P106 (a' b' g' k' t d y u v w q r i o z : Int) (M : Mem) : Prop := P47 M0 σ0 a b g k i0 a' b' g' k' t d y u v w q r i M ∧ i < 20 ∧ z = chO o
def P111 (a' b' g' k' t d y u v w q r i o : Int) (M : Mem) : Prop := K4 a b g k i0 a' b' g' k' i ∧ (0 ≤ i ∧ i < 20) ∧ ∃ σ' S, WA M0 σ0 M a b i (i + 1) S q r σ' ∧ σ' 3 i.toNat = chO o ∧ BS (gS σ0) S M v ∧ WV S t d y u v w
def P346 (a' b' g' k' t d y u v w q r i o : Int) (M : Mem) : Prop := P111 M0 σ0 a b g k i0 a' b' g' k' t d y u v w q r i o M ∧ (w = 0 ∨ 4 ≤ o)
/-- a step: where it leads -/
def P144 (a' b' g' k' t d y u v w q r i o f : Int) (M : Mem) : Prop := P111 M0 σ0 a b g k i0 a' b' g' k' t d y u v 1 q r i o M ∧ o < 4 ∧ f = nx (gS σ0) t d ∧ w = (if f < 0 then 0 else 1)
def P183 (a' b' g' k' t d y u v w q r i o f z as_ : Int) (M : Mem) : Prop := P144 M0 σ0 a b g k i0 a' b' g' k' t d y u v w q r i o f M ∧ z = z ∧ as_ = (if sm (gS σ0) t d = 1 then 1 else 0)
def P224 (a' b' g' k' t d y u v w q r i o f z as_ al : Int) (M : Mem) : Prop := P183 M0 σ0 a b g k i0 a' b' g' k' t d y u v w q r i o f z as_ M ∧ al = (if sm (gS σ0) t d = 2 then 1 else 0)
def P259 (a' b' g' k' t d y u v w q r i o f z as_ al fl : Int) (M : Mem) : Prop := P144 M0 σ0 a b g k i0 a' b' g' k' t d y u v w q r i o f M ∧ z = z ∧ as_ = as_ ∧ al = al ∧ fl = (if flp (gS σ0) t d then 1 else 0)
def P293 (a' b' g' k' t d y u v w q r i : Int) (o f z as_ al fl kn ii : Int) (M : Mem) : Prop := K4 a b g k i0 a' b' g' k' i ∧ (o = o ∧ f = f ∧ z = z ∧ as_ = as_ ∧ al = al ∧ fl = fl) ∧ (0 ≤ i ∧ i < 20) ∧ ∃ σ' S, WA M0 σ0 M a b i (i + 1) S q r σ' ∧ wlk (gS σ0) (σ' 3) a b (i.toNat + 1) = entW (upR (upR S 2 y) 3 u) t ∧ BS (gS σ0) S M v ∧
  (0 ≤ t ∧ t < nT (gS σ0)) ∧ d = S 1 ∧ v = S 4 ∧ w = 1 ∧ S 5 = 1 ∧ (0 ≤ ii ∧ ii ≤ v) ∧ (kn = 0 ∨ kn = 1) ∧ (kn = 1 ↔ ∃ j : Nat, (j : Int) < ii ∧ M 46 j = t)
def P393 (a' b' g' k' t d y u v w q r i : Int) (M : Mem) : Prop := K4 a b g k i0 a' b' g' k' i ∧ (0 ≤ i ∧ i < 20) ∧ ∃ σ' S, WA M0 σ0 M a b (i + 1) (i + 1) S q r σ' ∧ BS (gS σ0) S M v ∧ WV S t d y u v w
def P466 (a' b' g' k' t d y u v w q r i : Int) (M : Mem) : Prop := K4 a b g k i0 a' b' g' k' i0 ∧ (t = t ∧ d = d ∧ y = y ∧ u = u ∧ v = v ∧ w = w) ∧ i = 1 ∧ ∃ σ' S, WA M0 σ0 M a b 20 20 S q r σ'
def P27 (a' b' g' k' t d y u v w : Int) (M : Mem) : Prop := K4 a b g k i0 a' b' g' k' 0 ∧ (a = t ∧ b = d ∧ 0 = y ∧ 0 = u ∧ 1 = v ∧ 1 = w) ∧ ∃ σ', RT M0 M ∧ absX M σ' ∧ sameT σ0 σ' ∧ σ' 0 6 = 0
theorem BS_cg {g S : Nat → Int} {M M1 : Mem} {v : Int} (h : BS g S M v) (e : M1 46 = M 46) : BS g S M1 v := by
  unfold BS at h ⊢
  rw [e]
  exact h
theorem WA_q {M0 σ0 M M1 σ' : Mem} {a b i j q r x : Int} {S : Nat → Int} {F : Mem → Int} (h : WA M0 σ0 M a b i j S q r σ') (hc : (∀ σ, absX M σ → x = F σ ∧ absX M1 σ) ∧ ∀ b, 46 ≤ b → M1 b = M b) : x = F σ' ∧ WA M0 σ0 M1 a b i j S q r σ' ∧ M1 46 = M 46 := by
  obtain ⟨h1, h2, h3⟩ := h
  exact ⟨(hc.1 σ' h2).1, ⟨rt_q h1 (fun σ hσ => (hc.1 σ hσ).2), (hc.1 σ' h2).2, h3⟩, hc.2 46 (Nat.le_refl _)⟩
end WALKS

theorem ff_no {bad : Nat → Bool} {n : Nat} (h : ∀ j, j < n → bad j = false) : ffF bad n = -1 := by
  induction n with
  | zero => rfl
  | succ n ih => exact ff_ok (ih (fun j hj => h j (by omega))) (h n (by omega))
theorem sameT_h {σ σ' : Mem} (h : sameT σ σ') {t : Int} (ht : hasS σ t) : hasS σ' t := by
  unfold hasS at ht ⊢
  rw [sameT_g h]
  exact ht
theorem chO_w (o : Int) {T : Nat → Int} {n : Nat} (h : T n = chO o) : badW T n = false := by
  unfold badW
  rw [h]
  unfold chO
  split
  · decide
  · split <;> decide
/-- the bounds of a walk -/
theorem WA_b {M0 σ0 M σ' : Mem} {a b i j q r : Int} {S : Nat → Int} (h0 : okS σ0) (ha : hasS σ0 a) (hb : 0 ≤ b ∧ b < 4) (hi : 0 ≤ i) (h : WA M0 σ0 M a b i j S q r σ') : wkb (gS σ0) S i := by
  have := wlk_b (g := gS σ0) (T := σ' 3) (t := a) (y := b) h0.1 ha hb i.toNat
  rw [h.2.2.2.2.2.1]
  rwa [Int.toNat_of_nonneg hi] at this
theorem F_wk {σ' : Mem} {a b w : Int} (ha : hasS σ' a) (hb : 0 ≤ b ∧ b < 4) (hw : 0 ≤ w ∧ w ≤ 4) (hf : fwS σ' = -1) : F_walk σ' a b w = wlk (gS σ') (σ' 3) a b (σ' 0 6).toNat w.toNat := by
  unfold F_walk
  rw [if_pos ha, if_pos ⟨hb, hw⟩, if_pos hf]
section WM
variable {p : Program} {l : Launch} {e : Env} {s : State} {m : MethodId} {args : Array Value} {below : List Frame} {meth : Method} {c : Code} {D : va_G} {cy : Nat → ClassId} {ad : Nat → Nat} {A : Nat → Prop} {cells slots : Nat} {H0 : Heap} {Q : State → Prop} {post : Int → Mem → Prop} {M0 σ0 : Mem} {a b g k i0 : Int}
set_option maxHeartbeats 1000000 in
theorem ws_466 (hA : jA ad 47) (C : jC p l e rm_L_walks s m args below meth c cL_walks 23 RL D cy ad kdZ (lnZ 32) 47 A cells slots H0 Q 2 post) (h0 : okS σ0) (ha : hasS σ0 a) (hb : 0 ≤ b ∧ b < 4)
    (hpost : ∀ M, RT M0 M → post 1 M) :
    ∀ (w15_ : Option AV) (w16_ : Option AV) (w17_ : Option AV) (w18_ : Option AV) (w19_ : Option AV) (w20_ : Option AV) (w21_ : Option AV) (w22_ : Option AV) (a1 : Int) (b1 : Int) (g1 : Int) (k1 : Int) (t : Int) (d : Int) (y : Int) (u : Int) (v : Int) (w : Int) (q : Int) (r : Int) (i : Int) (M : Mem), P466 M0 σ0 a b g k i0 a1 b1 g1 k1 t d y u v w q r i M → jSt p l e rm_L_walks s m args below meth c 23 D cy ad kdZ (lnZ 32) 47 A cells slots [] H0 Q 466 [some (.inr 0), some (.inl a1), some (.inl b1), some (.inl g1), some (.inl k1), some (.inl t), some (.inl d), some (.inl y), some (.inl u), some (.inl v), some (.inl w), some (.inr 46), some (.inl q), some (.inl r), some (.inl i), w15_, w16_, w17_, w18_, w19_, w20_, w21_, w22_] [] M := by
  rintro w15_ w16_ w17_ w18_ w19_ w20_ w21_ w22_ a1 b1 g1 k1 t d y u v w q r i M ⟨⟨rfl, rfl, rfl, rfl, -⟩, -, rfl, σ', S, hW⟩
  obtain ⟨R, hσ', hs, h6, hch, hSw, hq, hr⟩ := id hW
  have hr := hr (by decide)
  subst hr
  refine sg_L_walks_466z (okz_X8_type hA (ok_X8_type (jA_le hA (by decide)))) (okz_X8_walk hA (ok_X8_walk (jA_le hA (by decide))))  rfl C  w15_ w16_ w17_ w18_ w19_ w20_ w21_ w22_ a b g k t d y u v w q 20 1 M ⟨⟨rfl, rfl, ⟨σ', hσ'⟩, by decide, by decide⟩, fun x1 M1 _ _ hc => ?_⟩
  have hty := type_3 (σ := σ') (c := 120) (by omega)
  have h1 := hc.1 σ' hσ'
  have hs2 : sameT σ0 (G_type σ' 120) := sameT_tr hs sameT_type
  have R2 : RT M0 M1 := rt_g R (fun σ hσ => (hc.1 σ hσ).2) (fun _ => sameT_type)
  have hh : hasS (G_type σ' 120) a := sameT_h hs2 ha
  have hf : fwS (G_type σ' 120) = 20 := by
    unfold fwS
    have e20 : (G_type σ' 120 0 6).toNat = 20 + 1 + 0 := by rw [hty.2.1, h6]; decide
    rw [e20]
    refine ff_at (t := 20) (ff_no (fun j hj => ?_)) ?_ 0
    · have := hch j (by omega)
      unfold badW at this ⊢
      rw [hty.1, upR_n (by omega)]
      exact this
    · unfold badW
      rw [hty.1, h6, show (20 : Int).toNat = 20 from rfl, upR_s]
      decide
  refine ⟨fun z => absurd z (by decide), fun _ => ⟨⟨rfl, rfl, _, h1.2⟩, fun x2 M2 _ _ hc2 => ?_⟩⟩
  have e2 : x2 = -100 - 20 := by
    rw [(hc2.1 _ h1.2).1]
    unfold F_walk
    rw [if_pos hh, if_pos ⟨hb, by decide, by decide⟩, hf, if_neg (by decide)]
  have R3 := rt_q R2 (fun σ hσ => (hc2.1 σ hσ).2)
  refine ⟨⟨by omega, by omega⟩, fun z => absurd e2 z, fun _ => ⟨⟨rfl, rfl, _, (hc2.1 _ h1.2).2⟩, fun x3 M3 _ _ hc3 => ?_⟩⟩
  have h3 := hc3.1 _ (hc2.1 _ h1.2).2
  have e3 : x3 = -2 := by
    rw [h3.1]
    unfold F_walk
    rw [if_pos hh, if_neg (by decide)]
  have R4 := rt_q R3 (fun σ hσ => (hc3.1 σ hσ).2)
  refine ⟨fun z => absurd e3 z, fun _ => ⟨⟨rfl, rfl, _, h3.2⟩, fun x4 M4 _ _ hc4 => ?_⟩⟩
  have h4 := hc4.1 _ h3.2
  have e4 : x4 = -2 := by
    rw [h4.1]
    unfold F_walk
    rw [if_pos hh, if_neg (by decide)]
  exact ⟨fun z => absurd e4 z, fun _ => ⟨Or.inr rfl, hpost M4 (rt_q R4 (fun σ hσ => (hc4.1 σ hσ).2))⟩⟩
set_option maxHeartbeats 1000000 in
theorem ws_393 (hA : jA ad 47) (C : jC p l e rm_L_walks s m args below meth c cL_walks 23 RL D cy ad kdZ (lnZ 32) 47 A cells slots H0 Q 2 post) (h0 : okS σ0) (ha : hasS σ0 a) (hb : 0 ≤ b ∧ b < 4)
    (H47 : ∀ (w15_ : Option AV) (w16_ : Option AV) (w17_ : Option AV) (w18_ : Option AV) (w19_ : Option AV) (w20_ : Option AV) (w21_ : Option AV) (w22_ : Option AV) (a1 : Int) (b1 : Int) (g1 : Int) (k1 : Int) (t : Int) (d : Int) (y : Int) (u : Int) (v : Int) (w : Int) (q : Int) (r : Int) (i : Int) (M : Mem), P47 M0 σ0 a b g k (i0 + 1) a1 b1 g1 k1 t d y u v w q r i M → jSt p l e rm_L_walks s m args below meth c 23 D cy ad kdZ (lnZ 32) 47 A cells slots [] H0 Q 47 [some (.inr 0), some (.inl a1), some (.inl b1), some (.inl g1), some (.inl k1), some (.inl t), some (.inl d), some (.inl y), some (.inl u), some (.inl v), some (.inl w), some (.inr 46), some (.inl q), some (.inl r), some (.inl i), w15_, w16_, w17_, w18_, w19_, w20_, w21_, w22_] [] M) :
    ∀ (w15_ : Option AV) (w16_ : Option AV) (w17_ : Option AV) (w18_ : Option AV) (w19_ : Option AV) (w20_ : Option AV) (w21_ : Option AV) (w22_ : Option AV) (a1 : Int) (b1 : Int) (g1 : Int) (k1 : Int) (t : Int) (d : Int) (y : Int) (u : Int) (v : Int) (w : Int) (q : Int) (r : Int) (i : Int) (M : Mem), P393 M0 σ0 a b g k i0 a1 b1 g1 k1 t d y u v w q r i M → jSt p l e rm_L_walks s m args below meth c 23 D cy ad kdZ (lnZ 32) 47 A cells slots [] H0 Q 393 [some (.inr 0), some (.inl a1), some (.inl b1), some (.inl g1), some (.inl k1), some (.inl t), some (.inl d), some (.inl y), some (.inl u), some (.inl v), some (.inl w), some (.inr 46), some (.inl q), some (.inl r), some (.inl i), w15_, w16_, w17_, w18_, w19_, w20_, w21_, w22_] [] M := by
  rintro w15_ w16_ w17_ w18_ w19_ w20_ w21_ w22_ a1 b1 g1 k1 t d y u v w q r i M ⟨⟨rfl, rfl, rfl, rfl, rfl⟩, hi, σ', S, hW, hB, hV⟩
  exact sg_L_walks_393z  (P47 M0 σ0 a b g k (i0 + 1)) rfl C H47 w15_ w16_ w17_ w18_ w19_ w20_ w21_ w22_ a b g k t d y u v w q r i0 M ⟨⟨by omega, by omega⟩, ⟨rfl, rfl, rfl, rfl, rfl⟩, by omega, σ', S, hW, hB, hV⟩
set_option maxHeartbeats 1000000 in
theorem ws_346 (hA : jA ad 47) (C : jC p l e rm_L_walks s m args below meth c cL_walks 23 RL D cy ad kdZ (lnZ 32) 47 A cells slots H0 Q 2 post) (h0 : okS σ0) (ha : hasS σ0 a) (hb : 0 ≤ b ∧ b < 4)
    (H393 : ∀ (w15_ : Option AV) (w16_ : Option AV) (w17_ : Option AV) (w18_ : Option AV) (w19_ : Option AV) (w20_ : Option AV) (w21_ : Option AV) (w22_ : Option AV) (a1 : Int) (b1 : Int) (g1 : Int) (k1 : Int) (t : Int) (d : Int) (y : Int) (u : Int) (v : Int) (w : Int) (q : Int) (r : Int) (i : Int) (M : Mem), P393 M0 σ0 a b g k i0 a1 b1 g1 k1 t d y u v w q r i M → jSt p l e rm_L_walks s m args below meth c 23 D cy ad kdZ (lnZ 32) 47 A cells slots [] H0 Q 393 [some (.inr 0), some (.inl a1), some (.inl b1), some (.inl g1), some (.inl k1), some (.inl t), some (.inl d), some (.inl y), some (.inl u), some (.inl v), some (.inl w), some (.inr 46), some (.inl q), some (.inl r), some (.inl i), w15_, w16_, w17_, w18_, w19_, w20_, w21_, w22_] [] M) :
    ∀ (w16_ : Option AV) (w17_ : Option AV) (w18_ : Option AV) (w19_ : Option AV) (w20_ : Option AV) (w21_ : Option AV) (w22_ : Option AV) (a1 : Int) (b1 : Int) (g1 : Int) (k1 : Int) (t : Int) (d : Int) (y : Int) (u : Int) (v : Int) (w : Int) (q : Int) (r : Int) (i : Int) (o : Int) (M : Mem), P346 M0 σ0 a b g k i0 a1 b1 g1 k1 t d y u v w q r i o M → jSt p l e rm_L_walks s m args below meth c 23 D cy ad kdZ (lnZ 32) 47 A cells slots [] H0 Q 346 [some (.inr 0), some (.inl a1), some (.inl b1), some (.inl g1), some (.inl k1), some (.inl t), some (.inl d), some (.inl y), some (.inl u), some (.inl v), some (.inl w), some (.inr 46), some (.inl q), some (.inl r), some (.inl i), some (.inl o), w16_, w17_, w18_, w19_, w20_, w21_, w22_] [] M := by
  rintro w16_ w17_ w18_ w19_ w20_ w21_ w22_ a1 b1 g1 k1 t d y u v w q r i o M ⟨⟨⟨rfl, rfl, rfl, rfl, rfl⟩, hi, σ', S, hW, hco, hB, hV⟩, hwo⟩
  have hbd := WA_b h0 ha hb hi.1 hW
  obtain ⟨R, hσ', hs, h6, hch, hSw, hq, hr⟩ := id hW
  obtain ⟨v0, v1, v2, v3, v4, v5⟩ := id hV
  have hnext : wlk (gS σ0) (σ' 3) a b (i0.toNat + 1) = stW (gS σ0) (chO o) S := by
    show stW (gS σ0) (σ' 3 i0.toNat) (wlk (gS σ0) (σ' 3) a b i0.toNat) = _
    rw [hco, ← hSw]
  have hto : (i0 + 1).toNat = i0.toNat + 1 := by omega
  have hd := hbd.2.1
  have hy := hbd.2.2.1
  refine sg_L_walks_346z  (P393 M0 σ0 a b g k i0) rfl C H393 w16_ w17_ w18_ w19_ w20_ w21_ w22_ a b g k t d y u v w q r i0 o M ⟨fun h1 => ?_, fun h1 => ?_⟩
  · have hS2 : stW (gS σ0) (chO o) S = S := by
      unfold stW
      rw [if_pos (by omega)]
    exact ⟨⟨rfl, rfl, rfl, rfl, rfl⟩, hi, σ', S, ⟨R, hσ', hs, h6, hch, by rw [hto, hnext, hS2], hq, hr⟩, hB, hV⟩
  · have ho : 4 ≤ o := hwo.resolve_left h1
    have done : ∀ d' : Int, d' = trn (decide (chO o = 114)) y d → P393 M0 σ0 a b g k i0 a b g k t d' y u v w q r i0 M := fun d' hd' => by
      have hS2 : stW (gS σ0) (chO o) S = upR S 1 d' := by
        unfold stW
        rw [if_neg (by omega), if_neg (by unfold chO; rw [if_neg (by omega)]; split <;> decide), hd', v1, v2]
      refine ⟨⟨rfl, rfl, rfl, rfl, rfl⟩, hi, σ', upR S 1 d', ⟨R, hσ', hs, h6, hch, by rw [hto, hnext, hS2], hq, hr⟩, ⟨fun j hj => ?_, fun τ hτ h => ?_⟩, ?_⟩
      · obtain ⟨b1, b2⟩ := hB.1 j hj
        exact ⟨b1, by rw [upR_n (by omega)]; exact b2⟩
      · rw [upR_n (by omega)] at h
        exact hB.2 τ hτ h
      · exact ⟨by rw [upR_n (by decide)]; exact v0, by rw [upR_s], by rw [upR_n (by decide)]; exact v2, by rw [upR_n (by decide)]; exact v3, by rw [upR_n (by decide)]; exact v4, by rw [upR_n (by decide)]; exact v5⟩
    have hd4 : d = 0 ∨ d = 1 ∨ d = 2 ∨ d = 3 := by omega
    have t1 : ∀ r : Bool, r = decide (y = 0) → Int.tmod (d + 1) 4 = trn r y d := fun r hr => by
      unfold trn
      rw [if_pos hr]
      rcases hd4 with z | z | z | z <;> rw [z] <;> rfl
    have t3 : ∀ r : Bool, r ≠ decide (y = 0) → Int.tmod (d + 3) 4 = trn r y d := fun r hr => by
      unfold trn
      rw [if_neg hr]
      rcases hd4 with z | z | z | z <;> rw [z] <;> rfl
    refine ⟨fun h2 => ?_, fun h2 => ?_⟩
    · have hc : decide (chO o = 114) = false := by unfold chO; rw [if_neg (by omega), if_neg (by omega)]; rfl
      refine ⟨fun h3 => ⟨fun z => absurd rfl z, fun _ => ⟨⟨by omega, by omega⟩, by decide, done _ (t1 _ (by rw [hc, decide_eq_false h3]))⟩⟩, fun h3 => ⟨fun _ => ⟨⟨by omega, by omega⟩, by decide, done _ (t3 _ (by rw [hc, decide_eq_true (Classical.byContradiction h3)]; decide))⟩, fun z => absurd (by decide) z⟩⟩
    · have hc : decide (chO o = 114) = true := by unfold chO; rw [if_neg (by omega), if_pos (by omega)]; rfl
      refine ⟨fun h3 => ⟨fun _ => ⟨⟨by omega, by omega⟩, by decide, done _ (t3 _ (by rw [hc, decide_eq_false h3]; decide))⟩, fun z => absurd (by decide) z⟩, fun h3 => ⟨fun z => absurd rfl z, fun _ => ⟨⟨by omega, by omega⟩, by decide, done _ (t1 _ (by rw [hc, decide_eq_true (Classical.byContradiction h3)]))⟩⟩⟩
set_option maxHeartbeats 1000000 in
theorem ws_293 (hA : jA ad 47) (C : jC p l e rm_L_walks s m args below meth c cL_walks 23 RL D cy ad kdZ (lnZ 32) 47 A cells slots H0 Q 2 post) (h0 : okS σ0) (ha : hasS σ0 a) (hb : 0 ≤ b ∧ b < 4)
    (H393 : ∀ (w15_ : Option AV) (w16_ : Option AV) (w17_ : Option AV) (w18_ : Option AV) (w19_ : Option AV) (w20_ : Option AV) (w21_ : Option AV) (w22_ : Option AV) (a1 : Int) (b1 : Int) (g1 : Int) (k1 : Int) (t : Int) (d : Int) (y : Int) (u : Int) (v : Int) (w : Int) (q : Int) (r : Int) (i : Int) (M : Mem), P393 M0 σ0 a b g k i0 a1 b1 g1 k1 t d y u v w q r i M → jSt p l e rm_L_walks s m args below meth c 23 D cy ad kdZ (lnZ 32) 47 A cells slots [] H0 Q 393 [some (.inr 0), some (.inl a1), some (.inl b1), some (.inl g1), some (.inl k1), some (.inl t), some (.inl d), some (.inl y), some (.inl u), some (.inl v), some (.inl w), some (.inr 46), some (.inl q), some (.inl r), some (.inl i), w15_, w16_, w17_, w18_, w19_, w20_, w21_, w22_] [] M) :
    ∀ (a1 : Int) (b1 : Int) (g1 : Int) (k1 : Int) (t : Int) (d : Int) (y : Int) (u : Int) (v : Int) (w : Int) (q : Int) (r : Int) (i : Int) (o : Int) (f : Int) (z : Int) (as_ : Int) (al : Int) (fl : Int) (kn : Int) (ii : Int) (M : Mem), P293 M0 σ0 a b g k i0 a1 b1 g1 k1 t d y u v w q r i o f z as_ al fl kn ii M → jSt p l e rm_L_walks s m args below meth c 23 D cy ad kdZ (lnZ 32) 47 A cells slots [] H0 Q 293 [some (.inr 0), some (.inl a1), some (.inl b1), some (.inl g1), some (.inl k1), some (.inl t), some (.inl d), some (.inl y), some (.inl u), some (.inl v), some (.inl w), some (.inr 46), some (.inl q), some (.inl r), some (.inl i), some (.inl o), some (.inl f), some (.inl z), some (.inl as_), some (.inl al), some (.inl fl), some (.inl kn), some (.inl ii)] [] M := by
  have key : ∀ (n : Nat) (a1 : Int) (b1 : Int) (g1 : Int) (k1 : Int) (t : Int) (d : Int) (y : Int) (u : Int) (v : Int) (w : Int) (q : Int) (r : Int) (i : Int) (o : Int) (f : Int) (z : Int) (as_ : Int) (al : Int) (fl : Int) (kn : Int) (ii : Int) (M : Mem), (v - ii).toNat = n → P293 M0 σ0 a b g k i0 a1 b1 g1 k1 t d y u v w q r i o f z as_ al fl kn ii M → jSt p l e rm_L_walks s m args below meth c 23 D cy ad kdZ (lnZ 32) 47 A cells slots [] H0 Q 293 [some (.inr 0), some (.inl a1), some (.inl b1), some (.inl g1), some (.inl k1), some (.inl t), some (.inl d), some (.inl y), some (.inl u), some (.inl v), some (.inl w), some (.inr 46), some (.inl q), some (.inl r), some (.inl i), some (.inl o), some (.inl f), some (.inl z), some (.inl as_), some (.inl al), some (.inl fl), some (.inl kn), some (.inl ii)] [] M := by
    intro n
    induction n using Nat.strongRecOn with
    | ind n ih =>
      rintro a1 b1 g1 k1 t d y u v w q r i o f z as_ al fl kn ii M hn ⟨⟨rfl, rfl, rfl, rfl, rfl⟩, -, hi, σ', S, hW, hnx, hB, htN, hd, hv, hw, hS5, hii, hkn, hiff⟩
      have hbd := WA_b h0 ha hb hi.1 hW
      obtain ⟨R, hσ', hs, h6, hch, hSw, hq, hr⟩ := id hW
      have hb4 := hbd.2.2.2.2.1
      have hi1 : ∀ _ : Nat, kn = 1 → ∃ j : Nat, (j : Int) < ii ∧ M 46 j = t := fun _ => hiff.mp
      have hi2 : ∀ j : Nat, (j : Int) < ii → M 46 j = t → kn = 1 := fun j h1 h2 => hiff.mpr ⟨j, h1, h2⟩
      clear hiff
      have hto : (i0 + 1).toNat = i0.toNat + 1 := by omega
      refine sg_L_walks_293z (fun a' b' g' k' t' d' y' u' v' w' q' r' i' o' f' z' as' al' fl' kn' ii' M' => (v' - ii').toNat < n ∧ P293 M0 σ0 a b g k i0 a' b' g' k' t' d' y' u' v' w' q' r' i' o' f' z' as' al' fl' kn' ii' M') (P393 M0 σ0 a b g k i0) rfl C (fun a' b' g' k' t' d' y' u' v' w' q' r' i' o' f' z' as' al' fl' kn' ii' M' hP => ih _ hP.1 _ _ _ _ _ _ _ _ _ _ _ _ _ _ _ _ _ _ _ _ _ M' rfl hP.2) H393 a b g k t d y u v w q r i0 o f z as_ al fl kn ii M ⟨fun h1 => ?_, fun h1 => ?_⟩
      · have e : ii = v := by omega
        subst e
        refine ⟨fun h2 => ?_, fun h2 => ?_⟩
        · obtain ⟨j, hj, hjt⟩ := hi1 0 (by omega)
          have hst := (hB.1 j hj).2
          rw [hjt] at hst
          have hS2 : entW (upR (upR S 2 y) 3 u) t = upR (upR (upR S 2 y) 3 u) 0 t := by
            unfold entW
            rw [if_neg]
            rw [upR_n (by omega), upR_n (by omega)]
            exact hst
          refine ⟨⟨rfl, rfl, rfl, rfl, rfl⟩, hi, σ', upR (upR (upR S 2 y) 3 u) 0 t, ⟨R, hσ', hs, h6, hch, by rw [hto, hnx, hS2], hq, hr⟩, ⟨fun j hj => ?_, fun τ hτ h => ?_⟩, ?_⟩
          · obtain ⟨b1, b2⟩ := hB.1 j hj
            exact ⟨b1, by rw [upR_n (by omega), upR_n (by omega), upR_n (by omega)]; exact b2⟩
          · rw [upR_n (by omega), upR_n (by omega), upR_n (by omega)] at h
            exact hB.2 τ hτ h
          · exact ⟨by rw [upR_s], by rw [upR_n (by decide), upR_n (by decide), upR_n (by decide)]; exact hd, by rw [upR_n (by decide), upR_n (by decide), upR_s], by rw [upR_n (by decide), upR_s], by rw [upR_n (by decide), upR_n (by decide), upR_n (by decide)]; exact hv, by rw [upR_n (by decide), upR_n (by decide), upR_n (by decide)]; omega⟩
        · have hst : S (6 + t.toNat) = 0 := Classical.byContradiction fun z => by
            obtain ⟨j, hj, hjt⟩ := hB.2 t.toNat (by omega) z
            have := hi2 j hj (by omega)
            omega
          have hS2 : entW (upR (upR S 2 y) 3 u) t = upR (upR (upR (upR (upR S 2 y) 3 u) 0 t) (6 + t.toNat) 1) 4 (ii + 1) := by
            unfold entW
            rw [if_pos]
            · rw [upR_n (show 4 ≠ 3 by decide), upR_n (show 4 ≠ 2 by decide), hv]
            · rw [upR_n (by omega), upR_n (by omega)]
              exact hst
          refine ⟨rfl, ⟨by omega, by omega⟩, ⟨by omega, by omega⟩, ⟨rfl, rfl, rfl, rfl, rfl⟩, hi, σ', upR (upR (upR (upR (upR S 2 y) 3 u) 0 t) (6 + t.toNat) 1) 4 (ii + 1), ⟨rt_q R (fun σ hσ => absX_46 hσ), absX_46 hσ', hs, h6, hch, by rw [hto, hnx, hS2], hq, hr⟩, ⟨fun j hj => ?_, fun τ hτ h => ?_⟩, ?_⟩
          · rw [up_s]
            by_cases z : j = ii.toNat
            · rw [z, upR_s]
              refine ⟨htN, ?_⟩
              rw [upR_n (by omega), upR_s]
              decide
            · rw [upR_n z]
              obtain ⟨b1, b2⟩ := hB.1 j (by omega)
              refine ⟨b1, ?_⟩
              rw [upR_n (by omega)]
              by_cases x : M 46 j = t
              · rw [x, upR_s]; decide
              · rw [upR_n (by omega), upR_n (by omega), upR_n (by omega), upR_n (by omega)]
                exact b2
          · rw [up_s]
            by_cases z : τ = t.toNat
            · exact ⟨ii.toNat, by omega, by rw [upR_s]; omega⟩
            · rw [upR_n (by omega), upR_n (by omega), upR_n (by omega), upR_n (by omega), upR_n (by omega)] at h
              obtain ⟨j, hj, hjt⟩ := hB.2 τ hτ h
              exact ⟨j, by omega, by rw [upR_n (by omega)]; exact hjt⟩
          · exact ⟨by rw [upR_n (by decide), upR_n (by omega), upR_s], by rw [upR_n (by decide), upR_n (by omega), upR_n (by decide), upR_n (by decide), upR_n (by decide)]; exact hd, by rw [upR_n (by decide), upR_n (by omega), upR_n (by decide), upR_n (by decide), upR_s], by rw [upR_n (by decide), upR_n (by omega), upR_n (by decide), upR_s], by rw [upR_s], by rw [upR_n (by decide), upR_n (by omega), upR_n (by decide), upR_n (by decide), upR_n (by decide)]; omega⟩
      · have hlt : (v - (ii + 1)).toNat < n := by omega
        have hb2 : 0 ≤ ii + 1 ∧ ii + 1 ≤ v := by omega
        have go : ∀ kn' : Int, (kn' = 0 ∨ kn' = 1) → (kn' = 1 ↔ ∃ j : Nat, (j : Int) < ii + 1 ∧ M 46 j = t) → (v - (ii + 1)).toNat < n ∧ P293 M0 σ0 a b g k i0 a b g k t d y u v w q r i0 o f z as_ al fl kn' (ii + 1) M :=
          fun kn' h2 h3 => ⟨hlt, ⟨rfl, rfl, rfl, rfl, rfl⟩, ⟨rfl, rfl, rfl, rfl, rfl, rfl⟩, hi, σ', S, hW, hnx, hB, htN, hd, hv, hw, hS5, hb2, h2, h3⟩
        refine ⟨fun h2 => ⟨⟨by omega, by omega⟩, go 1 (Or.inr rfl) ⟨fun _ => ?_, fun _ => rfl⟩⟩, fun h2 => ⟨rfl, ⟨by omega, by omega⟩, fun h3 => ⟨⟨by omega, by omega⟩, go 0 (Or.inl rfl) ⟨fun z => absurd z (by decide), fun ⟨j, hj, hjt⟩ => ?_⟩⟩, fun h3 => ⟨⟨by omega, by omega⟩, go 1 (Or.inr rfl) ⟨fun _ => ⟨ii.toNat, by omega, Classical.byContradiction h3⟩, fun _ => rfl⟩⟩⟩⟩
        · obtain ⟨j, hj, hjt⟩ := hi1 0 (by omega)
          exact ⟨j, by omega, hjt⟩
        · by_cases x : j = ii.toNat
          · rw [x] at hjt
            exact absurd hjt h3
          · have := hi2 j (by omega) hjt
            omega
  rintro a1 b1 g1 k1 t d y u v w q r i o f z as_ al fl kn ii M hP
  exact key _ a1 b1 g1 k1 t d y u v w q r i o f z as_ al fl kn ii M rfl hP
set_option maxHeartbeats 1000000 in
theorem ws_259 (hA : jA ad 47) (C : jC p l e rm_L_walks s m args below meth c cL_walks 23 RL D cy ad kdZ (lnZ 32) 47 A cells slots H0 Q 2 post) (h0 : okS σ0) (ha : hasS σ0 a) (hb : 0 ≤ b ∧ b < 4)
    (H293 : ∀ (a1 : Int) (b1 : Int) (g1 : Int) (k1 : Int) (t : Int) (d : Int) (y : Int) (u : Int) (v : Int) (w : Int) (q : Int) (r : Int) (i : Int) (o : Int) (f : Int) (z : Int) (as_ : Int) (al : Int) (fl : Int) (kn : Int) (ii : Int) (M : Mem), P293 M0 σ0 a b g k i0 a1 b1 g1 k1 t d y u v w q r i o f z as_ al fl kn ii M → jSt p l e rm_L_walks s m args below meth c 23 D cy ad kdZ (lnZ 32) 47 A cells slots [] H0 Q 293 [some (.inr 0), some (.inl a1), some (.inl b1), some (.inl g1), some (.inl k1), some (.inl t), some (.inl d), some (.inl y), some (.inl u), some (.inl v), some (.inl w), some (.inr 46), some (.inl q), some (.inl r), some (.inl i), some (.inl o), some (.inl f), some (.inl z), some (.inl as_), some (.inl al), some (.inl fl), some (.inl kn), some (.inl ii)] [] M)
    (H393 : ∀ (w15_ : Option AV) (w16_ : Option AV) (w17_ : Option AV) (w18_ : Option AV) (w19_ : Option AV) (w20_ : Option AV) (w21_ : Option AV) (w22_ : Option AV) (a1 : Int) (b1 : Int) (g1 : Int) (k1 : Int) (t : Int) (d : Int) (y : Int) (u : Int) (v : Int) (w : Int) (q : Int) (r : Int) (i : Int) (M : Mem), P393 M0 σ0 a b g k i0 a1 b1 g1 k1 t d y u v w q r i M → jSt p l e rm_L_walks s m args below meth c 23 D cy ad kdZ (lnZ 32) 47 A cells slots [] H0 Q 393 [some (.inr 0), some (.inl a1), some (.inl b1), some (.inl g1), some (.inl k1), some (.inl t), some (.inl d), some (.inl y), some (.inl u), some (.inl v), some (.inl w), some (.inr 46), some (.inl q), some (.inl r), some (.inl i), w15_, w16_, w17_, w18_, w19_, w20_, w21_, w22_] [] M) :
    ∀ (w21_ : Option AV) (w22_ : Option AV) (a1 : Int) (b1 : Int) (g1 : Int) (k1 : Int) (t : Int) (d : Int) (y : Int) (u : Int) (v : Int) (w : Int) (q : Int) (r : Int) (i : Int) (o : Int) (f : Int) (z : Int) (as_ : Int) (al : Int) (fl : Int) (M : Mem), P259 M0 σ0 a b g k i0 a1 b1 g1 k1 t d y u v w q r i o f z as_ al fl M → jSt p l e rm_L_walks s m args below meth c 23 D cy ad kdZ (lnZ 32) 47 A cells slots [] H0 Q 259 [some (.inr 0), some (.inl a1), some (.inl b1), some (.inl g1), some (.inl k1), some (.inl t), some (.inl d), some (.inl y), some (.inl u), some (.inl v), some (.inl w), some (.inr 46), some (.inl q), some (.inl r), some (.inl i), some (.inl o), some (.inl f), some (.inl z), some (.inl as_), some (.inl al), some (.inl fl), w21_, w22_] [] M := by
  rintro w21_ w22_ a1 b1 g1 k1 t d y u v w q r i o f z as_ al fl M ⟨hP, -, -, -, hfl⟩
  obtain ⟨⟨⟨rfl, rfl, rfl, rfl, rfl⟩, hi, σ', S, hW, hco, hB, hV⟩, ho, hf, hw⟩ := id hP
  have hbd := WA_b h0 ha hb hi.1 hW
  obtain ⟨R, hσ', hs, h6, hch, hSw, hq, hr⟩ := id hW
  obtain ⟨v0, v1, v2, v3, v4, v5⟩ := id hV
  have hc2 : chO o = 102 := by unfold chO; rw [if_pos ho]
  have hnext : wlk (gS σ0) (σ' 3) a b (i0.toNat + 1) = stW (gS σ0) 102 S := by
    show stW (gS σ0) (σ' 3 i0.toNat) (wlk (gS σ0) (σ' 3) a b i0.toNat) = _
    rw [hco, hc2, ← hSw]
  have hto : (i0 + 1).toNat = i0.toNat + 1 := by omega
  have hb3 := hbd.2.2.2.1
  have hb2 := hbd.2.2.1
  rw [v0, v1] at hf
  refine sg_L_walks_259z  (P293 M0 σ0 a b g k i0) (P393 M0 σ0 a b g k i0) rfl C H293 H393 w21_ w22_ a b g k t d y u v w q r i0 o f z as_ al fl M ⟨fun h1 => ?_, fun h1 => ?_⟩
  · have hf0 : f < 0 := Classical.byContradiction fun z => by rw [if_neg z] at hw; omega
    have hS2 : stW (gS σ0) 102 S = upR S 5 0 := by
      unfold stW
      rw [if_neg (by omega), if_pos rfl, if_pos (by omega)]
    refine ⟨⟨rfl, rfl, rfl, rfl, rfl⟩, hi, σ', upR S 5 0, ⟨R, hσ', hs, h6, hch, by rw [hto, hnext, hS2], hq, hr⟩, ⟨fun j hj => ?_, fun τ hτ h => ?_⟩, ?_⟩
    · obtain ⟨b1, b2⟩ := hB.1 j hj
      exact ⟨b1, by rw [upR_n (by omega)]; exact b2⟩
    · rw [upR_n (by omega)] at h
      exact hB.2 τ hτ h
    · exact ⟨by rw [upR_n (by decide)]; exact v0, by rw [upR_n (by decide)]; exact v1, by rw [upR_n (by decide)]; exact v2, by rw [upR_n (by decide)]; exact v3, by rw [upR_n (by decide)]; exact v4, by rw [upR_s]; exact h1⟩
  · have hf0 : ¬ f < 0 := fun z => by rw [if_pos z] at hw; omega
    have hw1 : w = 1 := by rw [if_neg hf0] at hw; exact hw
    have hfb := (nx_b h0.1 (t := S 0) (d := S 1) hbd.1.1 (by have := hbd.1.2; have := nT_b h0.1; omega)).resolve_left (by omega)
    have hfN : 0 ≤ f ∧ f < nT (gS σ0) := by have := nT_b h0.1; omega
    have hS2 : stW (gS σ0) 102 S = entW (upR (upR S 2 (if flp (gS σ0) t d then 1 - y else y)) 3 (u + 1)) f := by
      unfold stW
      rw [if_neg (by omega), if_pos rfl, if_neg (by omega), ← v0, ← v1, ← v2, ← v3]
      rw [v0, v1, ← hf, ← v0, ← v1]
    have done : ∀ y' : Int, y' = (if flp (gS σ0) t d then 1 - y else y) → P293 M0 σ0 a b g k i0 a b g k f d y' (u + 1) v w q r i0 o f z as_ al fl 0 0 M := fun y' hy' =>
      ⟨⟨rfl, rfl, rfl, rfl, rfl⟩, ⟨rfl, rfl, rfl, rfl, rfl, rfl⟩, hi, σ', S, hW, by rw [hnext, hS2, hy'], hB, hfN, v1, v4, hw1, by omega, by have := hbd.2.2.2.2.1; omega, Or.inl rfl, ⟨fun z => absurd z (by decide), fun ⟨j, hj, _⟩ => by omega⟩⟩
    refine ⟨fun h2 => ⟨⟨by omega, by omega⟩, done y ?_⟩, fun h2 => ⟨⟨by omega, by omega⟩, ⟨by omega, by omega⟩, done (1 - y) ?_⟩⟩
    · rw [if_neg (fun z => by rw [if_pos z] at hfl; omega)]
    · rw [if_pos (Classical.byContradiction fun z => by rw [if_neg z] at hfl; exact h2 hfl)]
set_option maxHeartbeats 1000000 in
theorem ws_224 (hA : jA ad 47) (C : jC p l e rm_L_walks s m args below meth c cL_walks 23 RL D cy ad kdZ (lnZ 32) 47 A cells slots H0 Q 2 post) (h0 : okS σ0) (ha : hasS σ0 a) (hb : 0 ≤ b ∧ b < 4)
    (H259 : ∀ (w21_ : Option AV) (w22_ : Option AV) (a1 : Int) (b1 : Int) (g1 : Int) (k1 : Int) (t : Int) (d : Int) (y : Int) (u : Int) (v : Int) (w : Int) (q : Int) (r : Int) (i : Int) (o : Int) (f : Int) (z : Int) (as_ : Int) (al : Int) (fl : Int) (M : Mem), P259 M0 σ0 a b g k i0 a1 b1 g1 k1 t d y u v w q r i o f z as_ al fl M → jSt p l e rm_L_walks s m args below meth c 23 D cy ad kdZ (lnZ 32) 47 A cells slots [] H0 Q 259 [some (.inr 0), some (.inl a1), some (.inl b1), some (.inl g1), some (.inl k1), some (.inl t), some (.inl d), some (.inl y), some (.inl u), some (.inl v), some (.inl w), some (.inr 46), some (.inl q), some (.inl r), some (.inl i), some (.inl o), some (.inl f), some (.inl z), some (.inl as_), some (.inl al), some (.inl fl), w21_, w22_] [] M) :
    ∀ (w20_ : Option AV) (w21_ : Option AV) (w22_ : Option AV) (a1 : Int) (b1 : Int) (g1 : Int) (k1 : Int) (t : Int) (d : Int) (y : Int) (u : Int) (v : Int) (w : Int) (q : Int) (r : Int) (i : Int) (o : Int) (f : Int) (z : Int) (as_ : Int) (al : Int) (M : Mem), P224 M0 σ0 a b g k i0 a1 b1 g1 k1 t d y u v w q r i o f z as_ al M → jSt p l e rm_L_walks s m args below meth c 23 D cy ad kdZ (lnZ 32) 47 A cells slots [] H0 Q 224 [some (.inr 0), some (.inl a1), some (.inl b1), some (.inl g1), some (.inl k1), some (.inl t), some (.inl d), some (.inl y), some (.inl u), some (.inl v), some (.inl w), some (.inr 46), some (.inl q), some (.inl r), some (.inl i), some (.inl o), some (.inl f), some (.inl z), some (.inl as_), some (.inl al), w20_, w21_, w22_] [] M := by
  rintro w20_ w21_ w22_ a1 b1 g1 k1 t d y u v w q r i o f z as_ al M ⟨⟨hP, hz, has⟩, hal⟩
  obtain ⟨⟨⟨rfl, rfl, rfl, rfl, rfl⟩, hi, σ', S, hW, hco, hB, hV⟩, ho, hf, hw⟩ := id hP
  obtain ⟨R, hσ', hs, h6, hch, hSw, hq, hr⟩ := id hW
  have hg := sameT_g hs
  have keep : ∀ M' : Mem, WA M0 σ0 M' a b i0 (i0 + 1) S q r σ' → M' 46 = M 46 → P144 M0 σ0 a b g k i0 a b g k t d y u v w q r i0 o f M' := fun M' h1 h2 => ⟨⟨⟨rfl, rfl, rfl, rfl, rfl⟩, hi, σ', S, h1, hco, BS_cg hB h2, hV⟩, ho, hf, hw⟩
  have yes : ∀ M' : Mem, P144 M0 σ0 a b g k i0 a b g k t d y u v w q r i0 o f M' → flp (gS σ0) t d → P259 M0 σ0 a b g k i0 a b g k t d y u v w q r i0 o f z as_ al 1 M' := fun M' hP z => ⟨hP, rfl, rfl, rfl, by rw [if_pos z]⟩
  have no : ∀ M' : Mem, P144 M0 σ0 a b g k i0 a b g k t d y u v w q r i0 o f M' → ¬ flp (gS σ0) t d → P259 M0 σ0 a b g k i0 a b g k t d y u v w q r i0 o f z as_ al 0 M' := fun M' hP z => ⟨hP, rfl, rfl, rfl, by rw [if_neg z]⟩
  have s1 : as_ = 0 ↔ sm (gS σ0) t d ≠ 1 := by
    rw [has]
    split
    next y => exact ⟨fun x => absurd x (by decide), fun x => absurd y x⟩
    next y => exact ⟨fun _ => y, fun _ => rfl⟩
  have s2 : al = 0 ↔ sm (gS σ0) t d ≠ 2 := by
    rw [hal]
    split
    next y => exact ⟨fun x => absurd x (by decide), fun x => absurd y x⟩
    next y => exact ⟨fun _ => y, fun _ => rfl⟩
  have q2 : ∀ {M' : Mem} {x : Int}, WA M0 σ0 M' a b i0 (i0 + 1) S q r σ' → F_value σ' 4 = gS σ0 4 := fun _ => by rw [← hg]; rfl
  have q1 : F_value σ' 2 = gS σ0 2 := by rw [← hg]; rfl
  have q3 : F_value σ' 4 = gS σ0 4 := by rw [← hg]; rfl
  refine sg_L_walks_224z (okz_X8_value hA (ok_X8_value (jA_le hA (by decide)))) (P259 M0 σ0 a b g k i0) rfl C H259 w20_ w21_ w22_ a b g k t d y u v w q r i0 o f z as_ al M ⟨fun h1 => ⟨fun h2 => no M hP (fun y => ?_), fun h2 => ⟨⟨rfl, rfl, σ', hσ'⟩, fun x1 M1 _ _ hc => ?_⟩⟩, fun h1 => ⟨⟨rfl, rfl, σ', hσ'⟩, fun x1 M1 _ _ hc => ?_⟩⟩
  · have a1 := s1.mp h1
    have a2 := s2.mp h2
    rcases y with y | y
    · exact a1 y.1
    · exact a2 y.1
  · obtain ⟨e1, hW1, e46⟩ := WA_q hW hc
    rw [q3] at e1
    have a1 := s1.mp h1
    have a2 : sm (gS σ0) t d = 2 := Classical.byContradiction fun y => h2 (s2.mpr y)
    refine ⟨fun h3 => no M1 (keep M1 hW1 e46) (fun y => ?_), fun h3 => yes M1 (keep M1 hW1 e46) (Or.inr ⟨a2, by omega⟩)⟩
    rcases y with y | y
    · exact a1 y.1
    · omega
  · obtain ⟨e1, hW1, e46⟩ := WA_q hW hc
    rw [q1] at e1
    have a1 : sm (gS σ0) t d = 1 := Classical.byContradiction fun y => h1 (s1.mpr y)
    refine ⟨fun h3 => yes M1 (keep M1 hW1 e46) (Or.inl ⟨a1, by omega⟩), fun h3 => ⟨fun h4 => no M1 (keep M1 hW1 e46) (fun y => ?_), fun h4 => absurd (s2.mpr (by omega)) h4⟩⟩
    rcases y with y | y <;> omega
set_option maxHeartbeats 1000000 in
theorem ws_183 (hA : jA ad 47) (C : jC p l e rm_L_walks s m args below meth c cL_walks 23 RL D cy ad kdZ (lnZ 32) 47 A cells slots H0 Q 2 post) (h0 : okS σ0) (ha : hasS σ0 a) (hb : 0 ≤ b ∧ b < 4)
    (H224 : ∀ (w20_ : Option AV) (w21_ : Option AV) (w22_ : Option AV) (a1 : Int) (b1 : Int) (g1 : Int) (k1 : Int) (t : Int) (d : Int) (y : Int) (u : Int) (v : Int) (w : Int) (q : Int) (r : Int) (i : Int) (o : Int) (f : Int) (z : Int) (as_ : Int) (al : Int) (M : Mem), P224 M0 σ0 a b g k i0 a1 b1 g1 k1 t d y u v w q r i o f z as_ al M → jSt p l e rm_L_walks s m args below meth c 23 D cy ad kdZ (lnZ 32) 47 A cells slots [] H0 Q 224 [some (.inr 0), some (.inl a1), some (.inl b1), some (.inl g1), some (.inl k1), some (.inl t), some (.inl d), some (.inl y), some (.inl u), some (.inl v), some (.inl w), some (.inr 46), some (.inl q), some (.inl r), some (.inl i), some (.inl o), some (.inl f), some (.inl z), some (.inl as_), some (.inl al), w20_, w21_, w22_] [] M) :
    ∀ (w19_ : Option AV) (w20_ : Option AV) (w21_ : Option AV) (w22_ : Option AV) (a1 : Int) (b1 : Int) (g1 : Int) (k1 : Int) (t : Int) (d : Int) (y : Int) (u : Int) (v : Int) (w : Int) (q : Int) (r : Int) (i : Int) (o : Int) (f : Int) (z : Int) (as_ : Int) (M : Mem), P183 M0 σ0 a b g k i0 a1 b1 g1 k1 t d y u v w q r i o f z as_ M → jSt p l e rm_L_walks s m args below meth c 23 D cy ad kdZ (lnZ 32) 47 A cells slots [] H0 Q 183 [some (.inr 0), some (.inl a1), some (.inl b1), some (.inl g1), some (.inl k1), some (.inl t), some (.inl d), some (.inl y), some (.inl u), some (.inl v), some (.inl w), some (.inr 46), some (.inl q), some (.inl r), some (.inl i), some (.inl o), some (.inl f), some (.inl z), some (.inl as_), w19_, w20_, w21_, w22_] [] M := by
  rintro w19_ w20_ w21_ w22_ a1 b1 g1 k1 t d y u v w q r i o f z as_ M ⟨hP, hz, has⟩
  obtain ⟨⟨⟨rfl, rfl, rfl, rfl, rfl⟩, hi, σ', S, hW, hco, hB, hV⟩, ho, hf, hw⟩ := id hP
  have hbd := WA_b h0 ha hb hi.1 hW
  obtain ⟨R, hσ', hs, h6, hch, hSw, hq, hr⟩ := id hW
  have hg := sameT_g hs
  obtain ⟨v0, v1, v2, v3, v4, v5⟩ := id hV
  have G := h0.1
  have ht0 : 0 ≤ t := by have := hbd.1; omega
  have hq0 : q = gS σ0 0 := hq
  have hd := hbd.2.1
  have lo : t / gS σ0 0 = 0 ↔ t < q := by
    rw [hq0]
    constructor
    · intro z
      have := Int.emod_add_mul_ediv t (gS σ0 0)
      have h2 := Int.emod_lt_of_pos t (show 0 < gS σ0 0 by omega)
      rw [z] at this
      omega
    · intro z
      exact Int.ediv_eq_zero_of_lt ht0 z
  have keep : ∀ M' : Mem, WA M0 σ0 M' a b i0 (i0 + 1) S q r σ' → M' 46 = M 46 → P144 M0 σ0 a b g k i0 a b g k t d y u v w q r i0 o f M' := fun M' h1 h2 => ⟨⟨⟨rfl, rfl, rfl, rfl, rfl⟩, hi, σ', S, h1, hco, BS_cg hB h2, hV⟩, ho, hf, hw⟩
  have yes : ∀ M' : Mem, P144 M0 σ0 a b g k i0 a b g k t d y u v w q r i0 o f M' → ((d = 1 ∧ t / gS σ0 0 = gS σ0 1 - 1) ∨ (d = 3 ∧ t < q)) → P224 M0 σ0 a b g k i0 a b g k t d y u v w q r i0 o f z as_ 1 M' := fun M' hP z => ⟨⟨hP, hz, has⟩, by
    have e2 : sm (gS σ0) t d = 2 := by
      unfold sm sv
      rw [if_neg (fun y => by rcases y with y | y <;> rcases z with z | z <;> omega), if_pos (z.imp id (fun y => ⟨y.1, lo.mpr y.2⟩))]
    rw [if_pos e2]⟩
  have no : ∀ M' : Mem, P144 M0 σ0 a b g k i0 a b g k t d y u v w q r i0 o f M' → ¬ ((d = 1 ∧ t / gS σ0 0 = gS σ0 1 - 1) ∨ (d = 3 ∧ t < q)) → P224 M0 σ0 a b g k i0 a b g k t d y u v w q r i0 o f z as_ 0 M' := fun M' hP z => ⟨⟨hP, hz, has⟩, by
    rw [if_neg]
    unfold sm sv
    split
    · omega
    · rw [if_neg (fun y => z (y.imp id (fun x => ⟨x.1, lo.mp x.2⟩)))]
      omega⟩
  refine sg_L_walks_183z (okz_X8_value hA (ok_X8_value (jA_le hA (by decide)))) (P224 M0 σ0 a b g k i0) rfl C H224 w19_ w20_ w21_ w22_ a b g k t d y u v w q r i0 o f z as_ M ⟨fun h1 => ⟨fun h2 => no M hP (by omega), fun h2 => ⟨fun h3 => no M hP (by omega), fun h3 => yes M hP (by omega)⟩⟩, fun h1 => ⟨⟨ht0, by omega⟩, ⟨rfl, rfl, σ', hσ'⟩, fun x1 M1 _ _ hc => ?_⟩⟩
  obtain ⟨e1, hW1, e46⟩ := WA_q hW hc
  have e2 : x1 = gS σ0 1 := by rw [e1, ← hg]; rfl
  have hP1 := keep M1 hW1 e46
  rw [hq0]
  rw [hq0] at yes no
  refine ⟨⟨by omega, by omega⟩, fun h2 => ?_, fun h2 => ⟨fun h3 => ?_, fun h3 => ⟨fun h4 => ?_, fun h4 => ?_⟩⟩⟩
  · exact hq0 ▸ yes M1 (hq0 ▸ hP1) (Or.inl ⟨by omega, by omega⟩)
  · exact hq0 ▸ no M1 (hq0 ▸ hP1) (fun z => by rcases z with z | z <;> omega)
  · exact hq0 ▸ no M1 (hq0 ▸ hP1) (fun z => by rcases z with z | z <;> omega)
  · exact absurd h1 (by omega)
set_option maxHeartbeats 1000000 in
theorem ws_144 (hA : jA ad 47) (C : jC p l e rm_L_walks s m args below meth c cL_walks 23 RL D cy ad kdZ (lnZ 32) 47 A cells slots H0 Q 2 post) (h0 : okS σ0) (ha : hasS σ0 a) (hb : 0 ≤ b ∧ b < 4)
    (H183 : ∀ (w19_ : Option AV) (w20_ : Option AV) (w21_ : Option AV) (w22_ : Option AV) (a1 : Int) (b1 : Int) (g1 : Int) (k1 : Int) (t : Int) (d : Int) (y : Int) (u : Int) (v : Int) (w : Int) (q : Int) (r : Int) (i : Int) (o : Int) (f : Int) (z : Int) (as_ : Int) (M : Mem), P183 M0 σ0 a b g k i0 a1 b1 g1 k1 t d y u v w q r i o f z as_ M → jSt p l e rm_L_walks s m args below meth c 23 D cy ad kdZ (lnZ 32) 47 A cells slots [] H0 Q 183 [some (.inr 0), some (.inl a1), some (.inl b1), some (.inl g1), some (.inl k1), some (.inl t), some (.inl d), some (.inl y), some (.inl u), some (.inl v), some (.inl w), some (.inr 46), some (.inl q), some (.inl r), some (.inl i), some (.inl o), some (.inl f), some (.inl z), some (.inl as_), w19_, w20_, w21_, w22_] [] M) :
    ∀ (w17_ : Option AV) (w18_ : Option AV) (w19_ : Option AV) (w20_ : Option AV) (w21_ : Option AV) (w22_ : Option AV) (a1 : Int) (b1 : Int) (g1 : Int) (k1 : Int) (t : Int) (d : Int) (y : Int) (u : Int) (v : Int) (w : Int) (q : Int) (r : Int) (i : Int) (o : Int) (f : Int) (M : Mem), P144 M0 σ0 a b g k i0 a1 b1 g1 k1 t d y u v w q r i o f M → jSt p l e rm_L_walks s m args below meth c 23 D cy ad kdZ (lnZ 32) 47 A cells slots [] H0 Q 144 [some (.inr 0), some (.inl a1), some (.inl b1), some (.inl g1), some (.inl k1), some (.inl t), some (.inl d), some (.inl y), some (.inl u), some (.inl v), some (.inl w), some (.inr 46), some (.inl q), some (.inl r), some (.inl i), some (.inl o), some (.inl f), w17_, w18_, w19_, w20_, w21_, w22_] [] M := by
  rintro w17_ w18_ w19_ w20_ w21_ w22_ a1 b1 g1 k1 t d y u v w q r i o f M hP
  obtain ⟨⟨⟨rfl, rfl, rfl, rfl, rfl⟩, hi, σ', S, hW, hco, hB, hV⟩, ho, hf, hw⟩ := id hP
  have hbd := WA_b h0 ha hb hi.1 hW
  obtain ⟨R, hσ', hs, h6, hch, hSw, hq, hr⟩ := id hW
  obtain ⟨v0, v1, v2, v3, v4, v5⟩ := id hV
  have G := h0.1
  have ht0 : 0 ≤ t := by have := hbd.1; omega
  have et : Int.tmod t q = t % gS σ0 0 := by rw [hq, Int.tmod_eq_emod_of_nonneg ht0]
  have hq0 : q = gS σ0 0 := hq
  have hd := hbd.2.1
  have yes : ((d = 0 ∧ t % gS σ0 0 = gS σ0 0 - 1) ∨ (d = 2 ∧ t % gS σ0 0 = 0)) → P183 M0 σ0 a b g k i0 a b g k t d y u v w q r i0 o f (Int.tmod t q) 1 M := fun z => ⟨hP, rfl, by unfold sm sv; rw [if_pos z, if_pos rfl]⟩
  have no : ¬ ((d = 0 ∧ t % gS σ0 0 = gS σ0 0 - 1) ∨ (d = 2 ∧ t % gS σ0 0 = 0)) → P183 M0 σ0 a b g k i0 a b g k t d y u v w q r i0 o f (Int.tmod t q) 0 M := fun z => ⟨hP, rfl, by unfold sm sv; rw [if_neg z]; split <;> rfl⟩
  refine sg_L_walks_144z  (P183 M0 σ0 a b g k i0) rfl C H183 w17_ w18_ w19_ w20_ w21_ w22_ a b g k t d y u v w q r i0 o f M ⟨by omega, fun h1 => ⟨fun h2 => no (by omega), fun h2 => ⟨fun h3 => no (by omega), fun h3 => yes (by omega)⟩⟩, fun h1 => ⟨⟨by omega, by omega⟩, fun h2 => yes (by omega), fun h2 => ⟨fun h3 => no (by omega), fun h3 => ⟨fun h4 => no (by omega), fun h4 => yes (by omega)⟩⟩⟩⟩
set_option maxHeartbeats 1000000 in
theorem ws_111 (hA : jA ad 47) (C : jC p l e rm_L_walks s m args below meth c cL_walks 23 RL D cy ad kdZ (lnZ 32) 47 A cells slots H0 Q 2 post) (h0 : okS σ0) (ha : hasS σ0 a) (hb : 0 ≤ b ∧ b < 4)
    (H144 : ∀ (w17_ : Option AV) (w18_ : Option AV) (w19_ : Option AV) (w20_ : Option AV) (w21_ : Option AV) (w22_ : Option AV) (a1 : Int) (b1 : Int) (g1 : Int) (k1 : Int) (t : Int) (d : Int) (y : Int) (u : Int) (v : Int) (w : Int) (q : Int) (r : Int) (i : Int) (o : Int) (f : Int) (M : Mem), P144 M0 σ0 a b g k i0 a1 b1 g1 k1 t d y u v w q r i o f M → jSt p l e rm_L_walks s m args below meth c 23 D cy ad kdZ (lnZ 32) 47 A cells slots [] H0 Q 144 [some (.inr 0), some (.inl a1), some (.inl b1), some (.inl g1), some (.inl k1), some (.inl t), some (.inl d), some (.inl y), some (.inl u), some (.inl v), some (.inl w), some (.inr 46), some (.inl q), some (.inl r), some (.inl i), some (.inl o), some (.inl f), w17_, w18_, w19_, w20_, w21_, w22_] [] M)
    (H346 : ∀ (w16_ : Option AV) (w17_ : Option AV) (w18_ : Option AV) (w19_ : Option AV) (w20_ : Option AV) (w21_ : Option AV) (w22_ : Option AV) (a1 : Int) (b1 : Int) (g1 : Int) (k1 : Int) (t : Int) (d : Int) (y : Int) (u : Int) (v : Int) (w : Int) (q : Int) (r : Int) (i : Int) (o : Int) (M : Mem), P346 M0 σ0 a b g k i0 a1 b1 g1 k1 t d y u v w q r i o M → jSt p l e rm_L_walks s m args below meth c 23 D cy ad kdZ (lnZ 32) 47 A cells slots [] H0 Q 346 [some (.inr 0), some (.inl a1), some (.inl b1), some (.inl g1), some (.inl k1), some (.inl t), some (.inl d), some (.inl y), some (.inl u), some (.inl v), some (.inl w), some (.inr 46), some (.inl q), some (.inl r), some (.inl i), some (.inl o), w16_, w17_, w18_, w19_, w20_, w21_, w22_] [] M) :
    ∀ (w16_ : Option AV) (w17_ : Option AV) (w18_ : Option AV) (w19_ : Option AV) (w20_ : Option AV) (w21_ : Option AV) (w22_ : Option AV) (a1 : Int) (b1 : Int) (g1 : Int) (k1 : Int) (t : Int) (d : Int) (y : Int) (u : Int) (v : Int) (w : Int) (q : Int) (r : Int) (i : Int) (o : Int) (M : Mem), P111 M0 σ0 a b g k i0 a1 b1 g1 k1 t d y u v w q r i o M → jSt p l e rm_L_walks s m args below meth c 23 D cy ad kdZ (lnZ 32) 47 A cells slots [] H0 Q 111 [some (.inr 0), some (.inl a1), some (.inl b1), some (.inl g1), some (.inl k1), some (.inl t), some (.inl d), some (.inl y), some (.inl u), some (.inl v), some (.inl w), some (.inr 46), some (.inl q), some (.inl r), some (.inl i), some (.inl o), w16_, w17_, w18_, w19_, w20_, w21_, w22_] [] M := by
  rintro w16_ w17_ w18_ w19_ w20_ w21_ w22_ a1 b1 g1 k1 t d y u v w q r i o M ⟨⟨rfl, rfl, rfl, rfl, rfl⟩, hi, σ', S, hW, hco, hB, hV⟩
  have hbd := WA_b h0 ha hb hi.1 hW
  obtain ⟨R, hσ', hs, h6, hch, hSw, hq, hr⟩ := id hW
  have hg := sameT_g hs
  obtain ⟨v0, v1, v2, v3, v4, v5⟩ := id hV
  have hP : P111 M0 σ0 a b g k i0 a b g k t d y u v w q r i0 o M := ⟨⟨rfl, rfl, rfl, rfl, rfl⟩, hi, σ', S, hW, hco, hB, hV⟩
  refine sg_L_walks_111z (okz_X8_neighbour hA (ok_X8_neighbour (jA_le hA (by decide)))) (P144 M0 σ0 a b g k i0) (P346 M0 σ0 a b g k i0) rfl C H144 H346 w16_ w17_ w18_ w19_ w20_ w21_ w22_ a b g k t d y u v w q r i0 o M ⟨fun h1 => ⟨hP, Or.inl h1⟩, fun h1 => ⟨fun h2 => ⟨hP, Or.inr h2⟩, fun h2 => ⟨⟨rfl, rfl, σ', hσ'⟩, fun x1 M1 _ _ hc => ?_⟩⟩⟩
  obtain ⟨e1, hW, e46⟩ := WA_q hW hc
  have ht : hasS σ' t := by unfold hasS; rw [hg, v0]; exact hbd.1
  have hw1 : w = 1 := by have := hbd.2.2.2.2.2; omega
  have hd := hbd.2.1
  rw [F_nb ht (by omega) (by omega), hg] at e1
  subst hw1
  exact ⟨fun h3 => ⟨⟨⟨rfl, rfl, rfl, rfl, rfl⟩, hi, σ', S, hW, hco, BS_cg hB e46, hV⟩, by omega, e1, by rw [if_pos h3]⟩, fun h3 => ⟨⟨⟨rfl, rfl, rfl, rfl, rfl⟩, hi, σ', S, hW, hco, BS_cg hB e46, hV⟩, by omega, e1, by rw [if_neg h3]⟩⟩
set_option maxHeartbeats 1000000 in
theorem ws_106 (hA : jA ad 47) (C : jC p l e rm_L_walks s m args below meth c cL_walks 23 RL D cy ad kdZ (lnZ 32) 47 A cells slots H0 Q 2 post) (h0 : okS σ0) (ha : hasS σ0 a) (hb : 0 ≤ b ∧ b < 4)
    (H111 : ∀ (w16_ : Option AV) (w17_ : Option AV) (w18_ : Option AV) (w19_ : Option AV) (w20_ : Option AV) (w21_ : Option AV) (w22_ : Option AV) (a1 : Int) (b1 : Int) (g1 : Int) (k1 : Int) (t : Int) (d : Int) (y : Int) (u : Int) (v : Int) (w : Int) (q : Int) (r : Int) (i : Int) (o : Int) (M : Mem), P111 M0 σ0 a b g k i0 a1 b1 g1 k1 t d y u v w q r i o M → jSt p l e rm_L_walks s m args below meth c 23 D cy ad kdZ (lnZ 32) 47 A cells slots [] H0 Q 111 [some (.inr 0), some (.inl a1), some (.inl b1), some (.inl g1), some (.inl k1), some (.inl t), some (.inl d), some (.inl y), some (.inl u), some (.inl v), some (.inl w), some (.inr 46), some (.inl q), some (.inl r), some (.inl i), some (.inl o), w16_, w17_, w18_, w19_, w20_, w21_, w22_] [] M) :
    ∀ (w16_ : Option AV) (w17_ : Option AV) (w18_ : Option AV) (w19_ : Option AV) (w20_ : Option AV) (w21_ : Option AV) (w22_ : Option AV) (a1 : Int) (b1 : Int) (g1 : Int) (k1 : Int) (t : Int) (d : Int) (y : Int) (u : Int) (v : Int) (w : Int) (q : Int) (r : Int) (i : Int) (o : Int) (z : Int) (M : Mem), P106 M0 σ0 a b g k i0 a1 b1 g1 k1 t d y u v w q r i o z M → jSt p l e rm_L_walks s m args below meth c 23 D cy ad kdZ (lnZ 32) 47 A cells slots [] H0 Q 106 [some (.inr 0), some (.inl a1), some (.inl b1), some (.inl g1), some (.inl k1), some (.inl t), some (.inl d), some (.inl y), some (.inl u), some (.inl v), some (.inl w), some (.inr 46), some (.inl q), some (.inl r), some (.inl i), some (.inl o), w16_, w17_, w18_, w19_, w20_, w21_, w22_] [.inl z, .inr 0] M := by
  rintro w16_ w17_ w18_ w19_ w20_ w21_ w22_ a1 b1 g1 k1 t d y u v w q r i o z M ⟨⟨⟨rfl, rfl, rfl, rfl, rfl⟩, hi, σ', S, hW, hB, hV⟩, hi20, rfl⟩
  obtain ⟨R, hσ', hs, h6, hch, hSw, hq, hr⟩ := id hW
  refine sg_L_walks_106z (okz_X8_type hA (ok_X8_type (jA_le hA (by decide)))) (P111 M0 σ0 a b g k i0) rfl C H111 w16_ w17_ w18_ w19_ w20_ w21_ w22_ a b g k t d y u v w q r i0 o (chO o) M ⟨⟨rfl, rfl, ⟨σ', hσ'⟩, chO_b o⟩, fun x1 M1 _ _ hc => ?_⟩
  have hty := type_3 (σ := σ') (c := chO o) (by omega)
  have h1 := hc.1 σ' hσ'
  have e3 : ∀ n : Nat, n ≠ i0.toNat → G_type σ' (chO o) 3 n = σ' 3 n := fun n hn => by rw [hty.1, upR_n (by omega)]
  have e4 : G_type σ' (chO o) 3 i0.toNat = chO o := by rw [hty.1, h6, upR_s]
  refine ⟨⟨rfl, rfl, rfl, rfl, rfl⟩, ⟨hi.1, hi20⟩, G_type σ' (chO o), S, ⟨rt_g R (fun σ hσ => (hc.1 σ hσ).2) (fun _ => sameT_type), h1.2, sameT_tr hs sameT_type, by rw [hty.2.1, h6], fun n hn => ?_, ?_, hq, fun _ => by rw [h1.1, hty.2.2, h6]⟩, e4, BS_cg hB (hc.2 46 (Nat.le_refl _)), hV⟩
  · by_cases z : n = i0.toNat
    · rw [z]; exact chO_w o e4
    · have := hch n (by omega)
      unfold badW at this ⊢
      rw [e3 n z]
      exact this
  · rw [hSw]
    exact wlk_cg _ (fun n hn => (e3 n (by omega)).symm)
set_option maxHeartbeats 1000000 in
theorem ws_80 (hA : jA ad 47) (C : jC p l e rm_L_walks s m args below meth c cL_walks 23 RL D cy ad kdZ (lnZ 32) 47 A cells slots H0 Q 2 post) (h0 : okS σ0) (ha : hasS σ0 a) (hb : 0 ≤ b ∧ b < 4)
    (H106 : ∀ (w16_ : Option AV) (w17_ : Option AV) (w18_ : Option AV) (w19_ : Option AV) (w20_ : Option AV) (w21_ : Option AV) (w22_ : Option AV) (a1 : Int) (b1 : Int) (g1 : Int) (k1 : Int) (t : Int) (d : Int) (y : Int) (u : Int) (v : Int) (w : Int) (q : Int) (r : Int) (i : Int) (o : Int) (z : Int) (M : Mem), P106 M0 σ0 a b g k i0 a1 b1 g1 k1 t d y u v w q r i o z M → jSt p l e rm_L_walks s m args below meth c 23 D cy ad kdZ (lnZ 32) 47 A cells slots [] H0 Q 106 [some (.inr 0), some (.inl a1), some (.inl b1), some (.inl g1), some (.inl k1), some (.inl t), some (.inl d), some (.inl y), some (.inl u), some (.inl v), some (.inl w), some (.inr 46), some (.inl q), some (.inl r), some (.inl i), some (.inl o), w16_, w17_, w18_, w19_, w20_, w21_, w22_] [.inl z, .inr 0] M) :
    ∀ (w16_ : Option AV) (w17_ : Option AV) (w18_ : Option AV) (w19_ : Option AV) (w20_ : Option AV) (w21_ : Option AV) (w22_ : Option AV) (a1 : Int) (b1 : Int) (g1 : Int) (k1 : Int) (t : Int) (d : Int) (y : Int) (u : Int) (v : Int) (w : Int) (q : Int) (r : Int) (i : Int) (o : Int) (M : Mem), P80 M0 σ0 a b g k i0 a1 b1 g1 k1 t d y u v w q r i o M → jSt p l e rm_L_walks s m args below meth c 23 D cy ad kdZ (lnZ 32) 47 A cells slots [] H0 Q 80 [some (.inr 0), some (.inl a1), some (.inl b1), some (.inl g1), some (.inl k1), some (.inl t), some (.inl d), some (.inl y), some (.inl u), some (.inl v), some (.inl w), some (.inr 46), some (.inl q), some (.inl r), some (.inl i), some (.inl o), w16_, w17_, w18_, w19_, w20_, w21_, w22_] [] M := by
  rintro w16_ w17_ w18_ w19_ w20_ w21_ w22_ a1 b1 g1 k1 t d y u v w q r i o M ⟨-, hP, hi⟩
  refine sg_L_walks_80z  (P106 M0 σ0 a b g k i0) rfl C H106 w16_ w17_ w18_ w19_ w20_ w21_ w22_ a1 b1 g1 k1 t d y u v w q r i o M ⟨fun h1 => ⟨fun h2 => ⟨hP, hi, ?_⟩, fun h2 => ⟨hP, hi, ?_⟩⟩, fun h1 => ⟨hP, hi, ?_⟩⟩
  · unfold chO; rw [if_neg (by omega), if_neg (by omega)]
  · unfold chO; rw [if_neg (by omega), if_pos (by omega)]
  · unfold chO; rw [if_pos (by omega)]
set_option maxHeartbeats 1000000 in
theorem ws_47 (hA : jA ad 47) (C : jC p l e rm_L_walks s m args below meth c cL_walks 23 RL D cy ad kdZ (lnZ 32) 47 A cells slots H0 Q 2 post) (h0 : okS σ0) (ha : hasS σ0 a) (hb : 0 ≤ b ∧ b < 4)
    (H80 : ∀ (w16_ : Option AV) (w17_ : Option AV) (w18_ : Option AV) (w19_ : Option AV) (w20_ : Option AV) (w21_ : Option AV) (w22_ : Option AV) (a1 : Int) (b1 : Int) (g1 : Int) (k1 : Int) (t : Int) (d : Int) (y : Int) (u : Int) (v : Int) (w : Int) (q : Int) (r : Int) (i : Int) (o : Int) (M : Mem), P80 M0 σ0 a b g k i0 a1 b1 g1 k1 t d y u v w q r i o M → jSt p l e rm_L_walks s m args below meth c 23 D cy ad kdZ (lnZ 32) 47 A cells slots [] H0 Q 80 [some (.inr 0), some (.inl a1), some (.inl b1), some (.inl g1), some (.inl k1), some (.inl t), some (.inl d), some (.inl y), some (.inl u), some (.inl v), some (.inl w), some (.inr 46), some (.inl q), some (.inl r), some (.inl i), some (.inl o), w16_, w17_, w18_, w19_, w20_, w21_, w22_] [] M)
    (H466 : ∀ (w15_ : Option AV) (w16_ : Option AV) (w17_ : Option AV) (w18_ : Option AV) (w19_ : Option AV) (w20_ : Option AV) (w21_ : Option AV) (w22_ : Option AV) (a1 : Int) (b1 : Int) (g1 : Int) (k1 : Int) (t : Int) (d : Int) (y : Int) (u : Int) (v : Int) (w : Int) (q : Int) (r : Int) (i : Int) (M : Mem), P466 M0 σ0 a b g k i0 a1 b1 g1 k1 t d y u v w q r i M → jSt p l e rm_L_walks s m args below meth c 23 D cy ad kdZ (lnZ 32) 47 A cells slots [] H0 Q 466 [some (.inr 0), some (.inl a1), some (.inl b1), some (.inl g1), some (.inl k1), some (.inl t), some (.inl d), some (.inl y), some (.inl u), some (.inl v), some (.inl w), some (.inr 46), some (.inl q), some (.inl r), some (.inl i), w15_, w16_, w17_, w18_, w19_, w20_, w21_, w22_] [] M) :
    ∀ (w15_ : Option AV) (w16_ : Option AV) (w17_ : Option AV) (w18_ : Option AV) (w19_ : Option AV) (w20_ : Option AV) (w21_ : Option AV) (w22_ : Option AV) (a1 : Int) (b1 : Int) (g1 : Int) (k1 : Int) (t : Int) (d : Int) (y : Int) (u : Int) (v : Int) (w : Int) (q : Int) (r : Int) (i : Int) (M : Mem), P47 M0 σ0 a b g k i0 a1 b1 g1 k1 t d y u v w q r i M → jSt p l e rm_L_walks s m args below meth c 23 D cy ad kdZ (lnZ 32) 47 A cells slots [] H0 Q 47 [some (.inr 0), some (.inl a1), some (.inl b1), some (.inl g1), some (.inl k1), some (.inl t), some (.inl d), some (.inl y), some (.inl u), some (.inl v), some (.inl w), some (.inr 46), some (.inl q), some (.inl r), some (.inl i), w15_, w16_, w17_, w18_, w19_, w20_, w21_, w22_] [] M := by
  rintro w15_ w16_ w17_ w18_ w19_ w20_ w21_ w22_ a1 b1 g1 k1 t d y u v w q r i M ⟨⟨rfl, rfl, rfl, rfl, rfl⟩, hi, σ', S, hW, hB, hV⟩
  have hbd := WA_b h0 ha hb hi.1 hW
  obtain ⟨R, hσ', hs, h6, hch, hSw, hq, hr⟩ := id hW
  have hg := sameT_g hs
  have hh : hasS σ' a := sameT_h hs ha
  refine sg_L_walks_47z (okz_X8_walk hA (ok_X8_walk (jA_le hA (by decide)))) (P80 M0 σ0 a b g k i0) (P466 M0 σ0 a b g k i0) rfl C H80 H466 w15_ w16_ w17_ w18_ w19_ w20_ w21_ w22_ a b g k t d y u v w q r i0 M ⟨fun h => ?_, fun h => ?_⟩
  · have hi20 : i0 = 20 := by omega
    subst hi20
    have hf : fwS σ' = -1 := by
      unfold fwS
      exact ff_no (fun j hj => hch j (by omega))
    have key : ∀ w : Int, 0 ≤ w ∧ w ≤ 4 → F_walk σ' a b w = S w.toNat := fun w hw => by
      rw [F_wk hh hb hw hf, hg, h6, hSw]
    refine ⟨⟨rfl, rfl, σ', hσ'⟩, fun x1 M1 _ _ hc => ?_⟩
    obtain ⟨e1, hW, -⟩ := WA_q hW hc
    rw [key 0 (by decide)] at e1
    refine ⟨fun z => absurd (e1.trans hV.1.symm) z, fun _ => ⟨⟨rfl, rfl, σ', hW.2.1⟩, fun x2 M2 _ _ hc => ?_⟩⟩
    obtain ⟨e2, hW, -⟩ := WA_q hW hc
    rw [key 1 (by decide)] at e2
    refine ⟨fun z => absurd (e2.trans hV.2.1.symm) z, fun _ => ⟨⟨rfl, rfl, σ', hW.2.1⟩, fun x3 M3 _ _ hc => ?_⟩⟩
    obtain ⟨e3, hW, -⟩ := WA_q hW hc
    rw [key 2 (by decide)] at e3
    refine ⟨fun z => absurd (e3.trans hV.2.2.1.symm) z, fun _ => ⟨⟨rfl, rfl, σ', hW.2.1⟩, fun x4 M4 _ _ hc => ?_⟩⟩
    obtain ⟨e4, hW, -⟩ := WA_q hW hc
    rw [key 3 (by decide)] at e4
    refine ⟨fun z => absurd (e4.trans hV.2.2.2.1.symm) z, fun _ => ⟨⟨rfl, rfl, σ', hW.2.1⟩, fun x5 M5 _ _ hc => ?_⟩⟩
    obtain ⟨e5, hW, -⟩ := WA_q hW hc
    rw [key 4 (by decide)] at e5
    exact ⟨fun z => absurd (e5.trans hV.2.2.2.2.1.symm) z, fun _ => ⟨⟨rfl, rfl, rfl, rfl, rfl⟩, ⟨rfl, rfl, rfl, rfl, rfl, rfl⟩, rfl, σ', S, hW⟩⟩
  · have ht : 0 ≤ Int.tmod i0 10 ∧ Int.tmod i0 10 < 10 := ⟨Int.tmod_nonneg _ hi.1, Int.tmod_lt_of_pos _ (by decide)⟩
    have hP : ∀ o : Int, P80 M0 σ0 a b g k i0 a b g k t d y u v w q r i0 o M := fun o => ⟨rfl, ⟨⟨rfl, rfl, rfl, rfl, rfl⟩, hi, σ', S, hW, hB, hV⟩, by omega⟩
    exact ⟨fun _ => ⟨by decide, ⟨by omega, by omega⟩, hP _⟩, fun _ => ⟨by decide, ⟨by omega, by omega⟩, hP _⟩⟩
set_option maxHeartbeats 1000000 in
theorem ws_27 (hA : jA ad 47) (C : jC p l e rm_L_walks s m args below meth c cL_walks 23 RL D cy ad kdZ (lnZ 32) 47 A cells slots H0 Q 2 post) (h0 : okS σ0) (ha : hasS σ0 a) (hb : 0 ≤ b ∧ b < 4)
    (H47 : ∀ (w15_ : Option AV) (w16_ : Option AV) (w17_ : Option AV) (w18_ : Option AV) (w19_ : Option AV) (w20_ : Option AV) (w21_ : Option AV) (w22_ : Option AV) (a1 : Int) (b1 : Int) (g1 : Int) (k1 : Int) (t : Int) (d : Int) (y : Int) (u : Int) (v : Int) (w : Int) (q : Int) (r : Int) (i : Int) (M : Mem), P47 M0 σ0 a b g k i0 a1 b1 g1 k1 t d y u v w q r i M → jSt p l e rm_L_walks s m args below meth c 23 D cy ad kdZ (lnZ 32) 47 A cells slots [] H0 Q 47 [some (.inr 0), some (.inl a1), some (.inl b1), some (.inl g1), some (.inl k1), some (.inl t), some (.inl d), some (.inl y), some (.inl u), some (.inl v), some (.inl w), some (.inr 46), some (.inl q), some (.inl r), some (.inl i), w15_, w16_, w17_, w18_, w19_, w20_, w21_, w22_] [] M) :
    ∀ (w11_ : Option AV) (w12_ : Option AV) (w13_ : Option AV) (w14_ : Option AV) (w15_ : Option AV) (w16_ : Option AV) (w17_ : Option AV) (w18_ : Option AV) (w19_ : Option AV) (w20_ : Option AV) (w21_ : Option AV) (w22_ : Option AV) (a1 : Int) (b1 : Int) (g1 : Int) (k1 : Int) (t : Int) (d : Int) (y : Int) (u : Int) (v : Int) (w : Int) (M : Mem), P27 M0 σ0 a b g k i0 a1 b1 g1 k1 t d y u v w M → jSt p l e rm_L_walks s m args below meth c 23 D cy ad kdZ (lnZ 32) 47 A cells slots [] H0 Q 27 [some (.inr 0), some (.inl a1), some (.inl b1), some (.inl g1), some (.inl k1), some (.inl t), some (.inl d), some (.inl y), some (.inl u), some (.inl v), some (.inl w), w11_, w12_, w13_, w14_, w15_, w16_, w17_, w18_, w19_, w20_, w21_, w22_] [.inr 46] M := by
  rintro w11_ w12_ w13_ w14_ w15_ w16_ w17_ w18_ w19_ w20_ w21_ w22_ a1 b1 g1 k1 t d y u v w M ⟨⟨rfl, rfl, rfl, rfl, rfl⟩, ⟨rfl, rfl, rfl, rfl, rfl, rfl⟩, σ', R, hσ', hs, h6⟩
  have hx' := absX_46 (k := ((0 : Int)).toNat) (x := a) hσ'
  refine sg_L_walks_27z (okz_X8_value hA (ok_X8_value (jA_le hA (by decide)))) (P47 M0 σ0 a b g k 0) rfl C H47 w11_ w12_ w13_ w14_ w15_ w16_ w17_ w18_ w19_ w20_ w21_ w22_ a b g k a b 0 0 1 1 M ⟨rfl, ⟨by decide, by decide⟩, ⟨rfl, rfl, σ', hx'⟩, fun x1 M1 _ _ hc => ?_⟩
  have hg := sameT_g hs
  have hS : WA M0 σ0 (up M 46 ((0 : Int)).toNat a) a b 0 0 (wlk (gS σ0) (σ' 3) a b 0) (gS σ0 0) 0 σ' := ⟨rt_q R (fun σ hσ => absX_46 hσ), hx', hs, h6, fun n hn => by omega, rfl, rfl, fun h => by omega⟩
  obtain ⟨e1, hS, e46⟩ := WA_q hS hc
  have e2 : x1 = gS σ0 0 := by rw [e1, ← hg]; rfl
  have hat : ((a.toNat : Nat) : Int) = a := Int.toNat_of_nonneg ha.1
  refine ⟨⟨rfl, rfl, rfl, rfl, rfl⟩, by omega, σ', wlk (gS σ0) (σ' 3) a b 0, by rw [e2]; exact hS, BS_cg (M := up M 46 ((0 : Int)).toNat a) ⟨fun j hj => ?_, fun τ hτ h => ⟨0, by decide, ?_⟩⟩ e46, ?_⟩
  · have : j = 0 := by omega
    subst this
    have e3 : up M 46 ((0 : Int)).toNat a 46 0 = a := up_sk
    rw [e3]
    refine ⟨ha, ?_⟩
    show (if 6 + a.toNat = 0 then a else if 6 + a.toNat = 1 then b else if 6 + a.toNat = 4 ∨ 6 + a.toNat = 5 ∨ 6 + a.toNat = 6 + a.toNat then (1 : Int) else 0) ≠ 0
    rw [if_neg (by omega), if_neg (by omega), if_pos (Or.inr (Or.inr rfl))]
    decide
  · have e3 : up M 46 ((0 : Int)).toNat a 46 0 = a := up_sk
    rw [e3]
    have h : (if 6 + τ = 0 then a else if 6 + τ = 1 then b else if 6 + τ = 4 ∨ 6 + τ = 5 ∨ 6 + τ = 6 + a.toNat then (1 : Int) else 0) ≠ 0 := h
    rw [if_neg (by omega), if_neg (by omega)] at h
    have : 6 + τ = 4 ∨ 6 + τ = 5 ∨ 6 + τ = 6 + a.toNat := Classical.byContradiction fun z => h (if_neg z)
    omega
  · have z2 : wlk (gS σ0) (σ' 3) a b 0 2 = 0 := by
      show (if (2 : Nat) = 0 then a else if (2 : Nat) = 1 then b else if (2 : Nat) = 4 ∨ (2 : Nat) = 5 ∨ (2 : Nat) = 6 + a.toNat then (1 : Int) else 0) = 0
      rw [if_neg (by omega), if_neg (by omega), if_neg (by omega)]
    have z3 : wlk (gS σ0) (σ' 3) a b 0 3 = 0 := by
      show (if (3 : Nat) = 0 then a else if (3 : Nat) = 1 then b else if (3 : Nat) = 4 ∨ (3 : Nat) = 5 ∨ (3 : Nat) = 6 + a.toNat then (1 : Int) else 0) = 0
      rw [if_neg (by omega), if_neg (by omega), if_neg (by omega)]
    exact ⟨rfl, rfl, z2.symm, z3.symm, rfl, rfl⟩
theorem ws_all (hA : jA ad 47) (C : jC p l e rm_L_walks s m args below meth c cL_walks 23 RL D cy ad kdZ (lnZ 32) 47 A cells slots H0 Q 2 post) (h0 : okS σ0) (ha : hasS σ0 a) (hb : 0 ≤ b ∧ b < 4) (hpost : ∀ M, RT M0 M → post 1 M) :
    ∀ (w11_ : Option AV) (w12_ : Option AV) (w13_ : Option AV) (w14_ : Option AV) (w15_ : Option AV) (w16_ : Option AV) (w17_ : Option AV) (w18_ : Option AV) (w19_ : Option AV) (w20_ : Option AV) (w21_ : Option AV) (w22_ : Option AV) (a1 : Int) (b1 : Int) (g1 : Int) (k1 : Int) (t : Int) (d : Int) (y : Int) (u : Int) (v : Int) (w : Int) (M : Mem), P27 M0 σ0 a b g k 0 a1 b1 g1 k1 t d y u v w M → jSt p l e rm_L_walks s m args below meth c 23 D cy ad kdZ (lnZ 32) 47 A cells slots [] H0 Q 27 [some (.inr 0), some (.inl a1), some (.inl b1), some (.inl g1), some (.inl k1), some (.inl t), some (.inl d), some (.inl y), some (.inl u), some (.inl v), some (.inl w), w11_, w12_, w13_, w14_, w15_, w16_, w17_, w18_, w19_, w20_, w21_, w22_] [.inr 46] M := by
  have key : ∀ (n : Nat) (i0 : Int), (20 - i0).toNat = n → ∀ (w15_ : Option AV) (w16_ : Option AV) (w17_ : Option AV) (w18_ : Option AV) (w19_ : Option AV) (w20_ : Option AV) (w21_ : Option AV) (w22_ : Option AV) (a1 : Int) (b1 : Int) (g1 : Int) (k1 : Int) (t : Int) (d : Int) (y : Int) (u : Int) (v : Int) (w : Int) (q : Int) (r : Int) (i : Int) (M : Mem), P47 M0 σ0 a b g k i0 a1 b1 g1 k1 t d y u v w q r i M → jSt p l e rm_L_walks s m args below meth c 23 D cy ad kdZ (lnZ 32) 47 A cells slots [] H0 Q 47 [some (.inr 0), some (.inl a1), some (.inl b1), some (.inl g1), some (.inl k1), some (.inl t), some (.inl d), some (.inl y), some (.inl u), some (.inl v), some (.inl w), some (.inr 46), some (.inl q), some (.inl r), some (.inl i), w15_, w16_, w17_, w18_, w19_, w20_, w21_, w22_] [] M := by
    intro n
    induction n using Nat.strongRecOn with
    | ind n ih =>
      intro i0 hn
      have H466 := ws_466 (M0 := M0) (σ0 := σ0) (a := a) (b := b) (g := g) (k := k) (i0 := i0) hA C h0 ha hb hpost
      have H393 := ws_393 (M0 := M0) (σ0 := σ0) (a := a) (b := b) (g := g) (k := k) (i0 := i0) hA C h0 ha hb (fun w15_ w16_ w17_ w18_ w19_ w20_ w21_ w22_ a1 b1 g1 k1 t d y u v w q r i M hP => ih _ (by have h1 := hP.2.1; have h2 := hP.1.2.2.2.2; omega) (i0 + 1) rfl w15_ w16_ w17_ w18_ w19_ w20_ w21_ w22_ a1 b1 g1 k1 t d y u v w q r i M hP)
      have H346 := ws_346 hA C h0 ha hb H393
      have H293 := ws_293 hA C h0 ha hb H393
      have H259 := ws_259 hA C h0 ha hb H293 H393
      have H224 := ws_224 hA C h0 ha hb H259
      have H183 := ws_183 hA C h0 ha hb H224
      have H144 := ws_144 hA C h0 ha hb H183
      have H111 := ws_111 hA C h0 ha hb H144 H346
      have H106 := ws_106 hA C h0 ha hb H111
      have H80 := ws_80 hA C h0 ha hb H106
      exact ws_47 hA C h0 ha hb H80 H466
  exact ws_27 hA C h0 ha hb (key _ 0 rfl)
end WM
