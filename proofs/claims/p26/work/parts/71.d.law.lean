/-! ===== the law's own walk ===== -/
theorem bAnd_3 (v : Int) : 0 ≤ bAnd v 3 ∧ bAnd v 3 < 4 := by
  unfold bAnd
  show 0 ≤ (I32 v &&& I32 3).toBitVec.toInt ∧ (I32 v &&& I32 3).toBitVec.toInt < 4
  rw [Int32.toBitVec_and]
  have : (I32 3).toBitVec = 3#32 := by decide
  rw [this, BitVec.toInt_eq_msb_cond, BitVec.msb_and]
  have h2 : (3#32).msb = false := by decide
  rw [h2, Bool.and_false, if_neg (by decide), BitVec.toNat_and]
  have := Nat.and_le_right (n := (I32 v).toBitVec.toNat) (m := (3#32).toNat)
  have e : (3#32).toNat = 3 := rfl
  omega
/-- where every tile leads to a smaller one, all is one part -/
theorem lab_one {g κ : Nat → Int} (G : gOK g) (hκ : ∀ x y, κ x = κ y) (h : ∀ t : Nat, t < nT g → t ≠ 0 → ∃ d : Int, (0 ≤ d ∧ d < 4) ∧ 0 ≤ nx g t d ∧ nx g t d < t) (hn : 0 < nT g) : cntS (lab g κ) (nT g) = 1 := by
  have key : ∀ t : Nat, t < nT g → lab g κ t = lab g κ 0 := by
    intro t
    induction t using Nat.strongRecOn with
    | ind t ih =>
      intro ht
      by_cases q : t = 0
      · rw [q]
      · obtain ⟨d, hd, h1, h2⟩ := h t ht q
        rw [← lab_cl (κ := κ) G t ht d hd.1 hd.2 h1 (hκ _ _)]
        exact ih _ (by omega) (by omega)
  have f0 := lab_facts (κ := κ) G hn
  have e : cntS (lab g κ) (nT g) = sumF (fun i => if i = (lab g κ 0).toNat then (fun _ => (1 : Int)) i else 0) (nT g) := sumF_congr (fun j hj => by
    rw [key j hj]
    by_cases q : lab g κ 0 = (j : Int)
    · rw [if_pos q, if_pos (by omega)]
    · rw [if_neg q, if_neg (by have := f0.1; omega)])
  rw [e, sumF_one (by have := f0.1; omega)]
def sZd (t : Nat) : Bool := t == 0 || [(0 : Int), 1, 2, 3].any fun d => decide (0 ≤ nx (gS sZ) t d) && decide (nx (gS sZ) t d < t)
theorem sZ_d : (List.range 30).all sZd = true := by decide +kernel
theorem sZ_0 : F_value sZ 0 = 6 := rfl
theorem sZ_1 : F_value sZ 1 = 5 := rfl
theorem sZ_fu : F_undo sZ = -5 := rfl
theorem sZ_u : G_undo sZ = sZ := if_pos rfl
theorem sZ_6 (h : okS sZ) : F_value sZ 6 = 1 := by
  have e : F_value sZ 6 = cntS (labS sZ) (nT (gS sZ)) := rfl
  have n30 : nT (gS sZ) = 30 := rfl
  rw [e]
  refine lab_one h.1 (fun x y => rfl) (fun t ht q => ?_) (by rw [n30]; decide)
  have h1 := List.all_eq_true.mp sZ_d t (List.mem_range.mpr (by omega))
  unfold sZd at h1
  rw [Bool.or_eq_true, List.any_eq_true] at h1
  rcases h1 with h1 | ⟨d, hd, h1⟩
  · exact absurd (by simpa using h1) q
  · rw [Bool.and_eq_true] at h1
    refine ⟨d, ?_, of_decide_eq_true h1.1, of_decide_eq_true h1.2⟩
    simp only [List.mem_cons, List.not_mem_nil, or_false] at hd
    omega
theorem rs_facts {σ : Mem} {a b : Int} (h : szO a b) : gS (G_reset σ a b) 0 = a ∧ gS (G_reset σ a b) 1 = b ∧ G_reset σ a b 0 7 = 0 ∧ ∀ n, G_reset σ a b 2 n = 1 := by
  have e : G_reset σ a b = _ := if_pos h
  rw [e]
  exact ⟨rfl, rfl, rfl, fun _ => rfl⟩
theorem ss_facts {σ : Mem} {u y d : Int} (h : smO σ u y d) : gS (G_setSeam σ u y d) 0 = gS σ 0 ∧ gS (G_setSeam σ u y d) 1 = gS σ 1 ∧ G_setSeam σ u y d 0 7 = σ 0 7 ∧ G_setSeam σ u y d 2 = σ 2 ∧ smE (G_setSeam σ u y d) u y d := by
  have e : G_setSeam σ u y d = _ := if_pos h
  rw [e]
  by_cases q : u = 0
  · rw [if_pos q]
    exact ⟨rfl, rfl, rfl, rfl, fun _ => ⟨rfl, rfl⟩, fun z => absurd q z⟩
  · rw [if_neg q]
    exact ⟨rfl, rfl, rfl, rfl, fun z => absurd z q, fun _ => ⟨rfl, rfl⟩⟩
theorem un_facts {σ : Mem} (h : ¬ σ 0 7 = 0) : gS (G_undo σ) 0 = gS σ 0 ∧ gS (G_undo σ) 1 = gS σ 1 ∧ G_undo σ 0 7 = σ 0 7 - 1 ∧ G_undo σ 2 = σ 2 := by
  have e : G_undo σ = _ := if_neg h
  rw [e]
  exact ⟨rfl, rfl, rfl, rfl⟩
theorem smE_2 {σ : Mem} {u y d : Int} (z : smE σ u y d) : (if u = 0 then σ 0 2 else σ 0 4) = y := by
  by_cases q : u = 0
  · rw [if_pos q]; exact (z.1 q).1
  · rw [if_neg q]; exact (z.2 q).1
theorem smE_3 {σ : Mem} {u y d : Int} (z : smE σ u y d) : (if u = 0 then σ 0 3 else σ 0 5) = d := by
  by_cases q : u = 0
  · rw [if_pos q]; exact (z.1 q).2
  · rw [if_neg q]; exact (z.2 q).2
theorem smE_mk {σ : Mem} {u y d : Int} (h1 : (if u = 0 then σ 0 2 else σ 0 4) = y) (h2 : (if u = 0 then σ 0 3 else σ 0 5) = d) : smE σ u y d := by
  by_cases q : u = 0
  · rw [if_pos q] at h1 h2; exact ⟨fun _ => ⟨h1, h2⟩, fun z => absurd q z⟩
  · rw [if_neg q] at h1 h2; exact ⟨fun z => absurd z q, fun _ => ⟨h1, h2⟩⟩
theorem fv_2 {σ : Mem} {u q : Int} (h : q = if u = 0 then 2 else 4) : F_value σ q = if u = 0 then σ 0 2 else σ 0 4 := by
  by_cases z : u = 0
  · rw [h, if_pos z, if_pos z]; rfl
  · rw [h, if_neg z, if_neg z]; rfl
theorem fv_3 {σ : Mem} {u q : Int} (h : q = if u = 0 then 3 else 5) : F_value σ q = if u = 0 then σ 0 3 else σ 0 5 := by
  by_cases z : u = 0
  · rw [h, if_pos z, if_pos z]; rfl
  · rw [h, if_neg z, if_neg z]; rfl
abbrev LB (a b : Int) : Prop := (3 ≤ a ∧ a ≤ 8) ∧ 3 ≤ b ∧ b ≤ 8
theorem mulLB {a b : Int} (h : LB a b) : 9 ≤ a * b ∧ a * b ≤ 64 := by
  have h1 : a * b ≤ 8 * 8 := Int.mul_le_mul h.1.2 h.2.2 (by omega) (by decide)
  have h2 : 3 * 3 ≤ a * b := Int.mul_le_mul h.1.1 h.2.1 (by decide) (by omega)
  omega
def LG (a b k : Int) (M σ : Mem) : Prop := absX M σ ∧ (gS σ 0 = a ∧ gS σ 1 = b) ∧ σ 0 7 = k ∧ ∀ n : Nat, n < 6 → M 46 n = σ 2 n
theorem LG_q {a b k : Int} {M M1 σ : Mem} (h : LG a b k M σ) (h2 : absX M1 σ) (e : M1 46 = M 46) : LG a b k M1 σ := ⟨h2, h.2.1, h.2.2.1, fun n hn => by rw [e]; exact h.2.2.2 n hn⟩
theorem LG_n {a b k : Int} {M σ : Mem} (h : LG a b k M σ) : ((nT (gS σ) : Nat) : Int) = a * b := by
  rw [(nT_s h.1.1.1).1, h.2.1.1, h.2.1.2]
abbrev LK (a b k : Int) (M : Mem) : Prop := LB a b ∧ ∃ σ, LG a b k M σ
abbrev BIL (i0 a b k i t : Int) (M : Mem) : Prop := i0 = i ∧ (0 ≤ i ∧ i < 22) ∧ t = a * b ∧ LK a b k M
abbrev BS2 (i0 a b k i t : Int) (M : Mem) (R : Mem → Prop) : Prop := i0 = i ∧ (0 ≤ i ∧ i < 22) ∧ t = a * b ∧ LB a b ∧ ∃ σ, LG a b k M σ ∧ R σ
abbrev UD (a b u y d : Int) : Prop := (u = 0 ∨ u = 1) ∧ (0 ≤ y ∧ y < 3) ∧ 0 ≤ d ∧ d < (if u = 0 then b else a)
def L19 (o : Int) (M : Mem) : Prop := o = o ∧ absX M sZ
def L100 (o a b i : Int) (M : Mem) : Prop := o = o ∧ LB a b ∧ (0 ≤ i ∧ i ≤ 6) ∧ ∃ σ, absX M σ ∧ (gS σ 0 = a ∧ gS σ 1 = b) ∧ σ 0 7 = 0 ∧ (∀ n : Nat, n < 6 → σ 2 n = 1) ∧ ∀ n : Nat, (n : Int) < i → M 46 n = 1
def L124 (i0 o a b k i : Int) (M : Mem) : Prop := o = o ∧ i0 = i ∧ (0 ≤ i ∧ i ≤ 22) ∧ LK a b k M
def L131 (i0 o a b k i : Int) (M : Mem) : Prop := o = o ∧ i0 = i ∧ (0 ≤ i ∧ i < 22) ∧ LK a b k M
def L155 (i0 o a b k i v w : Int) (M : Mem) : Prop := (o = o ∧ v = v ∧ w = w) ∧ i0 = i ∧ (0 ≤ i ∧ i < 22) ∧ LK a b k M
def L187 (i0 o a b k i v w t r q j f : Int) (M : Mem) : Prop := (o = o ∧ v = v ∧ w = w ∧ r = r ∧ j = j ∧ f = f) ∧ q = k ∧ BIL i0 a b k i t M
def L190 (i0 o a b k i v w t r q : Int) (M : Mem) : Prop := (o = o ∧ v = v ∧ w = w ∧ r = r ∧ k = k) ∧ 0 ≤ q ∧ BIL i0 a b q i t M
def L220 (i0 o a b k i v w t r u : Int) (M : Mem) : Prop := (o = o ∧ v = v ∧ w = w ∧ r = r) ∧ (u = 0 ∨ u = 1) ∧ BIL i0 a b k i t M
def L262 (i0 o a b k i v w t r u y d q : Int) (M : Mem) : Prop := (o = o ∧ v = v ∧ w = w ∧ r = r) ∧ UD a b u y d ∧ q = (if u = 0 then 2 else 4) ∧ BIL i0 a b k i t M
def L281 (i0 o a b k i v w t r u y d q : Int) (M : Mem) : Prop := (o = o ∧ v = v ∧ w = w ∧ r = r) ∧ UD a b u y d ∧ q = (if u = 0 then 3 else 5) ∧ BS2 i0 a b k i t M (fun σ => (if u = 0 then σ 0 2 else σ 0 4) = y)
def L296 (i0 o a b k i v w t r u y d f : Int) (M : Mem) : Prop := (o = o ∧ v = v ∧ w = w ∧ r = r) ∧ UD a b u y d ∧ (f = 0 ∨ f = 1) ∧ BS2 i0 a b k i t M (fun σ => f = 1 ↔ smE σ u y d)
def L316 (i0 o a b k i v w t r u y d f q j : Int) (M : Mem) : Prop := (o = o ∧ v = v ∧ w = w ∧ r = r ∧ f = f) ∧ j = q ∧ BS2 i0 a b k i t M (fun σ => smE σ u y d)
def L330 (i0 o a b k i v w t r u y d f q : Int) (M : Mem) : Prop := (o = o ∧ v = v ∧ w = w ∧ r = r ∧ f = f) ∧ q = (if u = 0 then 2 else 4) ∧ BS2 i0 a b k i t M (fun σ => smE σ u y d)
def L349 (i0 o a b k i v w t r u y d f q : Int) (M : Mem) : Prop := (o = o ∧ v = v ∧ w = w ∧ r = r ∧ f = f) ∧ q = (if u = 0 then 3 else 5) ∧ BS2 i0 a b k i t M (fun σ => smE σ u y d)
def L440 (i0 o a b k i v w t r q j f u : Int) (M : Mem) : Prop := (o = o ∧ v = v ∧ w = w ∧ r = r ∧ q = q ∧ j = j) ∧ (0 ≤ f ∧ f < 4) ∧ (0 ≤ u ∧ u < t) ∧ BIL i0 a b k i t M
def L443 (i0 o a b k i v w t r q : Int) (M : Mem) : Prop := (o = o ∧ v = v ∧ w = w ∧ r = r) ∧ q = 1 ∧ BIL i0 a b k i t M
def L448 (i0 o a b k i v w t : Int) (M : Mem) : Prop := (o = o ∧ v = v ∧ w = w) ∧ BIL i0 a b k i t M
def L511 (o a b k : Int) (M : Mem) : Prop := o = o ∧ LK a b k M
def L530 (o a b k : Int) (M : Mem) : Prop := o = o ∧ k ≤ 0 ∧ LK a b k M
section LM
variable {p : Program} {l : Launch} {e : Env} {s : State} {m : MethodId} {args : Array Value} {below : List Frame} {meth : Method} {c : Code} {D : va_G} {cy : Nat → ClassId} {ad : Nat → Nat} {A : Nat → Prop} {cells slots : Nat} {H0 : Heap} {Q : State → Prop} {z0 : Nat} {i0 : Int}
set_option maxHeartbeats 1000000 in
theorem ls_530 (hA : jA ad 47) (C : jC p l e room_1 s m args below meth c cL_law 16 RL D cy ad kdZ (lnZ 8) 47 A cells slots H0 Q 2 (fun x _ => x = 1))
     :
    ∀ (w0_ : Option AV) (w7_ : Option AV) (w8_ : Option AV) (w9_ : Option AV) (w10_ : Option AV) (w11_ : Option AV) (w12_ : Option AV) (w13_ : Option AV) (w14_ : Option AV) (w15_ : Option AV) (o : Int) (a : Int) (b : Int) (k : Int) (M : Mem), L530 o a b k M → jSt p l e room_1 s m args below meth c 16 D cy ad kdZ (lnZ 8) 47 A cells slots [(0, .ref z0)] H0 Q 530 [w0_, some (.inr 0), some (.inr 46), some (.inl o), some (.inl a), some (.inl b), some (.inl k), w7_, w8_, w9_, w10_, w11_, w12_, w13_, w14_, w15_] [] M := by
  rintro w0_ w7_ w8_ w9_ w10_ w11_ w12_ w13_ w14_ w15_ o a b k M ⟨-, hk, hb, σ, g⟩
  have h7 := okS_7 g.1.1.1
  have e7 := g.2.2.1
  have h0 : σ 0 7 = 0 := by omega
  refine sg_L_law_530z (okz_L_errors hA (ok_L_errors (jA_le hA (by decide)))) (okz_X8_undo hA (ok_X8_undo (jA_le hA (by decide))))  rfl C  w0_ w7_ w8_ w9_ w10_ w11_ w12_ w13_ w14_ w15_ o a b k M ⟨⟨rfl, rfl, σ, g.1⟩, fun x1 M1 _ _ hc => ?_⟩
  obtain ⟨e1, a1⟩ := hc.1 σ g.1
  rw [show G_undo σ = σ from if_pos h0] at a1
  have e2 : x1 = -5 := e1.trans (if_pos h0)
  refine ⟨fun z => absurd e2 z, fun _ => ⟨⟨rfl, σ, a1⟩, fun x2 M2 _ _ hc => ?_⟩⟩
  have e3 := hc.1.1
  exact ⟨fun z => absurd z (by omega), fun _ => ⟨Or.inr rfl, rfl⟩⟩
set_option maxHeartbeats 1000000 in
theorem ls_511 (hA : jA ad 47) (C : jC p l e room_1 s m args below meth c cL_law 16 RL D cy ad kdZ (lnZ 8) 47 A cells slots H0 Q 2 (fun x _ => x = 1))
    (H530 : ∀ (w0_ : Option AV) (w7_ : Option AV) (w8_ : Option AV) (w9_ : Option AV) (w10_ : Option AV) (w11_ : Option AV) (w12_ : Option AV) (w13_ : Option AV) (w14_ : Option AV) (w15_ : Option AV) (o : Int) (a : Int) (b : Int) (k : Int) (M : Mem), L530 o a b k M → jSt p l e room_1 s m args below meth c 16 D cy ad kdZ (lnZ 8) 47 A cells slots [(0, .ref z0)] H0 Q 530 [w0_, some (.inr 0), some (.inr 46), some (.inl o), some (.inl a), some (.inl b), some (.inl k), w7_, w8_, w9_, w10_, w11_, w12_, w13_, w14_, w15_] [] M) :
    ∀ (w0_ : Option AV) (w7_ : Option AV) (w8_ : Option AV) (w9_ : Option AV) (w10_ : Option AV) (w11_ : Option AV) (w12_ : Option AV) (w13_ : Option AV) (w14_ : Option AV) (w15_ : Option AV) (o : Int) (a : Int) (b : Int) (k : Int) (M : Mem), L511 o a b k M → jSt p l e room_1 s m args below meth c 16 D cy ad kdZ (lnZ 8) 47 A cells slots [(0, .ref z0)] H0 Q 511 [w0_, some (.inr 0), some (.inr 46), some (.inl o), some (.inl a), some (.inl b), some (.inl k), w7_, w8_, w9_, w10_, w11_, w12_, w13_, w14_, w15_] [] M := by
  have key : ∀ (n : Nat) (w0_ : Option AV) (w7_ : Option AV) (w8_ : Option AV) (w9_ : Option AV) (w10_ : Option AV) (w11_ : Option AV) (w12_ : Option AV) (w13_ : Option AV) (w14_ : Option AV) (w15_ : Option AV) (o : Int) (a : Int) (b : Int) (k : Int) (M : Mem), k.toNat = n → L511 o a b k M → jSt p l e room_1 s m args below meth c 16 D cy ad kdZ (lnZ 8) 47 A cells slots [(0, .ref z0)] H0 Q 511 [w0_, some (.inr 0), some (.inr 46), some (.inl o), some (.inl a), some (.inl b), some (.inl k), w7_, w8_, w9_, w10_, w11_, w12_, w13_, w14_, w15_] [] M := by
    intro n
    induction n using Nat.strongRecOn with
    | ind n ih =>
      rintro w0_ w7_ w8_ w9_ w10_ w11_ w12_ w13_ w14_ w15_ o a b k M hn ⟨-, hb, σ, g⟩
      have h7 := okS_7 g.1.1.1
      have e7 := g.2.2.1
      refine sg_L_law_511z (okz_X8_undo hA (ok_X8_undo (jA_le hA (by decide)))) (fun o' a' b' k' M' => k'.toNat < n ∧ L511 o' a' b' k' M') L530 rfl C (fun w0_9 w7_9 w8_9 w9_9 w10_9 w11_9 w12_9 w13_9 w14_9 w15_9 o' a' b' k' M' hP => ih _ hP.1 w0_9 w7_9 w8_9 w9_9 w10_9 w11_9 w12_9 w13_9 w14_9 w15_9 _ _ _ _ M' rfl hP.2) H530 w0_ w7_ w8_ w9_ w10_ w11_ w12_ w13_ w14_ w15_ o a b k M ⟨fun h => ⟨rfl, h, hb, σ, g⟩, fun h => ⟨⟨by omega, by omega⟩, ⟨rfl, rfl, σ, g.1⟩, fun x1 M1 _ _ hc => ?_⟩⟩
      obtain ⟨e1, a1⟩ := hc.1 σ g.1
      have hn0 : ¬ σ 0 7 = 0 := by omega
      have e2 : x1 = k + (-1) := by
        have e3 : x1 = σ 0 7 - 1 := e1.trans (if_neg hn0)
        omega
      obtain ⟨r1, r2, r3, r4⟩ := un_facts hn0
      refine ⟨fun _ => ⟨by omega, rfl, hb, _, a1, ⟨r1.trans g.2.1.1, r2.trans g.2.1.2⟩, by omega, fun n hn => ?_⟩, fun z => absurd e2 z⟩
      rw [hc.2 46 (Nat.le_refl _), r4]
      exact g.2.2.2 n hn
  rintro w0_ w7_ w8_ w9_ w10_ w11_ w12_ w13_ w14_ w15_ o a b k M hP
  exact key _ w0_ w7_ w8_ w9_ w10_ w11_ w12_ w13_ w14_ w15_ o a b k M rfl hP
set_option maxHeartbeats 1000000 in
theorem ls_448 (hA : jA ad 47) (C : jC p l e room_1 s m args below meth c cL_law 16 RL D cy ad kdZ (lnZ 8) 47 A cells slots H0 Q 2 (fun x _ => x = 1))
    (H124 : ∀ (w0_ : Option AV) (w8_ : Option AV) (w9_ : Option AV) (w10_ : Option AV) (w11_ : Option AV) (w12_ : Option AV) (w13_ : Option AV) (w14_ : Option AV) (w15_ : Option AV) (o : Int) (a : Int) (b : Int) (k : Int) (i : Int) (M : Mem), L124 (i0 + 1) o a b k i M → jSt p l e room_1 s m args below meth c 16 D cy ad kdZ (lnZ 8) 47 A cells slots [(0, .ref z0)] H0 Q 124 [w0_, some (.inr 0), some (.inr 46), some (.inl o), some (.inl a), some (.inl b), some (.inl k), some (.inl i), w8_, w9_, w10_, w11_, w12_, w13_, w14_, w15_] [] M) :
    ∀ (w0_ : Option AV) (w11_ : Option AV) (w12_ : Option AV) (w13_ : Option AV) (w14_ : Option AV) (w15_ : Option AV) (o : Int) (a : Int) (b : Int) (k : Int) (i : Int) (v : Int) (w : Int) (t : Int) (M : Mem), L448 i0 o a b k i v w t M → jSt p l e room_1 s m args below meth c 16 D cy ad kdZ (lnZ 8) 47 A cells slots [(0, .ref z0)] H0 Q 448 [w0_, some (.inr 0), some (.inr 46), some (.inl o), some (.inl a), some (.inl b), some (.inl k), some (.inl i), some (.inl v), some (.inl w), some (.inl t), w11_, w12_, w13_, w14_, w15_] [] M := by
  rintro w0_ w11_ w12_ w13_ w14_ w15_ o a b k i v w t M ⟨-, hi0, hi, ht, hb, σ, g⟩
  have hm := mulLB hb
  have hN := LG_n g
  refine sg_L_law_448z (ok_L_distances hA) (okz_L_greatest hA (ok_L_greatest (jA_le hA (by decide)))) (okz_L_low hA (ok_L_low (jA_le hA (by decide)))) (okz_L_parts hA (ok_L_parts (jA_le hA (by decide)))) (L124 (i0 + 1)) rfl C H124 w0_ w11_ w12_ w13_ w14_ w15_ o a b k i v w t M ⟨⟨rfl, σ, g.1⟩, fun x1 M1 _ _ hc => ?_⟩
  obtain ⟨⟨e1, c1⟩, f1⟩ := hc
  have g1 := LG_q g (c1 σ g.1) (f1 46 (Nat.le_refl _))
  refine ⟨fun z => absurd z (by omega), fun _ => ⟨by show (0 : Int) < 6; decide, fun x2 M2 _ _ hc => ?_⟩⟩
  obtain ⟨⟨e2, rfl⟩, -⟩ := hc
  have b2 := lowF_b (v := v) (show (0 : Int) < 6 by decide)
  rw [← e2] at b2
  refine ⟨⟨rfl, ⟨by omega, by omega⟩, σ, g1.1⟩, fun x3 M3 _ _ hc => ?_⟩
  obtain ⟨⟨e3, c3⟩, f3⟩ := hc
  have g3 := LG_q g1 (c3 σ g1.1) (f3 46 (Nat.le_refl _))
  refine ⟨fun z => absurd z (by omega), fun _ => ⟨by decide, fun _ => ⟨⟨by omega, by omega⟩, rfl, by omega, by omega, hb, σ, g3⟩, fun _ => ⟨by show (0 : Int) < t; omega, fun x4 M4 _ _ hc => ?_⟩⟩⟩
  obtain ⟨⟨e4, rfl⟩, -⟩ := hc
  have b4 := lowF_b (v := w) (show (0 : Int) < t by omega)
  rw [← e4] at b4
  refine ⟨by show (0 : Int) < t; omega, fun x5 M5 _ _ hc => ?_⟩
  obtain ⟨⟨e5, rfl⟩, -⟩ := hc
  have b5 := lowF_b (v := bShr w 8) (show (0 : Int) < t by omega)
  rw [← e5] at b5
  refine ⟨⟨rfl, rfl, σ, g3.1, ⟨⟨b4.1, by omega⟩, b5.1, by omega⟩, g3.2.2.2⟩, fun x6 M6 _ _ hc => ?_⟩
  obtain ⟨e6, c6, f6⟩ := hc
  have g6 := LG_q g3 (c6 σ g3.1) f6
  exact ⟨fun _ => ⟨⟨by omega, by omega⟩, rfl, by omega, by omega, hb, σ, g6⟩, fun z => absurd (show ¬ x6 = 0 by omega) z⟩
set_option maxHeartbeats 1000000 in
theorem ls_443 (hA : jA ad 47) (C : jC p l e room_1 s m args below meth c cL_law 16 RL D cy ad kdZ (lnZ 8) 47 A cells slots H0 Q 2 (fun x _ => x = 1))
    (H448 : ∀ (w0_ : Option AV) (w11_ : Option AV) (w12_ : Option AV) (w13_ : Option AV) (w14_ : Option AV) (w15_ : Option AV) (o : Int) (a : Int) (b : Int) (k : Int) (i : Int) (v : Int) (w : Int) (t : Int) (M : Mem), L448 i0 o a b k i v w t M → jSt p l e room_1 s m args below meth c 16 D cy ad kdZ (lnZ 8) 47 A cells slots [(0, .ref z0)] H0 Q 448 [w0_, some (.inr 0), some (.inr 46), some (.inl o), some (.inl a), some (.inl b), some (.inl k), some (.inl i), some (.inl v), some (.inl w), some (.inl t), w11_, w12_, w13_, w14_, w15_] [] M) :
    ∀ (w0_ : Option AV) (w12_ : Option AV) (w13_ : Option AV) (w14_ : Option AV) (w15_ : Option AV) (o : Int) (a : Int) (b : Int) (k : Int) (i : Int) (v : Int) (w : Int) (t : Int) (r : Int) (q : Int) (M : Mem), L443 i0 o a b k i v w t r q M → jSt p l e room_1 s m args below meth c 16 D cy ad kdZ (lnZ 8) 47 A cells slots [(0, .ref z0)] H0 Q 443 [w0_, some (.inr 0), some (.inr 46), some (.inl o), some (.inl a), some (.inl b), some (.inl k), some (.inl i), some (.inl v), some (.inl w), some (.inl t), some (.inl r), w12_, w13_, w14_, w15_] [.inl q] M := by
  rintro w0_ w12_ w13_ w14_ w15_ o a b k i v w t r q M ⟨-, hq, B⟩
  exact sg_L_law_443z  (L448 i0) rfl C H448 w0_ w12_ w13_ w14_ w15_ o a b k i v w t r q M ⟨fun _ => ⟨⟨rfl, rfl, rfl⟩, B⟩, fun z => absurd (show ¬ q = 0 by omega) z⟩
set_option maxHeartbeats 1000000 in
theorem ls_349 (hA : jA ad 47) (C : jC p l e room_1 s m args below meth c cL_law 16 RL D cy ad kdZ (lnZ 8) 47 A cells slots H0 Q 2 (fun x _ => x = 1))
    (H448 : ∀ (w0_ : Option AV) (w11_ : Option AV) (w12_ : Option AV) (w13_ : Option AV) (w14_ : Option AV) (w15_ : Option AV) (o : Int) (a : Int) (b : Int) (k : Int) (i : Int) (v : Int) (w : Int) (t : Int) (M : Mem), L448 i0 o a b k i v w t M → jSt p l e room_1 s m args below meth c 16 D cy ad kdZ (lnZ 8) 47 A cells slots [(0, .ref z0)] H0 Q 448 [w0_, some (.inr 0), some (.inr 46), some (.inl o), some (.inl a), some (.inl b), some (.inl k), some (.inl i), some (.inl v), some (.inl w), some (.inl t), w11_, w12_, w13_, w14_, w15_] [] M) :
    ∀ (w0_ : Option AV) (o : Int) (a : Int) (b : Int) (k : Int) (i : Int) (v : Int) (w : Int) (t : Int) (r : Int) (u : Int) (y : Int) (d : Int) (f : Int) (q : Int) (M : Mem), L349 i0 o a b k i v w t r u y d f q M → jSt p l e room_1 s m args below meth c 16 D cy ad kdZ (lnZ 8) 47 A cells slots [(0, .ref z0)] H0 Q 349 [w0_, some (.inr 0), some (.inr 46), some (.inl o), some (.inl a), some (.inl b), some (.inl k), some (.inl i), some (.inl v), some (.inl w), some (.inl t), some (.inl r), some (.inl u), some (.inl y), some (.inl d), some (.inl f)] [.inl q, .inr 0] M := by
  rintro w0_ o a b k i v w t r u y d f q M ⟨-, hq, hi0, hi, ht, hb, σ, g, hs⟩
  refine sg_L_law_349z (okz_L_steps hA (ok_L_steps (jA_le hA (by decide)))) (okz_X8_value hA (ok_X8_value (jA_le hA (by decide)))) (L448 i0) rfl C H448 w0_ o a b k i v w t r u y d f q M ⟨⟨rfl, rfl, σ, g.1⟩, fun x1 M1 _ _ hc => ?_⟩
  obtain ⟨e1, a1⟩ := hc.1 σ g.1
  have g1 := LG_q g a1 (hc.2 46 (Nat.le_refl _))
  rw [fv_3 hq, smE_3 hs] at e1
  refine ⟨fun z => absurd e1 z, fun _ => ⟨⟨rfl, σ, a1⟩, fun x2 M2 _ _ hc => ?_⟩⟩
  obtain ⟨⟨e2, c2⟩, f2⟩ := hc
  have g2 := LG_q g1 (c2 σ g1.1) (f2 46 (Nat.le_refl _))
  exact ⟨fun _ => ⟨⟨rfl, rfl, rfl⟩, hi0, hi, ht, hb, σ, g2⟩, fun z => absurd (show ¬ x2 = 0 by omega) z⟩
set_option maxHeartbeats 1000000 in
theorem ls_330 (hA : jA ad 47) (C : jC p l e room_1 s m args below meth c cL_law 16 RL D cy ad kdZ (lnZ 8) 47 A cells slots H0 Q 2 (fun x _ => x = 1))
    (H349 : ∀ (w0_ : Option AV) (o : Int) (a : Int) (b : Int) (k : Int) (i : Int) (v : Int) (w : Int) (t : Int) (r : Int) (u : Int) (y : Int) (d : Int) (f : Int) (q : Int) (M : Mem), L349 i0 o a b k i v w t r u y d f q M → jSt p l e room_1 s m args below meth c 16 D cy ad kdZ (lnZ 8) 47 A cells slots [(0, .ref z0)] H0 Q 349 [w0_, some (.inr 0), some (.inr 46), some (.inl o), some (.inl a), some (.inl b), some (.inl k), some (.inl i), some (.inl v), some (.inl w), some (.inl t), some (.inl r), some (.inl u), some (.inl y), some (.inl d), some (.inl f)] [.inl q, .inr 0] M) :
    ∀ (w0_ : Option AV) (o : Int) (a : Int) (b : Int) (k : Int) (i : Int) (v : Int) (w : Int) (t : Int) (r : Int) (u : Int) (y : Int) (d : Int) (f : Int) (q : Int) (M : Mem), L330 i0 o a b k i v w t r u y d f q M → jSt p l e room_1 s m args below meth c 16 D cy ad kdZ (lnZ 8) 47 A cells slots [(0, .ref z0)] H0 Q 330 [w0_, some (.inr 0), some (.inr 46), some (.inl o), some (.inl a), some (.inl b), some (.inl k), some (.inl i), some (.inl v), some (.inl w), some (.inl t), some (.inl r), some (.inl u), some (.inl y), some (.inl d), some (.inl f)] [.inl q, .inr 0] M := by
  rintro w0_ o a b k i v w t r u y d f q M ⟨-, hq, hi0, hi, ht, hb, σ, g, hs⟩
  refine sg_L_law_330z (okz_X8_value hA (ok_X8_value (jA_le hA (by decide)))) (L349 i0) rfl C H349 w0_ o a b k i v w t r u y d f q M ⟨⟨rfl, rfl, σ, g.1⟩, fun x1 M1 _ _ hc => ?_⟩
  obtain ⟨e1, a1⟩ := hc.1 σ g.1
  have g1 := LG_q g a1 (hc.2 46 (Nat.le_refl _))
  rw [fv_2 hq, smE_2 hs] at e1
  exact ⟨fun z => absurd e1 z, fun _ => ⟨fun h0 => ⟨⟨rfl, rfl, rfl, rfl, rfl⟩, (if_pos h0).symm, hi0, hi, ht, hb, σ, g1, hs⟩, fun h0 => ⟨⟨rfl, rfl, rfl, rfl, rfl⟩, (if_neg h0).symm, hi0, hi, ht, hb, σ, g1, hs⟩⟩⟩
set_option maxHeartbeats 1000000 in
theorem ls_316 (hA : jA ad 47) (C : jC p l e room_1 s m args below meth c cL_law 16 RL D cy ad kdZ (lnZ 8) 47 A cells slots H0 Q 2 (fun x _ => x = 1))
    (H330 : ∀ (w0_ : Option AV) (o : Int) (a : Int) (b : Int) (k : Int) (i : Int) (v : Int) (w : Int) (t : Int) (r : Int) (u : Int) (y : Int) (d : Int) (f : Int) (q : Int) (M : Mem), L330 i0 o a b k i v w t r u y d f q M → jSt p l e room_1 s m args below meth c 16 D cy ad kdZ (lnZ 8) 47 A cells slots [(0, .ref z0)] H0 Q 330 [w0_, some (.inr 0), some (.inr 46), some (.inl o), some (.inl a), some (.inl b), some (.inl k), some (.inl i), some (.inl v), some (.inl w), some (.inl t), some (.inl r), some (.inl u), some (.inl y), some (.inl d), some (.inl f)] [.inl q, .inr 0] M) :
    ∀ (w0_ : Option AV) (o : Int) (a : Int) (b : Int) (k : Int) (i : Int) (v : Int) (w : Int) (t : Int) (r : Int) (u : Int) (y : Int) (d : Int) (f : Int) (q : Int) (j : Int) (M : Mem), L316 i0 o a b k i v w t r u y d f q j M → jSt p l e room_1 s m args below meth c 16 D cy ad kdZ (lnZ 8) 47 A cells slots [(0, .ref z0)] H0 Q 316 [w0_, some (.inr 0), some (.inr 46), some (.inl o), some (.inl a), some (.inl b), some (.inl k), some (.inl i), some (.inl v), some (.inl w), some (.inl t), some (.inl r), some (.inl u), some (.inl y), some (.inl d), some (.inl f)] [.inl q, .inl j] M := by
  rintro w0_ o a b k i v w t r u y d f q j M ⟨-, hq, B⟩
  exact sg_L_law_316z  (L330 i0) rfl C H330 w0_ o a b k i v w t r u y d f q j M ⟨fun z => absurd hq z, fun _ => ⟨fun h0 => ⟨⟨rfl, rfl, rfl, rfl, rfl⟩, (if_pos h0).symm, B⟩, fun h0 => ⟨⟨rfl, rfl, rfl, rfl, rfl⟩, (if_neg h0).symm, B⟩⟩⟩
set_option maxHeartbeats 1000000 in
theorem ls_296 (hA : jA ad 47) (C : jC p l e room_1 s m args below meth c cL_law 16 RL D cy ad kdZ (lnZ 8) 47 A cells slots H0 Q 2 (fun x _ => x = 1))
    (H316 : ∀ (w0_ : Option AV) (o : Int) (a : Int) (b : Int) (k : Int) (i : Int) (v : Int) (w : Int) (t : Int) (r : Int) (u : Int) (y : Int) (d : Int) (f : Int) (q : Int) (j : Int) (M : Mem), L316 i0 o a b k i v w t r u y d f q j M → jSt p l e room_1 s m args below meth c 16 D cy ad kdZ (lnZ 8) 47 A cells slots [(0, .ref z0)] H0 Q 316 [w0_, some (.inr 0), some (.inr 46), some (.inl o), some (.inl a), some (.inl b), some (.inl k), some (.inl i), some (.inl v), some (.inl w), some (.inl t), some (.inl r), some (.inl u), some (.inl y), some (.inl d), some (.inl f)] [.inl q, .inl j] M) :
    ∀ (w0_ : Option AV) (o : Int) (a : Int) (b : Int) (k : Int) (i : Int) (v : Int) (w : Int) (t : Int) (r : Int) (u : Int) (y : Int) (d : Int) (f : Int) (M : Mem), L296 i0 o a b k i v w t r u y d f M → jSt p l e room_1 s m args below meth c 16 D cy ad kdZ (lnZ 8) 47 A cells slots [(0, .ref z0)] H0 Q 296 [w0_, some (.inr 0), some (.inr 46), some (.inl o), some (.inl a), some (.inl b), some (.inl k), some (.inl i), some (.inl v), some (.inl w), some (.inl t), some (.inl r), some (.inl u), some (.inl y), some (.inl d), some (.inl f)] [] M := by
  rintro w0_ o a b k i v w t r u y d f M ⟨-, hU, hf, hi0, hi, ht, hb, σ, g, hs⟩
  refine sg_L_law_296z (okz_X8_setSeam hA (ok_X8_setSeam (jA_le hA (by decide)))) (L316 i0) rfl C H316 w0_ o a b k i v w t r u y d f M ⟨⟨rfl, rfl, σ, g.1⟩, fun x1 M1 _ _ hc => ?_⟩
  obtain ⟨e1, a1⟩ := hc.1 σ g.1
  have ho : smO σ u y d := ⟨⟨hU.2.1.1, by have := hU.2.1.2; omega⟩, hU.2.2.1, by
    rw [show σ 0 1 = b from g.2.1.2, show σ 0 0 = a from g.2.1.1]
    exact hU.2.2.2⟩
  have e2 : x1 = (if smE σ u y d then 0 else 1) := e1.trans (if_pos ho)
  obtain ⟨r1, r2, r3, r4, r5⟩ := ss_facts ho
  have g1 : LG a b k M1 (G_setSeam σ u y d) := ⟨a1, ⟨r1.trans g.2.1.1, r2.trans g.2.1.2⟩, r3.trans g.2.2.1, fun n hn => by
    rw [hc.2 46 (Nat.le_refl _), r4]
    exact g.2.2.2 n hn⟩
  refine ⟨fun h0 => ⟨⟨rfl, rfl, rfl, rfl, rfl⟩, ?_, hi0, hi, ht, hb, _, g1, r5⟩, fun h0 => ⟨⟨rfl, rfl, rfl, rfl, rfl⟩, ?_, hi0, hi, ht, hb, _, g1, r5⟩⟩
  · rw [e2, if_neg (fun z => by have := hs.mpr z; omega)]
  · rw [e2, if_pos (hs.mp (hf.resolve_left h0))]
set_option maxHeartbeats 1000000 in
theorem ls_281 (hA : jA ad 47) (C : jC p l e room_1 s m args below meth c cL_law 16 RL D cy ad kdZ (lnZ 8) 47 A cells slots H0 Q 2 (fun x _ => x = 1))
    (H296 : ∀ (w0_ : Option AV) (o : Int) (a : Int) (b : Int) (k : Int) (i : Int) (v : Int) (w : Int) (t : Int) (r : Int) (u : Int) (y : Int) (d : Int) (f : Int) (M : Mem), L296 i0 o a b k i v w t r u y d f M → jSt p l e room_1 s m args below meth c 16 D cy ad kdZ (lnZ 8) 47 A cells slots [(0, .ref z0)] H0 Q 296 [w0_, some (.inr 0), some (.inr 46), some (.inl o), some (.inl a), some (.inl b), some (.inl k), some (.inl i), some (.inl v), some (.inl w), some (.inl t), some (.inl r), some (.inl u), some (.inl y), some (.inl d), some (.inl f)] [] M) :
    ∀ (w0_ : Option AV) (w15_ : Option AV) (o : Int) (a : Int) (b : Int) (k : Int) (i : Int) (v : Int) (w : Int) (t : Int) (r : Int) (u : Int) (y : Int) (d : Int) (q : Int) (M : Mem), L281 i0 o a b k i v w t r u y d q M → jSt p l e room_1 s m args below meth c 16 D cy ad kdZ (lnZ 8) 47 A cells slots [(0, .ref z0)] H0 Q 281 [w0_, some (.inr 0), some (.inr 46), some (.inl o), some (.inl a), some (.inl b), some (.inl k), some (.inl i), some (.inl v), some (.inl w), some (.inl t), some (.inl r), some (.inl u), some (.inl y), some (.inl d), w15_] [.inl q, .inr 0] M := by
  rintro w0_ w15_ o a b k i v w t r u y d q M ⟨-, hU, hq, hi0, hi, ht, hb, σ, g, hy⟩
  refine sg_L_law_281z (okz_X8_value hA (ok_X8_value (jA_le hA (by decide)))) (L296 i0) rfl C H296 w0_ w15_ o a b k i v w t r u y d q M ⟨⟨rfl, rfl, σ, g.1⟩, fun x1 M1 _ _ hc => ?_⟩
  obtain ⟨e1, a1⟩ := hc.1 σ g.1
  have g1 := LG_q g a1 (hc.2 46 (Nat.le_refl _))
  rw [fv_3 hq] at e1
  exact ⟨fun h1 => ⟨⟨rfl, rfl, rfl, rfl⟩, hU, Or.inl rfl, hi0, hi, ht, hb, σ, g1, fun z => absurd z (by decide), fun z => absurd (e1.trans (smE_3 z)) h1⟩, fun h1 => ⟨⟨rfl, rfl, rfl, rfl⟩, hU, Or.inr rfl, hi0, hi, ht, hb, σ, g1, fun _ => smE_mk hy (e1.symm.trans (Classical.not_not.mp h1)), fun _ => rfl⟩⟩
set_option maxHeartbeats 1000000 in
theorem ls_262 (hA : jA ad 47) (C : jC p l e room_1 s m args below meth c cL_law 16 RL D cy ad kdZ (lnZ 8) 47 A cells slots H0 Q 2 (fun x _ => x = 1))
    (H281 : ∀ (w0_ : Option AV) (w15_ : Option AV) (o : Int) (a : Int) (b : Int) (k : Int) (i : Int) (v : Int) (w : Int) (t : Int) (r : Int) (u : Int) (y : Int) (d : Int) (q : Int) (M : Mem), L281 i0 o a b k i v w t r u y d q M → jSt p l e room_1 s m args below meth c 16 D cy ad kdZ (lnZ 8) 47 A cells slots [(0, .ref z0)] H0 Q 281 [w0_, some (.inr 0), some (.inr 46), some (.inl o), some (.inl a), some (.inl b), some (.inl k), some (.inl i), some (.inl v), some (.inl w), some (.inl t), some (.inl r), some (.inl u), some (.inl y), some (.inl d), w15_] [.inl q, .inr 0] M)
    (H296 : ∀ (w0_ : Option AV) (o : Int) (a : Int) (b : Int) (k : Int) (i : Int) (v : Int) (w : Int) (t : Int) (r : Int) (u : Int) (y : Int) (d : Int) (f : Int) (M : Mem), L296 i0 o a b k i v w t r u y d f M → jSt p l e room_1 s m args below meth c 16 D cy ad kdZ (lnZ 8) 47 A cells slots [(0, .ref z0)] H0 Q 296 [w0_, some (.inr 0), some (.inr 46), some (.inl o), some (.inl a), some (.inl b), some (.inl k), some (.inl i), some (.inl v), some (.inl w), some (.inl t), some (.inl r), some (.inl u), some (.inl y), some (.inl d), some (.inl f)] [] M) :
    ∀ (w0_ : Option AV) (w15_ : Option AV) (o : Int) (a : Int) (b : Int) (k : Int) (i : Int) (v : Int) (w : Int) (t : Int) (r : Int) (u : Int) (y : Int) (d : Int) (q : Int) (M : Mem), L262 i0 o a b k i v w t r u y d q M → jSt p l e room_1 s m args below meth c 16 D cy ad kdZ (lnZ 8) 47 A cells slots [(0, .ref z0)] H0 Q 262 [w0_, some (.inr 0), some (.inr 46), some (.inl o), some (.inl a), some (.inl b), some (.inl k), some (.inl i), some (.inl v), some (.inl w), some (.inl t), some (.inl r), some (.inl u), some (.inl y), some (.inl d), w15_] [.inl q, .inr 0] M := by
  rintro w0_ w15_ o a b k i v w t r u y d q M ⟨-, hU, hq, hi0, hi, ht, hb, σ, g⟩
  refine sg_L_law_262z (okz_X8_value hA (ok_X8_value (jA_le hA (by decide)))) (L281 i0) (L296 i0) rfl C H281 H296 w0_ w15_ o a b k i v w t r u y d q M ⟨⟨rfl, rfl, σ, g.1⟩, fun x1 M1 _ _ hc => ?_⟩
  obtain ⟨e1, a1⟩ := hc.1 σ g.1
  have g1 := LG_q g a1 (hc.2 46 (Nat.le_refl _))
  rw [fv_2 hq] at e1
  refine ⟨fun h1 => ⟨⟨rfl, rfl, rfl, rfl⟩, hU, Or.inl rfl, hi0, hi, ht, hb, σ, g1, fun z => absurd z (by decide), fun z => absurd (e1.trans (smE_2 z)) h1⟩, fun h1 => ?_⟩
  have e2 : x1 = y := Classical.not_not.mp h1
  exact ⟨fun h0 => ⟨⟨rfl, rfl, rfl, rfl⟩, hU, (if_pos h0).symm, hi0, hi, ht, hb, σ, g1, e1.symm.trans e2⟩, fun h0 => ⟨⟨rfl, rfl, rfl, rfl⟩, hU, (if_neg h0).symm, hi0, hi, ht, hb, σ, g1, e1.symm.trans e2⟩⟩
set_option maxHeartbeats 1000000 in
theorem ls_220 (hA : jA ad 47) (C : jC p l e room_1 s m args below meth c cL_law 16 RL D cy ad kdZ (lnZ 8) 47 A cells slots H0 Q 2 (fun x _ => x = 1))
    (H262 : ∀ (w0_ : Option AV) (w15_ : Option AV) (o : Int) (a : Int) (b : Int) (k : Int) (i : Int) (v : Int) (w : Int) (t : Int) (r : Int) (u : Int) (y : Int) (d : Int) (q : Int) (M : Mem), L262 i0 o a b k i v w t r u y d q M → jSt p l e room_1 s m args below meth c 16 D cy ad kdZ (lnZ 8) 47 A cells slots [(0, .ref z0)] H0 Q 262 [w0_, some (.inr 0), some (.inr 46), some (.inl o), some (.inl a), some (.inl b), some (.inl k), some (.inl i), some (.inl v), some (.inl w), some (.inl t), some (.inl r), some (.inl u), some (.inl y), some (.inl d), w15_] [.inl q, .inr 0] M) :
    ∀ (w0_ : Option AV) (w13_ : Option AV) (w14_ : Option AV) (w15_ : Option AV) (o : Int) (a : Int) (b : Int) (k : Int) (i : Int) (v : Int) (w : Int) (t : Int) (r : Int) (u : Int) (M : Mem), L220 i0 o a b k i v w t r u M → jSt p l e room_1 s m args below meth c 16 D cy ad kdZ (lnZ 8) 47 A cells slots [(0, .ref z0)] H0 Q 220 [w0_, some (.inr 0), some (.inr 46), some (.inl o), some (.inl a), some (.inl b), some (.inl k), some (.inl i), some (.inl v), some (.inl w), some (.inl t), some (.inl r), some (.inl u), w13_, w14_, w15_] [] M := by
  rintro w0_ w13_ w14_ w15_ o a b k i v w t r u M ⟨-, hu, B⟩
  have hb := B.2.2.2.1
  refine sg_L_law_220z (okz_L_low hA (ok_L_low (jA_le hA (by decide)))) (L262 i0) rfl C H262 w0_ w13_ w14_ w15_ o a b k i v w t r u M ⟨by show (0 : Int) < 3; decide, fun x1 M1 _ _ hc => ?_⟩
  obtain ⟨⟨e1, rfl⟩, -⟩ := hc
  have b1 := lowF_b (v := bShr v 1) (show (0 : Int) < 3 by decide)
  rw [← e1] at b1
  refine ⟨fun h0 => ⟨by show (0 : Int) < b; omega, fun x2 M2 _ _ hc => ?_⟩, fun h0 => ⟨by show (0 : Int) < a; omega, fun x2 M2 _ _ hc => ?_⟩⟩
  · obtain ⟨⟨e2, rfl⟩, -⟩ := hc
    have b2 := lowF_b (v := bShr v 4) (show (0 : Int) < b by omega)
    rw [← e2] at b2
    exact ⟨fun _ => ⟨⟨rfl, rfl, rfl, rfl⟩, ⟨hu, b1, by rw [if_pos h0]; exact b2⟩, (if_pos h0).symm, B⟩, fun z => absurd h0 z⟩
  · obtain ⟨⟨e2, rfl⟩, -⟩ := hc
    have b2 := lowF_b (v := bShr v 4) (show (0 : Int) < a by omega)
    rw [← e2] at b2
    exact ⟨fun z => absurd z h0, fun _ => ⟨⟨rfl, rfl, rfl, rfl⟩, ⟨hu, b1, by rw [if_neg h0]; exact b2⟩, (if_neg h0).symm, B⟩⟩
set_option maxHeartbeats 1000000 in
theorem ls_190 (hA : jA ad 47) (C : jC p l e room_1 s m args below meth c cL_law 16 RL D cy ad kdZ (lnZ 8) 47 A cells slots H0 Q 2 (fun x _ => x = 1))
    (H448 : ∀ (w0_ : Option AV) (w11_ : Option AV) (w12_ : Option AV) (w13_ : Option AV) (w14_ : Option AV) (w15_ : Option AV) (o : Int) (a : Int) (b : Int) (k : Int) (i : Int) (v : Int) (w : Int) (t : Int) (M : Mem), L448 i0 o a b k i v w t M → jSt p l e room_1 s m args below meth c 16 D cy ad kdZ (lnZ 8) 47 A cells slots [(0, .ref z0)] H0 Q 448 [w0_, some (.inr 0), some (.inr 46), some (.inl o), some (.inl a), some (.inl b), some (.inl k), some (.inl i), some (.inl v), some (.inl w), some (.inl t), w11_, w12_, w13_, w14_, w15_] [] M) :
    ∀ (w0_ : Option AV) (w12_ : Option AV) (w13_ : Option AV) (w14_ : Option AV) (w15_ : Option AV) (o : Int) (a : Int) (b : Int) (k : Int) (i : Int) (v : Int) (w : Int) (t : Int) (r : Int) (q : Int) (M : Mem), L190 i0 o a b k i v w t r q M → jSt p l e room_1 s m args below meth c 16 D cy ad kdZ (lnZ 8) 47 A cells slots [(0, .ref z0)] H0 Q 190 [w0_, some (.inr 0), some (.inr 46), some (.inl o), some (.inl a), some (.inl b), some (.inl k), some (.inl i), some (.inl v), some (.inl w), some (.inl t), some (.inl r), w12_, w13_, w14_, w15_] [.inl q] M := by
  rintro w0_ w12_ w13_ w14_ w15_ o a b k i v w t r q M ⟨-, hq, B⟩
  exact sg_L_law_190z  (L448 i0) rfl C H448 w0_ w12_ w13_ w14_ w15_ o a b k i v w t r q M ⟨fun _ => ⟨⟨rfl, rfl, rfl⟩, B⟩, fun z => absurd hq z⟩
set_option maxHeartbeats 1000000 in
theorem ls_155 (hA : jA ad 47) (C : jC p l e room_1 s m args below meth c cL_law 16 RL D cy ad kdZ (lnZ 8) 47 A cells slots H0 Q 2 (fun x _ => x = 1))
    (H187 : ∀ (w0_ : Option AV) (w12_ : Option AV) (w13_ : Option AV) (w14_ : Option AV) (w15_ : Option AV) (o : Int) (a : Int) (b : Int) (k : Int) (i : Int) (v : Int) (w : Int) (t : Int) (r : Int) (q : Int) (j : Int) (f : Int) (M : Mem), L187 i0 o a b k i v w t r q j f M → jSt p l e room_1 s m args below meth c 16 D cy ad kdZ (lnZ 8) 47 A cells slots [(0, .ref z0)] H0 Q 187 [w0_, some (.inr 0), some (.inr 46), some (.inl o), some (.inl a), some (.inl b), some (.inl k), some (.inl i), some (.inl v), some (.inl w), some (.inl t), some (.inl r), w12_, w13_, w14_, w15_] [.inl q, .inl j, .inl f, .inr 0] M)
    (H220 : ∀ (w0_ : Option AV) (w13_ : Option AV) (w14_ : Option AV) (w15_ : Option AV) (o : Int) (a : Int) (b : Int) (k : Int) (i : Int) (v : Int) (w : Int) (t : Int) (r : Int) (u : Int) (M : Mem), L220 i0 o a b k i v w t r u M → jSt p l e room_1 s m args below meth c 16 D cy ad kdZ (lnZ 8) 47 A cells slots [(0, .ref z0)] H0 Q 220 [w0_, some (.inr 0), some (.inr 46), some (.inl o), some (.inl a), some (.inl b), some (.inl k), some (.inl i), some (.inl v), some (.inl w), some (.inl t), some (.inl r), some (.inl u), w13_, w14_, w15_] [] M)
    (H440 : ∀ (w0_ : Option AV) (w12_ : Option AV) (w13_ : Option AV) (w14_ : Option AV) (w15_ : Option AV) (o : Int) (a : Int) (b : Int) (k : Int) (i : Int) (v : Int) (w : Int) (t : Int) (r : Int) (q : Int) (j : Int) (f : Int) (u : Int) (M : Mem), L440 i0 o a b k i v w t r q j f u M → jSt p l e room_1 s m args below meth c 16 D cy ad kdZ (lnZ 8) 47 A cells slots [(0, .ref z0)] H0 Q 440 [w0_, some (.inr 0), some (.inr 46), some (.inl o), some (.inl a), some (.inl b), some (.inl k), some (.inl i), some (.inl v), some (.inl w), some (.inl t), some (.inl r), w12_, w13_, w14_, w15_] [.inl q, .inl j, .inl f, .inl u, .inr 0] M)
    (H448 : ∀ (w0_ : Option AV) (w11_ : Option AV) (w12_ : Option AV) (w13_ : Option AV) (w14_ : Option AV) (w15_ : Option AV) (o : Int) (a : Int) (b : Int) (k : Int) (i : Int) (v : Int) (w : Int) (t : Int) (M : Mem), L448 i0 o a b k i v w t M → jSt p l e room_1 s m args below meth c 16 D cy ad kdZ (lnZ 8) 47 A cells slots [(0, .ref z0)] H0 Q 448 [w0_, some (.inr 0), some (.inr 46), some (.inl o), some (.inl a), some (.inl b), some (.inl k), some (.inl i), some (.inl v), some (.inl w), some (.inl t), w11_, w12_, w13_, w14_, w15_] [] M) :
    ∀ (w0_ : Option AV) (w10_ : Option AV) (w11_ : Option AV) (w12_ : Option AV) (w13_ : Option AV) (w14_ : Option AV) (w15_ : Option AV) (o : Int) (a : Int) (b : Int) (k : Int) (i : Int) (v : Int) (w : Int) (M : Mem), L155 i0 o a b k i v w M → jSt p l e room_1 s m args below meth c 16 D cy ad kdZ (lnZ 8) 47 A cells slots [(0, .ref z0)] H0 Q 155 [w0_, some (.inr 0), some (.inr 46), some (.inl o), some (.inl a), some (.inl b), some (.inl k), some (.inl i), some (.inl v), some (.inl w), w10_, w11_, w12_, w13_, w14_, w15_] [] M := by
  rintro w0_ w10_ w11_ w12_ w13_ w14_ w15_ o a b k i v w M ⟨-, hi0, hi, hb, σ, g⟩
  have hm := mulLB hb
  have hN := LG_n g
  have a0 := g.1
  refine sg_L_law_155z (okz_L_low hA (ok_L_low (jA_le hA (by decide)))) (okz_X8_setWeight hA (ok_X8_setWeight (jA_le hA (by decide)))) (L187 i0) (L220 i0) (L440 i0) (L448 i0) rfl C H187 H220 H440 H448 w0_ w10_ w11_ w12_ w13_ w14_ w15_ o a b k i v w M ⟨⟨by omega, by omega⟩, by show (0 : Int) < 6; decide, fun x2 M1 _ _ hc => ?_⟩
  obtain ⟨⟨e2, rfl⟩, -⟩ := hc
  have B : BIL i0 a b k i (a * b) _ := ⟨hi0, hi, rfl, hb, σ, g⟩
  refine ⟨fun h3 => ⟨fun hn3 => ⟨fun hn4 => ⟨by show (0 : Int) < a * b; omega, fun x4 M3 _ _ hc => ?_⟩, fun h4 => ⟨by show (0 : Int) < 3; decide, fun x6 M5 _ _ hc => ?_⟩⟩, fun h33 => ⟨fun _ => ⟨⟨rfl, rfl, rfl, rfl⟩, Or.inl rfl, B⟩, fun _ => ⟨⟨rfl, rfl, rfl, rfl⟩, Or.inr rfl, B⟩⟩⟩, fun h3 => ⟨⟨rfl, rfl, rfl, rfl, rfl, rfl⟩, rfl, B⟩⟩
  · obtain ⟨⟨e4, rfl⟩, -⟩ := hc
    have b4 := lowF_b (v := v) (show (0 : Int) < a * b by omega)
    rw [← e4] at b4
    exact ⟨⟨rfl, rfl, rfl, rfl, rfl, rfl⟩, bAnd_3 w, b4, B⟩
  · obtain ⟨⟨e6, rfl⟩, -⟩ := hc
    have b6 := lowF_b (v := v) (show (0 : Int) < 3 by decide)
    rw [← e6] at b6
    refine ⟨rfl, ⟨by omega, by omega⟩, by show (0 : Int) < 10; decide, fun x8 M7 _ _ hc => ?_⟩
    obtain ⟨⟨e8, rfl⟩, -⟩ := hc
    have b8 := lowF_b (v := bShr v 4) (show (0 : Int) < 10 by decide)
    rw [← e8] at b8
    refine ⟨rfl, ⟨by omega, by omega⟩, rfl, ⟨by omega, by omega⟩, ⟨rfl, rfl, σ, absX_46 a0⟩, fun x10 M9 _ _ hc => ?_⟩
    rw [up_sk] at hc
    obtain ⟨e10, a10⟩ := hc.1 σ (absX_46 a0)
    have hk : kdO x6 ∧ 0 ≤ x8 ∧ x8 ≤ 9 := ⟨⟨by omega, by omega⟩, by omega, by omega⟩
    have e11 : x10 = σ 2 x6.toNat := e10.trans (if_pos hk)
    have e12 : G_setWeight σ x6 x8 = up σ 2 x6.toNat x8 := if_pos hk
    rw [e12] at a10
    have e46 := hc.2 46 (Nat.le_refl _)
    refine ⟨fun _ => ⟨⟨rfl, rfl, rfl⟩, hi0, hi, rfl, hb, _, a10, g.2.1, g.2.2.1, fun n hn => ?_⟩, fun z => absurd (e11.trans (g.2.2.2 x6.toNat (by omega)).symm) z⟩
    rw [e46, up_s, up_s]
    by_cases z : n = x6.toNat
    · rw [z, upR_s, upR_s]
    · rw [upR_n z, upR_n z]
      exact g.2.2.2 n hn
set_option maxHeartbeats 1000000 in
theorem ls_124 (hA : jA ad 47) (C : jC p l e room_1 s m args below meth c cL_law 16 RL D cy ad kdZ (lnZ 8) 47 A cells slots H0 Q 2 (fun x _ => x = 1))
    (H131 : ∀ (w0_ : Option AV) (w8_ : Option AV) (w9_ : Option AV) (w10_ : Option AV) (w11_ : Option AV) (w12_ : Option AV) (w13_ : Option AV) (w14_ : Option AV) (w15_ : Option AV) (o : Int) (a : Int) (b : Int) (k : Int) (i : Int) (M : Mem), L131 i0 o a b k i M → jSt p l e room_1 s m args below meth c 16 D cy ad kdZ (lnZ 8) 47 A cells slots [(0, .ref z0)] H0 Q 131 [w0_, some (.inr 0), some (.inr 46), some (.inl o), some (.inl a), some (.inl b), some (.inl k), some (.inl i), w8_, w9_, w10_, w11_, w12_, w13_, w14_, w15_] [] M)
    (H511 : ∀ (w0_ : Option AV) (w7_ : Option AV) (w8_ : Option AV) (w9_ : Option AV) (w10_ : Option AV) (w11_ : Option AV) (w12_ : Option AV) (w13_ : Option AV) (w14_ : Option AV) (w15_ : Option AV) (o : Int) (a : Int) (b : Int) (k : Int) (M : Mem), L511 o a b k M → jSt p l e room_1 s m args below meth c 16 D cy ad kdZ (lnZ 8) 47 A cells slots [(0, .ref z0)] H0 Q 511 [w0_, some (.inr 0), some (.inr 46), some (.inl o), some (.inl a), some (.inl b), some (.inl k), w7_, w8_, w9_, w10_, w11_, w12_, w13_, w14_, w15_] [] M) :
    ∀ (w0_ : Option AV) (w8_ : Option AV) (w9_ : Option AV) (w10_ : Option AV) (w11_ : Option AV) (w12_ : Option AV) (w13_ : Option AV) (w14_ : Option AV) (w15_ : Option AV) (o : Int) (a : Int) (b : Int) (k : Int) (i : Int) (M : Mem), L124 i0 o a b k i M → jSt p l e room_1 s m args below meth c 16 D cy ad kdZ (lnZ 8) 47 A cells slots [(0, .ref z0)] H0 Q 124 [w0_, some (.inr 0), some (.inr 46), some (.inl o), some (.inl a), some (.inl b), some (.inl k), some (.inl i), w8_, w9_, w10_, w11_, w12_, w13_, w14_, w15_] [] M := by
  rintro w0_ w8_ w9_ w10_ w11_ w12_ w13_ w14_ w15_ o a b k i M ⟨-, hi0, hi, hK⟩
  exact sg_L_law_124z  (L131 i0) L511 rfl C H131 H511 w0_ w8_ w9_ w10_ w11_ w12_ w13_ w14_ w15_ o a b k i M ⟨fun h => ⟨rfl, hK⟩, fun h => ⟨rfl, hi0, ⟨by omega, by omega⟩, hK⟩⟩
set_option maxHeartbeats 1000000 in
theorem ls_100 (hA : jA ad 47) (C : jC p l e room_1 s m args below meth c cL_law 16 RL D cy ad kdZ (lnZ 8) 47 A cells slots H0 Q 2 (fun x _ => x = 1))
    (H124 : ∀ (w0_ : Option AV) (w8_ : Option AV) (w9_ : Option AV) (w10_ : Option AV) (w11_ : Option AV) (w12_ : Option AV) (w13_ : Option AV) (w14_ : Option AV) (w15_ : Option AV) (o : Int) (a : Int) (b : Int) (k : Int) (i : Int) (M : Mem), L124 0 o a b k i M → jSt p l e room_1 s m args below meth c 16 D cy ad kdZ (lnZ 8) 47 A cells slots [(0, .ref z0)] H0 Q 124 [w0_, some (.inr 0), some (.inr 46), some (.inl o), some (.inl a), some (.inl b), some (.inl k), some (.inl i), w8_, w9_, w10_, w11_, w12_, w13_, w14_, w15_] [] M) :
    ∀ (w0_ : Option AV) (w7_ : Option AV) (w8_ : Option AV) (w9_ : Option AV) (w10_ : Option AV) (w11_ : Option AV) (w12_ : Option AV) (w13_ : Option AV) (w14_ : Option AV) (w15_ : Option AV) (o : Int) (a : Int) (b : Int) (i : Int) (M : Mem), L100 o a b i M → jSt p l e room_1 s m args below meth c 16 D cy ad kdZ (lnZ 8) 47 A cells slots [(0, .ref z0)] H0 Q 100 [w0_, some (.inr 0), some (.inr 46), some (.inl o), some (.inl a), some (.inl b), some (.inl i), w7_, w8_, w9_, w10_, w11_, w12_, w13_, w14_, w15_] [] M := by
  have key : ∀ (n : Nat) (w0_ : Option AV) (w7_ : Option AV) (w8_ : Option AV) (w9_ : Option AV) (w10_ : Option AV) (w11_ : Option AV) (w12_ : Option AV) (w13_ : Option AV) (w14_ : Option AV) (w15_ : Option AV) (o : Int) (a : Int) (b : Int) (i : Int) (M : Mem), (6 - i).toNat = n → L100 o a b i M → jSt p l e room_1 s m args below meth c 16 D cy ad kdZ (lnZ 8) 47 A cells slots [(0, .ref z0)] H0 Q 100 [w0_, some (.inr 0), some (.inr 46), some (.inl o), some (.inl a), some (.inl b), some (.inl i), w7_, w8_, w9_, w10_, w11_, w12_, w13_, w14_, w15_] [] M := by
    intro n
    induction n using Nat.strongRecOn with
    | ind n ih =>
      rintro w0_ w7_ w8_ w9_ w10_ w11_ w12_ w13_ w14_ w15_ o a b i M hn ⟨-, hb, hi, σ, a1, hg, h7, hw, h46⟩
      refine sg_L_law_100z (fun o' a' b' i' M' => (6 - i').toNat < n ∧ L100 o' a' b' i' M') (L124 0) rfl C (fun w0_9 w7_9 w8_9 w9_9 w10_9 w11_9 w12_9 w13_9 w14_9 w15_9 o' a' b' i' M' hP => ih _ hP.1 w0_9 w7_9 w8_9 w9_9 w10_9 w11_9 w12_9 w13_9 w14_9 w15_9 _ _ _ _ M' rfl hP.2) H124 w0_ w7_ w8_ w9_ w10_ w11_ w12_ w13_ w14_ w15_ o a b i M ⟨fun h => ⟨rfl, rfl, ⟨by decide, by decide⟩, hb, σ, a1, hg, h7, fun n hn => (h46 n (by omega)).trans (hw n hn).symm⟩, fun h => ⟨rfl, ⟨by omega, by omega⟩, ⟨by omega, by omega⟩, by omega, rfl, hb, by omega, σ, absX_46 a1, hg, h7, hw, fun n' hn' => ?_⟩⟩
      rw [up_s]
      by_cases z : n' = i.toNat
      · rw [z, upR_s]
      · rw [upR_n z]
        exact h46 n' (by omega)
  rintro w0_ w7_ w8_ w9_ w10_ w11_ w12_ w13_ w14_ w15_ o a b i M hP
  exact key _ w0_ w7_ w8_ w9_ w10_ w11_ w12_ w13_ w14_ w15_ o a b i M rfl hP
set_option maxHeartbeats 1000000 in
theorem ls_19 (hA : jA ad 47) (C : jC p l e room_1 s m args below meth c cL_law 16 RL D cy ad kdZ (lnZ 8) 47 A cells slots H0 Q 2 (fun x _ => x = 1))
    (H100 : ∀ (w0_ : Option AV) (w7_ : Option AV) (w8_ : Option AV) (w9_ : Option AV) (w10_ : Option AV) (w11_ : Option AV) (w12_ : Option AV) (w13_ : Option AV) (w14_ : Option AV) (w15_ : Option AV) (o : Int) (a : Int) (b : Int) (i : Int) (M : Mem), L100 o a b i M → jSt p l e room_1 s m args below meth c 16 D cy ad kdZ (lnZ 8) 47 A cells slots [(0, .ref z0)] H0 Q 100 [w0_, some (.inr 0), some (.inr 46), some (.inl o), some (.inl a), some (.inl b), some (.inl i), w7_, w8_, w9_, w10_, w11_, w12_, w13_, w14_, w15_] [] M) :
    ∀ (w0_ : Option AV) (w4_ : Option AV) (w5_ : Option AV) (w6_ : Option AV) (w7_ : Option AV) (w8_ : Option AV) (w9_ : Option AV) (w10_ : Option AV) (w11_ : Option AV) (w12_ : Option AV) (w13_ : Option AV) (w14_ : Option AV) (w15_ : Option AV) (o : Int) (M : Mem), L19 o M → jSt p l e room_1 s m args below meth c 16 D cy ad kdZ (lnZ 8) 47 A cells slots [(0, .ref z0)] H0 Q 19 [w0_, some (.inr 0), some (.inr 46), some (.inl o), w4_, w5_, w6_, w7_, w8_, w9_, w10_, w11_, w12_, w13_, w14_, w15_] [] M := by
  rintro w0_ w4_ w5_ w6_ w7_ w8_ w9_ w10_ w11_ w12_ w13_ w14_ w15_ o M ⟨-, hσ⟩
  refine sg_L_law_19z (okz_L_low hA (ok_L_low (jA_le hA (by decide)))) (okz_X8_reset hA (ok_X8_reset (jA_le hA (by decide)))) (okz_X8_undo hA (ok_X8_undo (jA_le hA (by decide)))) (okz_X8_value hA (ok_X8_value (jA_le hA (by decide)))) L100 rfl C H100 w0_ w4_ w5_ w6_ w7_ w8_ w9_ w10_ w11_ w12_ w13_ w14_ w15_ o M ⟨by show (0 : Int) < 6; decide, fun x1 M1 _ _ hc => ?_⟩
  obtain ⟨⟨e1, rfl⟩, -⟩ := hc
  have b1 := lowF_b (v := o) (show (0 : Int) < 6 by decide)
  rw [← e1] at b1
  refine ⟨⟨by omega, by omega⟩, by show (0 : Int) < 6; decide, fun x2 M2 _ _ hc => ?_⟩
  obtain ⟨⟨e2, rfl⟩, -⟩ := hc
  have b2 := lowF_b (v := bShr o 4) (show (0 : Int) < 6 by decide)
  rw [← e2] at b2
  refine ⟨⟨by omega, by omega⟩, ⟨rfl, rfl, sZ, hσ⟩, fun x3 M3 _ _ hc => ?_⟩
  obtain ⟨e3, a3⟩ := hc.1 sZ hσ
  refine ⟨fun z => absurd (e3.trans sZ_0) z, fun _ => ⟨⟨rfl, rfl, sZ, a3⟩, fun x4 M4 _ _ hc => ?_⟩⟩
  obtain ⟨e4, a4⟩ := hc.1 sZ a3
  refine ⟨fun z => absurd (e4.trans sZ_1) z, fun _ => ⟨⟨rfl, rfl, sZ, a4⟩, fun x5 M5 _ _ hc => ?_⟩⟩
  obtain ⟨e5, a5⟩ := hc.1 sZ a4
  refine ⟨fun z => absurd (e5.trans (sZ_6 hσ.1.1)) z, fun _ => ⟨⟨rfl, rfl, sZ, a5⟩, fun x6 M6 _ _ hc => ?_⟩⟩
  obtain ⟨e6, a6⟩ := hc.1 sZ a5
  rw [sZ_u] at a6
  refine ⟨fun z => absurd (e6.trans sZ_fu) z, fun _ => ⟨⟨rfl, rfl, sZ, a6⟩, fun x7 M7 _ _ hc => ?_⟩⟩
  obtain ⟨e7, a7⟩ := hc.1 sZ a6
  have hz : szO (3 + x1) (3 + x2) := ⟨⟨by omega, by omega⟩, by omega, by omega⟩
  have e8 : x7 = (3 + x1) * (3 + x2) := e7.trans (if_pos hz)
  obtain ⟨r1, r2, r3, r4⟩ := rs_facts (σ := sZ) hz
  have hb : LB (3 + x1) (3 + x2) := ⟨⟨by omega, by omega⟩, by omega, by omega⟩
  have hm := mulLB hb
  exact ⟨⟨by omega, by omega⟩, fun _ => ⟨rfl, hb, ⟨by decide, by decide⟩, _, a7, ⟨r1, r2⟩, r3, fun n _ => r4 n, fun n hn => by omega⟩, fun z => absurd e8 z⟩
end LM
