/-! ===== the law's joints and its loop ===== -/
section LJ
variable {p : Program} {l : Launch} {e : Env} {s : State} {m : MethodId} {args : Array Value} {below : List Frame} {meth : Method} {c : Code} {D : va_G} {cy : Nat → ClassId} {ad : Nat → Nat} {A : Nat → Prop} {cells slots : Nat} {H0 : Heap} {Q : State → Prop} {z0 : Nat} {i0 : Int} {L : Nat} {xs : Nat → Int32}
theorem jst_widen {R : Room} {nL nc : Nat} {kd ln : Nat → Nat} {ex : List (Nat × Value)} {pc : Nat} {ls : List (Option AV)} {st : List AV} {M : Mem} {k n : Nat} (h1 : cells ≤ k) (h2 : slots ≤ n) (kk : jSt p l e R s m args below meth c nL D cy ad kd ln nc A k n ex H0 Q pc ls st M) : jSt p l e R s m args below meth c nL D cy ad kd ln nc A cells slots ex H0 Q pc ls st M :=
  fun H locs lsC a1 a2 a3 a4 a5 a6 => W.widen h1 h2 (kk H locs lsC a1 a2 a3 a4 a5 a6)
theorem lj_131 (hE : jEnv p s m args c cL_law 16 RL D cy) (hX : va_X z0 L xs s s.heap) (hbl : z0 < s.heap.size) (hL : L ≤ 2048) (hbA : ¬ A z0) (hcs : cells ≤ room_1.cells ∧ slots ≤ room_1.slots)
    (H155 : ∀ (w0_ : Option AV) (w10_ : Option AV) (w11_ : Option AV) (w12_ : Option AV) (w13_ : Option AV) (w14_ : Option AV) (w15_ : Option AV) (o : Int) (a : Int) (b : Int) (k : Int) (i : Int) (v : Int) (w : Int) (M : Mem), L155 i0 o a b k i v w M → jSt p l e room_1 s m args below meth c 16 D cy ad kdZ (lnZ 8) 47 A cells slots [(0, .ref z0)] s.heap Q 155 [w0_, some (.inr 0), some (.inr 46), some (.inl o), some (.inl a), some (.inl b), some (.inl k), some (.inl i), some (.inl v), some (.inl w), w10_, w11_, w12_, w13_, w14_, w15_] [] M) :
    ∀ (w0_ : Option AV) (w8_ : Option AV) (w9_ : Option AV) (w10_ : Option AV) (w11_ : Option AV) (w12_ : Option AV) (w13_ : Option AV) (w14_ : Option AV) (w15_ : Option AV) (o : Int) (a : Int) (b : Int) (k : Int) (i : Int) (M : Mem), L131 i0 o a b k i M → jSt p l e room_1 s m args below meth c 16 D cy ad kdZ (lnZ 8) 47 A cells slots [(0, .ref z0)] s.heap Q 131 [w0_, some (.inr 0), some (.inr 46), some (.inl o), some (.inl a), some (.inl b), some (.inl k), some (.inl i), w8_, w9_, w10_, w11_, w12_, w13_, w14_, w15_] [] M := by
  obtain ⟨hx, hb, -, -, -, -⟩ := id hE
  rintro w0_ w8_ w9_ w10_ w11_ w12_ w13_ w14_ w15_ o a b k i M hP0 H locs lsC hM hls hst hP hS hL0
  have hi := hP0.2.2.1
  have hl := jL_lv hL0 [(0, .ref z0), (1, .ref (ad 0)), (2, .ref (ad 46)), (3, .int (I32 o)), (4, .int (I32 a)), (5, .int (I32 b)), (6, .int (I32 k)), (7, .int (I32 i))] (fun q hq => by
    simp only [List.mem_cons, List.not_mem_nil, or_false] at hq
    rcases hq with rfl | rfl | rfl | rfl | rfl | rfl | rfl | rfl
    · exact Or.inr List.mem_cons_self
    · exact Or.inl ⟨.inr 0, rfl, rfl⟩
    · exact Or.inl ⟨.inr 46, rfl, rfl⟩
    · exact Or.inl ⟨.inl o, rfl, rfl⟩
    · exact Or.inl ⟨.inl a, rfl, rfl⟩
    · exact Or.inl ⟨.inl b, rfl, rfl⟩
    · exact Or.inl ⟨.inl k, rfl, rfl⟩
    · exact Or.inl ⟨.inl i, rfl, rfl⟩)
  refine lv_aload_n hx hb dL_law_131 rfl (lv_at hl 0 rfl) ?_
  refine lv_iconst (v := I32 1) hx hb dL_law_132 rfl ?_
  refine lv_iconst (v := I32 2) hx hb dL_law_133 rfl ?_
  refine lv_iload hx hb dL_law_134 (lv_at hl 7 rfl) ?_
  refine lv_imul hx hb dL_law_136 ?_
  refine lv_iadd hx hb dL_law_137 ?_
  rw [I32_mul, I32_add]
  refine jw_cell hE hX hbl hL hbA ⟨Nat.le_of_ble_eq_true rfl, Nat.le_of_ble_eq_true rfl⟩ hcs dL_law_138 hl.1 (k := 1 + 2 * i) ⟨by omega, by omega⟩ hP hS (fun x1 H1 locs1 r1 hP1 hS1 => ?_)
  refine lv_istore (lv' := [(8, .int (I32 x1)), (0, .ref z0), (1, .ref (ad 0)), (2, .ref (ad 46)), (3, .int (I32 o)), (4, .int (I32 a)), (5, .int (I32 b)), (6, .int (I32 k)), (7, .int (I32 i))]) hx hb dL_law_141 hl (by decide) rfl (fun ls1 hl1 => ?_)
  refine lv_aload_n hx hb dL_law_143 rfl (lv_at hl1 1 rfl) ?_
  refine lv_iconst (v := I32 2) hx hb dL_law_144 rfl ?_
  refine lv_iconst (v := I32 2) hx hb dL_law_145 rfl ?_
  refine lv_iload hx hb dL_law_146 (lv_at hl1 8 rfl) ?_
  refine lv_imul hx hb dL_law_148 ?_
  refine lv_iadd hx hb dL_law_149 ?_
  rw [I32_mul, I32_add]
  refine jw_cell hE hX hbl hL hbA ⟨Nat.le_of_ble_eq_true rfl, Nat.le_of_ble_eq_true rfl⟩ hcs dL_law_150 hl1.1 (k := 2 + 2 * i) ⟨by omega, by omega⟩ hP1 hS1 (fun x2 H2 locs2 r2 hP2 hS2 => ?_)
  refine lv_istore (lv' := [(9, .int (I32 x2)), (8, .int (I32 x1)), (0, .ref z0), (1, .ref (ad 0)), (2, .ref (ad 46)), (3, .int (I32 o)), (4, .int (I32 a)), (5, .int (I32 b)), (6, .int (I32 k)), (7, .int (I32 i))]) hx hb dL_law_153 hl1 (by decide) rfl (fun ls2 hl2 => ?_)
  refine H155 none none none none none none none o a b k i x1 x2 M ⟨⟨rfl, rfl, rfl⟩, hP0.2⟩ H2 locs2 ls2 hM (fun x hx => ?_) (fun x hx => absurd hx List.not_mem_nil) hP2 hS2 (jL_mk rfl hl2 ?_ ?_)
  · simp only [List.mem_cons, List.not_mem_nil, or_false, Option.some.injEq, reduceCtorEq, false_or, Sum.inl.injEq] at hx
    rcases hx with h | h | h | h | h | h | h
    · exact hls x (by simp [h])
    · exact hls x (by simp [h])
    · exact hls x (by simp [h])
    · exact hls x (by simp [h])
    · exact hls x (by simp [h])
    · rw [h]; exact r1
    · rw [h]; exact r2
  · intro j w hw
    match j, hw with
    | 0, hw => cases hw
    | 1, hw => cases hw; simp [cV]
    | 2, hw => cases hw; simp [cV]
    | 3, hw => cases hw; simp [cV]
    | 4, hw => cases hw; simp [cV]
    | 5, hw => cases hw; simp [cV]
    | 6, hw => cases hw; simp [cV]
    | 7, hw => cases hw; simp [cV]
    | 8, hw => cases hw; simp [cV]
    | 9, hw => cases hw; simp [cV]
    | 10, hw => cases hw
    | 11, hw => cases hw
    | 12, hw => cases hw
    | 13, hw => cases hw
    | 14, hw => cases hw
    | 15, hw => cases hw
    | j + 16, hw => simp at hw
  · intro q hq
    rcases List.mem_cons.mp hq with rfl | h
    · simp
    · exact absurd h List.not_mem_nil
theorem lj_187 (hE : jEnv p s m args c cL_law 16 RL D cy) (hA : jA ad 47) (hF : ∀ a, a < 46 → A (ad a)) (hA2 : ∀ q, H0.size ≤ q → A q) (hcs : cells + 1 ≤ room_1.cells ∧ slots + 64 ≤ room_1.slots)
    (H190 : ∀ (w0_ : Option AV) (w12_ : Option AV) (w13_ : Option AV) (w14_ : Option AV) (w15_ : Option AV) (o : Int) (a : Int) (b : Int) (k : Int) (i : Int) (v : Int) (w : Int) (t : Int) (r : Int) (q : Int) (M : Mem), L190 i0 o a b k i v w t r q M → jSt p l e room_1 s m args below meth c 16 D cy ad kdZ (lnZ 8) 47 A (cells + 1) (slots + 64) [(0, .ref z0)] H0 Q 190 [w0_, some (.inr 0), some (.inr 46), some (.inl o), some (.inl a), some (.inl b), some (.inl k), some (.inl i), some (.inl v), some (.inl w), some (.inl t), some (.inl r), w12_, w13_, w14_, w15_] [.inl q] M) :
    ∀ (w0_ : Option AV) (w12_ : Option AV) (w13_ : Option AV) (w14_ : Option AV) (w15_ : Option AV) (o : Int) (a : Int) (b : Int) (k : Int) (i : Int) (v : Int) (w : Int) (t : Int) (r : Int) (q : Int) (j : Int) (f : Int) (M : Mem), L187 i0 o a b k i v w t r q j f M → jSt p l e room_1 s m args below meth c 16 D cy ad kdZ (lnZ 8) 47 A cells slots [(0, .ref z0)] H0 Q 187 [w0_, some (.inr 0), some (.inr 46), some (.inl o), some (.inl a), some (.inl b), some (.inl k), some (.inl i), some (.inl v), some (.inl w), some (.inl t), some (.inl r), w12_, w13_, w14_, w15_] [.inl q, .inl j, .inl f, .inr 0] M := by
  rintro w0_ w12_ w13_ w14_ w15_ o a b k i v w t r q j f M ⟨-, hq, hi0, hi, ht, hb, σ, g⟩
  have hm := mulLB hb
  have hN := LG_n g
  refine jst_callN (n := 8) hE hA hF hA2 (ok_L_edits (jA_le hA (by decide))) ca_L_edits mkL_104 rfl ⟨rfl, rfl, Nat.le_of_ble_eq_true rfl, Nat.le_of_ble_eq_true rfl⟩ hcs dL_law_187 (as := [.inr 0, .inl f, .inl j, .inl q]) (st := []) rfl (by decide) (show P_L_edits [.inr 0, .inl f, .inl j, .inl q] M from ⟨rfl, ⟨rfl, rfl⟩, σ, g.1, by omega, hq.trans g.2.2.1.symm⟩) (fun x M1 rx hM1 hC => ?_)
  obtain ⟨-, h0, σ', a1, e7, hall⟩ := (show c_L_edits 0 f j q M x M1 from hC)
  obtain ⟨eg, ew⟩ := hall σ g.1
  exact H190 w0_ w12_ w13_ w14_ w15_ o a b k i v w t r x (glu M1 M) ⟨⟨rfl, rfl, rfl, rfl, rfl⟩, h0, hi0, hi, ht, hb, σ', absX_glu a1, ⟨by rw [eg]; exact g.2.1.1, by rw [eg]; exact g.2.1.2⟩, e7, fun n hn => by
    rw [glu_hi (Nat.le_refl 46), ew n hn]
    exact g.2.2.2 n hn⟩
theorem lj_440 (hE : jEnv p s m args c cL_law 16 RL D cy) (hA : jA ad 47) (hF : ∀ a, a < 46 → A (ad a)) (hA2 : ∀ q, H0.size ≤ q → A q) (hcs : cells + 1 ≤ room_1.cells ∧ slots + 32 ≤ room_1.slots)
    (H443 : ∀ (w0_ : Option AV) (w12_ : Option AV) (w13_ : Option AV) (w14_ : Option AV) (w15_ : Option AV) (o : Int) (a : Int) (b : Int) (k : Int) (i : Int) (v : Int) (w : Int) (t : Int) (r : Int) (q : Int) (M : Mem), L443 i0 o a b k i v w t r q M → jSt p l e room_1 s m args below meth c 16 D cy ad kdZ (lnZ 8) 47 A (cells + 1) (slots + 64) [(0, .ref z0)] H0 Q 443 [w0_, some (.inr 0), some (.inr 46), some (.inl o), some (.inl a), some (.inl b), some (.inl k), some (.inl i), some (.inl v), some (.inl w), some (.inl t), some (.inl r), w12_, w13_, w14_, w15_] [.inl q] M) :
    ∀ (w0_ : Option AV) (w12_ : Option AV) (w13_ : Option AV) (w14_ : Option AV) (w15_ : Option AV) (o : Int) (a : Int) (b : Int) (k : Int) (i : Int) (v : Int) (w : Int) (t : Int) (r : Int) (q : Int) (j : Int) (f : Int) (u : Int) (M : Mem), L440 i0 o a b k i v w t r q j f u M → jSt p l e room_1 s m args below meth c 16 D cy ad kdZ (lnZ 8) 47 A cells slots [(0, .ref z0)] H0 Q 440 [w0_, some (.inr 0), some (.inr 46), some (.inl o), some (.inl a), some (.inl b), some (.inl k), some (.inl i), some (.inl v), some (.inl w), some (.inl t), some (.inl r), w12_, w13_, w14_, w15_] [.inl q, .inl j, .inl f, .inl u, .inr 0] M := by
  rintro w0_ w12_ w13_ w14_ w15_ o a b k i v w t r q j f u M ⟨-, hf, hu, hi0, hi, ht, hb, σ, g⟩
  have hm := mulLB hb
  have hN := LG_n g
  refine jst_callN (n := 8) hE hA hF hA2 (ok_L_walks (jA_le hA (by decide))) ca_L_walks mkL_112 rfl ⟨rfl, rfl, Nat.le_of_ble_eq_true rfl, Nat.le_of_ble_eq_true rfl⟩ hcs dL_law_440 (as := [.inr 0, .inl u, .inl f, .inl j, .inl q]) (st := []) rfl (by decide) (show P_L_walks [.inr 0, .inl u, .inl f, .inl j, .inl q] M from ⟨rfl, ⟨rfl, rfl⟩, σ, g.1, ⟨hu.1, by omega⟩, hf.1, hf.2⟩) (fun x M1 rx hM1 hC => ?_)
  obtain ⟨-, h1, hR⟩ := (show c_L_walks 0 u f j q M x M1 from hC)
  obtain ⟨σ', a1, hs⟩ := hR σ g.1
  have eg := sameT_g hs
  refine jst_widen (Nat.le_refl _) (by omega) (H443 w0_ w12_ w13_ w14_ w15_ o a b k i v w t r x (glu M1 M) ⟨⟨rfl, rfl, rfl, rfl⟩, h1, hi0, hi, ht, hb, σ', absX_glu a1, ⟨by rw [eg]; exact g.2.1.1, by rw [eg]; exact g.2.1.2⟩, (hs.1 7 (by decide)).trans g.2.2.1, fun n hn => ?_⟩)
  rw [glu_hi (Nat.le_refl 46), hs.2.2.1]
  exact g.2.2.2 n hn
theorem law_all (hE : jEnv p s m args c cL_law 16 RL D cy) (hA : jA ad 47) (hF : ∀ a, a < 47 → A (ad a)) (hA2 : ∀ q, s.heap.size ≤ q → A q) (hX : va_X z0 L xs s s.heap) (hbl : z0 < s.heap.size) (hL : L ≤ 2048) (hbA : ¬ A z0)
    (hend : ∀ cells slots, cells ≤ 600000 → slots ≤ 7302250 → jEnd p l e room_1 s m args below meth c cL_law D cy ad kdZ (lnZ 8) 47 A cells slots s.heap Q 2 (fun x _ => x = 1)) :
    ∀ (n tn : Nat), tn + n = 22 → ∀ (w0_ : Option AV) (w8_ : Option AV) (w9_ : Option AV) (w10_ : Option AV) (w11_ : Option AV) (w12_ : Option AV) (w13_ : Option AV) (w14_ : Option AV) (w15_ : Option AV) (o : Int) (a : Int) (b : Int) (k : Int) (i : Int) (M : Mem), L124 (tn : Int) o a b k i M → jSt p l e room_1 s m args below meth c 16 D cy ad kdZ (lnZ 8) 47 A (47 + tn) (5429 + 64 * tn) [(0, .ref z0)] s.heap Q 124 [w0_, some (.inr 0), some (.inr 46), some (.inl o), some (.inl a), some (.inl b), some (.inl k), some (.inl i), w8_, w9_, w10_, w11_, w12_, w13_, w14_, w15_] [] M := by
  have r1 : room_1.cells = 600000 := rfl
  have r2 : room_1.slots = 7302250 := rfl
  have mk : ∀ cells slots, cells ≤ 600000 → slots ≤ 7302250 → jC p l e room_1 s m args below meth c cL_law 16 RL D cy ad kdZ (lnZ 8) 47 A cells slots s.heap Q 2 (fun x _ => x = 1) := fun cells slots h1 h2 => ⟨hE, hA, jWZ (by decide), hF, ⟨by omega, by omega⟩, hend cells slots h1 h2⟩
  intro n
  induction n with
  | zero =>
    intro tn hi
    have C0 := mk (47 + tn) (5429 + 64 * tn) (by omega) (by omega)
    exact ls_124 hA C0 (fun w0_ w8_ w9_ w10_ w11_ w12_ w13_ w14_ w15_ o a b k i M hP => absurd hP.2.2.1.2 (by have := hP.2.1; omega)) (ls_511 hA C0 (ls_530 hA C0))
  | succ n ih =>
    intro tn hi
    have C0 := mk (47 + tn) (5429 + 64 * tn) (by omega) (by omega)
    have C1 := mk (47 + tn + 1) (5429 + 64 * tn + 64) (by omega) (by omega)
    have H124 := ih (tn + 1) (by omega)
    rw [show ((tn + 1 : Nat) : Int) = (tn : Int) + 1 by omega, show 5429 + 64 * (tn + 1) = 5429 + 64 * tn + 64 by omega, show 47 + (tn + 1) = 47 + tn + 1 by omega] at H124
    have H448 := ls_448 (i0 := (tn : Int)) hA C1 H124
    have H443 := ls_443 hA C1 H448
    have H349 := ls_349 hA C1 H448
    have H330 := ls_330 hA C1 H349
    have H316 := ls_316 hA C1 H330
    have H296 := ls_296 hA C1 H316
    have H281 := ls_281 hA C1 H296
    have H262 := ls_262 hA C1 H281 H296
    have H220 := ls_220 hA C1 H262
    have H190 := ls_190 hA C1 H448
    have H187 := lj_187 hE hA (fun a ha => hF a (by omega)) hA2 ⟨by omega, by omega⟩ H190
    have H440 := lj_440 hE hA (fun a ha => hF a (by omega)) hA2 ⟨by omega, by omega⟩ H443
    have H155 := ls_155 hA C0 H187 (fun w0_ w13_ w14_ w15_ o a b k i v w t r u M hP => jst_widen (by omega) (by omega) (H220 w0_ w13_ w14_ w15_ o a b k i v w t r u M hP)) H440 (fun w0_ w11_ w12_ w13_ w14_ w15_ o a b k i v w t M hP => jst_widen (by omega) (by omega) (H448 w0_ w11_ w12_ w13_ w14_ w15_ o a b k i v w t M hP))
    have H131 := lj_131 hE hX hbl hL hbA ⟨by omega, by omega⟩ H155
    exact ls_124 hA C0 H131 (ls_511 hA C0 (ls_530 hA C0))
end LJ
