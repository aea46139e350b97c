abbrev cz_L_steps (p : Nat) (M : Mem) (x : Int) (M' : Mem) : Prop := (x = 1 ∧ ∀ σ, absX M σ → absX M' σ) ∧ ∀ b, 46 ≤ b → M' b = M b
def CZ_L_steps (as : List AV) (M : Mem) (x : Int) (M' : Mem) : Prop := match as with
  | [.inr p] => cz_L_steps p M x M'
  | _ => False
abbrev OKZ_L_steps (l : Launch) (D : va_G) (cy : Nat → ClassId) (ad : Nat → Nat) (n : Nat) : Prop := MetA l D cy ad kdZ (lnZ n) 47 yL_steps cL_steps 6 (some .boolean) rm_L_steps 2 P_L_steps CZ_L_steps
theorem okz_L_steps {l : Launch} {D : va_G} {cy : Nat → ClassId} {ad : Nat → Nat} {n : Nat} (hA : jA ad 47) (h : OK_L_steps l D cy ad) : OKZ_L_steps l D cy ad n := lift_Z hA h (fun as M x M1 hc => by
  unfold C_L_steps at hc
  unfold CZ_L_steps
  split at hc
  · exact ⟨⟨hc.1, fun σ hσ => absX_glu (hc.2 σ hσ)⟩, fun b hb => glu_hi hb⟩
  · exact hc.elim)
abbrev cz_L_parts (p : Nat) (M : Mem) (x : Int) (M' : Mem) : Prop := (x = 1 ∧ ∀ σ, absX M σ → absX M' σ) ∧ ∀ b, 46 ≤ b → M' b = M b
def CZ_L_parts (as : List AV) (M : Mem) (x : Int) (M' : Mem) : Prop := match as with
  | [.inr p] => cz_L_parts p M x M'
  | _ => False
abbrev OKZ_L_parts (l : Launch) (D : va_G) (cy : Nat → ClassId) (ad : Nat → Nat) (n : Nat) : Prop := MetA l D cy ad kdZ (lnZ n) 47 yL_parts cL_parts 14 (some .boolean) rm_L_parts 2 P_L_parts CZ_L_parts
theorem okz_L_parts {l : Launch} {D : va_G} {cy : Nat → ClassId} {ad : Nat → Nat} {n : Nat} (hA : jA ad 47) (h : OK_L_parts l D cy ad) : OKZ_L_parts l D cy ad n := lift_Z hA h (fun as M x M1 hc => by
  unfold C_L_parts at hc
  unfold CZ_L_parts
  split at hc
  · exact ⟨⟨hc.1, fun σ hσ => absX_glu (hc.2 σ hσ)⟩, fun b hb => glu_hi hb⟩
  · exact hc.elim)
abbrev cz_L_greatest (p : Nat) (k : Int) (M : Mem) (x : Int) (M' : Mem) : Prop := (x = 1 ∧ ∀ σ, absX M σ → absX M' σ) ∧ ∀ b, 46 ≤ b → M' b = M b
def CZ_L_greatest (as : List AV) (M : Mem) (x : Int) (M' : Mem) : Prop := match as with
  | [.inr p, .inl k] => cz_L_greatest p k M x M'
  | _ => False
abbrev OKZ_L_greatest (l : Launch) (D : va_G) (cy : Nat → ClassId) (ad : Nat → Nat) (n : Nat) : Prop := MetA l D cy ad kdZ (lnZ n) 47 yL_greatest cL_greatest 5 (some .boolean) rm_L_greatest 2 P_L_greatest CZ_L_greatest
theorem okz_L_greatest {l : Launch} {D : va_G} {cy : Nat → ClassId} {ad : Nat → Nat} {n : Nat} (hA : jA ad 47) (h : OK_L_greatest l D cy ad) : OKZ_L_greatest l D cy ad n := lift_Z hA h (fun as M x M1 hc => by
  unfold C_L_greatest at hc
  unfold CZ_L_greatest
  split at hc
  · exact ⟨⟨hc.1, fun σ hσ => absX_glu (hc.2 σ hσ)⟩, fun b hb => glu_hi hb⟩
  · exact hc.elim)
abbrev cz_L_errors (p : Nat) (M : Mem) (x : Int) (M' : Mem) : Prop := (x = 1 ∧ ∀ σ, absX M σ → absX M' σ) ∧ ∀ b, 46 ≤ b → M' b = M b
def CZ_L_errors (as : List AV) (M : Mem) (x : Int) (M' : Mem) : Prop := match as with
  | [.inr p] => cz_L_errors p M x M'
  | _ => False
abbrev OKZ_L_errors (l : Launch) (D : va_G) (cy : Nat → ClassId) (ad : Nat → Nat) (n : Nat) : Prop := MetA l D cy ad kdZ (lnZ n) 47 yL_errors cL_errors 4 (some .boolean) rm_L_errors 2 P_L_errors CZ_L_errors
theorem okz_L_errors {l : Launch} {D : va_G} {cy : Nat → ClassId} {ad : Nat → Nat} {n : Nat} (hA : jA ad 47) (h : OK_L_errors l D cy ad) : OKZ_L_errors l D cy ad n := lift_Z hA h (fun as M x M1 hc => by
  unfold C_L_errors at hc
  unfold CZ_L_errors
  split at hc
  · exact ⟨⟨hc.1, fun σ hσ => absX_glu (hc.2 σ hσ)⟩, fun b hb => glu_hi hb⟩
  · exact hc.elim)
def jg_L_law_100 (I : Int → Int → Int → Int → Mem → Prop) : List (Option AV) → List AV → Mem → Prop := fun ls st M => match ls, st, M with
  | [_, some (.inr 0), some (.inr 46), some (.inl o), some (.inl a), some (.inl b), some (.inl i), _, _, _, _, _, _, _, _, _], [], M => I o a b i M
  | _, _, _ => False
def tb_L_law_19z : TB := [(19, .iconst 3, 1, []), (20, .iload_n 3, 1, []), (21, .bipush 6, 2, []), (23, .invokestatic 44, 3, []), (26, .iadd, 1, []), (27, .istore 4, 2, []), (29, .iconst 3, 1, []), (30, .iload_n 3, 1, []), (31, .iconst 4, 1, []), (32, .ishr, 1, []), (33, .bipush 6, 2, []), (35, .invokestatic 44, 3, []), (38, .iadd, 1, []), (39, .istore 5, 2, []), (41, .aload_n 1, 1, []), (42, .iconst 0, 1, []), (43, .invokevirtual 9, 3, []), (46, .bipush 6, 2, []), (48, .if_icmp .ne 47, 3, [95]), (51, .aload_n 1, 1, []), (52, .iconst 1, 1, []), (53, .invokevirtual 9, 3, []), (56, .iconst 5, 1, []), (57, .if_icmp .ne 38, 3, [95]), (60, .aload_n 1, 1, []), (61, .bipush 6, 2, []), (63, .invokevirtual 9, 3, []), (66, .iconst 1, 1, []), (67, .if_icmp .ne 28, 3, [95]), (70, .aload_n 1, 1, []), (71, .invokevirtual 86, 3, []), (74, .bipush (-5), 2, []), (76, .if_icmp .ne 19, 3, [95]), (79, .aload_n 1, 1, []), (80, .iload 4, 2, []), (82, .iload 5, 2, []), (84, .invokevirtual 89, 3, []), (87, .iload 4, 2, []), (89, .iload 5, 2, []), (91, .imul, 1, []), (92, .if_icmp .eq 5, 3, [97]), (95, .iconst 0, 1, []), (96, .ireturn, 1, []), (97, .iconst 0, 1, []), (98, .istore 6, 2, [])]
theorem tbo_L_law_19z : tbOK cL_law tb_L_law_19z = true := by decide +kernel
def ct_L_law_19z : List (Nat × CS) := [(23, (2, 1, P_L_low, CZ_L_low)), (35, (2, 1, P_L_low, CZ_L_low)), (43, (2, 1, P_X8_value, CZ_X8_value)), (53, (2, 1, P_X8_value, CZ_X8_value)), (63, (2, 1, P_X8_value, CZ_X8_value)), (71, (1, 1, P_X8_undo, CZ_X8_undo)), (84, (3, 1, P_X8_reset, CZ_X8_reset))]
theorem sct_L_law_19z {l : Launch} {D : va_G} {cy : Nat → ClassId} {ad : Nat → Nat} (o_L_low : OKZ_L_low l D cy ad 8) (o_X8_reset : OKZ_X8_reset l D cy ad 8) (o_X8_undo : OKZ_X8_undo l D cy ad 8) (o_X8_value : OKZ_X8_value l D cy ad 8) : ∀ q ∈ ct_L_law_19z, Site l D cy ad kdZ (lnZ 8) 47 RL tb_L_law_19z room_1 q.1 q.2 := List.forall_mem_cons.mpr ⟨Or.inr (Or.inl ⟨44, 2, yL_low, cL_low, 2, (some .int), rm_L_low, rfl, rfl, o_L_low, ca_L_low, mkL_44, rfl, ⟨rfl, rfl, Nat.le_of_ble_eq_true rfl, Nat.le_of_ble_eq_true rfl⟩⟩), List.forall_mem_cons.mpr ⟨Or.inr (Or.inl ⟨44, 2, yL_low, cL_low, 2, (some .int), rm_L_low, rfl, rfl, o_L_low, ca_L_low, mkL_44, rfl, ⟨rfl, rfl, Nat.le_of_ble_eq_true rfl, Nat.le_of_ble_eq_true rfl⟩⟩), List.forall_mem_cons.mpr ⟨Or.inl ⟨9, 1, yX8_value, cX8_value, 2, (some .int), rm_X8_value, rfl, rfl, o_X8_value, ca_X8_value, mkL_9, ⟨rfl, rfl, Nat.le_of_ble_eq_true rfl, Nat.le_of_ble_eq_true rfl⟩, rvz_X8_value⟩, List.forall_mem_cons.mpr ⟨Or.inl ⟨9, 1, yX8_value, cX8_value, 2, (some .int), rm_X8_value, rfl, rfl, o_X8_value, ca_X8_value, mkL_9, ⟨rfl, rfl, Nat.le_of_ble_eq_true rfl, Nat.le_of_ble_eq_true rfl⟩, rvz_X8_value⟩, List.forall_mem_cons.mpr ⟨Or.inl ⟨9, 1, yX8_value, cX8_value, 2, (some .int), rm_X8_value, rfl, rfl, o_X8_value, ca_X8_value, mkL_9, ⟨rfl, rfl, Nat.le_of_ble_eq_true rfl, Nat.le_of_ble_eq_true rfl⟩, rvz_X8_value⟩, List.forall_mem_cons.mpr ⟨Or.inl ⟨86, 0, yX8_undo, cX8_undo, 1, (some .int), rm_X8_undo, rfl, rfl, o_X8_undo, ca_X8_undo, mkL_86, ⟨rfl, rfl, Nat.le_of_ble_eq_true rfl, Nat.le_of_ble_eq_true rfl⟩, rvz_X8_undo⟩, List.forall_mem_cons.mpr ⟨Or.inl ⟨89, 2, yX8_reset, cX8_reset, 3, (some .int), rm_X8_reset, rfl, rfl, o_X8_reset, ca_X8_reset, mkL_89, ⟨rfl, rfl, Nat.le_of_ble_eq_true rfl, Nat.le_of_ble_eq_true rfl⟩, rvz_X8_reset⟩, fun q h => absurd h List.not_mem_nil⟩⟩⟩⟩⟩⟩⟩
def js_L_law_19z (I100 : Int → Int → Int → Int → Mem → Prop) : KT := fun pc ls st M => bif Nat.beq pc 100 then jg_L_law_100 I100 ls st M else (False)
set_option maxRecDepth 100000 in
set_option maxHeartbeats 4000000 in
theorem sg_L_law_19z {p : Program} {l : Launch} {e : Env} {s : State} {m : MethodId} {args : Array Value} {below : List Frame} {meth : Method} {c : Code} {D : va_G} {cy : Nat → ClassId} {ad : Nat → Nat} {A : Nat → Prop} {cells slots : Nat} {ex : List (Nat × Value)} {H0 : Heap} {Q : State → Prop} {post : Int → Mem → Prop} (o_L_low : OKZ_L_low l D cy ad 8) (o_X8_reset : OKZ_X8_reset l D cy ad 8) (o_X8_undo : OKZ_X8_undo l D cy ad 8) (o_X8_value : OKZ_X8_value l D cy ad 8) (I100 : Int → Int → Int → Int → Mem → Prop)
    (hex : exB (ex.map Prod.fst) tb_L_law_19z = true) (C : jC p l e room_1 s m args below meth c cL_law 16 RL D cy ad kdZ (lnZ 8) 47 A cells slots H0 Q 2 post)
    (hJ100 : ∀ (w0_ : Option AV) (w7_ : Option AV) (w8_ : Option AV) (w9_ : Option AV) (w10_ : Option AV) (w11_ : Option AV) (w12_ : Option AV) (w13_ : Option AV) (w14_ : Option AV) (w15_ : Option AV) (o : Int) (a : Int) (b : Int) (i : Int) (M : Mem), I100 o a b i M → jSt p l e room_1 s m args below meth c 16 D cy ad kdZ (lnZ 8) 47 A cells slots ex H0 Q 100 [w0_, some (.inr 0), some (.inr 46), some (.inl o), some (.inl a), some (.inl b), some (.inl i), w7_, w8_, w9_, w10_, w11_, w12_, w13_, w14_, w15_] [] M)
    (w0_ : Option AV) (w4_ : Option AV) (w5_ : Option AV) (w6_ : Option AV) (w7_ : Option AV) (w8_ : Option AV) (w9_ : Option AV) (w10_ : Option AV) (w11_ : Option AV) (w12_ : Option AV) (w13_ : Option AV) (w14_ : Option AV) (w15_ : Option AV) (o : Int) (M : Mem) (h : p_L_low o 6 M ∧ ∀ (x2 : Int) (M1 : Mem), inR x2 → okM M1 → cz_L_low o 6 M x2 M1 → (inR (3 + x2) ∧ (p_L_low (bShr o 4) 6 M1 ∧ ∀ (x4 : Int) (M3 : Mem), inR x4 → okM M3 → cz_L_low (bShr o 4) 6 M1 x4 M3 → (inR (3 + x4) ∧ (p_X8_value 0 0 M3 ∧ ∀ (x6 : Int) (M5 : Mem), inR x6 → okM M5 → cz_X8_value 0 0 M3 x6 M5 → ((¬ x6 = (6 : Int) → (((0 : Int) = 0 ∨ (0 : Int) = 1) ∧ post 0 M5)) ∧ (¬ (¬ x6 = (6 : Int)) → (p_X8_value 0 1 M5 ∧ ∀ (x8 : Int) (M7 : Mem), inR x8 → okM M7 → cz_X8_value 0 1 M5 x8 M7 → ((¬ x8 = (5 : Int) → (((0 : Int) = 0 ∨ (0 : Int) = 1) ∧ post 0 M7)) ∧ (¬ (¬ x8 = (5 : Int)) → (p_X8_value 0 6 M7 ∧ ∀ (x10 : Int) (M9 : Mem), inR x10 → okM M9 → cz_X8_value 0 6 M7 x10 M9 → ((¬ x10 = (1 : Int) → (((0 : Int) = 0 ∨ (0 : Int) = 1) ∧ post 0 M9)) ∧ (¬ (¬ x10 = (1 : Int)) → (p_X8_undo 0 M9 ∧ ∀ (x12 : Int) (M11 : Mem), inR x12 → okM M11 → cz_X8_undo 0 M9 x12 M11 → ((¬ x12 = (-5 : Int) → (((0 : Int) = 0 ∨ (0 : Int) = 1) ∧ post 0 M11)) ∧ (¬ (¬ x12 = (-5 : Int)) → (p_X8_reset 0 (3 + x2) (3 + x4) M11 ∧ ∀ (x14 : Int) (M13 : Mem), inR x14 → okM M13 → cz_X8_reset 0 (3 + x2) (3 + x4) M11 x14 M13 → (inR ((3 + x2) * (3 + x4)) ∧ ((x14 = ((3 + x2) * (3 + x4)) → (I100 o (3 + x2) (3 + x4) 0 M13)) ∧ (¬ x14 = ((3 + x2) * (3 + x4)) → (((0 : Int) = 0 ∨ (0 : Int) = 1) ∧ post 0 M13))))))))))))))))))))) :
    jSt p l e room_1 s m args below meth c 16 D cy ad kdZ (lnZ 8) 47 A cells slots ex H0 Q 19 [w0_, some (.inr 0), some (.inr 46), some (.inl o), w4_, w5_, w6_, w7_, w8_, w9_, w10_, w11_, w12_, w13_, w14_, w15_] [] M := by
  refine jC_snd (cst := cstL) (cuts := [19, 100, 124, 131, 155, 187, 190, 220, 262, 281, 296, 316, 330, 349, 440, 443, 448, 511, 530]) (J := js_L_law_19z I100) C cstL_ok ⟨tb_L_law_19z, ct_L_law_19z, 47, tbo_L_law_19z, by decide, by decide, exT_of hex, sct_L_law_19z o_L_low o_X8_reset o_X8_undo o_X8_value, h⟩ ?_
  intro pc ls st M hJ
  unfold js_L_law_19z at hJ
  rcases bsel hJ with ⟨hpc, hI⟩ | hI
  all_goals clear hJ
  · obtain rfl := Nat.eq_of_beq_eq_true hpc
    unfold jg_L_law_100 at hI
    split at hI
    rotate_left
    · exact hI.elim
    exact hJ100 _ _ _ _ _ _ _ _ _ _ _ _ _ _ _ hI
  have hJ := hI
  clear hI
  exact hJ.elim
def jg_L_law_124 (I : Int → Int → Int → Int → Int → Mem → Prop) : List (Option AV) → List AV → Mem → Prop := fun ls st M => match ls, st, M with
  | [_, some (.inr 0), some (.inr 46), some (.inl o), some (.inl a), some (.inl b), some (.inl k), some (.inl i), _, _, _, _, _, _, _, _], [], M => I o a b k i M
  | _, _, _ => False
def tb_L_law_100z : TB := [(100, .iload 6, 2, []), (102, .bipush 6, 2, []), (104, .if_icmp .ge 14, 3, [118]), (107, .aload_n 2, 1, []), (108, .iload 6, 2, []), (110, .iconst 1, 1, []), (111, .iastore, 1, []), (112, .iinc 6 1, 3, []), (115, .goto (-15), 3, [100]), (118, .iconst 0, 1, []), (119, .istore 6, 2, []), (121, .iconst 0, 1, []), (122, .istore 7, 2, [])]
theorem tbo_L_law_100z : tbOK cL_law tb_L_law_100z = true := by decide +kernel
def ct_L_law_100z : List (Nat × CS) := []
theorem sct_L_law_100z {l : Launch} {D : va_G} {cy : Nat → ClassId} {ad : Nat → Nat}  : ∀ q ∈ ct_L_law_100z, Site l D cy ad kdZ (lnZ 8) 47 RL tb_L_law_100z room_1 q.1 q.2 := fun q h => absurd h List.not_mem_nil
def js_L_law_100z (I100 : Int → Int → Int → Int → Mem → Prop) (I124 : Int → Int → Int → Int → Int → Mem → Prop) : KT := fun pc ls st M => bif Nat.beq pc 100 then jg_L_law_100 I100 ls st M else (bif Nat.beq pc 124 then jg_L_law_124 I124 ls st M else (False))
set_option maxRecDepth 100000 in
set_option maxHeartbeats 4000000 in
theorem sg_L_law_100z {p : Program} {l : Launch} {e : Env} {s : State} {m : MethodId} {args : Array Value} {below : List Frame} {meth : Method} {c : Code} {D : va_G} {cy : Nat → ClassId} {ad : Nat → Nat} {A : Nat → Prop} {cells slots : Nat} {ex : List (Nat × Value)} {H0 : Heap} {Q : State → Prop} {post : Int → Mem → Prop}  (I100 : Int → Int → Int → Int → Mem → Prop) (I124 : Int → Int → Int → Int → Int → Mem → Prop)
    (hex : exB (ex.map Prod.fst) tb_L_law_100z = true) (C : jC p l e room_1 s m args below meth c cL_law 16 RL D cy ad kdZ (lnZ 8) 47 A cells slots H0 Q 2 post)
    (hJ100 : ∀ (w0_ : Option AV) (w7_ : Option AV) (w8_ : Option AV) (w9_ : Option AV) (w10_ : Option AV) (w11_ : Option AV) (w12_ : Option AV) (w13_ : Option AV) (w14_ : Option AV) (w15_ : Option AV) (o : Int) (a : Int) (b : Int) (i : Int) (M : Mem), I100 o a b i M → jSt p l e room_1 s m args below meth c 16 D cy ad kdZ (lnZ 8) 47 A cells slots ex H0 Q 100 [w0_, some (.inr 0), some (.inr 46), some (.inl o), some (.inl a), some (.inl b), some (.inl i), w7_, w8_, w9_, w10_, w11_, w12_, w13_, w14_, w15_] [] M)
    (hJ124 : ∀ (w0_ : Option AV) (w8_ : Option AV) (w9_ : Option AV) (w10_ : Option AV) (w11_ : Option AV) (w12_ : Option AV) (w13_ : Option AV) (w14_ : Option AV) (w15_ : Option AV) (o : Int) (a : Int) (b : Int) (k : Int) (i : Int) (M : Mem), I124 o a b k i M → jSt p l e room_1 s m args below meth c 16 D cy ad kdZ (lnZ 8) 47 A cells slots ex H0 Q 124 [w0_, some (.inr 0), some (.inr 46), some (.inl o), some (.inl a), some (.inl b), some (.inl k), some (.inl i), w8_, w9_, w10_, w11_, w12_, w13_, w14_, w15_] [] M)
    (w0_ : Option AV) (w7_ : Option AV) (w8_ : Option AV) (w9_ : Option AV) (w10_ : Option AV) (w11_ : Option AV) (w12_ : Option AV) (w13_ : Option AV) (w14_ : Option AV) (w15_ : Option AV) (o : Int) (a : Int) (b : Int) (i : Int) (M : Mem) (h : ((6 : Int) ≤ i → (I124 o a b 0 0 M)) ∧ (¬ (6 : Int) ≤ i → (kdZ 46 = 21 ∧ (0 ≤ i ∧ i < 8) ∧ (inR (i + 1) ∧ (I100 o a b (i + 1) (up M 46 (i).toNat 1)))))) :
    jSt p l e room_1 s m args below meth c 16 D cy ad kdZ (lnZ 8) 47 A cells slots ex H0 Q 100 [w0_, some (.inr 0), some (.inr 46), some (.inl o), some (.inl a), some (.inl b), some (.inl i), w7_, w8_, w9_, w10_, w11_, w12_, w13_, w14_, w15_] [] M := by
  refine jC_snd (cst := cstL) (cuts := [19, 100, 124, 131, 155, 187, 190, 220, 262, 281, 296, 316, 330, 349, 440, 443, 448, 511, 530]) (J := js_L_law_100z I100 I124) C cstL_ok ⟨tb_L_law_100z, ct_L_law_100z, 15, tbo_L_law_100z, by decide, by decide, exT_of hex, sct_L_law_100z , h⟩ ?_
  intro pc ls st M hJ
  unfold js_L_law_100z at hJ
  rcases bsel hJ with ⟨hpc, hI⟩ | hI
  all_goals clear hJ
  · obtain rfl := Nat.eq_of_beq_eq_true hpc
    unfold jg_L_law_100 at hI
    split at hI
    rotate_left
    · exact hI.elim
    exact hJ100 _ _ _ _ _ _ _ _ _ _ _ _ _ _ _ hI
  have hJ := hI
  clear hI
  rcases bsel hJ with ⟨hpc, hI⟩ | hI
  all_goals clear hJ
  · obtain rfl := Nat.eq_of_beq_eq_true hpc
    unfold jg_L_law_124 at hI
    split at hI
    rotate_left
    · exact hI.elim
    exact hJ124 _ _ _ _ _ _ _ _ _ _ _ _ _ _ _ hI
  have hJ := hI
  clear hI
  exact hJ.elim
def jg_L_law_131 (I : Int → Int → Int → Int → Int → Mem → Prop) : List (Option AV) → List AV → Mem → Prop := fun ls st M => match ls, st, M with
  | [_, some (.inr 0), some (.inr 46), some (.inl o), some (.inl a), some (.inl b), some (.inl k), some (.inl i), _, _, _, _, _, _, _, _], [], M => I o a b k i M
  | _, _, _ => False
def jg_L_law_511 (I : Int → Int → Int → Int → Mem → Prop) : List (Option AV) → List AV → Mem → Prop := fun ls st M => match ls, st, M with
  | [_, some (.inr 0), some (.inr 46), some (.inl o), some (.inl a), some (.inl b), some (.inl k), _, _, _, _, _, _, _, _, _], [], M => I o a b k M
  | _, _, _ => False
def tb_L_law_124z : TB := [(124, .iload 7, 2, []), (126, .bipush 22, 2, []), (128, .if_icmp .ge 383, 3, [511])]
theorem tbo_L_law_124z : tbOK cL_law tb_L_law_124z = true := by decide +kernel
def ct_L_law_124z : List (Nat × CS) := []
theorem sct_L_law_124z {l : Launch} {D : va_G} {cy : Nat → ClassId} {ad : Nat → Nat}  : ∀ q ∈ ct_L_law_124z, Site l D cy ad kdZ (lnZ 8) 47 RL tb_L_law_124z room_1 q.1 q.2 := fun q h => absurd h List.not_mem_nil
def js_L_law_124z (I131 : Int → Int → Int → Int → Int → Mem → Prop) (I511 : Int → Int → Int → Int → Mem → Prop) : KT := fun pc ls st M => bif Nat.beq pc 131 then jg_L_law_131 I131 ls st M else (bif Nat.beq pc 511 then jg_L_law_511 I511 ls st M else (False))
set_option maxRecDepth 100000 in
set_option maxHeartbeats 4000000 in
theorem sg_L_law_124z {p : Program} {l : Launch} {e : Env} {s : State} {m : MethodId} {args : Array Value} {below : List Frame} {meth : Method} {c : Code} {D : va_G} {cy : Nat → ClassId} {ad : Nat → Nat} {A : Nat → Prop} {cells slots : Nat} {ex : List (Nat × Value)} {H0 : Heap} {Q : State → Prop} {post : Int → Mem → Prop}  (I131 : Int → Int → Int → Int → Int → Mem → Prop) (I511 : Int → Int → Int → Int → Mem → Prop)
    (hex : exB (ex.map Prod.fst) tb_L_law_124z = true) (C : jC p l e room_1 s m args below meth c cL_law 16 RL D cy ad kdZ (lnZ 8) 47 A cells slots H0 Q 2 post)
    (hJ131 : ∀ (w0_ : Option AV) (w8_ : Option AV) (w9_ : Option AV) (w10_ : Option AV) (w11_ : Option AV) (w12_ : Option AV) (w13_ : Option AV) (w14_ : Option AV) (w15_ : Option AV) (o : Int) (a : Int) (b : Int) (k : Int) (i : Int) (M : Mem), I131 o a b k i M → jSt p l e room_1 s m args below meth c 16 D cy ad kdZ (lnZ 8) 47 A cells slots ex H0 Q 131 [w0_, some (.inr 0), some (.inr 46), some (.inl o), some (.inl a), some (.inl b), some (.inl k), some (.inl i), w8_, w9_, w10_, w11_, w12_, w13_, w14_, w15_] [] M)
    (hJ511 : ∀ (w0_ : Option AV) (w7_ : Option AV) (w8_ : Option AV) (w9_ : Option AV) (w10_ : Option AV) (w11_ : Option AV) (w12_ : Option AV) (w13_ : Option AV) (w14_ : Option AV) (w15_ : Option AV) (o : Int) (a : Int) (b : Int) (k : Int) (M : Mem), I511 o a b k M → jSt p l e room_1 s m args below meth c 16 D cy ad kdZ (lnZ 8) 47 A cells slots ex H0 Q 511 [w0_, some (.inr 0), some (.inr 46), some (.inl o), some (.inl a), some (.inl b), some (.inl k), w7_, w8_, w9_, w10_, w11_, w12_, w13_, w14_, w15_] [] M)
    (w0_ : Option AV) (w8_ : Option AV) (w9_ : Option AV) (w10_ : Option AV) (w11_ : Option AV) (w12_ : Option AV) (w13_ : Option AV) (w14_ : Option AV) (w15_ : Option AV) (o : Int) (a : Int) (b : Int) (k : Int) (i : Int) (M : Mem) (h : ((22 : Int) ≤ i → (I511 o a b k M)) ∧ (¬ (22 : Int) ≤ i → (I131 o a b k i M))) :
    jSt p l e room_1 s m args below meth c 16 D cy ad kdZ (lnZ 8) 47 A cells slots ex H0 Q 124 [w0_, some (.inr 0), some (.inr 46), some (.inl o), some (.inl a), some (.inl b), some (.inl k), some (.inl i), w8_, w9_, w10_, w11_, w12_, w13_, w14_, w15_] [] M := by
  refine jC_snd (cst := cstL) (cuts := [19, 100, 124, 131, 155, 187, 190, 220, 262, 281, 296, 316, 330, 349, 440, 443, 448, 511, 530]) (J := js_L_law_124z I131 I511) C cstL_ok ⟨tb_L_law_124z, ct_L_law_124z, 5, tbo_L_law_124z, by decide, by decide, exT_of hex, sct_L_law_124z , h⟩ ?_
  intro pc ls st M hJ
  unfold js_L_law_124z at hJ
  rcases bsel hJ with ⟨hpc, hI⟩ | hI
  all_goals clear hJ
  · obtain rfl := Nat.eq_of_beq_eq_true hpc
    unfold jg_L_law_131 at hI
    split at hI
    rotate_left
    · exact hI.elim
    exact hJ131 _ _ _ _ _ _ _ _ _ _ _ _ _ _ _ hI
  have hJ := hI
  clear hI
  rcases bsel hJ with ⟨hpc, hI⟩ | hI
  all_goals clear hJ
  · obtain rfl := Nat.eq_of_beq_eq_true hpc
    unfold jg_L_law_511 at hI
    split at hI
    rotate_left
    · exact hI.elim
    exact hJ511 _ _ _ _ _ _ _ _ _ _ _ _ _ _ _ hI
  have hJ := hI
  clear hI
  exact hJ.elim
def jg_L_law_187 (I : Int → Int → Int → Int → Int → Int → Int → Int → Int → Int → Int → Int → Mem → Prop) : List (Option AV) → List AV → Mem → Prop := fun ls st M => match ls, st, M with
  | [_, some (.inr 0), some (.inr 46), some (.inl o), some (.inl a), some (.inl b), some (.inl k), some (.inl i), some (.inl v), some (.inl w), some (.inl t), some (.inl r), _, _, _, _], [.inl q, .inl j, .inl f, .inr 0], M => I o a b k i v w t r q j f M
  | _, _, _ => False
def jg_L_law_220 (I : Int → Int → Int → Int → Int → Int → Int → Int → Int → Int → Mem → Prop) : List (Option AV) → List AV → Mem → Prop := fun ls st M => match ls, st, M with
  | [_, some (.inr 0), some (.inr 46), some (.inl o), some (.inl a), some (.inl b), some (.inl k), some (.inl i), some (.inl v), some (.inl w), some (.inl t), some (.inl r), some (.inl u), _, _, _], [], M => I o a b k i v w t r u M
  | _, _, _ => False
def jg_L_law_440 (I : Int → Int → Int → Int → Int → Int → Int → Int → Int → Int → Int → Int → Int → Mem → Prop) : List (Option AV) → List AV → Mem → Prop := fun ls st M => match ls, st, M with
  | [_, some (.inr 0), some (.inr 46), some (.inl o), some (.inl a), some (.inl b), some (.inl k), some (.inl i), some (.inl v), some (.inl w), some (.inl t), some (.inl r), _, _, _, _], [.inl q, .inl j, .inl f, .inl u, .inr 0], M => I o a b k i v w t r q j f u M
  | _, _, _ => False
def jg_L_law_448 (I : Int → Int → Int → Int → Int → Int → Int → Int → Mem → Prop) : List (Option AV) → List AV → Mem → Prop := fun ls st M => match ls, st, M with
  | [_, some (.inr 0), some (.inr 46), some (.inl o), some (.inl a), some (.inl b), some (.inl k), some (.inl i), some (.inl v), some (.inl w), some (.inl t), _, _, _, _, _], [], M => I o a b k i v w t M
  | _, _, _ => False
def tb_L_law_155z : TB := [(155, .iload 4, 2, []), (157, .iload 5, 2, []), (159, .imul, 1, []), (160, .istore 10, 2, []), (162, .iload 8, 2, []), (164, .bipush 20, 2, []), (166, .ishr, 1, []), (167, .bipush 6, 2, []), (169, .invokestatic 44, 3, []), (172, .istore 11, 2, []), (174, .iload 11, 2, []), (176, .iconst 3, 1, []), (177, .if_icmp .ge 22, 3, [199]), (180, .aload_n 1, 1, []), (181, .iload 8, 2, []), (183, .iload 9, 2, []), (185, .iload 6, 2, []), (199, .iload 11, 2, []), (201, .iconst 3, 1, []), (202, .if_icmp .ne 167, 3, [369]), (205, .iload 8, 2, []), (207, .iconst 1, 1, []), (208, .iand, 1, []), (209, .iconst 1, 1, []), (210, .if_icmp .ne 7, 3, [217]), (213, .iconst 1, 1, []), (214, .goto 4, 3, [218]), (217, .iconst 0, 1, []), (218, .istore 12, 2, []), (369, .iload 11, 2, []), (371, .iconst 4, 1, []), (372, .if_icmp .ne 50, 3, [422]), (375, .iload 8, 2, []), (377, .iconst 3, 1, []), (378, .invokestatic 44, 3, []), (381, .istore 12, 2, []), (383, .aload_n 2, 1, []), (384, .iload 12, 2, []), (386, .iaload, 1, []), (387, .istore 13, 2, []), (389, .aload_n 2, 1, []), (390, .iload 12, 2, []), (392, .iload 8, 2, []), (394, .iconst 4, 1, []), (395, .ishr, 1, []), (396, .bipush 10, 2, []), (398, .invokestatic 44, 3, []), (401, .iastore, 1, []), (402, .aload_n 1, 1, []), (403, .iload 12, 2, []), (405, .aload_n 2, 1, []), (406, .iload 12, 2, []), (408, .iaload, 1, []), (409, .invokevirtual 96, 3, []), (412, .iload 13, 2, []), (414, .if_icmp .eq 5, 3, [419]), (417, .iconst 0, 1, []), (418, .ireturn, 1, []), (419, .goto 29, 3, [448]), (422, .aload_n 1, 1, []), (423, .iload 8, 2, []), (425, .iload 10, 2, []), (427, .invokestatic 44, 3, []), (430, .iload 9, 2, []), (432, .iconst 3, 1, []), (433, .iand, 1, []), (434, .iload 8, 2, []), (436, .iconst 2, 1, []), (437, .ishr, 1, []), (438, .iload 9, 2, [])]
theorem tbo_L_law_155z : tbOK cL_law tb_L_law_155z = true := by decide +kernel
def ct_L_law_155z : List (Nat × CS) := [(169, (2, 1, P_L_low, CZ_L_low)), (378, (2, 1, P_L_low, CZ_L_low)), (398, (2, 1, P_L_low, CZ_L_low)), (409, (3, 1, P_X8_setWeight, CZ_X8_setWeight)), (427, (2, 1, P_L_low, CZ_L_low))]
theorem sct_L_law_155z {l : Launch} {D : va_G} {cy : Nat → ClassId} {ad : Nat → Nat} (o_L_low : OKZ_L_low l D cy ad 8) (o_X8_setWeight : OKZ_X8_setWeight l D cy ad 8) : ∀ q ∈ ct_L_law_155z, Site l D cy ad kdZ (lnZ 8) 47 RL tb_L_law_155z room_1 q.1 q.2 := List.forall_mem_cons.mpr ⟨Or.inr (Or.inl ⟨44, 2, yL_low, cL_low, 2, (some .int), rm_L_low, rfl, rfl, o_L_low, ca_L_low, mkL_44, rfl, ⟨rfl, rfl, Nat.le_of_ble_eq_true rfl, Nat.le_of_ble_eq_true rfl⟩⟩), List.forall_mem_cons.mpr ⟨Or.inr (Or.inl ⟨44, 2, yL_low, cL_low, 2, (some .int), rm_L_low, rfl, rfl, o_L_low, ca_L_low, mkL_44, rfl, ⟨rfl, rfl, Nat.le_of_ble_eq_true rfl, Nat.le_of_ble_eq_true rfl⟩⟩), List.forall_mem_cons.mpr ⟨Or.inr (Or.inl ⟨44, 2, yL_low, cL_low, 2, (some .int), rm_L_low, rfl, rfl, o_L_low, ca_L_low, mkL_44, rfl, ⟨rfl, rfl, Nat.le_of_ble_eq_true rfl, Nat.le_of_ble_eq_true rfl⟩⟩), List.forall_mem_cons.mpr ⟨Or.inl ⟨96, 2, yX8_setWeight, cX8_setWeight, 3, (some .int), rm_X8_setWeight, rfl, rfl, o_X8_setWeight, ca_X8_setWeight, mkL_96, ⟨rfl, rfl, Nat.le_of_ble_eq_true rfl, Nat.le_of_ble_eq_true rfl⟩, rvz_X8_setWeight⟩, List.forall_mem_cons.mpr ⟨Or.inr (Or.inl ⟨44, 2, yL_low, cL_low, 2, (some .int), rm_L_low, rfl, rfl, o_L_low, ca_L_low, mkL_44, rfl, ⟨rfl, rfl, Nat.le_of_ble_eq_true rfl, Nat.le_of_ble_eq_true rfl⟩⟩), fun q h => absurd h List.not_mem_nil⟩⟩⟩⟩⟩
def js_L_law_155z (I187 : Int → Int → Int → Int → Int → Int → Int → Int → Int → Int → Int → Int → Mem → Prop) (I220 : Int → Int → Int → Int → Int → Int → Int → Int → Int → Int → Mem → Prop) (I440 : Int → Int → Int → Int → Int → Int → Int → Int → Int → Int → Int → Int → Int → Mem → Prop) (I448 : Int → Int → Int → Int → Int → Int → Int → Int → Mem → Prop) : KT := fun pc ls st M => bif Nat.beq pc 187 then jg_L_law_187 I187 ls st M else (bif Nat.beq pc 220 then jg_L_law_220 I220 ls st M else (bif Nat.beq pc 440 then jg_L_law_440 I440 ls st M else (bif Nat.beq pc 448 then jg_L_law_448 I448 ls st M else (False))))
set_option maxRecDepth 100000 in
set_option maxHeartbeats 4000000 in
theorem sg_L_law_155z {p : Program} {l : Launch} {e : Env} {s : State} {m : MethodId} {args : Array Value} {below : List Frame} {meth : Method} {c : Code} {D : va_G} {cy : Nat → ClassId} {ad : Nat → Nat} {A : Nat → Prop} {cells slots : Nat} {ex : List (Nat × Value)} {H0 : Heap} {Q : State → Prop} {post : Int → Mem → Prop} (o_L_low : OKZ_L_low l D cy ad 8) (o_X8_setWeight : OKZ_X8_setWeight l D cy ad 8) (I187 : Int → Int → Int → Int → Int → Int → Int → Int → Int → Int → Int → Int → Mem → Prop) (I220 : Int → Int → Int → Int → Int → Int → Int → Int → Int → Int → Mem → Prop) (I440 : Int → Int → Int → Int → Int → Int → Int → Int → Int → Int → Int → Int → Int → Mem → Prop) (I448 : Int → Int → Int → Int → Int → Int → Int → Int → Mem → Prop)
    (hex : exB (ex.map Prod.fst) tb_L_law_155z = true) (C : jC p l e room_1 s m args below meth c cL_law 16 RL D cy ad kdZ (lnZ 8) 47 A cells slots H0 Q 2 post)
    (hJ187 : ∀ (w0_ : Option AV) (w12_ : Option AV) (w13_ : Option AV) (w14_ : Option AV) (w15_ : Option AV) (o : Int) (a : Int) (b : Int) (k : Int) (i : Int) (v : Int) (w : Int) (t : Int) (r : Int) (q : Int) (j : Int) (f : Int) (M : Mem), I187 o a b k i v w t r q j f M → jSt p l e room_1 s m args below meth c 16 D cy ad kdZ (lnZ 8) 47 A cells slots ex H0 Q 187 [w0_, some (.inr 0), some (.inr 46), some (.inl o), some (.inl a), some (.inl b), some (.inl k), some (.inl i), some (.inl v), some (.inl w), some (.inl t), some (.inl r), w12_, w13_, w14_, w15_] [.inl q, .inl j, .inl f, .inr 0] M)
    (hJ220 : ∀ (w0_ : Option AV) (w13_ : Option AV) (w14_ : Option AV) (w15_ : Option AV) (o : Int) (a : Int) (b : Int) (k : Int) (i : Int) (v : Int) (w : Int) (t : Int) (r : Int) (u : Int) (M : Mem), I220 o a b k i v w t r u M → jSt p l e room_1 s m args below meth c 16 D cy ad kdZ (lnZ 8) 47 A cells slots ex H0 Q 220 [w0_, some (.inr 0), some (.inr 46), some (.inl o), some (.inl a), some (.inl b), some (.inl k), some (.inl i), some (.inl v), some (.inl w), some (.inl t), some (.inl r), some (.inl u), w13_, w14_, w15_] [] M)
    (hJ440 : ∀ (w0_ : Option AV) (w12_ : Option AV) (w13_ : Option AV) (w14_ : Option AV) (w15_ : Option AV) (o : Int) (a : Int) (b : Int) (k : Int) (i : Int) (v : Int) (w : Int) (t : Int) (r : Int) (q : Int) (j : Int) (f : Int) (u : Int) (M : Mem), I440 o a b k i v w t r q j f u M → jSt p l e room_1 s m args below meth c 16 D cy ad kdZ (lnZ 8) 47 A cells slots ex H0 Q 440 [w0_, some (.inr 0), some (.inr 46), some (.inl o), some (.inl a), some (.inl b), some (.inl k), some (.inl i), some (.inl v), some (.inl w), some (.inl t), some (.inl r), w12_, w13_, w14_, w15_] [.inl q, .inl j, .inl f, .inl u, .inr 0] M)
    (hJ448 : ∀ (w0_ : Option AV) (w11_ : Option AV) (w12_ : Option AV) (w13_ : Option AV) (w14_ : Option AV) (w15_ : Option AV) (o : Int) (a : Int) (b : Int) (k : Int) (i : Int) (v : Int) (w : Int) (t : Int) (M : Mem), I448 o a b k i v w t M → jSt p l e room_1 s m args below meth c 16 D cy ad kdZ (lnZ 8) 47 A cells slots ex H0 Q 448 [w0_, some (.inr 0), some (.inr 46), some (.inl o), some (.inl a), some (.inl b), some (.inl k), some (.inl i), some (.inl v), some (.inl w), some (.inl t), w11_, w12_, w13_, w14_, w15_] [] M)
    (w0_ : Option AV) (w10_ : Option AV) (w11_ : Option AV) (w12_ : Option AV) (w13_ : Option AV) (w14_ : Option AV) (w15_ : Option AV) (o : Int) (a : Int) (b : Int) (k : Int) (i : Int) (v : Int) (w : Int) (M : Mem) (h : inR (a * b) ∧ (p_L_low (bShr v 20) 6 M ∧ ∀ (x2 : Int) (M1 : Mem), inR x2 → okM M1 → cz_L_low (bShr v 20) 6 M x2 M1 → (((3 : Int) ≤ x2 → ((¬ x2 = (3 : Int) → ((¬ x2 = (4 : Int) → (p_L_low v (a * b) M1 ∧ ∀ (x4 : Int) (M3 : Mem), inR x4 → okM M3 → cz_L_low v (a * b) M1 x4 M3 → (I440 o a b k i v w (a * b) x2 w (bShr v 2) (bAnd w 3) x4 M3))) ∧ (¬ (¬ x2 = (4 : Int)) → (p_L_low v 3 M1 ∧ ∀ (x6 : Int) (M5 : Mem), inR x6 → okM M5 → cz_L_low v 3 M1 x6 M5 → (kdZ 46 = 21 ∧ (0 ≤ x6 ∧ x6 < 8) ∧ (p_L_low (bShr v 4) 10 M5 ∧ ∀ (x8 : Int) (M7 : Mem), inR x8 → okM M7 → cz_L_low (bShr v 4) 10 M5 x8 M7 → (kdZ 46 = 21 ∧ (0 ≤ x6 ∧ x6 < 8) ∧ (kdZ 46 = 21 ∧ (0 ≤ x6 ∧ x6 < 8) ∧ (p_X8_setWeight 0 x6 ((up M7 46 (x6).toNat x8) 46 (x6).toNat) (up M7 46 (x6).toNat x8) ∧ ∀ (x10 : Int) (M9 : Mem), inR x10 → okM M9 → cz_X8_setWeight 0 x6 ((up M7 46 (x6).toNat x8) 46 (x6).toNat) (up M7 46 (x6).toNat x8) x10 M9 → ((x10 = (M5 46 (x6).toNat) → (I448 o a b k i v w (a * b) M9)) ∧ (¬ x10 = (M5 46 (x6).toNat) → (((0 : Int) = 0 ∨ (0 : Int) = 1) ∧ post 0 M9)))))))))))) ∧ (¬ (¬ x2 = (3 : Int)) → ((¬ (bAnd v 1) = (1 : Int) → (I220 o a b k i v w (a * b) x2 0 M1)) ∧ (¬ (¬ (bAnd v 1) = (1 : Int)) → (I220 o a b k i v w (a * b) x2 1 M1)))))) ∧ (¬ (3 : Int) ≤ x2 → (I187 o a b k i v w (a * b) x2 k w v M1))))) :
    jSt p l e room_1 s m args below meth c 16 D cy ad kdZ (lnZ 8) 47 A cells slots ex H0 Q 155 [w0_, some (.inr 0), some (.inr 46), some (.inl o), some (.inl a), some (.inl b), some (.inl k), some (.inl i), some (.inl v), some (.inl w), w10_, w11_, w12_, w13_, w14_, w15_] [] M := by
  refine jC_snd (cst := cstL) (cuts := [19, 100, 124, 131, 155, 187, 190, 220, 262, 281, 296, 316, 330, 349, 440, 443, 448, 511, 530]) (J := js_L_law_155z I187 I220 I440 I448) C cstL_ok ⟨tb_L_law_155z, ct_L_law_155z, 72, tbo_L_law_155z, by decide, by decide, exT_of hex, sct_L_law_155z o_L_low o_X8_setWeight, h⟩ ?_
  intro pc ls st M hJ
  unfold js_L_law_155z at hJ
  rcases bsel hJ with ⟨hpc, hI⟩ | hI
  all_goals clear hJ
  · obtain rfl := Nat.eq_of_beq_eq_true hpc
    unfold jg_L_law_187 at hI
    split at hI
    rotate_left
    · exact hI.elim
    exact hJ187 _ _ _ _ _ _ _ _ _ _ _ _ _ _ _ _ _ _ hI
  have hJ := hI
  clear hI
  rcases bsel hJ with ⟨hpc, hI⟩ | hI
  all_goals clear hJ
  · obtain rfl := Nat.eq_of_beq_eq_true hpc
    unfold jg_L_law_220 at hI
    split at hI
    rotate_left
    · exact hI.elim
    exact hJ220 _ _ _ _ _ _ _ _ _ _ _ _ _ _ _ hI
  have hJ := hI
  clear hI
  rcases bsel hJ with ⟨hpc, hI⟩ | hI
  all_goals clear hJ
  · obtain rfl := Nat.eq_of_beq_eq_true hpc
    unfold jg_L_law_440 at hI
    split at hI
    rotate_left
    · exact hI.elim
    exact hJ440 _ _ _ _ _ _ _ _ _ _ _ _ _ _ _ _ _ _ _ hI
  have hJ := hI
  clear hI
  rcases bsel hJ with ⟨hpc, hI⟩ | hI
  all_goals clear hJ
  · obtain rfl := Nat.eq_of_beq_eq_true hpc
    unfold jg_L_law_448 at hI
    split at hI
    rotate_left
    · exact hI.elim
    exact hJ448 _ _ _ _ _ _ _ _ _ _ _ _ _ _ _ hI
  have hJ := hI
  clear hI
  exact hJ.elim
def tb_L_law_190z : TB := [(190, .istore 6, 2, []), (192, .iload 6, 2, []), (194, .ifCond .ge 254, 3, [448]), (197, .iconst 0, 1, []), (198, .ireturn, 1, [])]
theorem tbo_L_law_190z : tbOK cL_law tb_L_law_190z = true := by decide +kernel
def ct_L_law_190z : List (Nat × CS) := []
theorem sct_L_law_190z {l : Launch} {D : va_G} {cy : Nat → ClassId} {ad : Nat → Nat}  : ∀ q ∈ ct_L_law_190z, Site l D cy ad kdZ (lnZ 8) 47 RL tb_L_law_190z room_1 q.1 q.2 := fun q h => absurd h List.not_mem_nil
def js_L_law_190z (I448 : Int → Int → Int → Int → Int → Int → Int → Int → Mem → Prop) : KT := fun pc ls st M => bif Nat.beq pc 448 then jg_L_law_448 I448 ls st M else (False)
set_option maxRecDepth 100000 in
set_option maxHeartbeats 4000000 in
theorem sg_L_law_190z {p : Program} {l : Launch} {e : Env} {s : State} {m : MethodId} {args : Array Value} {below : List Frame} {meth : Method} {c : Code} {D : va_G} {cy : Nat → ClassId} {ad : Nat → Nat} {A : Nat → Prop} {cells slots : Nat} {ex : List (Nat × Value)} {H0 : Heap} {Q : State → Prop} {post : Int → Mem → Prop}  (I448 : Int → Int → Int → Int → Int → Int → Int → Int → Mem → Prop)
    (hex : exB (ex.map Prod.fst) tb_L_law_190z = true) (C : jC p l e room_1 s m args below meth c cL_law 16 RL D cy ad kdZ (lnZ 8) 47 A cells slots H0 Q 2 post)
    (hJ448 : ∀ (w0_ : Option AV) (w11_ : Option AV) (w12_ : Option AV) (w13_ : Option AV) (w14_ : Option AV) (w15_ : Option AV) (o : Int) (a : Int) (b : Int) (k : Int) (i : Int) (v : Int) (w : Int) (t : Int) (M : Mem), I448 o a b k i v w t M → jSt p l e room_1 s m args below meth c 16 D cy ad kdZ (lnZ 8) 47 A cells slots ex H0 Q 448 [w0_, some (.inr 0), some (.inr 46), some (.inl o), some (.inl a), some (.inl b), some (.inl k), some (.inl i), some (.inl v), some (.inl w), some (.inl t), w11_, w12_, w13_, w14_, w15_] [] M)
    (w0_ : Option AV) (w12_ : Option AV) (w13_ : Option AV) (w14_ : Option AV) (w15_ : Option AV) (o : Int) (a : Int) (b : Int) (k : Int) (i : Int) (v : Int) (w : Int) (t : Int) (r : Int) (q : Int) (M : Mem) (h : ((0 : Int) ≤ q → (I448 o a b q i v w t M)) ∧ (¬ (0 : Int) ≤ q → (((0 : Int) = 0 ∨ (0 : Int) = 1) ∧ post 0 M))) :
    jSt p l e room_1 s m args below meth c 16 D cy ad kdZ (lnZ 8) 47 A cells slots ex H0 Q 190 [w0_, some (.inr 0), some (.inr 46), some (.inl o), some (.inl a), some (.inl b), some (.inl k), some (.inl i), some (.inl v), some (.inl w), some (.inl t), some (.inl r), w12_, w13_, w14_, w15_] [.inl q] M := by
  refine jC_snd (cst := cstL) (cuts := [19, 100, 124, 131, 155, 187, 190, 220, 262, 281, 296, 316, 330, 349, 440, 443, 448, 511, 530]) (J := js_L_law_190z I448) C cstL_ok ⟨tb_L_law_190z, ct_L_law_190z, 7, tbo_L_law_190z, by decide, by decide, exT_of hex, sct_L_law_190z , h⟩ ?_
  intro pc ls st M hJ
  unfold js_L_law_190z at hJ
  rcases bsel hJ with ⟨hpc, hI⟩ | hI
  all_goals clear hJ
  · obtain rfl := Nat.eq_of_beq_eq_true hpc
    unfold jg_L_law_448 at hI
    split at hI
    rotate_left
    · exact hI.elim
    exact hJ448 _ _ _ _ _ _ _ _ _ _ _ _ _ _ _ hI
  have hJ := hI
  clear hI
  exact hJ.elim
def jg_L_law_262 (I : Int → Int → Int → Int → Int → Int → Int → Int → Int → Int → Int → Int → Int → Mem → Prop) : List (Option AV) → List AV → Mem → Prop := fun ls st M => match ls, st, M with
  | [_, some (.inr 0), some (.inr 46), some (.inl o), some (.inl a), some (.inl b), some (.inl k), some (.inl i), some (.inl v), some (.inl w), some (.inl t), some (.inl r), some (.inl u), some (.inl y), some (.inl d), _], [.inl q, .inr 0], M => I o a b k i v w t r u y d q M
  | _, _, _ => False
def tb_L_law_220z : TB := [(220, .iload 8, 2, []), (222, .iconst 1, 1, []), (223, .ishr, 1, []), (224, .iconst 3, 1, []), (225, .invokestatic 44, 3, []), (228, .istore 13, 2, []), (230, .iload 8, 2, []), (232, .iconst 4, 1, []), (233, .ishr, 1, []), (234, .iload 12, 2, []), (236, .ifCond .eq 8, 3, [244]), (239, .iload 4, 2, []), (241, .goto 5, 3, [246]), (244, .iload 5, 2, []), (246, .invokestatic 44, 3, []), (249, .istore 14, 2, []), (251, .aload_n 1, 1, []), (252, .iload 12, 2, []), (254, .ifCond .eq 7, 3, [261]), (257, .iconst 4, 1, []), (258, .goto 4, 3, [262]), (261, .iconst 2, 1, [])]
theorem tbo_L_law_220z : tbOK cL_law tb_L_law_220z = true := by decide +kernel
def ct_L_law_220z : List (Nat × CS) := [(225, (2, 1, P_L_low, CZ_L_low)), (246, (2, 1, P_L_low, CZ_L_low))]
theorem sct_L_law_220z {l : Launch} {D : va_G} {cy : Nat → ClassId} {ad : Nat → Nat} (o_L_low : OKZ_L_low l D cy ad 8) : ∀ q ∈ ct_L_law_220z, Site l D cy ad kdZ (lnZ 8) 47 RL tb_L_law_220z room_1 q.1 q.2 := List.forall_mem_cons.mpr ⟨Or.inr (Or.inl ⟨44, 2, yL_low, cL_low, 2, (some .int), rm_L_low, rfl, rfl, o_L_low, ca_L_low, mkL_44, rfl, ⟨rfl, rfl, Nat.le_of_ble_eq_true rfl, Nat.le_of_ble_eq_true rfl⟩⟩), List.forall_mem_cons.mpr ⟨Or.inr (Or.inl ⟨44, 2, yL_low, cL_low, 2, (some .int), rm_L_low, rfl, rfl, o_L_low, ca_L_low, mkL_44, rfl, ⟨rfl, rfl, Nat.le_of_ble_eq_true rfl, Nat.le_of_ble_eq_true rfl⟩⟩), fun q h => absurd h List.not_mem_nil⟩⟩
def js_L_law_220z (I262 : Int → Int → Int → Int → Int → Int → Int → Int → Int → Int → Int → Int → Int → Mem → Prop) : KT := fun pc ls st M => bif Nat.beq pc 262 then jg_L_law_262 I262 ls st M else (False)
set_option maxRecDepth 100000 in
set_option maxHeartbeats 4000000 in
theorem sg_L_law_220z {p : Program} {l : Launch} {e : Env} {s : State} {m : MethodId} {args : Array Value} {below : List Frame} {meth : Method} {c : Code} {D : va_G} {cy : Nat → ClassId} {ad : Nat → Nat} {A : Nat → Prop} {cells slots : Nat} {ex : List (Nat × Value)} {H0 : Heap} {Q : State → Prop} {post : Int → Mem → Prop} (o_L_low : OKZ_L_low l D cy ad 8) (I262 : Int → Int → Int → Int → Int → Int → Int → Int → Int → Int → Int → Int → Int → Mem → Prop)
    (hex : exB (ex.map Prod.fst) tb_L_law_220z = true) (C : jC p l e room_1 s m args below meth c cL_law 16 RL D cy ad kdZ (lnZ 8) 47 A cells slots H0 Q 2 post)
    (hJ262 : ∀ (w0_ : Option AV) (w15_ : Option AV) (o : Int) (a : Int) (b : Int) (k : Int) (i : Int) (v : Int) (w : Int) (t : Int) (r : Int) (u : Int) (y : Int) (d : Int) (q : Int) (M : Mem), I262 o a b k i v w t r u y d q M → jSt p l e room_1 s m args below meth c 16 D cy ad kdZ (lnZ 8) 47 A cells slots ex H0 Q 262 [w0_, some (.inr 0), some (.inr 46), some (.inl o), some (.inl a), some (.inl b), some (.inl k), some (.inl i), some (.inl v), some (.inl w), some (.inl t), some (.inl r), some (.inl u), some (.inl y), some (.inl d), w15_] [.inl q, .inr 0] M)
    (w0_ : Option AV) (w13_ : Option AV) (w14_ : Option AV) (w15_ : Option AV) (o : Int) (a : Int) (b : Int) (k : Int) (i : Int) (v : Int) (w : Int) (t : Int) (r : Int) (u : Int) (M : Mem) (h : p_L_low (bShr v 1) 3 M ∧ ∀ (x2 : Int) (M1 : Mem), inR x2 → okM M1 → cz_L_low (bShr v 1) 3 M x2 M1 → ((u = (0 : Int) → (p_L_low (bShr v 4) b M1 ∧ ∀ (x4 : Int) (M3 : Mem), inR x4 → okM M3 → cz_L_low (bShr v 4) b M1 x4 M3 → ((u = (0 : Int) → (I262 o a b k i v w t r u x2 x4 2 M3)) ∧ (¬ u = (0 : Int) → (I262 o a b k i v w t r u x2 x4 4 M3))))) ∧ (¬ u = (0 : Int) → (p_L_low (bShr v 4) a M1 ∧ ∀ (x6 : Int) (M5 : Mem), inR x6 → okM M5 → cz_L_low (bShr v 4) a M1 x6 M5 → ((u = (0 : Int) → (I262 o a b k i v w t r u x2 x6 2 M5)) ∧ (¬ u = (0 : Int) → (I262 o a b k i v w t r u x2 x6 4 M5))))))) :
    jSt p l e room_1 s m args below meth c 16 D cy ad kdZ (lnZ 8) 47 A cells slots ex H0 Q 220 [w0_, some (.inr 0), some (.inr 46), some (.inl o), some (.inl a), some (.inl b), some (.inl k), some (.inl i), some (.inl v), some (.inl w), some (.inl t), some (.inl r), some (.inl u), w13_, w14_, w15_] [] M := by
  refine jC_snd (cst := cstL) (cuts := [19, 100, 124, 131, 155, 187, 190, 220, 262, 281, 296, 316, 330, 349, 440, 443, 448, 511, 530]) (J := js_L_law_220z I262) C cstL_ok ⟨tb_L_law_220z, ct_L_law_220z, 24, tbo_L_law_220z, by decide, by decide, exT_of hex, sct_L_law_220z o_L_low, h⟩ ?_
  intro pc ls st M hJ
  unfold js_L_law_220z at hJ
  rcases bsel hJ with ⟨hpc, hI⟩ | hI
  all_goals clear hJ
  · obtain rfl := Nat.eq_of_beq_eq_true hpc
    unfold jg_L_law_262 at hI
    split at hI
    rotate_left
    · exact hI.elim
    exact hJ262 _ _ _ _ _ _ _ _ _ _ _ _ _ _ _ _ hI
  have hJ := hI
  clear hI
  exact hJ.elim
def jg_L_law_281 (I : Int → Int → Int → Int → Int → Int → Int → Int → Int → Int → Int → Int → Int → Mem → Prop) : List (Option AV) → List AV → Mem → Prop := fun ls st M => match ls, st, M with
  | [_, some (.inr 0), some (.inr 46), some (.inl o), some (.inl a), some (.inl b), some (.inl k), some (.inl i), some (.inl v), some (.inl w), some (.inl t), some (.inl r), some (.inl u), some (.inl y), some (.inl d), _], [.inl q, .inr 0], M => I o a b k i v w t r u y d q M
  | _, _, _ => False
def jg_L_law_296 (I : Int → Int → Int → Int → Int → Int → Int → Int → Int → Int → Int → Int → Int → Mem → Prop) : List (Option AV) → List AV → Mem → Prop := fun ls st M => match ls, st, M with
  | [_, some (.inr 0), some (.inr 46), some (.inl o), some (.inl a), some (.inl b), some (.inl k), some (.inl i), some (.inl v), some (.inl w), some (.inl t), some (.inl r), some (.inl u), some (.inl y), some (.inl d), some (.inl f)], [], M => I o a b k i v w t r u y d f M
  | _, _, _ => False
def tb_L_law_262z : TB := [(262, .invokevirtual 9, 3, []), (265, .iload 13, 2, []), (267, .if_icmp .ne 26, 3, [293]), (270, .aload_n 1, 1, []), (271, .iload 12, 2, []), (273, .ifCond .eq 7, 3, [280]), (276, .iconst 5, 1, []), (277, .goto 4, 3, [281]), (280, .iconst 3, 1, []), (293, .iconst 0, 1, []), (294, .istore 15, 2, [])]
theorem tbo_L_law_262z : tbOK cL_law tb_L_law_262z = true := by decide +kernel
def ct_L_law_262z : List (Nat × CS) := [(262, (2, 1, P_X8_value, CZ_X8_value))]
theorem sct_L_law_262z {l : Launch} {D : va_G} {cy : Nat → ClassId} {ad : Nat → Nat} (o_X8_value : OKZ_X8_value l D cy ad 8) : ∀ q ∈ ct_L_law_262z, Site l D cy ad kdZ (lnZ 8) 47 RL tb_L_law_262z room_1 q.1 q.2 := List.forall_mem_cons.mpr ⟨Or.inl ⟨9, 1, yX8_value, cX8_value, 2, (some .int), rm_X8_value, rfl, rfl, o_X8_value, ca_X8_value, mkL_9, ⟨rfl, rfl, Nat.le_of_ble_eq_true rfl, Nat.le_of_ble_eq_true rfl⟩, rvz_X8_value⟩, fun q h => absurd h List.not_mem_nil⟩
def js_L_law_262z (I281 : Int → Int → Int → Int → Int → Int → Int → Int → Int → Int → Int → Int → Int → Mem → Prop) (I296 : Int → Int → Int → Int → Int → Int → Int → Int → Int → Int → Int → Int → Int → Mem → Prop) : KT := fun pc ls st M => bif Nat.beq pc 281 then jg_L_law_281 I281 ls st M else (bif Nat.beq pc 296 then jg_L_law_296 I296 ls st M else (False))
set_option maxRecDepth 100000 in
set_option maxHeartbeats 4000000 in
theorem sg_L_law_262z {p : Program} {l : Launch} {e : Env} {s : State} {m : MethodId} {args : Array Value} {below : List Frame} {meth : Method} {c : Code} {D : va_G} {cy : Nat → ClassId} {ad : Nat → Nat} {A : Nat → Prop} {cells slots : Nat} {ex : List (Nat × Value)} {H0 : Heap} {Q : State → Prop} {post : Int → Mem → Prop} (o_X8_value : OKZ_X8_value l D cy ad 8) (I281 : Int → Int → Int → Int → Int → Int → Int → Int → Int → Int → Int → Int → Int → Mem → Prop) (I296 : Int → Int → Int → Int → Int → Int → Int → Int → Int → Int → Int → Int → Int → Mem → Prop)
    (hex : exB (ex.map Prod.fst) tb_L_law_262z = true) (C : jC p l e room_1 s m args below meth c cL_law 16 RL D cy ad kdZ (lnZ 8) 47 A cells slots H0 Q 2 post)
    (hJ281 : ∀ (w0_ : Option AV) (w15_ : Option AV) (o : Int) (a : Int) (b : Int) (k : Int) (i : Int) (v : Int) (w : Int) (t : Int) (r : Int) (u : Int) (y : Int) (d : Int) (q : Int) (M : Mem), I281 o a b k i v w t r u y d q M → jSt p l e room_1 s m args below meth c 16 D cy ad kdZ (lnZ 8) 47 A cells slots ex H0 Q 281 [w0_, some (.inr 0), some (.inr 46), some (.inl o), some (.inl a), some (.inl b), some (.inl k), some (.inl i), some (.inl v), some (.inl w), some (.inl t), some (.inl r), some (.inl u), some (.inl y), some (.inl d), w15_] [.inl q, .inr 0] M)
    (hJ296 : ∀ (w0_ : Option AV) (o : Int) (a : Int) (b : Int) (k : Int) (i : Int) (v : Int) (w : Int) (t : Int) (r : Int) (u : Int) (y : Int) (d : Int) (f : Int) (M : Mem), I296 o a b k i v w t r u y d f M → jSt p l e room_1 s m args below meth c 16 D cy ad kdZ (lnZ 8) 47 A cells slots ex H0 Q 296 [w0_, some (.inr 0), some (.inr 46), some (.inl o), some (.inl a), some (.inl b), some (.inl k), some (.inl i), some (.inl v), some (.inl w), some (.inl t), some (.inl r), some (.inl u), some (.inl y), some (.inl d), some (.inl f)] [] M)
    (w0_ : Option AV) (w15_ : Option AV) (o : Int) (a : Int) (b : Int) (k : Int) (i : Int) (v : Int) (w : Int) (t : Int) (r : Int) (u : Int) (y : Int) (d : Int) (q : Int) (M : Mem) (h : p_X8_value 0 q M ∧ ∀ (x2 : Int) (M1 : Mem), inR x2 → okM M1 → cz_X8_value 0 q M x2 M1 → ((¬ x2 = y → (I296 o a b k i v w t r u y d 0 M1)) ∧ (¬ (¬ x2 = y) → ((u = (0 : Int) → (I281 o a b k i v w t r u y d 3 M1)) ∧ (¬ u = (0 : Int) → (I281 o a b k i v w t r u y d 5 M1)))))) :
    jSt p l e room_1 s m args below meth c 16 D cy ad kdZ (lnZ 8) 47 A cells slots ex H0 Q 262 [w0_, some (.inr 0), some (.inr 46), some (.inl o), some (.inl a), some (.inl b), some (.inl k), some (.inl i), some (.inl v), some (.inl w), some (.inl t), some (.inl r), some (.inl u), some (.inl y), some (.inl d), w15_] [.inl q, .inr 0] M := by
  refine jC_snd (cst := cstL) (cuts := [19, 100, 124, 131, 155, 187, 190, 220, 262, 281, 296, 316, 330, 349, 440, 443, 448, 511, 530]) (J := js_L_law_262z I281 I296) C cstL_ok ⟨tb_L_law_262z, ct_L_law_262z, 13, tbo_L_law_262z, by decide, by decide, exT_of hex, sct_L_law_262z o_X8_value, h⟩ ?_
  intro pc ls st M hJ
  unfold js_L_law_262z at hJ
  rcases bsel hJ with ⟨hpc, hI⟩ | hI
  all_goals clear hJ
  · obtain rfl := Nat.eq_of_beq_eq_true hpc
    unfold jg_L_law_281 at hI
    split at hI
    rotate_left
    · exact hI.elim
    exact hJ281 _ _ _ _ _ _ _ _ _ _ _ _ _ _ _ _ hI
  have hJ := hI
  clear hI
  rcases bsel hJ with ⟨hpc, hI⟩ | hI
  all_goals clear hJ
  · obtain rfl := Nat.eq_of_beq_eq_true hpc
    unfold jg_L_law_296 at hI
    split at hI
    rotate_left
    · exact hI.elim
    exact hJ296 _ _ _ _ _ _ _ _ _ _ _ _ _ _ _ hI
  have hJ := hI
  clear hI
  exact hJ.elim
def tb_L_law_281z : TB := [(281, .invokevirtual 9, 3, []), (284, .iload 14, 2, []), (286, .if_icmp .ne 7, 3, [293]), (289, .iconst 1, 1, []), (290, .goto 4, 3, [294]), (293, .iconst 0, 1, []), (294, .istore 15, 2, [])]
theorem tbo_L_law_281z : tbOK cL_law tb_L_law_281z = true := by decide +kernel
def ct_L_law_281z : List (Nat × CS) := [(281, (2, 1, P_X8_value, CZ_X8_value))]
theorem sct_L_law_281z {l : Launch} {D : va_G} {cy : Nat → ClassId} {ad : Nat → Nat} (o_X8_value : OKZ_X8_value l D cy ad 8) : ∀ q ∈ ct_L_law_281z, Site l D cy ad kdZ (lnZ 8) 47 RL tb_L_law_281z room_1 q.1 q.2 := List.forall_mem_cons.mpr ⟨Or.inl ⟨9, 1, yX8_value, cX8_value, 2, (some .int), rm_X8_value, rfl, rfl, o_X8_value, ca_X8_value, mkL_9, ⟨rfl, rfl, Nat.le_of_ble_eq_true rfl, Nat.le_of_ble_eq_true rfl⟩, rvz_X8_value⟩, fun q h => absurd h List.not_mem_nil⟩
def js_L_law_281z (I296 : Int → Int → Int → Int → Int → Int → Int → Int → Int → Int → Int → Int → Int → Mem → Prop) : KT := fun pc ls st M => bif Nat.beq pc 296 then jg_L_law_296 I296 ls st M else (False)
set_option maxRecDepth 100000 in
set_option maxHeartbeats 4000000 in
theorem sg_L_law_281z {p : Program} {l : Launch} {e : Env} {s : State} {m : MethodId} {args : Array Value} {below : List Frame} {meth : Method} {c : Code} {D : va_G} {cy : Nat → ClassId} {ad : Nat → Nat} {A : Nat → Prop} {cells slots : Nat} {ex : List (Nat × Value)} {H0 : Heap} {Q : State → Prop} {post : Int → Mem → Prop} (o_X8_value : OKZ_X8_value l D cy ad 8) (I296 : Int → Int → Int → Int → Int → Int → Int → Int → Int → Int → Int → Int → Int → Mem → Prop)
    (hex : exB (ex.map Prod.fst) tb_L_law_281z = true) (C : jC p l e room_1 s m args below meth c cL_law 16 RL D cy ad kdZ (lnZ 8) 47 A cells slots H0 Q 2 post)
    (hJ296 : ∀ (w0_ : Option AV) (o : Int) (a : Int) (b : Int) (k : Int) (i : Int) (v : Int) (w : Int) (t : Int) (r : Int) (u : Int) (y : Int) (d : Int) (f : Int) (M : Mem), I296 o a b k i v w t r u y d f M → jSt p l e room_1 s m args below meth c 16 D cy ad kdZ (lnZ 8) 47 A cells slots ex H0 Q 296 [w0_, some (.inr 0), some (.inr 46), some (.inl o), some (.inl a), some (.inl b), some (.inl k), some (.inl i), some (.inl v), some (.inl w), some (.inl t), some (.inl r), some (.inl u), some (.inl y), some (.inl d), some (.inl f)] [] M)
    (w0_ : Option AV) (w15_ : Option AV) (o : Int) (a : Int) (b : Int) (k : Int) (i : Int) (v : Int) (w : Int) (t : Int) (r : Int) (u : Int) (y : Int) (d : Int) (q : Int) (M : Mem) (h : p_X8_value 0 q M ∧ ∀ (x2 : Int) (M1 : Mem), inR x2 → okM M1 → cz_X8_value 0 q M x2 M1 → ((¬ x2 = d → (I296 o a b k i v w t r u y d 0 M1)) ∧ (¬ (¬ x2 = d) → (I296 o a b k i v w t r u y d 1 M1)))) :
    jSt p l e room_1 s m args below meth c 16 D cy ad kdZ (lnZ 8) 47 A cells slots ex H0 Q 281 [w0_, some (.inr 0), some (.inr 46), some (.inl o), some (.inl a), some (.inl b), some (.inl k), some (.inl i), some (.inl v), some (.inl w), some (.inl t), some (.inl r), some (.inl u), some (.inl y), some (.inl d), w15_] [.inl q, .inr 0] M := by
  refine jC_snd (cst := cstL) (cuts := [19, 100, 124, 131, 155, 187, 190, 220, 262, 281, 296, 316, 330, 349, 440, 443, 448, 511, 530]) (J := js_L_law_281z I296) C cstL_ok ⟨tb_L_law_281z, ct_L_law_281z, 9, tbo_L_law_281z, by decide, by decide, exT_of hex, sct_L_law_281z o_X8_value, h⟩ ?_
  intro pc ls st M hJ
  unfold js_L_law_281z at hJ
  rcases bsel hJ with ⟨hpc, hI⟩ | hI
  all_goals clear hJ
  · obtain rfl := Nat.eq_of_beq_eq_true hpc
    unfold jg_L_law_296 at hI
    split at hI
    rotate_left
    · exact hI.elim
    exact hJ296 _ _ _ _ _ _ _ _ _ _ _ _ _ _ _ hI
  have hJ := hI
  clear hI
  exact hJ.elim
def jg_L_law_316 (I : Int → Int → Int → Int → Int → Int → Int → Int → Int → Int → Int → Int → Int → Int → Int → Mem → Prop) : List (Option AV) → List AV → Mem → Prop := fun ls st M => match ls, st, M with
  | [_, some (.inr 0), some (.inr 46), some (.inl o), some (.inl a), some (.inl b), some (.inl k), some (.inl i), some (.inl v), some (.inl w), some (.inl t), some (.inl r), some (.inl u), some (.inl y), some (.inl d), some (.inl f)], [.inl q, .inl j], M => I o a b k i v w t r u y d f q j M
  | _, _, _ => False
def tb_L_law_296z : TB := [(296, .aload_n 1, 1, []), (297, .iload 12, 2, []), (299, .iload 13, 2, []), (301, .iload 14, 2, []), (303, .invokevirtual 92, 3, []), (306, .iload 15, 2, []), (308, .ifCond .eq 7, 3, [315]), (311, .iconst 0, 1, []), (312, .goto 4, 3, [316]), (315, .iconst 1, 1, [])]
theorem tbo_L_law_296z : tbOK cL_law tb_L_law_296z = true := by decide +kernel
def ct_L_law_296z : List (Nat × CS) := [(303, (4, 1, P_X8_setSeam, CZ_X8_setSeam))]
theorem sct_L_law_296z {l : Launch} {D : va_G} {cy : Nat → ClassId} {ad : Nat → Nat} (o_X8_setSeam : OKZ_X8_setSeam l D cy ad 8) : ∀ q ∈ ct_L_law_296z, Site l D cy ad kdZ (lnZ 8) 47 RL tb_L_law_296z room_1 q.1 q.2 := List.forall_mem_cons.mpr ⟨Or.inl ⟨92, 3, yX8_setSeam, cX8_setSeam, 5, (some .int), rm_X8_setSeam, rfl, rfl, o_X8_setSeam, ca_X8_setSeam, mkL_92, ⟨rfl, rfl, Nat.le_of_ble_eq_true rfl, Nat.le_of_ble_eq_true rfl⟩, rvz_X8_setSeam⟩, fun q h => absurd h List.not_mem_nil⟩
def js_L_law_296z (I316 : Int → Int → Int → Int → Int → Int → Int → Int → Int → Int → Int → Int → Int → Int → Int → Mem → Prop) : KT := fun pc ls st M => bif Nat.beq pc 316 then jg_L_law_316 I316 ls st M else (False)
set_option maxRecDepth 100000 in
set_option maxHeartbeats 4000000 in
theorem sg_L_law_296z {p : Program} {l : Launch} {e : Env} {s : State} {m : MethodId} {args : Array Value} {below : List Frame} {meth : Method} {c : Code} {D : va_G} {cy : Nat → ClassId} {ad : Nat → Nat} {A : Nat → Prop} {cells slots : Nat} {ex : List (Nat × Value)} {H0 : Heap} {Q : State → Prop} {post : Int → Mem → Prop} (o_X8_setSeam : OKZ_X8_setSeam l D cy ad 8) (I316 : Int → Int → Int → Int → Int → Int → Int → Int → Int → Int → Int → Int → Int → Int → Int → Mem → Prop)
    (hex : exB (ex.map Prod.fst) tb_L_law_296z = true) (C : jC p l e room_1 s m args below meth c cL_law 16 RL D cy ad kdZ (lnZ 8) 47 A cells slots H0 Q 2 post)
    (hJ316 : ∀ (w0_ : Option AV) (o : Int) (a : Int) (b : Int) (k : Int) (i : Int) (v : Int) (w : Int) (t : Int) (r : Int) (u : Int) (y : Int) (d : Int) (f : Int) (q : Int) (j : Int) (M : Mem), I316 o a b k i v w t r u y d f q j M → jSt p l e room_1 s m args below meth c 16 D cy ad kdZ (lnZ 8) 47 A cells slots ex H0 Q 316 [w0_, some (.inr 0), some (.inr 46), some (.inl o), some (.inl a), some (.inl b), some (.inl k), some (.inl i), some (.inl v), some (.inl w), some (.inl t), some (.inl r), some (.inl u), some (.inl y), some (.inl d), some (.inl f)] [.inl q, .inl j] M)
    (w0_ : Option AV) (o : Int) (a : Int) (b : Int) (k : Int) (i : Int) (v : Int) (w : Int) (t : Int) (r : Int) (u : Int) (y : Int) (d : Int) (f : Int) (M : Mem) (h : p_X8_setSeam 0 u y d M ∧ ∀ (x2 : Int) (M1 : Mem), inR x2 → okM M1 → cz_X8_setSeam 0 u y d M x2 M1 → ((f = (0 : Int) → (I316 o a b k i v w t r u y d f 1 x2 M1)) ∧ (¬ f = (0 : Int) → (I316 o a b k i v w t r u y d f 0 x2 M1)))) :
    jSt p l e room_1 s m args below meth c 16 D cy ad kdZ (lnZ 8) 47 A cells slots ex H0 Q 296 [w0_, some (.inr 0), some (.inr 46), some (.inl o), some (.inl a), some (.inl b), some (.inl k), some (.inl i), some (.inl v), some (.inl w), some (.inl t), some (.inl r), some (.inl u), some (.inl y), some (.inl d), some (.inl f)] [] M := by
  refine jC_snd (cst := cstL) (cuts := [19, 100, 124, 131, 155, 187, 190, 220, 262, 281, 296, 316, 330, 349, 440, 443, 448, 511, 530]) (J := js_L_law_296z I316) C cstL_ok ⟨tb_L_law_296z, ct_L_law_296z, 12, tbo_L_law_296z, by decide, by decide, exT_of hex, sct_L_law_296z o_X8_setSeam, h⟩ ?_
  intro pc ls st M hJ
  unfold js_L_law_296z at hJ
  rcases bsel hJ with ⟨hpc, hI⟩ | hI
  all_goals clear hJ
  · obtain rfl := Nat.eq_of_beq_eq_true hpc
    unfold jg_L_law_316 at hI
    split at hI
    rotate_left
    · exact hI.elim
    exact hJ316 _ _ _ _ _ _ _ _ _ _ _ _ _ _ _ _ _ hI
  have hJ := hI
  clear hI
  exact hJ.elim
def jg_L_law_330 (I : Int → Int → Int → Int → Int → Int → Int → Int → Int → Int → Int → Int → Int → Int → Mem → Prop) : List (Option AV) → List AV → Mem → Prop := fun ls st M => match ls, st, M with
  | [_, some (.inr 0), some (.inr 46), some (.inl o), some (.inl a), some (.inl b), some (.inl k), some (.inl i), some (.inl v), some (.inl w), some (.inl t), some (.inl r), some (.inl u), some (.inl y), some (.inl d), some (.inl f)], [.inl q, .inr 0], M => I o a b k i v w t r u y d f q M
  | _, _, _ => False
def tb_L_law_316z : TB := [(316, .if_icmp .ne 48, 3, [364]), (319, .aload_n 1, 1, []), (320, .iload 12, 2, []), (322, .ifCond .eq 7, 3, [329]), (325, .iconst 4, 1, []), (326, .goto 4, 3, [330]), (329, .iconst 2, 1, []), (364, .iconst 0, 1, []), (365, .ireturn, 1, [])]
theorem tbo_L_law_316z : tbOK cL_law tb_L_law_316z = true := by decide +kernel
def ct_L_law_316z : List (Nat × CS) := []
theorem sct_L_law_316z {l : Launch} {D : va_G} {cy : Nat → ClassId} {ad : Nat → Nat}  : ∀ q ∈ ct_L_law_316z, Site l D cy ad kdZ (lnZ 8) 47 RL tb_L_law_316z room_1 q.1 q.2 := fun q h => absurd h List.not_mem_nil
def js_L_law_316z (I330 : Int → Int → Int → Int → Int → Int → Int → Int → Int → Int → Int → Int → Int → Int → Mem → Prop) : KT := fun pc ls st M => bif Nat.beq pc 330 then jg_L_law_330 I330 ls st M else (False)
set_option maxRecDepth 100000 in
set_option maxHeartbeats 4000000 in
theorem sg_L_law_316z {p : Program} {l : Launch} {e : Env} {s : State} {m : MethodId} {args : Array Value} {below : List Frame} {meth : Method} {c : Code} {D : va_G} {cy : Nat → ClassId} {ad : Nat → Nat} {A : Nat → Prop} {cells slots : Nat} {ex : List (Nat × Value)} {H0 : Heap} {Q : State → Prop} {post : Int → Mem → Prop}  (I330 : Int → Int → Int → Int → Int → Int → Int → Int → Int → Int → Int → Int → Int → Int → Mem → Prop)
    (hex : exB (ex.map Prod.fst) tb_L_law_316z = true) (C : jC p l e room_1 s m args below meth c cL_law 16 RL D cy ad kdZ (lnZ 8) 47 A cells slots H0 Q 2 post)
    (hJ330 : ∀ (w0_ : Option AV) (o : Int) (a : Int) (b : Int) (k : Int) (i : Int) (v : Int) (w : Int) (t : Int) (r : Int) (u : Int) (y : Int) (d : Int) (f : Int) (q : Int) (M : Mem), I330 o a b k i v w t r u y d f q M → jSt p l e room_1 s m args below meth c 16 D cy ad kdZ (lnZ 8) 47 A cells slots ex H0 Q 330 [w0_, some (.inr 0), some (.inr 46), some (.inl o), some (.inl a), some (.inl b), some (.inl k), some (.inl i), some (.inl v), some (.inl w), some (.inl t), some (.inl r), some (.inl u), some (.inl y), some (.inl d), some (.inl f)] [.inl q, .inr 0] M)
    (w0_ : Option AV) (o : Int) (a : Int) (b : Int) (k : Int) (i : Int) (v : Int) (w : Int) (t : Int) (r : Int) (u : Int) (y : Int) (d : Int) (f : Int) (q : Int) (j : Int) (M : Mem) (h : (¬ j = q → (((0 : Int) = 0 ∨ (0 : Int) = 1) ∧ post 0 M)) ∧ (¬ (¬ j = q) → ((u = (0 : Int) → (I330 o a b k i v w t r u y d f 2 M)) ∧ (¬ u = (0 : Int) → (I330 o a b k i v w t r u y d f 4 M))))) :
    jSt p l e room_1 s m args below meth c 16 D cy ad kdZ (lnZ 8) 47 A cells slots ex H0 Q 316 [w0_, some (.inr 0), some (.inr 46), some (.inl o), some (.inl a), some (.inl b), some (.inl k), some (.inl i), some (.inl v), some (.inl w), some (.inl t), some (.inl r), some (.inl u), some (.inl y), some (.inl d), some (.inl f)] [.inl q, .inl j] M := by
  refine jC_snd (cst := cstL) (cuts := [19, 100, 124, 131, 155, 187, 190, 220, 262, 281, 296, 316, 330, 349, 440, 443, 448, 511, 530]) (J := js_L_law_316z I330) C cstL_ok ⟨tb_L_law_316z, ct_L_law_316z, 11, tbo_L_law_316z, by decide, by decide, exT_of hex, sct_L_law_316z , h⟩ ?_
  intro pc ls st M hJ
  unfold js_L_law_316z at hJ
  rcases bsel hJ with ⟨hpc, hI⟩ | hI
  all_goals clear hJ
  · obtain rfl := Nat.eq_of_beq_eq_true hpc
    unfold jg_L_law_330 at hI
    split at hI
    rotate_left
    · exact hI.elim
    exact hJ330 _ _ _ _ _ _ _ _ _ _ _ _ _ _ _ _ hI
  have hJ := hI
  clear hI
  exact hJ.elim
def jg_L_law_349 (I : Int → Int → Int → Int → Int → Int → Int → Int → Int → Int → Int → Int → Int → Int → Mem → Prop) : List (Option AV) → List AV → Mem → Prop := fun ls st M => match ls, st, M with
  | [_, some (.inr 0), some (.inr 46), some (.inl o), some (.inl a), some (.inl b), some (.inl k), some (.inl i), some (.inl v), some (.inl w), some (.inl t), some (.inl r), some (.inl u), some (.inl y), some (.inl d), some (.inl f)], [.inl q, .inr 0], M => I o a b k i v w t r u y d f q M
  | _, _, _ => False
def tb_L_law_330z : TB := [(330, .invokevirtual 9, 3, []), (333, .iload 13, 2, []), (335, .if_icmp .ne 29, 3, [364]), (338, .aload_n 1, 1, []), (339, .iload 12, 2, []), (341, .ifCond .eq 7, 3, [348]), (344, .iconst 5, 1, []), (345, .goto 4, 3, [349]), (348, .iconst 3, 1, []), (364, .iconst 0, 1, []), (365, .ireturn, 1, [])]
theorem tbo_L_law_330z : tbOK cL_law tb_L_law_330z = true := by decide +kernel
def ct_L_law_330z : List (Nat × CS) := [(330, (2, 1, P_X8_value, CZ_X8_value))]
theorem sct_L_law_330z {l : Launch} {D : va_G} {cy : Nat → ClassId} {ad : Nat → Nat} (o_X8_value : OKZ_X8_value l D cy ad 8) : ∀ q ∈ ct_L_law_330z, Site l D cy ad kdZ (lnZ 8) 47 RL tb_L_law_330z room_1 q.1 q.2 := List.forall_mem_cons.mpr ⟨Or.inl ⟨9, 1, yX8_value, cX8_value, 2, (some .int), rm_X8_value, rfl, rfl, o_X8_value, ca_X8_value, mkL_9, ⟨rfl, rfl, Nat.le_of_ble_eq_true rfl, Nat.le_of_ble_eq_true rfl⟩, rvz_X8_value⟩, fun q h => absurd h List.not_mem_nil⟩
def js_L_law_330z (I349 : Int → Int → Int → Int → Int → Int → Int → Int → Int → Int → Int → Int → Int → Int → Mem → Prop) : KT := fun pc ls st M => bif Nat.beq pc 349 then jg_L_law_349 I349 ls st M else (False)
set_option maxRecDepth 100000 in
set_option maxHeartbeats 4000000 in
theorem sg_L_law_330z {p : Program} {l : Launch} {e : Env} {s : State} {m : MethodId} {args : Array Value} {below : List Frame} {meth : Method} {c : Code} {D : va_G} {cy : Nat → ClassId} {ad : Nat → Nat} {A : Nat → Prop} {cells slots : Nat} {ex : List (Nat × Value)} {H0 : Heap} {Q : State → Prop} {post : Int → Mem → Prop} (o_X8_value : OKZ_X8_value l D cy ad 8) (I349 : Int → Int → Int → Int → Int → Int → Int → Int → Int → Int → Int → Int → Int → Int → Mem → Prop)
    (hex : exB (ex.map Prod.fst) tb_L_law_330z = true) (C : jC p l e room_1 s m args below meth c cL_law 16 RL D cy ad kdZ (lnZ 8) 47 A cells slots H0 Q 2 post)
    (hJ349 : ∀ (w0_ : Option AV) (o : Int) (a : Int) (b : Int) (k : Int) (i : Int) (v : Int) (w : Int) (t : Int) (r : Int) (u : Int) (y : Int) (d : Int) (f : Int) (q : Int) (M : Mem), I349 o a b k i v w t r u y d f q M → jSt p l e room_1 s m args below meth c 16 D cy ad kdZ (lnZ 8) 47 A cells slots ex H0 Q 349 [w0_, some (.inr 0), some (.inr 46), some (.inl o), some (.inl a), some (.inl b), some (.inl k), some (.inl i), some (.inl v), some (.inl w), some (.inl t), some (.inl r), some (.inl u), some (.inl y), some (.inl d), some (.inl f)] [.inl q, .inr 0] M)
    (w0_ : Option AV) (o : Int) (a : Int) (b : Int) (k : Int) (i : Int) (v : Int) (w : Int) (t : Int) (r : Int) (u : Int) (y : Int) (d : Int) (f : Int) (q : Int) (M : Mem) (h : p_X8_value 0 q M ∧ ∀ (x2 : Int) (M1 : Mem), inR x2 → okM M1 → cz_X8_value 0 q M x2 M1 → ((¬ x2 = y → (((0 : Int) = 0 ∨ (0 : Int) = 1) ∧ post 0 M1)) ∧ (¬ (¬ x2 = y) → ((u = (0 : Int) → (I349 o a b k i v w t r u y d f 3 M1)) ∧ (¬ u = (0 : Int) → (I349 o a b k i v w t r u y d f 5 M1)))))) :
    jSt p l e room_1 s m args below meth c 16 D cy ad kdZ (lnZ 8) 47 A cells slots ex H0 Q 330 [w0_, some (.inr 0), some (.inr 46), some (.inl o), some (.inl a), some (.inl b), some (.inl k), some (.inl i), some (.inl v), some (.inl w), some (.inl t), some (.inl r), some (.inl u), some (.inl y), some (.inl d), some (.inl f)] [.inl q, .inr 0] M := by
  refine jC_snd (cst := cstL) (cuts := [19, 100, 124, 131, 155, 187, 190, 220, 262, 281, 296, 316, 330, 349, 440, 443, 448, 511, 530]) (J := js_L_law_330z I349) C cstL_ok ⟨tb_L_law_330z, ct_L_law_330z, 13, tbo_L_law_330z, by decide, by decide, exT_of hex, sct_L_law_330z o_X8_value, h⟩ ?_
  intro pc ls st M hJ
  unfold js_L_law_330z at hJ
  rcases bsel hJ with ⟨hpc, hI⟩ | hI
  all_goals clear hJ
  · obtain rfl := Nat.eq_of_beq_eq_true hpc
    unfold jg_L_law_349 at hI
    split at hI
    rotate_left
    · exact hI.elim
    exact hJ349 _ _ _ _ _ _ _ _ _ _ _ _ _ _ _ _ hI
  have hJ := hI
  clear hI
  exact hJ.elim
def tb_L_law_349z : TB := [(349, .invokevirtual 9, 3, []), (352, .iload 14, 2, []), (354, .if_icmp .ne 10, 3, [364]), (357, .aload_n 1, 1, []), (358, .invokestatic 108, 3, []), (361, .ifCond .ne 5, 3, [366]), (364, .iconst 0, 1, []), (365, .ireturn, 1, []), (366, .goto 82, 3, [448])]
theorem tbo_L_law_349z : tbOK cL_law tb_L_law_349z = true := by decide +kernel
def ct_L_law_349z : List (Nat × CS) := [(349, (2, 1, P_X8_value, CZ_X8_value)), (358, (1, 2, P_L_steps, CZ_L_steps))]
theorem sct_L_law_349z {l : Launch} {D : va_G} {cy : Nat → ClassId} {ad : Nat → Nat} (o_L_steps : OKZ_L_steps l D cy ad 8) (o_X8_value : OKZ_X8_value l D cy ad 8) : ∀ q ∈ ct_L_law_349z, Site l D cy ad kdZ (lnZ 8) 47 RL tb_L_law_349z room_1 q.1 q.2 := List.forall_mem_cons.mpr ⟨Or.inl ⟨9, 1, yX8_value, cX8_value, 2, (some .int), rm_X8_value, rfl, rfl, o_X8_value, ca_X8_value, mkL_9, ⟨rfl, rfl, Nat.le_of_ble_eq_true rfl, Nat.le_of_ble_eq_true rfl⟩, rvz_X8_value⟩, List.forall_mem_cons.mpr ⟨Or.inr (Or.inl ⟨108, 1, yL_steps, cL_steps, 6, (some .boolean), rm_L_steps, rfl, rfl, o_L_steps, ca_L_steps, mkL_108, rfl, ⟨rfl, rfl, Nat.le_of_ble_eq_true rfl, Nat.le_of_ble_eq_true rfl⟩⟩), fun q h => absurd h List.not_mem_nil⟩⟩
def js_L_law_349z (I448 : Int → Int → Int → Int → Int → Int → Int → Int → Mem → Prop) : KT := fun pc ls st M => bif Nat.beq pc 448 then jg_L_law_448 I448 ls st M else (False)
set_option maxRecDepth 100000 in
set_option maxHeartbeats 4000000 in
theorem sg_L_law_349z {p : Program} {l : Launch} {e : Env} {s : State} {m : MethodId} {args : Array Value} {below : List Frame} {meth : Method} {c : Code} {D : va_G} {cy : Nat → ClassId} {ad : Nat → Nat} {A : Nat → Prop} {cells slots : Nat} {ex : List (Nat × Value)} {H0 : Heap} {Q : State → Prop} {post : Int → Mem → Prop} (o_L_steps : OKZ_L_steps l D cy ad 8) (o_X8_value : OKZ_X8_value l D cy ad 8) (I448 : Int → Int → Int → Int → Int → Int → Int → Int → Mem → Prop)
    (hex : exB (ex.map Prod.fst) tb_L_law_349z = true) (C : jC p l e room_1 s m args below meth c cL_law 16 RL D cy ad kdZ (lnZ 8) 47 A cells slots H0 Q 2 post)
    (hJ448 : ∀ (w0_ : Option AV) (w11_ : Option AV) (w12_ : Option AV) (w13_ : Option AV) (w14_ : Option AV) (w15_ : Option AV) (o : Int) (a : Int) (b : Int) (k : Int) (i : Int) (v : Int) (w : Int) (t : Int) (M : Mem), I448 o a b k i v w t M → jSt p l e room_1 s m args below meth c 16 D cy ad kdZ (lnZ 8) 47 A cells slots ex H0 Q 448 [w0_, some (.inr 0), some (.inr 46), some (.inl o), some (.inl a), some (.inl b), some (.inl k), some (.inl i), some (.inl v), some (.inl w), some (.inl t), w11_, w12_, w13_, w14_, w15_] [] M)
    (w0_ : Option AV) (o : Int) (a : Int) (b : Int) (k : Int) (i : Int) (v : Int) (w : Int) (t : Int) (r : Int) (u : Int) (y : Int) (d : Int) (f : Int) (q : Int) (M : Mem) (h : p_X8_value 0 q M ∧ ∀ (x2 : Int) (M1 : Mem), inR x2 → okM M1 → cz_X8_value 0 q M x2 M1 → ((¬ x2 = d → (((0 : Int) = 0 ∨ (0 : Int) = 1) ∧ post 0 M1)) ∧ (¬ (¬ x2 = d) → (p_L_steps 0 M1 ∧ ∀ (x4 : Int) (M3 : Mem), inR x4 → okM M3 → cz_L_steps 0 M1 x4 M3 → ((¬ x4 = (0 : Int) → (I448 o a b k i v w t M3)) ∧ (¬ (¬ x4 = (0 : Int)) → (((0 : Int) = 0 ∨ (0 : Int) = 1) ∧ post 0 M3))))))) :
    jSt p l e room_1 s m args below meth c 16 D cy ad kdZ (lnZ 8) 47 A cells slots ex H0 Q 349 [w0_, some (.inr 0), some (.inr 46), some (.inl o), some (.inl a), some (.inl b), some (.inl k), some (.inl i), some (.inl v), some (.inl w), some (.inl t), some (.inl r), some (.inl u), some (.inl y), some (.inl d), some (.inl f)] [.inl q, .inr 0] M := by
  refine jC_snd (cst := cstL) (cuts := [19, 100, 124, 131, 155, 187, 190, 220, 262, 281, 296, 316, 330, 349, 440, 443, 448, 511, 530]) (J := js_L_law_349z I448) C cstL_ok ⟨tb_L_law_349z, ct_L_law_349z, 11, tbo_L_law_349z, by decide, by decide, exT_of hex, sct_L_law_349z o_L_steps o_X8_value, h⟩ ?_
  intro pc ls st M hJ
  unfold js_L_law_349z at hJ
  rcases bsel hJ with ⟨hpc, hI⟩ | hI
  all_goals clear hJ
  · obtain rfl := Nat.eq_of_beq_eq_true hpc
    unfold jg_L_law_448 at hI
    split at hI
    rotate_left
    · exact hI.elim
    exact hJ448 _ _ _ _ _ _ _ _ _ _ _ _ _ _ _ hI
  have hJ := hI
  clear hI
  exact hJ.elim
def tb_L_law_443z : TB := [(443, .ifCond .ne 5, 3, [448]), (446, .iconst 0, 1, []), (447, .ireturn, 1, [])]
theorem tbo_L_law_443z : tbOK cL_law tb_L_law_443z = true := by decide +kernel
def ct_L_law_443z : List (Nat × CS) := []
theorem sct_L_law_443z {l : Launch} {D : va_G} {cy : Nat → ClassId} {ad : Nat → Nat}  : ∀ q ∈ ct_L_law_443z, Site l D cy ad kdZ (lnZ 8) 47 RL tb_L_law_443z room_1 q.1 q.2 := fun q h => absurd h List.not_mem_nil
def js_L_law_443z (I448 : Int → Int → Int → Int → Int → Int → Int → Int → Mem → Prop) : KT := fun pc ls st M => bif Nat.beq pc 448 then jg_L_law_448 I448 ls st M else (False)
set_option maxRecDepth 100000 in
set_option maxHeartbeats 4000000 in
theorem sg_L_law_443z {p : Program} {l : Launch} {e : Env} {s : State} {m : MethodId} {args : Array Value} {below : List Frame} {meth : Method} {c : Code} {D : va_G} {cy : Nat → ClassId} {ad : Nat → Nat} {A : Nat → Prop} {cells slots : Nat} {ex : List (Nat × Value)} {H0 : Heap} {Q : State → Prop} {post : Int → Mem → Prop}  (I448 : Int → Int → Int → Int → Int → Int → Int → Int → Mem → Prop)
    (hex : exB (ex.map Prod.fst) tb_L_law_443z = true) (C : jC p l e room_1 s m args below meth c cL_law 16 RL D cy ad kdZ (lnZ 8) 47 A cells slots H0 Q 2 post)
    (hJ448 : ∀ (w0_ : Option AV) (w11_ : Option AV) (w12_ : Option AV) (w13_ : Option AV) (w14_ : Option AV) (w15_ : Option AV) (o : Int) (a : Int) (b : Int) (k : Int) (i : Int) (v : Int) (w : Int) (t : Int) (M : Mem), I448 o a b k i v w t M → jSt p l e room_1 s m args below meth c 16 D cy ad kdZ (lnZ 8) 47 A cells slots ex H0 Q 448 [w0_, some (.inr 0), some (.inr 46), some (.inl o), some (.inl a), some (.inl b), some (.inl k), some (.inl i), some (.inl v), some (.inl w), some (.inl t), w11_, w12_, w13_, w14_, w15_] [] M)
    (w0_ : Option AV) (w12_ : Option AV) (w13_ : Option AV) (w14_ : Option AV) (w15_ : Option AV) (o : Int) (a : Int) (b : Int) (k : Int) (i : Int) (v : Int) (w : Int) (t : Int) (r : Int) (q : Int) (M : Mem) (h : (¬ q = (0 : Int) → (I448 o a b k i v w t M)) ∧ (¬ (¬ q = (0 : Int)) → (((0 : Int) = 0 ∨ (0 : Int) = 1) ∧ post 0 M))) :
    jSt p l e room_1 s m args below meth c 16 D cy ad kdZ (lnZ 8) 47 A cells slots ex H0 Q 443 [w0_, some (.inr 0), some (.inr 46), some (.inl o), some (.inl a), some (.inl b), some (.inl k), some (.inl i), some (.inl v), some (.inl w), some (.inl t), some (.inl r), w12_, w13_, w14_, w15_] [.inl q] M := by
  refine jC_snd (cst := cstL) (cuts := [19, 100, 124, 131, 155, 187, 190, 220, 262, 281, 296, 316, 330, 349, 440, 443, 448, 511, 530]) (J := js_L_law_443z I448) C cstL_ok ⟨tb_L_law_443z, ct_L_law_443z, 5, tbo_L_law_443z, by decide, by decide, exT_of hex, sct_L_law_443z , h⟩ ?_
  intro pc ls st M hJ
  unfold js_L_law_443z at hJ
  rcases bsel hJ with ⟨hpc, hI⟩ | hI
  all_goals clear hJ
  · obtain rfl := Nat.eq_of_beq_eq_true hpc
    unfold jg_L_law_448 at hI
    split at hI
    rotate_left
    · exact hI.elim
    exact hJ448 _ _ _ _ _ _ _ _ _ _ _ _ _ _ _ hI
  have hJ := hI
  clear hI
  exact hJ.elim
def tb_L_law_448z : TB := [(448, .aload_n 1, 1, []), (449, .invokestatic 116, 3, []), (452, .ifCond .eq 51, 3, [503]), (455, .aload_n 1, 1, []), (456, .iload 8, 2, []), (458, .bipush 6, 2, []), (460, .invokestatic 44, 3, []), (463, .invokestatic 119, 3, []), (466, .ifCond .eq 37, 3, [503]), (469, .iload 7, 2, []), (471, .iconst 2, 1, []), (472, .irem, 1, []), (473, .ifCond .ne 32, 3, [505]), (476, .aload_n 1, 1, []), (477, .aload_n 2, 1, []), (478, .iload 9, 2, []), (480, .iload 10, 2, []), (482, .invokestatic 44, 3, []), (485, .iload 9, 2, []), (487, .bipush 8, 2, []), (489, .ishr, 1, []), (490, .iload 10, 2, []), (492, .invokestatic 44, 3, []), (495, .iload 8, 2, []), (497, .invokestatic 123, 3, []), (500, .ifCond .ne 5, 3, [505]), (503, .iconst 0, 1, []), (504, .ireturn, 1, []), (505, .iinc 7 1, 3, []), (508, .goto (-384), 3, [124])]
theorem tbo_L_law_448z : tbOK cL_law tb_L_law_448z = true := by decide +kernel
def ct_L_law_448z : List (Nat × CS) := [(449, (1, 2, P_L_parts, CZ_L_parts)), (460, (2, 1, P_L_low, CZ_L_low)), (463, (2, 2, P_L_greatest, CZ_L_greatest)), (482, (2, 1, P_L_low, CZ_L_low)), (492, (2, 1, P_L_low, CZ_L_low)), (497, (5, 2, P_L_distances, C_L_distances))]
theorem sct_L_law_448z {l : Launch} {D : va_G} {cy : Nat → ClassId} {ad : Nat → Nat} (o_L_distances : OK_L_distances l D cy ad) (o_L_greatest : OKZ_L_greatest l D cy ad 8) (o_L_low : OKZ_L_low l D cy ad 8) (o_L_parts : OKZ_L_parts l D cy ad 8) : ∀ q ∈ ct_L_law_448z, Site l D cy ad kdZ (lnZ 8) 47 RL tb_L_law_448z room_1 q.1 q.2 := List.forall_mem_cons.mpr ⟨Or.inr (Or.inl ⟨116, 1, yL_parts, cL_parts, 14, (some .boolean), rm_L_parts, rfl, rfl, o_L_parts, ca_L_parts, mkL_116, rfl, ⟨rfl, rfl, Nat.le_of_ble_eq_true rfl, Nat.le_of_ble_eq_true rfl⟩⟩), List.forall_mem_cons.mpr ⟨Or.inr (Or.inl ⟨44, 2, yL_low, cL_low, 2, (some .int), rm_L_low, rfl, rfl, o_L_low, ca_L_low, mkL_44, rfl, ⟨rfl, rfl, Nat.le_of_ble_eq_true rfl, Nat.le_of_ble_eq_true rfl⟩⟩), List.forall_mem_cons.mpr ⟨Or.inr (Or.inl ⟨119, 2, yL_greatest, cL_greatest, 5, (some .boolean), rm_L_greatest, rfl, rfl, o_L_greatest, ca_L_greatest, mkL_119, rfl, ⟨rfl, rfl, Nat.le_of_ble_eq_true rfl, Nat.le_of_ble_eq_true rfl⟩⟩), List.forall_mem_cons.mpr ⟨Or.inr (Or.inl ⟨44, 2, yL_low, cL_low, 2, (some .int), rm_L_low, rfl, rfl, o_L_low, ca_L_low, mkL_44, rfl, ⟨rfl, rfl, Nat.le_of_ble_eq_true rfl, Nat.le_of_ble_eq_true rfl⟩⟩), List.forall_mem_cons.mpr ⟨Or.inr (Or.inl ⟨44, 2, yL_low, cL_low, 2, (some .int), rm_L_low, rfl, rfl, o_L_low, ca_L_low, mkL_44, rfl, ⟨rfl, rfl, Nat.le_of_ble_eq_true rfl, Nat.le_of_ble_eq_true rfl⟩⟩), List.forall_mem_cons.mpr ⟨Or.inr (Or.inl ⟨123, 5, yL_distances, cL_distances, 17, (some .boolean), rm_L_distances, rfl, rfl, o_L_distances, ca_L_distances, mkL_123, rfl, ⟨rfl, rfl, Nat.le_of_ble_eq_true rfl, Nat.le_of_ble_eq_true rfl⟩⟩), fun q h => absurd h List.not_mem_nil⟩⟩⟩⟩⟩⟩
def js_L_law_448z (I124 : Int → Int → Int → Int → Int → Mem → Prop) : KT := fun pc ls st M => bif Nat.beq pc 124 then jg_L_law_124 I124 ls st M else (False)
set_option maxRecDepth 100000 in
set_option maxHeartbeats 4000000 in
theorem sg_L_law_448z {p : Program} {l : Launch} {e : Env} {s : State} {m : MethodId} {args : Array Value} {below : List Frame} {meth : Method} {c : Code} {D : va_G} {cy : Nat → ClassId} {ad : Nat → Nat} {A : Nat → Prop} {cells slots : Nat} {ex : List (Nat × Value)} {H0 : Heap} {Q : State → Prop} {post : Int → Mem → Prop} (o_L_distances : OK_L_distances l D cy ad) (o_L_greatest : OKZ_L_greatest l D cy ad 8) (o_L_low : OKZ_L_low l D cy ad 8) (o_L_parts : OKZ_L_parts l D cy ad 8) (I124 : Int → Int → Int → Int → Int → Mem → Prop)
    (hex : exB (ex.map Prod.fst) tb_L_law_448z = true) (C : jC p l e room_1 s m args below meth c cL_law 16 RL D cy ad kdZ (lnZ 8) 47 A cells slots H0 Q 2 post)
    (hJ124 : ∀ (w0_ : Option AV) (w8_ : Option AV) (w9_ : Option AV) (w10_ : Option AV) (w11_ : Option AV) (w12_ : Option AV) (w13_ : Option AV) (w14_ : Option AV) (w15_ : Option AV) (o : Int) (a : Int) (b : Int) (k : Int) (i : Int) (M : Mem), I124 o a b k i M → jSt p l e room_1 s m args below meth c 16 D cy ad kdZ (lnZ 8) 47 A cells slots ex H0 Q 124 [w0_, some (.inr 0), some (.inr 46), some (.inl o), some (.inl a), some (.inl b), some (.inl k), some (.inl i), w8_, w9_, w10_, w11_, w12_, w13_, w14_, w15_] [] M)
    (w0_ : Option AV) (w11_ : Option AV) (w12_ : Option AV) (w13_ : Option AV) (w14_ : Option AV) (w15_ : Option AV) (o : Int) (a : Int) (b : Int) (k : Int) (i : Int) (v : Int) (w : Int) (t : Int) (M : Mem) (h : p_L_parts 0 M ∧ ∀ (x2 : Int) (M1 : Mem), inR x2 → okM M1 → cz_L_parts 0 M x2 M1 → ((x2 = (0 : Int) → (((0 : Int) = 0 ∨ (0 : Int) = 1) ∧ post 0 M1)) ∧ (¬ x2 = (0 : Int) → (p_L_low v 6 M1 ∧ ∀ (x4 : Int) (M3 : Mem), inR x4 → okM M3 → cz_L_low v 6 M1 x4 M3 → (p_L_greatest 0 x4 M3 ∧ ∀ (x6 : Int) (M5 : Mem), inR x6 → okM M5 → cz_L_greatest 0 x4 M3 x6 M5 → ((x6 = (0 : Int) → (((0 : Int) = 0 ∨ (0 : Int) = 1) ∧ post 0 M5)) ∧ (¬ x6 = (0 : Int) → (0 < (2 : Int) ∧ ((¬ (Int.tmod i 2) = (0 : Int) → (inR (i + 1) ∧ (I124 o a b k (i + 1) M5))) ∧ (¬ (¬ (Int.tmod i 2) = (0 : Int)) → (p_L_low w t M5 ∧ ∀ (x8 : Int) (M7 : Mem), inR x8 → okM M7 → cz_L_low w t M5 x8 M7 → (p_L_low (bShr w 8) t M7 ∧ ∀ (x10 : Int) (M9 : Mem), inR x10 → okM M9 → cz_L_low (bShr w 8) t M7 x10 M9 → (p_L_distances 0 46 x8 x10 v M9 ∧ ∀ (x12 : Int) (M11 : Mem), inR x12 → okM M11 → c_L_distances 0 46 x8 x10 v M9 x12 M11 → ((¬ x12 = (0 : Int) → (inR (i + 1) ∧ (I124 o a b k (i + 1) M11))) ∧ (¬ (¬ x12 = (0 : Int)) → (((0 : Int) = 0 ∨ (0 : Int) = 1) ∧ post 0 M11)))))))))))))))) :
    jSt p l e room_1 s m args below meth c 16 D cy ad kdZ (lnZ 8) 47 A cells slots ex H0 Q 448 [w0_, some (.inr 0), some (.inr 46), some (.inl o), some (.inl a), some (.inl b), some (.inl k), some (.inl i), some (.inl v), some (.inl w), some (.inl t), w11_, w12_, w13_, w14_, w15_] [] M := by
  refine jC_snd (cst := cstL) (cuts := [19, 100, 124, 131, 155, 187, 190, 220, 262, 281, 296, 316, 330, 349, 440, 443, 448, 511, 530]) (J := js_L_law_448z I124) C cstL_ok ⟨tb_L_law_448z, ct_L_law_448z, 32, tbo_L_law_448z, by decide, by decide, exT_of hex, sct_L_law_448z o_L_distances o_L_greatest o_L_low o_L_parts, h⟩ ?_
  intro pc ls st M hJ
  unfold js_L_law_448z at hJ
  rcases bsel hJ with ⟨hpc, hI⟩ | hI
  all_goals clear hJ
  · obtain rfl := Nat.eq_of_beq_eq_true hpc
    unfold jg_L_law_124 at hI
    split at hI
    rotate_left
    · exact hI.elim
    exact hJ124 _ _ _ _ _ _ _ _ _ _ _ _ _ _ _ hI
  have hJ := hI
  clear hI
  exact hJ.elim
def jg_L_law_530 (I : Int → Int → Int → Int → Mem → Prop) : List (Option AV) → List AV → Mem → Prop := fun ls st M => match ls, st, M with
  | [_, some (.inr 0), some (.inr 46), some (.inl o), some (.inl a), some (.inl b), some (.inl k), _, _, _, _, _, _, _, _, _], [], M => I o a b k M
  | _, _, _ => False
def tb_L_law_511z : TB := [(511, .iload 6, 2, []), (513, .ifCond .le 17, 3, [530]), (516, .iinc 6 (-1), 3, []), (519, .aload_n 1, 1, []), (520, .invokevirtual 86, 3, []), (523, .iload 6, 2, []), (525, .if_icmp .eq (-14), 3, [511]), (528, .iconst 0, 1, []), (529, .ireturn, 1, [])]
theorem tbo_L_law_511z : tbOK cL_law tb_L_law_511z = true := by decide +kernel
def ct_L_law_511z : List (Nat × CS) := [(520, (1, 1, P_X8_undo, CZ_X8_undo))]
theorem sct_L_law_511z {l : Launch} {D : va_G} {cy : Nat → ClassId} {ad : Nat → Nat} (o_X8_undo : OKZ_X8_undo l D cy ad 8) : ∀ q ∈ ct_L_law_511z, Site l D cy ad kdZ (lnZ 8) 47 RL tb_L_law_511z room_1 q.1 q.2 := List.forall_mem_cons.mpr ⟨Or.inl ⟨86, 0, yX8_undo, cX8_undo, 1, (some .int), rm_X8_undo, rfl, rfl, o_X8_undo, ca_X8_undo, mkL_86, ⟨rfl, rfl, Nat.le_of_ble_eq_true rfl, Nat.le_of_ble_eq_true rfl⟩, rvz_X8_undo⟩, fun q h => absurd h List.not_mem_nil⟩
def js_L_law_511z (I511 : Int → Int → Int → Int → Mem → Prop) (I530 : Int → Int → Int → Int → Mem → Prop) : KT := fun pc ls st M => bif Nat.beq pc 511 then jg_L_law_511 I511 ls st M else (bif Nat.beq pc 530 then jg_L_law_530 I530 ls st M else (False))
set_option maxRecDepth 100000 in
set_option maxHeartbeats 4000000 in
theorem sg_L_law_511z {p : Program} {l : Launch} {e : Env} {s : State} {m : MethodId} {args : Array Value} {below : List Frame} {meth : Method} {c : Code} {D : va_G} {cy : Nat → ClassId} {ad : Nat → Nat} {A : Nat → Prop} {cells slots : Nat} {ex : List (Nat × Value)} {H0 : Heap} {Q : State → Prop} {post : Int → Mem → Prop} (o_X8_undo : OKZ_X8_undo l D cy ad 8) (I511 : Int → Int → Int → Int → Mem → Prop) (I530 : Int → Int → Int → Int → Mem → Prop)
    (hex : exB (ex.map Prod.fst) tb_L_law_511z = true) (C : jC p l e room_1 s m args below meth c cL_law 16 RL D cy ad kdZ (lnZ 8) 47 A cells slots H0 Q 2 post)
    (hJ511 : ∀ (w0_ : Option AV) (w7_ : Option AV) (w8_ : Option AV) (w9_ : Option AV) (w10_ : Option AV) (w11_ : Option AV) (w12_ : Option AV) (w13_ : Option AV) (w14_ : Option AV) (w15_ : Option AV) (o : Int) (a : Int) (b : Int) (k : Int) (M : Mem), I511 o a b k M → jSt p l e room_1 s m args below meth c 16 D cy ad kdZ (lnZ 8) 47 A cells slots ex H0 Q 511 [w0_, some (.inr 0), some (.inr 46), some (.inl o), some (.inl a), some (.inl b), some (.inl k), w7_, w8_, w9_, w10_, w11_, w12_, w13_, w14_, w15_] [] M)
    (hJ530 : ∀ (w0_ : Option AV) (w7_ : Option AV) (w8_ : Option AV) (w9_ : Option AV) (w10_ : Option AV) (w11_ : Option AV) (w12_ : Option AV) (w13_ : Option AV) (w14_ : Option AV) (w15_ : Option AV) (o : Int) (a : Int) (b : Int) (k : Int) (M : Mem), I530 o a b k M → jSt p l e room_1 s m args below meth c 16 D cy ad kdZ (lnZ 8) 47 A cells slots ex H0 Q 530 [w0_, some (.inr 0), some (.inr 46), some (.inl o), some (.inl a), some (.inl b), some (.inl k), w7_, w8_, w9_, w10_, w11_, w12_, w13_, w14_, w15_] [] M)
    (w0_ : Option AV) (w7_ : Option AV) (w8_ : Option AV) (w9_ : Option AV) (w10_ : Option AV) (w11_ : Option AV) (w12_ : Option AV) (w13_ : Option AV) (w14_ : Option AV) (w15_ : Option AV) (o : Int) (a : Int) (b : Int) (k : Int) (M : Mem) (h : (k ≤ (0 : Int) → (I530 o a b k M)) ∧ (¬ k ≤ (0 : Int) → (inR (k + (-1)) ∧ (p_X8_undo 0 M ∧ ∀ (x2 : Int) (M1 : Mem), inR x2 → okM M1 → cz_X8_undo 0 M x2 M1 → ((x2 = (k + (-1)) → (I511 o a b (k + (-1)) M1)) ∧ (¬ x2 = (k + (-1)) → (((0 : Int) = 0 ∨ (0 : Int) = 1) ∧ post 0 M1))))))) :
    jSt p l e room_1 s m args below meth c 16 D cy ad kdZ (lnZ 8) 47 A cells slots ex H0 Q 511 [w0_, some (.inr 0), some (.inr 46), some (.inl o), some (.inl a), some (.inl b), some (.inl k), w7_, w8_, w9_, w10_, w11_, w12_, w13_, w14_, w15_] [] M := by
  refine jC_snd (cst := cstL) (cuts := [19, 100, 124, 131, 155, 187, 190, 220, 262, 281, 296, 316, 330, 349, 440, 443, 448, 511, 530]) (J := js_L_law_511z I511 I530) C cstL_ok ⟨tb_L_law_511z, ct_L_law_511z, 11, tbo_L_law_511z, by decide, by decide, exT_of hex, sct_L_law_511z o_X8_undo, h⟩ ?_
  intro pc ls st M hJ
  unfold js_L_law_511z at hJ
  rcases bsel hJ with ⟨hpc, hI⟩ | hI
  all_goals clear hJ
  · obtain rfl := Nat.eq_of_beq_eq_true hpc
    unfold jg_L_law_511 at hI
    split at hI
    rotate_left
    · exact hI.elim
    exact hJ511 _ _ _ _ _ _ _ _ _ _ _ _ _ _ _ hI
  have hJ := hI
  clear hI
  rcases bsel hJ with ⟨hpc, hI⟩ | hI
  all_goals clear hJ
  · obtain rfl := Nat.eq_of_beq_eq_true hpc
    unfold jg_L_law_530 at hI
    split at hI
    rotate_left
    · exact hI.elim
    exact hJ530 _ _ _ _ _ _ _ _ _ _ _ _ _ _ _ hI
  have hJ := hI
  clear hI
  exact hJ.elim
def tb_L_law_530z : TB := [(530, .aload_n 1, 1, []), (531, .invokevirtual 86, 3, []), (534, .bipush (-5), 2, []), (536, .if_icmp .ne 14, 3, [550]), (539, .aload_n 1, 1, []), (540, .invokestatic 127, 3, []), (543, .ifCond .eq 7, 3, [550]), (546, .iconst 1, 1, []), (547, .goto 4, 3, [551]), (550, .iconst 0, 1, []), (551, .ireturn, 1, [])]
theorem tbo_L_law_530z : tbOK cL_law tb_L_law_530z = true := by decide +kernel
def ct_L_law_530z : List (Nat × CS) := [(531, (1, 1, P_X8_undo, CZ_X8_undo)), (540, (1, 2, P_L_errors, CZ_L_errors))]
theorem sct_L_law_530z {l : Launch} {D : va_G} {cy : Nat → ClassId} {ad : Nat → Nat} (o_L_errors : OKZ_L_errors l D cy ad 8) (o_X8_undo : OKZ_X8_undo l D cy ad 8) : ∀ q ∈ ct_L_law_530z, Site l D cy ad kdZ (lnZ 8) 47 RL tb_L_law_530z room_1 q.1 q.2 := List.forall_mem_cons.mpr ⟨Or.inl ⟨86, 0, yX8_undo, cX8_undo, 1, (some .int), rm_X8_undo, rfl, rfl, o_X8_undo, ca_X8_undo, mkL_86, ⟨rfl, rfl, Nat.le_of_ble_eq_true rfl, Nat.le_of_ble_eq_true rfl⟩, rvz_X8_undo⟩, List.forall_mem_cons.mpr ⟨Or.inr (Or.inl ⟨127, 1, yL_errors, cL_errors, 4, (some .boolean), rm_L_errors, rfl, rfl, o_L_errors, ca_L_errors, mkL_127, rfl, ⟨rfl, rfl, Nat.le_of_ble_eq_true rfl, Nat.le_of_ble_eq_true rfl⟩⟩), fun q h => absurd h List.not_mem_nil⟩⟩
def js_L_law_530z  : KT := fun pc ls st M => False
set_option maxRecDepth 100000 in
set_option maxHeartbeats 4000000 in
theorem sg_L_law_530z {p : Program} {l : Launch} {e : Env} {s : State} {m : MethodId} {args : Array Value} {below : List Frame} {meth : Method} {c : Code} {D : va_G} {cy : Nat → ClassId} {ad : Nat → Nat} {A : Nat → Prop} {cells slots : Nat} {ex : List (Nat × Value)} {H0 : Heap} {Q : State → Prop} {post : Int → Mem → Prop} (o_L_errors : OKZ_L_errors l D cy ad 8) (o_X8_undo : OKZ_X8_undo l D cy ad 8) 
    (hex : exB (ex.map Prod.fst) tb_L_law_530z = true) (C : jC p l e room_1 s m args below meth c cL_law 16 RL D cy ad kdZ (lnZ 8) 47 A cells slots H0 Q 2 post)
    
    (w0_ : Option AV) (w7_ : Option AV) (w8_ : Option AV) (w9_ : Option AV) (w10_ : Option AV) (w11_ : Option AV) (w12_ : Option AV) (w13_ : Option AV) (w14_ : Option AV) (w15_ : Option AV) (o : Int) (a : Int) (b : Int) (k : Int) (M : Mem) (h : p_X8_undo 0 M ∧ ∀ (x2 : Int) (M1 : Mem), inR x2 → okM M1 → cz_X8_undo 0 M x2 M1 → ((¬ x2 = (-5 : Int) → (((0 : Int) = 0 ∨ (0 : Int) = 1) ∧ post 0 M1)) ∧ (¬ (¬ x2 = (-5 : Int)) → (p_L_errors 0 M1 ∧ ∀ (x4 : Int) (M3 : Mem), inR x4 → okM M3 → cz_L_errors 0 M1 x4 M3 → ((x4 = (0 : Int) → (((0 : Int) = 0 ∨ (0 : Int) = 1) ∧ post 0 M3)) ∧ (¬ x4 = (0 : Int) → (((1 : Int) = 0 ∨ (1 : Int) = 1) ∧ post 1 M3))))))) :
    jSt p l e room_1 s m args below meth c 16 D cy ad kdZ (lnZ 8) 47 A cells slots ex H0 Q 530 [w0_, some (.inr 0), some (.inr 46), some (.inl o), some (.inl a), some (.inl b), some (.inl k), w7_, w8_, w9_, w10_, w11_, w12_, w13_, w14_, w15_] [] M := by
  refine jC_snd (cst := cstL) (cuts := [19, 100, 124, 131, 155, 187, 190, 220, 262, 281, 296, 316, 330, 349, 440, 443, 448, 511, 530]) (J := js_L_law_530z ) C cstL_ok ⟨tb_L_law_530z, ct_L_law_530z, 13, tbo_L_law_530z, by decide, by decide, exT_of hex, sct_L_law_530z o_L_errors o_X8_undo, h⟩ ?_
  intro pc ls st M hJ
  unfold js_L_law_530z at hJ
  exact hJ.elim

