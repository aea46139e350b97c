abbrev rm_L_walks : Room := { frames := 5, cells := 1, slots := 32, locals := 113 }
def jg_L_walks_25 (I : Int → Int → Int → Int → Int → Int → Int → Int → Int → Int → Int → Mem → Prop) : List (Option AV) → List AV → Mem → Prop := fun ls st M => match ls, st, M with
  | [some (.inr 0), some (.inl a), some (.inl b), some (.inl g), some (.inl k), some (.inl t), some (.inl d), some (.inl y), some (.inl u), some (.inl v), some (.inl w), _, _, _, _, _, _, _, _, _, _, _, _], [.inl j], M => I a b g k t d y u v w j M
  | _, _, _ => False
def tb_L_walks_0x : TB := [(0, .aload_n 0, 1, []), (1, .invokevirtual 59, 3, []), (4, .pop, 1, []), (5, .iload_n 1, 1, []), (6, .istore 5, 2, []), (8, .iload_n 2, 1, []), (9, .istore 6, 2, []), (11, .iconst 0, 1, []), (12, .istore 7, 2, []), (14, .iconst 0, 1, []), (15, .istore 8, 2, []), (17, .iconst 1, 1, []), (18, .istore 9, 2, []), (20, .iconst 1, 1, []), (21, .istore 10, 2, []), (23, .bipush 32, 2, [])]
theorem tbo_L_walks_0x : tbOK cL_walks tb_L_walks_0x = true := by decide +kernel
def ct_L_walks_0x : List (Nat × CS) := [(1, (1, 1, P_X8_clearText, C_X8_clearText))]
theorem sct_L_walks_0x {l : Launch} {D : va_G} {cy : Nat → ClassId} {ad : Nat → Nat} (o_X8_clearText : OK_X8_clearText l D cy ad) : ∀ q ∈ ct_L_walks_0x, Site l D cy ad kdX lnX 46 RL tb_L_walks_0x rm_L_walks q.1 q.2 := List.forall_mem_cons.mpr ⟨Or.inl ⟨59, 0, yX8_clearText, cX8_clearText, 1, (some .int), rm_X8_clearText, rfl, rfl, o_X8_clearText, ca_X8_clearText, mkL_59, ⟨rfl, rfl, Nat.le_of_ble_eq_true rfl, Nat.le_of_ble_eq_true rfl⟩, rv_X8_clearText⟩, fun q h => absurd h List.not_mem_nil⟩
def js_L_walks_0x (I25 : Int → Int → Int → Int → Int → Int → Int → Int → Int → Int → Int → Mem → Prop) : KT := fun pc ls st M => bif Nat.beq pc 25 then jg_L_walks_25 I25 ls st M else (False)
set_option maxRecDepth 100000 in
set_option maxHeartbeats 4000000 in
theorem sg_L_walks_0x {p : Program} {l : Launch} {e : Env} {s : State} {m : MethodId} {args : Array Value} {below : List Frame} {meth : Method} {c : Code} {D : va_G} {cy : Nat → ClassId} {ad : Nat → Nat} {A : Nat → Prop} {cells slots : Nat} {ex : List (Nat × Value)} {H0 : Heap} {Q : State → Prop} {post : Int → Mem → Prop} (o_X8_clearText : OK_X8_clearText l D cy ad) (I25 : Int → Int → Int → Int → Int → Int → Int → Int → Int → Int → Int → Mem → Prop)
    (hex : exB (ex.map Prod.fst) tb_L_walks_0x = true) (C : jC p l e rm_L_walks s m args below meth c cL_walks 23 RL D cy ad kdX lnX 46 A cells slots H0 Q 2 post)
    (hJ25 : ∀ (w11_ : Option AV) (w12_ : Option AV) (w13_ : Option AV) (w14_ : Option AV) (w15_ : Option AV) (w16_ : Option AV) (w17_ : Option AV) (w18_ : Option AV) (w19_ : Option AV) (w20_ : Option AV) (w21_ : Option AV) (w22_ : Option AV) (a : Int) (b : Int) (g : Int) (k : Int) (t : Int) (d : Int) (y : Int) (u : Int) (v : Int) (w : Int) (j : Int) (M : Mem), I25 a b g k t d y u v w j M → jSt p l e rm_L_walks s m args below meth c 23 D cy ad kdX lnX 46 A cells slots ex H0 Q 25 [some (.inr 0), some (.inl a), some (.inl b), some (.inl g), some (.inl k), some (.inl t), some (.inl d), some (.inl y), some (.inl u), some (.inl v), some (.inl w), w11_, w12_, w13_, w14_, w15_, w16_, w17_, w18_, w19_, w20_, w21_, w22_] [.inl j] M)
    (w5_ : Option AV) (w6_ : Option AV) (w7_ : Option AV) (w8_ : Option AV) (w9_ : Option AV) (w10_ : Option AV) (w11_ : Option AV) (w12_ : Option AV) (w13_ : Option AV) (w14_ : Option AV) (w15_ : Option AV) (w16_ : Option AV) (w17_ : Option AV) (w18_ : Option AV) (w19_ : Option AV) (w20_ : Option AV) (w21_ : Option AV) (w22_ : Option AV) (a : Int) (b : Int) (g : Int) (k : Int) (M : Mem) (h : p_X8_clearText 0 M ∧ ∀ (x2 : Int) (M1 : Mem), inR x2 → okM M1 → c_X8_clearText 0 M x2 M1 → (I25 a b g k a b 0 0 1 1 32 M1)) :
    jSt p l e rm_L_walks s m args below meth c 23 D cy ad kdX lnX 46 A cells slots ex H0 Q 0 [some (.inr 0), some (.inl a), some (.inl b), some (.inl g), some (.inl k), w5_, w6_, w7_, w8_, w9_, w10_, w11_, w12_, w13_, w14_, w15_, w16_, w17_, w18_, w19_, w20_, w21_, w22_] [] M := by
  refine jC_snd (cst := cstL) (cuts := [0, 25, 27, 47, 80, 106, 111, 144, 183, 224, 259, 293, 346, 393, 466]) (J := js_L_walks_0x I25) C cstL_ok ⟨tb_L_walks_0x, ct_L_walks_0x, 18, tbo_L_walks_0x, by decide, by decide, exT_of hex, sct_L_walks_0x o_X8_clearText, h⟩ ?_
  intro pc ls st M hJ
  unfold js_L_walks_0x at hJ
  rcases bsel hJ with ⟨hpc, hI⟩ | hI
  all_goals clear hJ
  · obtain rfl := Nat.eq_of_beq_eq_true hpc
    unfold jg_L_walks_25 at hI
    split at hI
    rotate_left
    · exact hI.elim
    exact hJ25 _ _ _ _ _ _ _ _ _ _ _ _ _ _ _ _ _ _ _ _ _ _ _ _ hI
  have hJ := hI
  clear hI
  exact hJ.elim
def jg_L_walks_47 (I : Int → Int → Int → Int → Int → Int → Int → Int → Int → Int → Int → Int → Int → Mem → Prop) : List (Option AV) → List AV → Mem → Prop := fun ls st M => match ls, st, M with
  | [some (.inr 0), some (.inl a), some (.inl b), some (.inl g), some (.inl k), some (.inl t), some (.inl d), some (.inl y), some (.inl u), some (.inl v), some (.inl w), some (.inr 46), some (.inl q), some (.inl r), some (.inl i), _, _, _, _, _, _, _, _], [], M => I a b g k t d y u v w q r i M
  | _, _, _ => False
def tb_L_walks_27z : TB := [(27, .astore 11, 2, []), (29, .aload 11, 2, []), (31, .iconst 0, 1, []), (32, .iload_n 1, 1, []), (33, .iastore, 1, []), (34, .aload_n 0, 1, []), (35, .iconst 0, 1, []), (36, .invokevirtual 9, 3, []), (39, .istore 12, 2, []), (41, .iconst 0, 1, []), (42, .istore 13, 2, []), (44, .iconst 0, 1, []), (45, .istore 14, 2, [])]
theorem tbo_L_walks_27z : tbOK cL_walks tb_L_walks_27z = true := by decide +kernel
def ct_L_walks_27z : List (Nat × CS) := [(36, (2, 1, P_X8_value, CZ_X8_value))]
theorem sct_L_walks_27z {l : Launch} {D : va_G} {cy : Nat → ClassId} {ad : Nat → Nat} (o_X8_value : OKZ_X8_value l D cy ad 32) : ∀ q ∈ ct_L_walks_27z, Site l D cy ad kdZ (lnZ 32) 47 RL tb_L_walks_27z rm_L_walks q.1 q.2 := List.forall_mem_cons.mpr ⟨Or.inl ⟨9, 1, yX8_value, cX8_value, 2, (some .int), rm_X8_value, rfl, rfl, o_X8_value, ca_X8_value, mkL_9, ⟨rfl, rfl, Nat.le_of_ble_eq_true rfl, Nat.le_of_ble_eq_true rfl⟩, rvz_X8_value⟩, fun q h => absurd h List.not_mem_nil⟩
def js_L_walks_27z (I47 : Int → Int → Int → Int → Int → Int → Int → Int → Int → Int → Int → Int → Int → Mem → Prop) : KT := fun pc ls st M => bif Nat.beq pc 47 then jg_L_walks_47 I47 ls st M else (False)
set_option maxRecDepth 100000 in
set_option maxHeartbeats 4000000 in
theorem sg_L_walks_27z {p : Program} {l : Launch} {e : Env} {s : State} {m : MethodId} {args : Array Value} {below : List Frame} {meth : Method} {c : Code} {D : va_G} {cy : Nat → ClassId} {ad : Nat → Nat} {A : Nat → Prop} {cells slots : Nat} {ex : List (Nat × Value)} {H0 : Heap} {Q : State → Prop} {post : Int → Mem → Prop} (o_X8_value : OKZ_X8_value l D cy ad 32) (I47 : Int → Int → Int → Int → Int → Int → Int → Int → Int → Int → Int → Int → Int → Mem → Prop)
    (hex : exB (ex.map Prod.fst) tb_L_walks_27z = true) (C : jC p l e rm_L_walks s m args below meth c cL_walks 23 RL D cy ad kdZ (lnZ 32) 47 A cells slots H0 Q 2 post)
    (hJ47 : ∀ (w15_ : Option AV) (w16_ : Option AV) (w17_ : Option AV) (w18_ : Option AV) (w19_ : Option AV) (w20_ : Option AV) (w21_ : Option AV) (w22_ : Option AV) (a : Int) (b : Int) (g : Int) (k : Int) (t : Int) (d : Int) (y : Int) (u : Int) (v : Int) (w : Int) (q : Int) (r : Int) (i : Int) (M : Mem), I47 a b g k t d y u v w q r i M → jSt p l e rm_L_walks s m args below meth c 23 D cy ad kdZ (lnZ 32) 47 A cells slots ex H0 Q 47 [some (.inr 0), some (.inl a), some (.inl b), some (.inl g), some (.inl k), some (.inl t), some (.inl d), some (.inl y), some (.inl u), some (.inl v), some (.inl w), some (.inr 46), some (.inl q), some (.inl r), some (.inl i), w15_, w16_, w17_, w18_, w19_, w20_, w21_, w22_] [] M)
    (w11_ : Option AV) (w12_ : Option AV) (w13_ : Option AV) (w14_ : Option AV) (w15_ : Option AV) (w16_ : Option AV) (w17_ : Option AV) (w18_ : Option AV) (w19_ : Option AV) (w20_ : Option AV) (w21_ : Option AV) (w22_ : Option AV) (a : Int) (b : Int) (g : Int) (k : Int) (t : Int) (d : Int) (y : Int) (u : Int) (v : Int) (w : Int) (M : Mem) (h : kdZ 46 = 21 ∧ (0 ≤ (0 : Int) ∧ (0 : Int) < 32) ∧ (p_X8_value 0 0 (up M 46 ((0 : Int)).toNat a) ∧ ∀ (x2 : Int) (M1 : Mem), inR x2 → okM M1 → cz_X8_value 0 0 (up M 46 ((0 : Int)).toNat a) x2 M1 → (I47 a b g k t d y u v w x2 0 0 M1))) :
    jSt p l e rm_L_walks s m args below meth c 23 D cy ad kdZ (lnZ 32) 47 A cells slots ex H0 Q 27 [some (.inr 0), some (.inl a), some (.inl b), some (.inl g), some (.inl k), some (.inl t), some (.inl d), some (.inl y), some (.inl u), some (.inl v), some (.inl w), w11_, w12_, w13_, w14_, w15_, w16_, w17_, w18_, w19_, w20_, w21_, w22_] [.inr 46] M := by
  refine jC_snd (cst := cstL) (cuts := [0, 25, 27, 47, 80, 106, 111, 144, 183, 224, 259, 293, 346, 393, 466]) (J := js_L_walks_27z I47) C cstL_ok ⟨tb_L_walks_27z, ct_L_walks_27z, 15, tbo_L_walks_27z, by decide, by decide, exT_of hex, sct_L_walks_27z o_X8_value, h⟩ ?_
  intro pc ls st M hJ
  unfold js_L_walks_27z at hJ
  rcases bsel hJ with ⟨hpc, hI⟩ | hI
  all_goals clear hJ
  · obtain rfl := Nat.eq_of_beq_eq_true hpc
    unfold jg_L_walks_47 at hI
    split at hI
    rotate_left
    · exact hI.elim
    exact hJ47 _ _ _ _ _ _ _ _ _ _ _ _ _ _ _ _ _ _ _ _ _ _ hI
  have hJ := hI
  clear hI
  exact hJ.elim
def jg_L_walks_80 (I : Int → Int → Int → Int → Int → Int → Int → Int → Int → Int → Int → Int → Int → Int → Mem → Prop) : List (Option AV) → List AV → Mem → Prop := fun ls st M => match ls, st, M with
  | [some (.inr 0), some (.inl a), some (.inl b), some (.inl g), some (.inl k), some (.inl t), some (.inl d), some (.inl y), some (.inl u), some (.inl v), some (.inl w), some (.inr 46), some (.inl q), some (.inl r), some (.inl i), some (.inl o), _, _, _, _, _, _, _], [], M => I a b g k t d y u v w q r i o M
  | _, _, _ => False
def jg_L_walks_466 (I : Int → Int → Int → Int → Int → Int → Int → Int → Int → Int → Int → Int → Int → Mem → Prop) : List (Option AV) → List AV → Mem → Prop := fun ls st M => match ls, st, M with
  | [some (.inr 0), some (.inl a), some (.inl b), some (.inl g), some (.inl k), some (.inl t), some (.inl d), some (.inl y), some (.inl u), some (.inl v), some (.inl w), some (.inr 46), some (.inl q), some (.inl r), some (.inl i), _, _, _, _, _, _, _, _], [], M => I a b g k t d y u v w q r i M
  | _, _, _ => False
def tb_L_walks_47z : TB := [(47, .iload 14, 2, []), (49, .bipush 20, 2, []), (51, .if_icmp .ge 348, 3, [399]), (54, .iload 14, 2, []), (56, .bipush 10, 2, []), (58, .if_icmp .ge 7, 3, [65]), (61, .iload_n 3, 1, []), (62, .goto 5, 3, [67]), (65, .iload 4, 2, []), (67, .iconst 3, 1, []), (68, .iload 14, 2, []), (70, .bipush 10, 2, []), (72, .irem, 1, []), (73, .imul, 1, []), (74, .ishr, 1, []), (75, .bipush 7, 2, []), (77, .iand, 1, []), (78, .istore 15, 2, []), (399, .aload_n 0, 1, []), (400, .iload_n 1, 1, []), (401, .iload_n 2, 1, []), (402, .iconst 0, 1, []), (403, .invokevirtual 67, 3, []), (406, .iload 5, 2, []), (408, .if_icmp .ne 55, 3, [463]), (411, .aload_n 0, 1, []), (412, .iload_n 1, 1, []), (413, .iload_n 2, 1, []), (414, .iconst 1, 1, []), (415, .invokevirtual 67, 3, []), (418, .iload 6, 2, []), (420, .if_icmp .ne 43, 3, [463]), (423, .aload_n 0, 1, []), (424, .iload_n 1, 1, []), (425, .iload_n 2, 1, []), (426, .iconst 2, 1, []), (427, .invokevirtual 67, 3, []), (430, .iload 7, 2, []), (432, .if_icmp .ne 31, 3, [463]), (435, .aload_n 0, 1, []), (436, .iload_n 1, 1, []), (437, .iload_n 2, 1, []), (438, .iconst 3, 1, []), (439, .invokevirtual 67, 3, []), (442, .iload 8, 2, []), (444, .if_icmp .ne 19, 3, [463]), (447, .aload_n 0, 1, []), (448, .iload_n 1, 1, []), (449, .iload_n 2, 1, []), (450, .iconst 4, 1, []), (451, .invokevirtual 67, 3, []), (454, .iload 9, 2, []), (456, .if_icmp .ne 7, 3, [463]), (459, .iconst 1, 1, []), (460, .goto 4, 3, [464]), (463, .iconst 0, 1, []), (464, .istore 14, 2, [])]
theorem tbo_L_walks_47z : tbOK cL_walks tb_L_walks_47z = true := by decide +kernel
def ct_L_walks_47z : List (Nat × CS) := [(403, (4, 1, P_X8_walk, CZ_X8_walk)), (415, (4, 1, P_X8_walk, CZ_X8_walk)), (427, (4, 1, P_X8_walk, CZ_X8_walk)), (439, (4, 1, P_X8_walk, CZ_X8_walk)), (451, (4, 1, P_X8_walk, CZ_X8_walk))]
theorem sct_L_walks_47z {l : Launch} {D : va_G} {cy : Nat → ClassId} {ad : Nat → Nat} (o_X8_walk : OKZ_X8_walk l D cy ad 32) : ∀ q ∈ ct_L_walks_47z, Site l D cy ad kdZ (lnZ 32) 47 RL tb_L_walks_47z rm_L_walks q.1 q.2 := List.forall_mem_cons.mpr ⟨Or.inl ⟨67, 3, yX8_walk, cX8_walk, 5, (some .int), rm_X8_walk, rfl, rfl, o_X8_walk, ca_X8_walk, mkL_67, ⟨rfl, rfl, Nat.le_of_ble_eq_true rfl, Nat.le_of_ble_eq_true rfl⟩, rvz_X8_walk⟩, List.forall_mem_cons.mpr ⟨Or.inl ⟨67, 3, yX8_walk, cX8_walk, 5, (some .int), rm_X8_walk, rfl, rfl, o_X8_walk, ca_X8_walk, mkL_67, ⟨rfl, rfl, Nat.le_of_ble_eq_true rfl, Nat.le_of_ble_eq_true rfl⟩, rvz_X8_walk⟩, List.forall_mem_cons.mpr ⟨Or.inl ⟨67, 3, yX8_walk, cX8_walk, 5, (some .int), rm_X8_walk, rfl, rfl, o_X8_walk, ca_X8_walk, mkL_67, ⟨rfl, rfl, Nat.le_of_ble_eq_true rfl, Nat.le_of_ble_eq_true rfl⟩, rvz_X8_walk⟩, List.forall_mem_cons.mpr ⟨Or.inl ⟨67, 3, yX8_walk, cX8_walk, 5, (some .int), rm_X8_walk, rfl, rfl, o_X8_walk, ca_X8_walk, mkL_67, ⟨rfl, rfl, Nat.le_of_ble_eq_true rfl, Nat.le_of_ble_eq_true rfl⟩, rvz_X8_walk⟩, List.forall_mem_cons.mpr ⟨Or.inl ⟨67, 3, yX8_walk, cX8_walk, 5, (some .int), rm_X8_walk, rfl, rfl, o_X8_walk, ca_X8_walk, mkL_67, ⟨rfl, rfl, Nat.le_of_ble_eq_true rfl, Nat.le_of_ble_eq_true rfl⟩, rvz_X8_walk⟩, fun q h => absurd h List.not_mem_nil⟩⟩⟩⟩⟩
def js_L_walks_47z (I80 : Int → Int → Int → Int → Int → Int → Int → Int → Int → Int → Int → Int → Int → Int → Mem → Prop) (I466 : Int → Int → Int → Int → Int → Int → Int → Int → Int → Int → Int → Int → Int → Mem → Prop) : KT := fun pc ls st M => bif Nat.beq pc 80 then jg_L_walks_80 I80 ls st M else (bif Nat.beq pc 466 then jg_L_walks_466 I466 ls st M else (False))
set_option maxRecDepth 100000 in
set_option maxHeartbeats 4000000 in
theorem sg_L_walks_47z {p : Program} {l : Launch} {e : Env} {s : State} {m : MethodId} {args : Array Value} {below : List Frame} {meth : Method} {c : Code} {D : va_G} {cy : Nat → ClassId} {ad : Nat → Nat} {A : Nat → Prop} {cells slots : Nat} {ex : List (Nat × Value)} {H0 : Heap} {Q : State → Prop} {post : Int → Mem → Prop} (o_X8_walk : OKZ_X8_walk l D cy ad 32) (I80 : Int → Int → Int → Int → Int → Int → Int → Int → Int → Int → Int → Int → Int → Int → Mem → Prop) (I466 : Int → Int → Int → Int → Int → Int → Int → Int → Int → Int → Int → Int → Int → Mem → Prop)
    (hex : exB (ex.map Prod.fst) tb_L_walks_47z = true) (C : jC p l e rm_L_walks s m args below meth c cL_walks 23 RL D cy ad kdZ (lnZ 32) 47 A cells slots H0 Q 2 post)
    (hJ80 : ∀ (w16_ : Option AV) (w17_ : Option AV) (w18_ : Option AV) (w19_ : Option AV) (w20_ : Option AV) (w21_ : Option AV) (w22_ : Option AV) (a : Int) (b : Int) (g : Int) (k : Int) (t : Int) (d : Int) (y : Int) (u : Int) (v : Int) (w : Int) (q : Int) (r : Int) (i : Int) (o : Int) (M : Mem), I80 a b g k t d y u v w q r i o M → jSt p l e rm_L_walks s m args below meth c 23 D cy ad kdZ (lnZ 32) 47 A cells slots ex H0 Q 80 [some (.inr 0), some (.inl a), some (.inl b), some (.inl g), some (.inl k), some (.inl t), some (.inl d), some (.inl y), some (.inl u), some (.inl v), some (.inl w), some (.inr 46), some (.inl q), some (.inl r), some (.inl i), some (.inl o), w16_, w17_, w18_, w19_, w20_, w21_, w22_] [] M)
    (hJ466 : ∀ (w15_ : Option AV) (w16_ : Option AV) (w17_ : Option AV) (w18_ : Option AV) (w19_ : Option AV) (w20_ : Option AV) (w21_ : Option AV) (w22_ : Option AV) (a : Int) (b : Int) (g : Int) (k : Int) (t : Int) (d : Int) (y : Int) (u : Int) (v : Int) (w : Int) (q : Int) (r : Int) (i : Int) (M : Mem), I466 a b g k t d y u v w q r i M → jSt p l e rm_L_walks s m args below meth c 23 D cy ad kdZ (lnZ 32) 47 A cells slots ex H0 Q 466 [some (.inr 0), some (.inl a), some (.inl b), some (.inl g), some (.inl k), some (.inl t), some (.inl d), some (.inl y), some (.inl u), some (.inl v), some (.inl w), some (.inr 46), some (.inl q), some (.inl r), some (.inl i), w15_, w16_, w17_, w18_, w19_, w20_, w21_, w22_] [] M)
    (w15_ : Option AV) (w16_ : Option AV) (w17_ : Option AV) (w18_ : Option AV) (w19_ : Option AV) (w20_ : Option AV) (w21_ : Option AV) (w22_ : Option AV) (a : Int) (b : Int) (g : Int) (k : Int) (t : Int) (d : Int) (y : Int) (u : Int) (v : Int) (w : Int) (q : Int) (r : Int) (i : Int) (M : Mem) (h : ((20 : Int) ≤ i → (p_X8_walk 0 a b 0 M ∧ ∀ (x2 : Int) (M1 : Mem), inR x2 → okM M1 → cz_X8_walk 0 a b 0 M x2 M1 → ((¬ x2 = t → (I466 a b g k t d y u v w q r 0 M1)) ∧ (¬ (¬ x2 = t) → (p_X8_walk 0 a b 1 M1 ∧ ∀ (x4 : Int) (M3 : Mem), inR x4 → okM M3 → cz_X8_walk 0 a b 1 M1 x4 M3 → ((¬ x4 = d → (I466 a b g k t d y u v w q r 0 M3)) ∧ (¬ (¬ x4 = d) → (p_X8_walk 0 a b 2 M3 ∧ ∀ (x6 : Int) (M5 : Mem), inR x6 → okM M5 → cz_X8_walk 0 a b 2 M3 x6 M5 → ((¬ x6 = y → (I466 a b g k t d y u v w q r 0 M5)) ∧ (¬ (¬ x6 = y) → (p_X8_walk 0 a b 3 M5 ∧ ∀ (x8 : Int) (M7 : Mem), inR x8 → okM M7 → cz_X8_walk 0 a b 3 M5 x8 M7 → ((¬ x8 = u → (I466 a b g k t d y u v w q r 0 M7)) ∧ (¬ (¬ x8 = u) → (p_X8_walk 0 a b 4 M7 ∧ ∀ (x10 : Int) (M9 : Mem), inR x10 → okM M9 → cz_X8_walk 0 a b 4 M7 x10 M9 → ((¬ x10 = v → (I466 a b g k t d y u v w q r 0 M9)) ∧ (¬ (¬ x10 = v) → (I466 a b g k t d y u v w q r 1 M9))))))))))))))))) ∧ (¬ (20 : Int) ≤ i → (((10 : Int) ≤ i → (0 < (10 : Int) ∧ (inR (3 * (Int.tmod i 10)) ∧ (I80 a b g k t d y u v w q r i (bAnd (bShr k (3 * (Int.tmod i 10))) 7) M)))) ∧ (¬ (10 : Int) ≤ i → (0 < (10 : Int) ∧ (inR (3 * (Int.tmod i 10)) ∧ (I80 a b g k t d y u v w q r i (bAnd (bShr g (3 * (Int.tmod i 10))) 7) M))))))) :
    jSt p l e rm_L_walks s m args below meth c 23 D cy ad kdZ (lnZ 32) 47 A cells slots ex H0 Q 47 [some (.inr 0), some (.inl a), some (.inl b), some (.inl g), some (.inl k), some (.inl t), some (.inl d), some (.inl y), some (.inl u), some (.inl v), some (.inl w), some (.inr 46), some (.inl q), some (.inl r), some (.inl i), w15_, w16_, w17_, w18_, w19_, w20_, w21_, w22_] [] M := by
  refine jC_snd (cst := cstL) (cuts := [0, 25, 27, 47, 80, 106, 111, 144, 183, 224, 259, 293, 346, 393, 466]) (J := js_L_walks_47z I80 I466) C cstL_ok ⟨tb_L_walks_47z, ct_L_walks_47z, 59, tbo_L_walks_47z, by decide, by decide, exT_of hex, sct_L_walks_47z o_X8_walk, h⟩ ?_
  intro pc ls st M hJ
  unfold js_L_walks_47z at hJ
  rcases bsel hJ with ⟨hpc, hI⟩ | hI
  all_goals clear hJ
  · obtain rfl := Nat.eq_of_beq_eq_true hpc
    unfold jg_L_walks_80 at hI
    split at hI
    rotate_left
    · exact hI.elim
    exact hJ80 _ _ _ _ _ _ _ _ _ _ _ _ _ _ _ _ _ _ _ _ _ _ hI
  have hJ := hI
  clear hI
  rcases bsel hJ with ⟨hpc, hI⟩ | hI
  all_goals clear hJ
  · obtain rfl := Nat.eq_of_beq_eq_true hpc
    unfold jg_L_walks_466 at hI
    split at hI
    rotate_left
    · exact hI.elim
    exact hJ466 _ _ _ _ _ _ _ _ _ _ _ _ _ _ _ _ _ _ _ _ _ _ hI
  have hJ := hI
  clear hI
  exact hJ.elim
def jg_L_walks_106 (I : Int → Int → Int → Int → Int → Int → Int → Int → Int → Int → Int → Int → Int → Int → Int → Mem → Prop) : List (Option AV) → List AV → Mem → Prop := fun ls st M => match ls, st, M with
  | [some (.inr 0), some (.inl a), some (.inl b), some (.inl g), some (.inl k), some (.inl t), some (.inl d), some (.inl y), some (.inl u), some (.inl v), some (.inl w), some (.inr 46), some (.inl q), some (.inl r), some (.inl i), some (.inl o), _, _, _, _, _, _, _], [.inl z, .inr 0], M => I a b g k t d y u v w q r i o z M
  | _, _, _ => False
def tb_L_walks_80z : TB := [(80, .aload_n 0, 1, []), (81, .iload 15, 2, []), (83, .iconst 4, 1, []), (84, .if_icmp .ge 8, 3, [92]), (87, .bipush 102, 2, []), (89, .goto 17, 3, [106]), (92, .iload 15, 2, []), (94, .bipush 6, 2, []), (96, .if_icmp .ge 8, 3, [104]), (99, .bipush 114, 2, []), (101, .goto 5, 3, [106]), (104, .bipush 108, 2, [])]
theorem tbo_L_walks_80z : tbOK cL_walks tb_L_walks_80z = true := by decide +kernel
def ct_L_walks_80z : List (Nat × CS) := []
theorem sct_L_walks_80z {l : Launch} {D : va_G} {cy : Nat → ClassId} {ad : Nat → Nat}  : ∀ q ∈ ct_L_walks_80z, Site l D cy ad kdZ (lnZ 32) 47 RL tb_L_walks_80z rm_L_walks q.1 q.2 := fun q h => absurd h List.not_mem_nil
def js_L_walks_80z (I106 : Int → Int → Int → Int → Int → Int → Int → Int → Int → Int → Int → Int → Int → Int → Int → Mem → Prop) : KT := fun pc ls st M => bif Nat.beq pc 106 then jg_L_walks_106 I106 ls st M else (False)
set_option maxRecDepth 100000 in
set_option maxHeartbeats 4000000 in
theorem sg_L_walks_80z {p : Program} {l : Launch} {e : Env} {s : State} {m : MethodId} {args : Array Value} {below : List Frame} {meth : Method} {c : Code} {D : va_G} {cy : Nat → ClassId} {ad : Nat → Nat} {A : Nat → Prop} {cells slots : Nat} {ex : List (Nat × Value)} {H0 : Heap} {Q : State → Prop} {post : Int → Mem → Prop}  (I106 : Int → Int → Int → Int → Int → Int → Int → Int → Int → Int → Int → Int → Int → Int → Int → Mem → Prop)
    (hex : exB (ex.map Prod.fst) tb_L_walks_80z = true) (C : jC p l e rm_L_walks s m args below meth c cL_walks 23 RL D cy ad kdZ (lnZ 32) 47 A cells slots H0 Q 2 post)
    (hJ106 : ∀ (w16_ : Option AV) (w17_ : Option AV) (w18_ : Option AV) (w19_ : Option AV) (w20_ : Option AV) (w21_ : Option AV) (w22_ : Option AV) (a : Int) (b : Int) (g : Int) (k : Int) (t : Int) (d : Int) (y : Int) (u : Int) (v : Int) (w : Int) (q : Int) (r : Int) (i : Int) (o : Int) (z : Int) (M : Mem), I106 a b g k t d y u v w q r i o z M → jSt p l e rm_L_walks s m args below meth c 23 D cy ad kdZ (lnZ 32) 47 A cells slots ex H0 Q 106 [some (.inr 0), some (.inl a), some (.inl b), some (.inl g), some (.inl k), some (.inl t), some (.inl d), some (.inl y), some (.inl u), some (.inl v), some (.inl w), some (.inr 46), some (.inl q), some (.inl r), some (.inl i), some (.inl o), w16_, w17_, w18_, w19_, w20_, w21_, w22_] [.inl z, .inr 0] M)
    (w16_ : Option AV) (w17_ : Option AV) (w18_ : Option AV) (w19_ : Option AV) (w20_ : Option AV) (w21_ : Option AV) (w22_ : Option AV) (a : Int) (b : Int) (g : Int) (k : Int) (t : Int) (d : Int) (y : Int) (u : Int) (v : Int) (w : Int) (q : Int) (r : Int) (i : Int) (o : Int) (M : Mem) (h : ((4 : Int) ≤ o → (((6 : Int) ≤ o → (I106 a b g k t d y u v w q r i o 108 M)) ∧ (¬ (6 : Int) ≤ o → (I106 a b g k t d y u v w q r i o 114 M)))) ∧ (¬ (4 : Int) ≤ o → (I106 a b g k t d y u v w q r i o 102 M))) :
    jSt p l e rm_L_walks s m args below meth c 23 D cy ad kdZ (lnZ 32) 47 A cells slots ex H0 Q 80 [some (.inr 0), some (.inl a), some (.inl b), some (.inl g), some (.inl k), some (.inl t), some (.inl d), some (.inl y), some (.inl u), some (.inl v), some (.inl w), some (.inr 46), some (.inl q), some (.inl r), some (.inl i), some (.inl o), w16_, w17_, w18_, w19_, w20_, w21_, w22_] [] M := by
  refine jC_snd (cst := cstL) (cuts := [0, 25, 27, 47, 80, 106, 111, 144, 183, 224, 259, 293, 346, 393, 466]) (J := js_L_walks_80z I106) C cstL_ok ⟨tb_L_walks_80z, ct_L_walks_80z, 14, tbo_L_walks_80z, by decide, by decide, exT_of hex, sct_L_walks_80z , h⟩ ?_
  intro pc ls st M hJ
  unfold js_L_walks_80z at hJ
  rcases bsel hJ with ⟨hpc, hI⟩ | hI
  all_goals clear hJ
  · obtain rfl := Nat.eq_of_beq_eq_true hpc
    unfold jg_L_walks_106 at hI
    split at hI
    rotate_left
    · exact hI.elim
    exact hJ106 _ _ _ _ _ _ _ _ _ _ _ _ _ _ _ _ _ _ _ _ _ _ _ hI
  have hJ := hI
  clear hI
  exact hJ.elim
def jg_L_walks_111 (I : Int → Int → Int → Int → Int → Int → Int → Int → Int → Int → Int → Int → Int → Int → Mem → Prop) : List (Option AV) → List AV → Mem → Prop := fun ls st M => match ls, st, M with
  | [some (.inr 0), some (.inl a), some (.inl b), some (.inl g), some (.inl k), some (.inl t), some (.inl d), some (.inl y), some (.inl u), some (.inl v), some (.inl w), some (.inr 46), some (.inl q), some (.inl r), some (.inl i), some (.inl o), _, _, _, _, _, _, _], [], M => I a b g k t d y u v w q r i o M
  | _, _, _ => False
def tb_L_walks_106z : TB := [(106, .invokevirtual 63, 3, []), (109, .istore 13, 2, [])]
theorem tbo_L_walks_106z : tbOK cL_walks tb_L_walks_106z = true := by decide +kernel
def ct_L_walks_106z : List (Nat × CS) := [(106, (2, 1, P_X8_type, CZ_X8_type))]
theorem sct_L_walks_106z {l : Launch} {D : va_G} {cy : Nat → ClassId} {ad : Nat → Nat} (o_X8_type : OKZ_X8_type l D cy ad 32) : ∀ q ∈ ct_L_walks_106z, Site l D cy ad kdZ (lnZ 32) 47 RL tb_L_walks_106z rm_L_walks q.1 q.2 := List.forall_mem_cons.mpr ⟨Or.inl ⟨63, 1, yX8_type, cX8_type, 2, (some .int), rm_X8_type, rfl, rfl, o_X8_type, ca_X8_type, mkL_63, ⟨rfl, rfl, Nat.le_of_ble_eq_true rfl, Nat.le_of_ble_eq_true rfl⟩, rvz_X8_type⟩, fun q h => absurd h List.not_mem_nil⟩
def js_L_walks_106z (I111 : Int → Int → Int → Int → Int → Int → Int → Int → Int → Int → Int → Int → Int → Int → Mem → Prop) : KT := fun pc ls st M => bif Nat.beq pc 111 then jg_L_walks_111 I111 ls st M else (False)
set_option maxRecDepth 100000 in
set_option maxHeartbeats 4000000 in
theorem sg_L_walks_106z {p : Program} {l : Launch} {e : Env} {s : State} {m : MethodId} {args : Array Value} {below : List Frame} {meth : Method} {c : Code} {D : va_G} {cy : Nat → ClassId} {ad : Nat → Nat} {A : Nat → Prop} {cells slots : Nat} {ex : List (Nat × Value)} {H0 : Heap} {Q : State → Prop} {post : Int → Mem → Prop} (o_X8_type : OKZ_X8_type l D cy ad 32) (I111 : Int → Int → Int → Int → Int → Int → Int → Int → Int → Int → Int → Int → Int → Int → Mem → Prop)
    (hex : exB (ex.map Prod.fst) tb_L_walks_106z = true) (C : jC p l e rm_L_walks s m args below meth c cL_walks 23 RL D cy ad kdZ (lnZ 32) 47 A cells slots H0 Q 2 post)
    (hJ111 : ∀ (w16_ : Option AV) (w17_ : Option AV) (w18_ : Option AV) (w19_ : Option AV) (w20_ : Option AV) (w21_ : Option AV) (w22_ : Option AV) (a : Int) (b : Int) (g : Int) (k : Int) (t : Int) (d : Int) (y : Int) (u : Int) (v : Int) (w : Int) (q : Int) (r : Int) (i : Int) (o : Int) (M : Mem), I111 a b g k t d y u v w q r i o M → jSt p l e rm_L_walks s m args below meth c 23 D cy ad kdZ (lnZ 32) 47 A cells slots ex H0 Q 111 [some (.inr 0), some (.inl a), some (.inl b), some (.inl g), some (.inl k), some (.inl t), some (.inl d), some (.inl y), some (.inl u), some (.inl v), some (.inl w), some (.inr 46), some (.inl q), some (.inl r), some (.inl i), some (.inl o), w16_, w17_, w18_, w19_, w20_, w21_, w22_] [] M)
    (w16_ : Option AV) (w17_ : Option AV) (w18_ : Option AV) (w19_ : Option AV) (w20_ : Option AV) (w21_ : Option AV) (w22_ : Option AV) (a : Int) (b : Int) (g : Int) (k : Int) (t : Int) (d : Int) (y : Int) (u : Int) (v : Int) (w : Int) (q : Int) (r : Int) (i : Int) (o : Int) (z : Int) (M : Mem) (h : p_X8_type 0 z M ∧ ∀ (x2 : Int) (M1 : Mem), inR x2 → okM M1 → cz_X8_type 0 z M x2 M1 → (I111 a b g k t d y u v w q x2 i o M1)) :
    jSt p l e rm_L_walks s m args below meth c 23 D cy ad kdZ (lnZ 32) 47 A cells slots ex H0 Q 106 [some (.inr 0), some (.inl a), some (.inl b), some (.inl g), some (.inl k), some (.inl t), some (.inl d), some (.inl y), some (.inl u), some (.inl v), some (.inl w), some (.inr 46), some (.inl q), some (.inl r), some (.inl i), some (.inl o), w16_, w17_, w18_, w19_, w20_, w21_, w22_] [.inl z, .inr 0] M := by
  refine jC_snd (cst := cstL) (cuts := [0, 25, 27, 47, 80, 106, 111, 144, 183, 224, 259, 293, 346, 393, 466]) (J := js_L_walks_106z I111) C cstL_ok ⟨tb_L_walks_106z, ct_L_walks_106z, 4, tbo_L_walks_106z, by decide, by decide, exT_of hex, sct_L_walks_106z o_X8_type, h⟩ ?_
  intro pc ls st M hJ
  unfold js_L_walks_106z at hJ
  rcases bsel hJ with ⟨hpc, hI⟩ | hI
  all_goals clear hJ
  · obtain rfl := Nat.eq_of_beq_eq_true hpc
    unfold jg_L_walks_111 at hI
    split at hI
    rotate_left
    · exact hI.elim
    exact hJ111 _ _ _ _ _ _ _ _ _ _ _ _ _ _ _ _ _ _ _ _ _ _ hI
  have hJ := hI
  clear hI
  exact hJ.elim
def jg_L_walks_144 (I : Int → Int → Int → Int → Int → Int → Int → Int → Int → Int → Int → Int → Int → Int → Int → Mem → Prop) : List (Option AV) → List AV → Mem → Prop := fun ls st M => match ls, st, M with
  | [some (.inr 0), some (.inl a), some (.inl b), some (.inl g), some (.inl k), some (.inl t), some (.inl d), some (.inl y), some (.inl u), some (.inl v), some (.inl w), some (.inr 46), some (.inl q), some (.inl r), some (.inl i), some (.inl o), some (.inl f), _, _, _, _, _, _], [], M => I a b g k t d y u v w q r i o f M
  | _, _, _ => False
def jg_L_walks_346 (I : Int → Int → Int → Int → Int → Int → Int → Int → Int → Int → Int → Int → Int → Int → Mem → Prop) : List (Option AV) → List AV → Mem → Prop := fun ls st M => match ls, st, M with
  | [some (.inr 0), some (.inl a), some (.inl b), some (.inl g), some (.inl k), some (.inl t), some (.inl d), some (.inl y), some (.inl u), some (.inl v), some (.inl w), some (.inr 46), some (.inl q), some (.inl r), some (.inl i), some (.inl o), _, _, _, _, _, _, _], [], M => I a b g k t d y u v w q r i o M
  | _, _, _ => False
def tb_L_walks_111z : TB := [(111, .iload 10, 2, []), (113, .ifCond .eq 233, 3, [346]), (116, .iload 15, 2, []), (118, .iconst 4, 1, []), (119, .if_icmp .ge 227, 3, [346]), (122, .aload_n 0, 1, []), (123, .iload 5, 2, []), (125, .iload 6, 2, []), (127, .invokevirtual 15, 3, []), (130, .istore 16, 2, []), (132, .iload 16, 2, []), (134, .ifCond .lt 7, 3, [141]), (137, .iconst 1, 1, []), (138, .goto 4, 3, [142]), (141, .iconst 0, 1, []), (142, .istore 10, 2, [])]
theorem tbo_L_walks_111z : tbOK cL_walks tb_L_walks_111z = true := by decide +kernel
def ct_L_walks_111z : List (Nat × CS) := [(127, (3, 1, P_X8_neighbour, CZ_X8_neighbour))]
theorem sct_L_walks_111z {l : Launch} {D : va_G} {cy : Nat → ClassId} {ad : Nat → Nat} (o_X8_neighbour : OKZ_X8_neighbour l D cy ad 32) : ∀ q ∈ ct_L_walks_111z, Site l D cy ad kdZ (lnZ 32) 47 RL tb_L_walks_111z rm_L_walks q.1 q.2 := List.forall_mem_cons.mpr ⟨Or.inl ⟨15, 2, yX8_neighbour, cX8_neighbour, 3, (some .int), rm_X8_neighbour, rfl, rfl, o_X8_neighbour, ca_X8_neighbour, mkL_15, ⟨rfl, rfl, Nat.le_of_ble_eq_true rfl, Nat.le_of_ble_eq_true rfl⟩, rvz_X8_neighbour⟩, fun q h => absurd h List.not_mem_nil⟩
def js_L_walks_111z (I144 : Int → Int → Int → Int → Int → Int → Int → Int → Int → Int → Int → Int → Int → Int → Int → Mem → Prop) (I346 : Int → Int → Int → Int → Int → Int → Int → Int → Int → Int → Int → Int → Int → Int → Mem → Prop) : KT := fun pc ls st M => bif Nat.beq pc 144 then jg_L_walks_144 I144 ls st M else (bif Nat.beq pc 346 then jg_L_walks_346 I346 ls st M else (False))
set_option maxRecDepth 100000 in
set_option maxHeartbeats 4000000 in
theorem sg_L_walks_111z {p : Program} {l : Launch} {e : Env} {s : State} {m : MethodId} {args : Array Value} {below : List Frame} {meth : Method} {c : Code} {D : va_G} {cy : Nat → ClassId} {ad : Nat → Nat} {A : Nat → Prop} {cells slots : Nat} {ex : List (Nat × Value)} {H0 : Heap} {Q : State → Prop} {post : Int → Mem → Prop} (o_X8_neighbour : OKZ_X8_neighbour l D cy ad 32) (I144 : Int → Int → Int → Int → Int → Int → Int → Int → Int → Int → Int → Int → Int → Int → Int → Mem → Prop) (I346 : Int → Int → Int → Int → Int → Int → Int → Int → Int → Int → Int → Int → Int → Int → Mem → Prop)
    (hex : exB (ex.map Prod.fst) tb_L_walks_111z = true) (C : jC p l e rm_L_walks s m args below meth c cL_walks 23 RL D cy ad kdZ (lnZ 32) 47 A cells slots H0 Q 2 post)
    (hJ144 : ∀ (w17_ : Option AV) (w18_ : Option AV) (w19_ : Option AV) (w20_ : Option AV) (w21_ : Option AV) (w22_ : Option AV) (a : Int) (b : Int) (g : Int) (k : Int) (t : Int) (d : Int) (y : Int) (u : Int) (v : Int) (w : Int) (q : Int) (r : Int) (i : Int) (o : Int) (f : Int) (M : Mem), I144 a b g k t d y u v w q r i o f M → jSt p l e rm_L_walks s m args below meth c 23 D cy ad kdZ (lnZ 32) 47 A cells slots ex H0 Q 144 [some (.inr 0), some (.inl a), some (.inl b), some (.inl g), some (.inl k), some (.inl t), some (.inl d), some (.inl y), some (.inl u), some (.inl v), some (.inl w), some (.inr 46), some (.inl q), some (.inl r), some (.inl i), some (.inl o), some (.inl f), w17_, w18_, w19_, w20_, w21_, w22_] [] M)
    (hJ346 : ∀ (w16_ : Option AV) (w17_ : Option AV) (w18_ : Option AV) (w19_ : Option AV) (w20_ : Option AV) (w21_ : Option AV) (w22_ : Option AV) (a : Int) (b : Int) (g : Int) (k : Int) (t : Int) (d : Int) (y : Int) (u : Int) (v : Int) (w : Int) (q : Int) (r : Int) (i : Int) (o : Int) (M : Mem), I346 a b g k t d y u v w q r i o M → jSt p l e rm_L_walks s m args below meth c 23 D cy ad kdZ (lnZ 32) 47 A cells slots ex H0 Q 346 [some (.inr 0), some (.inl a), some (.inl b), some (.inl g), some (.inl k), some (.inl t), some (.inl d), some (.inl y), some (.inl u), some (.inl v), some (.inl w), some (.inr 46), some (.inl q), some (.inl r), some (.inl i), some (.inl o), w16_, w17_, w18_, w19_, w20_, w21_, w22_] [] M)
    (w16_ : Option AV) (w17_ : Option AV) (w18_ : Option AV) (w19_ : Option AV) (w20_ : Option AV) (w21_ : Option AV) (w22_ : Option AV) (a : Int) (b : Int) (g : Int) (k : Int) (t : Int) (d : Int) (y : Int) (u : Int) (v : Int) (w : Int) (q : Int) (r : Int) (i : Int) (o : Int) (M : Mem) (h : (w = (0 : Int) → (I346 a b g k t d y u v w q r i o M)) ∧ (¬ w = (0 : Int) → (((4 : Int) ≤ o → (I346 a b g k t d y u v w q r i o M)) ∧ (¬ (4 : Int) ≤ o → (p_X8_neighbour 0 t d M ∧ ∀ (x2 : Int) (M1 : Mem), inR x2 → okM M1 → cz_X8_neighbour 0 t d M x2 M1 → ((x2 < (0 : Int) → (I144 a b g k t d y u v 0 q r i o x2 M1)) ∧ (¬ x2 < (0 : Int) → (I144 a b g k t d y u v 1 q r i o x2 M1)))))))) :
    jSt p l e rm_L_walks s m args below meth c 23 D cy ad kdZ (lnZ 32) 47 A cells slots ex H0 Q 111 [some (.inr 0), some (.inl a), some (.inl b), some (.inl g), some (.inl k), some (.inl t), some (.inl d), some (.inl y), some (.inl u), some (.inl v), some (.inl w), some (.inr 46), some (.inl q), some (.inl r), some (.inl i), some (.inl o), w16_, w17_, w18_, w19_, w20_, w21_, w22_] [] M := by
  refine jC_snd (cst := cstL) (cuts := [0, 25, 27, 47, 80, 106, 111, 144, 183, 224, 259, 293, 346, 393, 466]) (J := js_L_walks_111z I144 I346) C cstL_ok ⟨tb_L_walks_111z, ct_L_walks_111z, 18, tbo_L_walks_111z, by decide, by decide, exT_of hex, sct_L_walks_111z o_X8_neighbour, h⟩ ?_
  intro pc ls st M hJ
  unfold js_L_walks_111z at hJ
  rcases bsel hJ with ⟨hpc, hI⟩ | hI
  all_goals clear hJ
  · obtain rfl := Nat.eq_of_beq_eq_true hpc
    unfold jg_L_walks_144 at hI
    split at hI
    rotate_left
    · exact hI.elim
    exact hJ144 _ _ _ _ _ _ _ _ _ _ _ _ _ _ _ _ _ _ _ _ _ _ hI
  have hJ := hI
  clear hI
  rcases bsel hJ with ⟨hpc, hI⟩ | hI
  all_goals clear hJ
  · obtain rfl := Nat.eq_of_beq_eq_true hpc
    unfold jg_L_walks_346 at hI
    split at hI
    rotate_left
    · exact hI.elim
    exact hJ346 _ _ _ _ _ _ _ _ _ _ _ _ _ _ _ _ _ _ _ _ _ _ hI
  have hJ := hI
  clear hI
  exact hJ.elim
def jg_L_walks_183 (I : Int → Int → Int → Int → Int → Int → Int → Int → Int → Int → Int → Int → Int → Int → Int → Int → Int → Mem → Prop) : List (Option AV) → List AV → Mem → Prop := fun ls st M => match ls, st, M with
  | [some (.inr 0), some (.inl a), some (.inl b), some (.inl g), some (.inl k), some (.inl t), some (.inl d), some (.inl y), some (.inl u), some (.inl v), some (.inl w), some (.inr 46), some (.inl q), some (.inl r), some (.inl i), some (.inl o), some (.inl f), some (.inl z), some (.inl as_), _, _, _, _], [], M => I a b g k t d y u v w q r i o f z as_ M
  | _, _, _ => False
def tb_L_walks_144z : TB := [(144, .iload 5, 2, []), (146, .iload 12, 2, []), (148, .irem, 1, []), (149, .istore 17, 2, []), (151, .iload 6, 2, []), (153, .ifCond .ne 12, 3, [165]), (156, .iload 17, 2, []), (158, .iload 12, 2, []), (160, .iconst 1, 1, []), (161, .isub, 1, []), (162, .if_icmp .eq 14, 3, [176]), (165, .iload 6, 2, []), (167, .iconst 2, 1, []), (168, .if_icmp .ne 12, 3, [180]), (171, .iload 17, 2, []), (173, .ifCond .ne 7, 3, [180]), (176, .iconst 1, 1, []), (177, .goto 4, 3, [181]), (180, .iconst 0, 1, []), (181, .istore 18, 2, [])]
theorem tbo_L_walks_144z : tbOK cL_walks tb_L_walks_144z = true := by decide +kernel
def ct_L_walks_144z : List (Nat × CS) := []
theorem sct_L_walks_144z {l : Launch} {D : va_G} {cy : Nat → ClassId} {ad : Nat → Nat}  : ∀ q ∈ ct_L_walks_144z, Site l D cy ad kdZ (lnZ 32) 47 RL tb_L_walks_144z rm_L_walks q.1 q.2 := fun q h => absurd h List.not_mem_nil
def js_L_walks_144z (I183 : Int → Int → Int → Int → Int → Int → Int → Int → Int → Int → Int → Int → Int → Int → Int → Int → Int → Mem → Prop) : KT := fun pc ls st M => bif Nat.beq pc 183 then jg_L_walks_183 I183 ls st M else (False)
set_option maxRecDepth 100000 in
set_option maxHeartbeats 4000000 in
theorem sg_L_walks_144z {p : Program} {l : Launch} {e : Env} {s : State} {m : MethodId} {args : Array Value} {below : List Frame} {meth : Method} {c : Code} {D : va_G} {cy : Nat → ClassId} {ad : Nat → Nat} {A : Nat → Prop} {cells slots : Nat} {ex : List (Nat × Value)} {H0 : Heap} {Q : State → Prop} {post : Int → Mem → Prop}  (I183 : Int → Int → Int → Int → Int → Int → Int → Int → Int → Int → Int → Int → Int → Int → Int → Int → Int → Mem → Prop)
    (hex : exB (ex.map Prod.fst) tb_L_walks_144z = true) (C : jC p l e rm_L_walks s m args below meth c cL_walks 23 RL D cy ad kdZ (lnZ 32) 47 A cells slots H0 Q 2 post)
    (hJ183 : ∀ (w19_ : Option AV) (w20_ : Option AV) (w21_ : Option AV) (w22_ : Option AV) (a : Int) (b : Int) (g : Int) (k : Int) (t : Int) (d : Int) (y : Int) (u : Int) (v : Int) (w : Int) (q : Int) (r : Int) (i : Int) (o : Int) (f : Int) (z : Int) (as_ : Int) (M : Mem), I183 a b g k t d y u v w q r i o f z as_ M → jSt p l e rm_L_walks s m args below meth c 23 D cy ad kdZ (lnZ 32) 47 A cells slots ex H0 Q 183 [some (.inr 0), some (.inl a), some (.inl b), some (.inl g), some (.inl k), some (.inl t), some (.inl d), some (.inl y), some (.inl u), some (.inl v), some (.inl w), some (.inr 46), some (.inl q), some (.inl r), some (.inl i), some (.inl o), some (.inl f), some (.inl z), some (.inl as_), w19_, w20_, w21_, w22_] [] M)
    (w17_ : Option AV) (w18_ : Option AV) (w19_ : Option AV) (w20_ : Option AV) (w21_ : Option AV) (w22_ : Option AV) (a : Int) (b : Int) (g : Int) (k : Int) (t : Int) (d : Int) (y : Int) (u : Int) (v : Int) (w : Int) (q : Int) (r : Int) (i : Int) (o : Int) (f : Int) (M : Mem) (h : 0 < q ∧ ((¬ d = (0 : Int) → ((¬ d = (2 : Int) → (I183 a b g k t d y u v w q r i o f (Int.tmod t q) 0 M)) ∧ (¬ (¬ d = (2 : Int)) → ((¬ (Int.tmod t q) = (0 : Int) → (I183 a b g k t d y u v w q r i o f (Int.tmod t q) 0 M)) ∧ (¬ (¬ (Int.tmod t q) = (0 : Int)) → (I183 a b g k t d y u v w q r i o f (Int.tmod t q) 1 M)))))) ∧ (¬ (¬ d = (0 : Int)) → (inR (q - 1) ∧ (((Int.tmod t q) = (q - 1) → (I183 a b g k t d y u v w q r i o f (Int.tmod t q) 1 M)) ∧ (¬ (Int.tmod t q) = (q - 1) → ((¬ d = (2 : Int) → (I183 a b g k t d y u v w q r i o f (Int.tmod t q) 0 M)) ∧ (¬ (¬ d = (2 : Int)) → ((¬ (Int.tmod t q) = (0 : Int) → (I183 a b g k t d y u v w q r i o f (Int.tmod t q) 0 M)) ∧ (¬ (¬ (Int.tmod t q) = (0 : Int)) → (I183 a b g k t d y u v w q r i o f (Int.tmod t q) 1 M))))))))))) :
    jSt p l e rm_L_walks s m args below meth c 23 D cy ad kdZ (lnZ 32) 47 A cells slots ex H0 Q 144 [some (.inr 0), some (.inl a), some (.inl b), some (.inl g), some (.inl k), some (.inl t), some (.inl d), some (.inl y), some (.inl u), some (.inl v), some (.inl w), some (.inr 46), some (.inl q), some (.inl r), some (.inl i), some (.inl o), some (.inl f), w17_, w18_, w19_, w20_, w21_, w22_] [] M := by
  refine jC_snd (cst := cstL) (cuts := [0, 25, 27, 47, 80, 106, 111, 144, 183, 224, 259, 293, 346, 393, 466]) (J := js_L_walks_144z I183) C cstL_ok ⟨tb_L_walks_144z, ct_L_walks_144z, 22, tbo_L_walks_144z, by decide, by decide, exT_of hex, sct_L_walks_144z , h⟩ ?_
  intro pc ls st M hJ
  unfold js_L_walks_144z at hJ
  rcases bsel hJ with ⟨hpc, hI⟩ | hI
  all_goals clear hJ
  · obtain rfl := Nat.eq_of_beq_eq_true hpc
    unfold jg_L_walks_183 at hI
    split at hI
    rotate_left
    · exact hI.elim
    exact hJ183 _ _ _ _ _ _ _ _ _ _ _ _ _ _ _ _ _ _ _ _ _ _ hI
  have hJ := hI
  clear hI
  exact hJ.elim
def jg_L_walks_224 (I : Int → Int → Int → Int → Int → Int → Int → Int → Int → Int → Int → Int → Int → Int → Int → Int → Int → Int → Mem → Prop) : List (Option AV) → List AV → Mem → Prop := fun ls st M => match ls, st, M with
  | [some (.inr 0), some (.inl a), some (.inl b), some (.inl g), some (.inl k), some (.inl t), some (.inl d), some (.inl y), some (.inl u), some (.inl v), some (.inl w), some (.inr 46), some (.inl q), some (.inl r), some (.inl i), some (.inl o), some (.inl f), some (.inl z), some (.inl as_), some (.inl al), _, _, _], [], M => I a b g k t d y u v w q r i o f z as_ al M
  | _, _, _ => False
def tb_L_walks_183z : TB := [(183, .iload 6, 2, []), (185, .iconst 1, 1, []), (186, .if_icmp .ne 18, 3, [204]), (189, .iload 5, 2, []), (191, .iload 12, 2, []), (193, .idiv, 1, []), (194, .aload_n 0, 1, []), (195, .iconst 1, 1, []), (196, .invokevirtual 9, 3, []), (199, .iconst 1, 1, []), (200, .isub, 1, []), (201, .if_icmp .eq 16, 3, [217]), (204, .iload 6, 2, []), (206, .iconst 3, 1, []), (207, .if_icmp .ne 14, 3, [221]), (210, .iload 5, 2, []), (212, .iload 12, 2, []), (214, .if_icmp .ge 7, 3, [221]), (217, .iconst 1, 1, []), (218, .goto 4, 3, [222]), (221, .iconst 0, 1, []), (222, .istore 19, 2, [])]
theorem tbo_L_walks_183z : tbOK cL_walks tb_L_walks_183z = true := by decide +kernel
def ct_L_walks_183z : List (Nat × CS) := [(196, (2, 1, P_X8_value, CZ_X8_value))]
theorem sct_L_walks_183z {l : Launch} {D : va_G} {cy : Nat → ClassId} {ad : Nat → Nat} (o_X8_value : OKZ_X8_value l D cy ad 32) : ∀ q ∈ ct_L_walks_183z, Site l D cy ad kdZ (lnZ 32) 47 RL tb_L_walks_183z rm_L_walks q.1 q.2 := List.forall_mem_cons.mpr ⟨Or.inl ⟨9, 1, yX8_value, cX8_value, 2, (some .int), rm_X8_value, rfl, rfl, o_X8_value, ca_X8_value, mkL_9, ⟨rfl, rfl, Nat.le_of_ble_eq_true rfl, Nat.le_of_ble_eq_true rfl⟩, rvz_X8_value⟩, fun q h => absurd h List.not_mem_nil⟩
def js_L_walks_183z (I224 : Int → Int → Int → Int → Int → Int → Int → Int → Int → Int → Int → Int → Int → Int → Int → Int → Int → Int → Mem → Prop) : KT := fun pc ls st M => bif Nat.beq pc 224 then jg_L_walks_224 I224 ls st M else (False)
set_option maxRecDepth 100000 in
set_option maxHeartbeats 4000000 in
theorem sg_L_walks_183z {p : Program} {l : Launch} {e : Env} {s : State} {m : MethodId} {args : Array Value} {below : List Frame} {meth : Method} {c : Code} {D : va_G} {cy : Nat → ClassId} {ad : Nat → Nat} {A : Nat → Prop} {cells slots : Nat} {ex : List (Nat × Value)} {H0 : Heap} {Q : State → Prop} {post : Int → Mem → Prop} (o_X8_value : OKZ_X8_value l D cy ad 32) (I224 : Int → Int → Int → Int → Int → Int → Int → Int → Int → Int → Int → Int → Int → Int → Int → Int → Int → Int → Mem → Prop)
    (hex : exB (ex.map Prod.fst) tb_L_walks_183z = true) (C : jC p l e rm_L_walks s m args below meth c cL_walks 23 RL D cy ad kdZ (lnZ 32) 47 A cells slots H0 Q 2 post)
    (hJ224 : ∀ (w20_ : Option AV) (w21_ : Option AV) (w22_ : Option AV) (a : Int) (b : Int) (g : Int) (k : Int) (t : Int) (d : Int) (y : Int) (u : Int) (v : Int) (w : Int) (q : Int) (r : Int) (i : Int) (o : Int) (f : Int) (z : Int) (as_ : Int) (al : Int) (M : Mem), I224 a b g k t d y u v w q r i o f z as_ al M → jSt p l e rm_L_walks s m args below meth c 23 D cy ad kdZ (lnZ 32) 47 A cells slots ex H0 Q 224 [some (.inr 0), some (.inl a), some (.inl b), some (.inl g), some (.inl k), some (.inl t), some (.inl d), some (.inl y), some (.inl u), some (.inl v), some (.inl w), some (.inr 46), some (.inl q), some (.inl r), some (.inl i), some (.inl o), some (.inl f), some (.inl z), some (.inl as_), some (.inl al), w20_, w21_, w22_] [] M)
    (w19_ : Option AV) (w20_ : Option AV) (w21_ : Option AV) (w22_ : Option AV) (a : Int) (b : Int) (g : Int) (k : Int) (t : Int) (d : Int) (y : Int) (u : Int) (v : Int) (w : Int) (q : Int) (r : Int) (i : Int) (o : Int) (f : Int) (z : Int) (as_ : Int) (M : Mem) (h : (¬ d = (1 : Int) → ((¬ d = (3 : Int) → (I224 a b g k t d y u v w q r i o f z as_ 0 M)) ∧ (¬ (¬ d = (3 : Int)) → ((q ≤ t → (I224 a b g k t d y u v w q r i o f z as_ 0 M)) ∧ (¬ q ≤ t → (I224 a b g k t d y u v w q r i o f z as_ 1 M)))))) ∧ (¬ (¬ d = (1 : Int)) → ((0 ≤ t ∧ 0 < q) ∧ (p_X8_value 0 1 M ∧ ∀ (x2 : Int) (M1 : Mem), inR x2 → okM M1 → cz_X8_value 0 1 M x2 M1 → (inR (x2 - 1) ∧ (((t / q) = (x2 - 1) → (I224 a b g k t d y u v w q r i o f z as_ 1 M1)) ∧ (¬ (t / q) = (x2 - 1) → ((¬ d = (3 : Int) → (I224 a b g k t d y u v w q r i o f z as_ 0 M1)) ∧ (¬ (¬ d = (3 : Int)) → ((q ≤ t → (I224 a b g k t d y u v w q r i o f z as_ 0 M1)) ∧ (¬ q ≤ t → (I224 a b g k t d y u v w q r i o f z as_ 1 M1)))))))))))) :
    jSt p l e rm_L_walks s m args below meth c 23 D cy ad kdZ (lnZ 32) 47 A cells slots ex H0 Q 183 [some (.inr 0), some (.inl a), some (.inl b), some (.inl g), some (.inl k), some (.inl t), some (.inl d), some (.inl y), some (.inl u), some (.inl v), some (.inl w), some (.inr 46), some (.inl q), some (.inl r), some (.inl i), some (.inl o), some (.inl f), some (.inl z), some (.inl as_), w19_, w20_, w21_, w22_] [] M := by
  refine jC_snd (cst := cstL) (cuts := [0, 25, 27, 47, 80, 106, 111, 144, 183, 224, 259, 293, 346, 393, 466]) (J := js_L_walks_183z I224) C cstL_ok ⟨tb_L_walks_183z, ct_L_walks_183z, 24, tbo_L_walks_183z, by decide, by decide, exT_of hex, sct_L_walks_183z o_X8_value, h⟩ ?_
  intro pc ls st M hJ
  unfold js_L_walks_183z at hJ
  rcases bsel hJ with ⟨hpc, hI⟩ | hI
  all_goals clear hJ
  · obtain rfl := Nat.eq_of_beq_eq_true hpc
    unfold jg_L_walks_224 at hI
    split at hI
    rotate_left
    · exact hI.elim
    exact hJ224 _ _ _ _ _ _ _ _ _ _ _ _ _ _ _ _ _ _ _ _ _ _ hI
  have hJ := hI
  clear hI
  exact hJ.elim
def jg_L_walks_259 (I : Int → Int → Int → Int → Int → Int → Int → Int → Int → Int → Int → Int → Int → Int → Int → Int → Int → Int → Int → Mem → Prop) : List (Option AV) → List AV → Mem → Prop := fun ls st M => match ls, st, M with
  | [some (.inr 0), some (.inl a), some (.inl b), some (.inl g), some (.inl k), some (.inl t), some (.inl d), some (.inl y), some (.inl u), some (.inl v), some (.inl w), some (.inr 46), some (.inl q), some (.inl r), some (.inl i), some (.inl o), some (.inl f), some (.inl z), some (.inl as_), some (.inl al), some (.inl fl), _, _], [], M => I a b g k t d y u v w q r i o f z as_ al fl M
  | _, _, _ => False
def tb_L_walks_224z : TB := [(224, .iload 18, 2, []), (226, .ifCond .eq 12, 3, [238]), (229, .aload_n 0, 1, []), (230, .iconst 2, 1, []), (231, .invokevirtual 9, 3, []), (234, .iconst 2, 1, []), (235, .if_icmp .eq 17, 3, [252]), (238, .iload 19, 2, []), (240, .ifCond .eq 16, 3, [256]), (243, .aload_n 0, 1, []), (244, .iconst 4, 1, []), (245, .invokevirtual 9, 3, []), (248, .iconst 2, 1, []), (249, .if_icmp .ne 7, 3, [256]), (252, .iconst 1, 1, []), (253, .goto 4, 3, [257]), (256, .iconst 0, 1, []), (257, .istore 20, 2, [])]
theorem tbo_L_walks_224z : tbOK cL_walks tb_L_walks_224z = true := by decide +kernel
def ct_L_walks_224z : List (Nat × CS) := [(231, (2, 1, P_X8_value, CZ_X8_value)), (245, (2, 1, P_X8_value, CZ_X8_value))]
theorem sct_L_walks_224z {l : Launch} {D : va_G} {cy : Nat → ClassId} {ad : Nat → Nat} (o_X8_value : OKZ_X8_value l D cy ad 32) : ∀ q ∈ ct_L_walks_224z, Site l D cy ad kdZ (lnZ 32) 47 RL tb_L_walks_224z rm_L_walks q.1 q.2 := List.forall_mem_cons.mpr ⟨Or.inl ⟨9, 1, yX8_value, cX8_value, 2, (some .int), rm_X8_value, rfl, rfl, o_X8_value, ca_X8_value, mkL_9, ⟨rfl, rfl, Nat.le_of_ble_eq_true rfl, Nat.le_of_ble_eq_true rfl⟩, rvz_X8_value⟩, List.forall_mem_cons.mpr ⟨Or.inl ⟨9, 1, yX8_value, cX8_value, 2, (some .int), rm_X8_value, rfl, rfl, o_X8_value, ca_X8_value, mkL_9, ⟨rfl, rfl, Nat.le_of_ble_eq_true rfl, Nat.le_of_ble_eq_true rfl⟩, rvz_X8_value⟩, fun q h => absurd h List.not_mem_nil⟩⟩
def js_L_walks_224z (I259 : Int → Int → Int → Int → Int → Int → Int → Int → Int → Int → Int → Int → Int → Int → Int → Int → Int → Int → Int → Mem → Prop) : KT := fun pc ls st M => bif Nat.beq pc 259 then jg_L_walks_259 I259 ls st M else (False)
set_option maxRecDepth 100000 in
set_option maxHeartbeats 4000000 in
theorem sg_L_walks_224z {p : Program} {l : Launch} {e : Env} {s : State} {m : MethodId} {args : Array Value} {below : List Frame} {meth : Method} {c : Code} {D : va_G} {cy : Nat → ClassId} {ad : Nat → Nat} {A : Nat → Prop} {cells slots : Nat} {ex : List (Nat × Value)} {H0 : Heap} {Q : State → Prop} {post : Int → Mem → Prop} (o_X8_value : OKZ_X8_value l D cy ad 32) (I259 : Int → Int → Int → Int → Int → Int → Int → Int → Int → Int → Int → Int → Int → Int → Int → Int → Int → Int → Int → Mem → Prop)
    (hex : exB (ex.map Prod.fst) tb_L_walks_224z = true) (C : jC p l e rm_L_walks s m args below meth c cL_walks 23 RL D cy ad kdZ (lnZ 32) 47 A cells slots H0 Q 2 post)
    (hJ259 : ∀ (w21_ : Option AV) (w22_ : Option AV) (a : Int) (b : Int) (g : Int) (k : Int) (t : Int) (d : Int) (y : Int) (u : Int) (v : Int) (w : Int) (q : Int) (r : Int) (i : Int) (o : Int) (f : Int) (z : Int) (as_ : Int) (al : Int) (fl : Int) (M : Mem), I259 a b g k t d y u v w q r i o f z as_ al fl M → jSt p l e rm_L_walks s m args below meth c 23 D cy ad kdZ (lnZ 32) 47 A cells slots ex H0 Q 259 [some (.inr 0), some (.inl a), some (.inl b), some (.inl g), some (.inl k), some (.inl t), some (.inl d), some (.inl y), some (.inl u), some (.inl v), some (.inl w), some (.inr 46), some (.inl q), some (.inl r), some (.inl i), some (.inl o), some (.inl f), some (.inl z), some (.inl as_), some (.inl al), some (.inl fl), w21_, w22_] [] M)
    (w20_ : Option AV) (w21_ : Option AV) (w22_ : Option AV) (a : Int) (b : Int) (g : Int) (k : Int) (t : Int) (d : Int) (y : Int) (u : Int) (v : Int) (w : Int) (q : Int) (r : Int) (i : Int) (o : Int) (f : Int) (z : Int) (as_ : Int) (al : Int) (M : Mem) (h : (as_ = (0 : Int) → ((al = (0 : Int) → (I259 a b g k t d y u v w q r i o f z as_ al 0 M)) ∧ (¬ al = (0 : Int) → (p_X8_value 0 4 M ∧ ∀ (x2 : Int) (M1 : Mem), inR x2 → okM M1 → cz_X8_value 0 4 M x2 M1 → ((¬ x2 = (2 : Int) → (I259 a b g k t d y u v w q r i o f z as_ al 0 M1)) ∧ (¬ (¬ x2 = (2 : Int)) → (I259 a b g k t d y u v w q r i o f z as_ al 1 M1))))))) ∧ (¬ as_ = (0 : Int) → (p_X8_value 0 2 M ∧ ∀ (x4 : Int) (M3 : Mem), inR x4 → okM M3 → cz_X8_value 0 2 M x4 M3 → ((x4 = (2 : Int) → (I259 a b g k t d y u v w q r i o f z as_ al 1 M3)) ∧ (¬ x4 = (2 : Int) → ((al = (0 : Int) → (I259 a b g k t d y u v w q r i o f z as_ al 0 M3)) ∧ (¬ al = (0 : Int) → (p_X8_value 0 4 M3 ∧ ∀ (x6 : Int) (M5 : Mem), inR x6 → okM M5 → cz_X8_value 0 4 M3 x6 M5 → ((¬ x6 = (2 : Int) → (I259 a b g k t d y u v w q r i o f z as_ al 0 M5)) ∧ (¬ (¬ x6 = (2 : Int)) → (I259 a b g k t d y u v w q r i o f z as_ al 1 M5))))))))))) :
    jSt p l e rm_L_walks s m args below meth c 23 D cy ad kdZ (lnZ 32) 47 A cells slots ex H0 Q 224 [some (.inr 0), some (.inl a), some (.inl b), some (.inl g), some (.inl k), some (.inl t), some (.inl d), some (.inl y), some (.inl u), some (.inl v), some (.inl w), some (.inr 46), some (.inl q), some (.inl r), some (.inl i), some (.inl o), some (.inl f), some (.inl z), some (.inl as_), some (.inl al), w20_, w21_, w22_] [] M := by
  refine jC_snd (cst := cstL) (cuts := [0, 25, 27, 47, 80, 106, 111, 144, 183, 224, 259, 293, 346, 393, 466]) (J := js_L_walks_224z I259) C cstL_ok ⟨tb_L_walks_224z, ct_L_walks_224z, 20, tbo_L_walks_224z, by decide, by decide, exT_of hex, sct_L_walks_224z o_X8_value, h⟩ ?_
  intro pc ls st M hJ
  unfold js_L_walks_224z at hJ
  rcases bsel hJ with ⟨hpc, hI⟩ | hI
  all_goals clear hJ
  · obtain rfl := Nat.eq_of_beq_eq_true hpc
    unfold jg_L_walks_259 at hI
    split at hI
    rotate_left
    · exact hI.elim
    exact hJ259 _ _ _ _ _ _ _ _ _ _ _ _ _ _ _ _ _ _ _ _ _ _ hI
  have hJ := hI
  clear hI
  exact hJ.elim
def jg_L_walks_293 (I : Int → Int → Int → Int → Int → Int → Int → Int → Int → Int → Int → Int → Int → Int → Int → Int → Int → Int → Int → Int → Int → Mem → Prop) : List (Option AV) → List AV → Mem → Prop := fun ls st M => match ls, st, M with
  | [some (.inr 0), some (.inl a), some (.inl b), some (.inl g), some (.inl k), some (.inl t), some (.inl d), some (.inl y), some (.inl u), some (.inl v), some (.inl w), some (.inr 46), some (.inl q), some (.inl r), some (.inl i), some (.inl o), some (.inl f), some (.inl z), some (.inl as_), some (.inl al), some (.inl fl), some (.inl kn), some (.inl ii)], [], M => I a b g k t d y u v w q r i o f z as_ al fl kn ii M
  | _, _, _ => False
def jg_L_walks_393 (I : Int → Int → Int → Int → Int → Int → Int → Int → Int → Int → Int → Int → Int → Mem → Prop) : List (Option AV) → List AV → Mem → Prop := fun ls st M => match ls, st, M with
  | [some (.inr 0), some (.inl a), some (.inl b), some (.inl g), some (.inl k), some (.inl t), some (.inl d), some (.inl y), some (.inl u), some (.inl v), some (.inl w), some (.inr 46), some (.inl q), some (.inl r), some (.inl i), _, _, _, _, _, _, _, _], [], M => I a b g k t d y u v w q r i M
  | _, _, _ => False
def tb_L_walks_259z : TB := [(259, .iload 10, 2, []), (261, .ifCond .eq 82, 3, [343]), (264, .iload 20, 2, []), (266, .ifCond .eq 10, 3, [276]), (269, .iconst 1, 1, []), (270, .iload 7, 2, []), (272, .isub, 1, []), (273, .goto 5, 3, [278]), (276, .iload 7, 2, []), (278, .istore 7, 2, []), (280, .iinc 8 1, 3, []), (283, .iload 16, 2, []), (285, .istore 5, 2, []), (287, .iconst 0, 1, []), (288, .istore 21, 2, []), (290, .iconst 0, 1, []), (291, .istore 22, 2, []), (343, .goto 50, 3, [393])]
theorem tbo_L_walks_259z : tbOK cL_walks tb_L_walks_259z = true := by decide +kernel
def ct_L_walks_259z : List (Nat × CS) := []
theorem sct_L_walks_259z {l : Launch} {D : va_G} {cy : Nat → ClassId} {ad : Nat → Nat}  : ∀ q ∈ ct_L_walks_259z, Site l D cy ad kdZ (lnZ 32) 47 RL tb_L_walks_259z rm_L_walks q.1 q.2 := fun q h => absurd h List.not_mem_nil
def js_L_walks_259z (I293 : Int → Int → Int → Int → Int → Int → Int → Int → Int → Int → Int → Int → Int → Int → Int → Int → Int → Int → Int → Int → Int → Mem → Prop) (I393 : Int → Int → Int → Int → Int → Int → Int → Int → Int → Int → Int → Int → Int → Mem → Prop) : KT := fun pc ls st M => bif Nat.beq pc 293 then jg_L_walks_293 I293 ls st M else (bif Nat.beq pc 393 then jg_L_walks_393 I393 ls st M else (False))
set_option maxRecDepth 100000 in
set_option maxHeartbeats 4000000 in
theorem sg_L_walks_259z {p : Program} {l : Launch} {e : Env} {s : State} {m : MethodId} {args : Array Value} {below : List Frame} {meth : Method} {c : Code} {D : va_G} {cy : Nat → ClassId} {ad : Nat → Nat} {A : Nat → Prop} {cells slots : Nat} {ex : List (Nat × Value)} {H0 : Heap} {Q : State → Prop} {post : Int → Mem → Prop}  (I293 : Int → Int → Int → Int → Int → Int → Int → Int → Int → Int → Int → Int → Int → Int → Int → Int → Int → Int → Int → Int → Int → Mem → Prop) (I393 : Int → Int → Int → Int → Int → Int → Int → Int → Int → Int → Int → Int → Int → Mem → Prop)
    (hex : exB (ex.map Prod.fst) tb_L_walks_259z = true) (C : jC p l e rm_L_walks s m args below meth c cL_walks 23 RL D cy ad kdZ (lnZ 32) 47 A cells slots H0 Q 2 post)
    (hJ293 : ∀ (a : Int) (b : Int) (g : Int) (k : Int) (t : Int) (d : Int) (y : Int) (u : Int) (v : Int) (w : Int) (q : Int) (r : Int) (i : Int) (o : Int) (f : Int) (z : Int) (as_ : Int) (al : Int) (fl : Int) (kn : Int) (ii : Int) (M : Mem), I293 a b g k t d y u v w q r i o f z as_ al fl kn ii M → jSt p l e rm_L_walks s m args below meth c 23 D cy ad kdZ (lnZ 32) 47 A cells slots ex H0 Q 293 [some (.inr 0), some (.inl a), some (.inl b), some (.inl g), some (.inl k), some (.inl t), some (.inl d), some (.inl y), some (.inl u), some (.inl v), some (.inl w), some (.inr 46), some (.inl q), some (.inl r), some (.inl i), some (.inl o), some (.inl f), some (.inl z), some (.inl as_), some (.inl al), some (.inl fl), some (.inl kn), some (.inl ii)] [] M)
    (hJ393 : ∀ (w15_ : Option AV) (w16_ : Option AV) (w17_ : Option AV) (w18_ : Option AV) (w19_ : Option AV) (w20_ : Option AV) (w21_ : Option AV) (w22_ : Option AV) (a : Int) (b : Int) (g : Int) (k : Int) (t : Int) (d : Int) (y : Int) (u : Int) (v : Int) (w : Int) (q : Int) (r : Int) (i : Int) (M : Mem), I393 a b g k t d y u v w q r i M → jSt p l e rm_L_walks s m args below meth c 23 D cy ad kdZ (lnZ 32) 47 A cells slots ex H0 Q 393 [some (.inr 0), some (.inl a), some (.inl b), some (.inl g), some (.inl k), some (.inl t), some (.inl d), some (.inl y), some (.inl u), some (.inl v), some (.inl w), some (.inr 46), some (.inl q), some (.inl r), some (.inl i), w15_, w16_, w17_, w18_, w19_, w20_, w21_, w22_] [] M)
    (w21_ : Option AV) (w22_ : Option AV) (a : Int) (b : Int) (g : Int) (k : Int) (t : Int) (d : Int) (y : Int) (u : Int) (v : Int) (w : Int) (q : Int) (r : Int) (i : Int) (o : Int) (f : Int) (z : Int) (as_ : Int) (al : Int) (fl : Int) (M : Mem) (h : (w = (0 : Int) → (I393 a b g k t d y u v w q r i M)) ∧ (¬ w = (0 : Int) → ((fl = (0 : Int) → (inR (u + 1) ∧ (I293 a b g k f d y (u + 1) v w q r i o f z as_ al fl 0 0 M))) ∧ (¬ fl = (0 : Int) → (inR (1 - y) ∧ (inR (u + 1) ∧ (I293 a b g k f d (1 - y) (u + 1) v w q r i o f z as_ al fl 0 0 M))))))) :
    jSt p l e rm_L_walks s m args below meth c 23 D cy ad kdZ (lnZ 32) 47 A cells slots ex H0 Q 259 [some (.inr 0), some (.inl a), some (.inl b), some (.inl g), some (.inl k), some (.inl t), some (.inl d), some (.inl y), some (.inl u), some (.inl v), some (.inl w), some (.inr 46), some (.inl q), some (.inl r), some (.inl i), some (.inl o), some (.inl f), some (.inl z), some (.inl as_), some (.inl al), some (.inl fl), w21_, w22_] [] M := by
  refine jC_snd (cst := cstL) (cuts := [0, 25, 27, 47, 80, 106, 111, 144, 183, 224, 259, 293, 346, 393, 466]) (J := js_L_walks_259z I293 I393) C cstL_ok ⟨tb_L_walks_259z, ct_L_walks_259z, 20, tbo_L_walks_259z, by decide, by decide, exT_of hex, sct_L_walks_259z , h⟩ ?_
  intro pc ls st M hJ
  unfold js_L_walks_259z at hJ
  rcases bsel hJ with ⟨hpc, hI⟩ | hI
  all_goals clear hJ
  · obtain rfl := Nat.eq_of_beq_eq_true hpc
    unfold jg_L_walks_293 at hI
    split at hI
    rotate_left
    · exact hI.elim
    exact hJ293 _ _ _ _ _ _ _ _ _ _ _ _ _ _ _ _ _ _ _ _ _ _ hI
  have hJ := hI
  clear hI
  rcases bsel hJ with ⟨hpc, hI⟩ | hI
  all_goals clear hJ
  · obtain rfl := Nat.eq_of_beq_eq_true hpc
    unfold jg_L_walks_393 at hI
    split at hI
    rotate_left
    · exact hI.elim
    exact hJ393 _ _ _ _ _ _ _ _ _ _ _ _ _ _ _ _ _ _ _ _ _ _ hI
  have hJ := hI
  clear hI
  exact hJ.elim
def tb_L_walks_293z : TB := [(293, .iload 22, 2, []), (295, .iload 9, 2, []), (297, .if_icmp .ge 31, 3, [328]), (300, .iload 21, 2, []), (302, .ifCond .ne 13, 3, [315]), (305, .aload 11, 2, []), (307, .iload 22, 2, []), (309, .iaload, 1, []), (310, .iload 5, 2, []), (312, .if_icmp .ne 7, 3, [319]), (315, .iconst 1, 1, []), (316, .goto 4, 3, [320]), (319, .iconst 0, 1, []), (320, .istore 21, 2, []), (322, .iinc 22 1, 3, []), (325, .goto (-32), 3, [293]), (328, .iload 21, 2, []), (330, .ifCond .ne 13, 3, [343]), (333, .aload 11, 2, []), (335, .iload 9, 2, []), (337, .iload 5, 2, []), (339, .iastore, 1, []), (340, .iinc 9 1, 3, []), (343, .goto 50, 3, [393])]
theorem tbo_L_walks_293z : tbOK cL_walks tb_L_walks_293z = true := by decide +kernel
def ct_L_walks_293z : List (Nat × CS) := []
theorem sct_L_walks_293z {l : Launch} {D : va_G} {cy : Nat → ClassId} {ad : Nat → Nat}  : ∀ q ∈ ct_L_walks_293z, Site l D cy ad kdZ (lnZ 32) 47 RL tb_L_walks_293z rm_L_walks q.1 q.2 := fun q h => absurd h List.not_mem_nil
def js_L_walks_293z (I293 : Int → Int → Int → Int → Int → Int → Int → Int → Int → Int → Int → Int → Int → Int → Int → Int → Int → Int → Int → Int → Int → Mem → Prop) (I393 : Int → Int → Int → Int → Int → Int → Int → Int → Int → Int → Int → Int → Int → Mem → Prop) : KT := fun pc ls st M => bif Nat.beq pc 293 then jg_L_walks_293 I293 ls st M else (bif Nat.beq pc 393 then jg_L_walks_393 I393 ls st M else (False))
set_option maxRecDepth 100000 in
set_option maxHeartbeats 4000000 in
theorem sg_L_walks_293z {p : Program} {l : Launch} {e : Env} {s : State} {m : MethodId} {args : Array Value} {below : List Frame} {meth : Method} {c : Code} {D : va_G} {cy : Nat → ClassId} {ad : Nat → Nat} {A : Nat → Prop} {cells slots : Nat} {ex : List (Nat × Value)} {H0 : Heap} {Q : State → Prop} {post : Int → Mem → Prop}  (I293 : Int → Int → Int → Int → Int → Int → Int → Int → Int → Int → Int → Int → Int → Int → Int → Int → Int → Int → Int → Int → Int → Mem → Prop) (I393 : Int → Int → Int → Int → Int → Int → Int → Int → Int → Int → Int → Int → Int → Mem → Prop)
    (hex : exB (ex.map Prod.fst) tb_L_walks_293z = true) (C : jC p l e rm_L_walks s m args below meth c cL_walks 23 RL D cy ad kdZ (lnZ 32) 47 A cells slots H0 Q 2 post)
    (hJ293 : ∀ (a : Int) (b : Int) (g : Int) (k : Int) (t : Int) (d : Int) (y : Int) (u : Int) (v : Int) (w : Int) (q : Int) (r : Int) (i : Int) (o : Int) (f : Int) (z : Int) (as_ : Int) (al : Int) (fl : Int) (kn : Int) (ii : Int) (M : Mem), I293 a b g k t d y u v w q r i o f z as_ al fl kn ii M → jSt p l e rm_L_walks s m args below meth c 23 D cy ad kdZ (lnZ 32) 47 A cells slots ex H0 Q 293 [some (.inr 0), some (.inl a), some (.inl b), some (.inl g), some (.inl k), some (.inl t), some (.inl d), some (.inl y), some (.inl u), some (.inl v), some (.inl w), some (.inr 46), some (.inl q), some (.inl r), some (.inl i), some (.inl o), some (.inl f), some (.inl z), some (.inl as_), some (.inl al), some (.inl fl), some (.inl kn), some (.inl ii)] [] M)
    (hJ393 : ∀ (w15_ : Option AV) (w16_ : Option AV) (w17_ : Option AV) (w18_ : Option AV) (w19_ : Option AV) (w20_ : Option AV) (w21_ : Option AV) (w22_ : Option AV) (a : Int) (b : Int) (g : Int) (k : Int) (t : Int) (d : Int) (y : Int) (u : Int) (v : Int) (w : Int) (q : Int) (r : Int) (i : Int) (M : Mem), I393 a b g k t d y u v w q r i M → jSt p l e rm_L_walks s m args below meth c 23 D cy ad kdZ (lnZ 32) 47 A cells slots ex H0 Q 393 [some (.inr 0), some (.inl a), some (.inl b), some (.inl g), some (.inl k), some (.inl t), some (.inl d), some (.inl y), some (.inl u), some (.inl v), some (.inl w), some (.inr 46), some (.inl q), some (.inl r), some (.inl i), w15_, w16_, w17_, w18_, w19_, w20_, w21_, w22_] [] M)
     (a : Int) (b : Int) (g : Int) (k : Int) (t : Int) (d : Int) (y : Int) (u : Int) (v : Int) (w : Int) (q : Int) (r : Int) (i : Int) (o : Int) (f : Int) (z : Int) (as_ : Int) (al : Int) (fl : Int) (kn : Int) (ii : Int) (M : Mem) (h : (v ≤ ii → ((¬ kn = (0 : Int) → (I393 a b g k t d y u v w q r i M)) ∧ (¬ (¬ kn = (0 : Int)) → (kdZ 46 = 21 ∧ (0 ≤ v ∧ v < 32) ∧ (inR (v + 1) ∧ (I393 a b g k t d y u (v + 1) w q r i (up M 46 (v).toNat t))))))) ∧ (¬ v ≤ ii → ((¬ kn = (0 : Int) → (inR (ii + 1) ∧ (I293 a b g k t d y u v w q r i o f z as_ al fl 1 (ii + 1) M))) ∧ (¬ (¬ kn = (0 : Int)) → (kdZ 46 = 21 ∧ (0 ≤ ii ∧ ii < 32) ∧ ((¬ (M 46 (ii).toNat) = t → (inR (ii + 1) ∧ (I293 a b g k t d y u v w q r i o f z as_ al fl 0 (ii + 1) M))) ∧ (¬ (¬ (M 46 (ii).toNat) = t) → (inR (ii + 1) ∧ (I293 a b g k t d y u v w q r i o f z as_ al fl 1 (ii + 1) M))))))))) :
    jSt p l e rm_L_walks s m args below meth c 23 D cy ad kdZ (lnZ 32) 47 A cells slots ex H0 Q 293 [some (.inr 0), some (.inl a), some (.inl b), some (.inl g), some (.inl k), some (.inl t), some (.inl d), some (.inl y), some (.inl u), some (.inl v), some (.inl w), some (.inr 46), some (.inl q), some (.inl r), some (.inl i), some (.inl o), some (.inl f), some (.inl z), some (.inl as_), some (.inl al), some (.inl fl), some (.inl kn), some (.inl ii)] [] M := by
  refine jC_snd (cst := cstL) (cuts := [0, 25, 27, 47, 80, 106, 111, 144, 183, 224, 259, 293, 346, 393, 466]) (J := js_L_walks_293z I293 I393) C cstL_ok ⟨tb_L_walks_293z, ct_L_walks_293z, 26, tbo_L_walks_293z, by decide, by decide, exT_of hex, sct_L_walks_293z , h⟩ ?_
  intro pc ls st M hJ
  unfold js_L_walks_293z at hJ
  rcases bsel hJ with ⟨hpc, hI⟩ | hI
  all_goals clear hJ
  · obtain rfl := Nat.eq_of_beq_eq_true hpc
    unfold jg_L_walks_293 at hI
    split at hI
    rotate_left
    · exact hI.elim
    exact hJ293 _ _ _ _ _ _ _ _ _ _ _ _ _ _ _ _ _ _ _ _ _ _ hI
  have hJ := hI
  clear hI
  rcases bsel hJ with ⟨hpc, hI⟩ | hI
  all_goals clear hJ
  · obtain rfl := Nat.eq_of_beq_eq_true hpc
    unfold jg_L_walks_393 at hI
    split at hI
    rotate_left
    · exact hI.elim
    exact hJ393 _ _ _ _ _ _ _ _ _ _ _ _ _ _ _ _ _ _ _ _ _ _ hI
  have hJ := hI
  clear hI
  exact hJ.elim
def tb_L_walks_346z : TB := [(346, .iload 10, 2, []), (348, .ifCond .eq 45, 3, [393]), (351, .iload 15, 2, []), (353, .bipush 6, 2, []), (355, .if_icmp .ge 7, 3, [362]), (358, .iconst 1, 1, []), (359, .goto 4, 3, [363]), (362, .iconst 0, 1, []), (363, .iload 7, 2, []), (365, .ifCond .ne 7, 3, [372]), (368, .iconst 1, 1, []), (369, .goto 4, 3, [373]), (372, .iconst 0, 1, []), (373, .if_icmp .ne 12, 3, [385]), (376, .iload 6, 2, []), (378, .iconst 1, 1, []), (379, .iadd, 1, []), (380, .iconst 4, 1, []), (381, .irem, 1, []), (382, .goto 9, 3, [391]), (385, .iload 6, 2, []), (387, .iconst 3, 1, []), (388, .iadd, 1, []), (389, .iconst 4, 1, []), (390, .irem, 1, []), (391, .istore 6, 2, [])]
theorem tbo_L_walks_346z : tbOK cL_walks tb_L_walks_346z = true := by decide +kernel
def ct_L_walks_346z : List (Nat × CS) := []
theorem sct_L_walks_346z {l : Launch} {D : va_G} {cy : Nat → ClassId} {ad : Nat → Nat}  : ∀ q ∈ ct_L_walks_346z, Site l D cy ad kdZ (lnZ 32) 47 RL tb_L_walks_346z rm_L_walks q.1 q.2 := fun q h => absurd h List.not_mem_nil
def js_L_walks_346z (I393 : Int → Int → Int → Int → Int → Int → Int → Int → Int → Int → Int → Int → Int → Mem → Prop) : KT := fun pc ls st M => bif Nat.beq pc 393 then jg_L_walks_393 I393 ls st M else (False)
set_option maxRecDepth 100000 in
set_option maxHeartbeats 4000000 in
theorem sg_L_walks_346z {p : Program} {l : Launch} {e : Env} {s : State} {m : MethodId} {args : Array Value} {below : List Frame} {meth : Method} {c : Code} {D : va_G} {cy : Nat → ClassId} {ad : Nat → Nat} {A : Nat → Prop} {cells slots : Nat} {ex : List (Nat × Value)} {H0 : Heap} {Q : State → Prop} {post : Int → Mem → Prop}  (I393 : Int → Int → Int → Int → Int → Int → Int → Int → Int → Int → Int → Int → Int → Mem → Prop)
    (hex : exB (ex.map Prod.fst) tb_L_walks_346z = true) (C : jC p l e rm_L_walks s m args below meth c cL_walks 23 RL D cy ad kdZ (lnZ 32) 47 A cells slots H0 Q 2 post)
    (hJ393 : ∀ (w15_ : Option AV) (w16_ : Option AV) (w17_ : Option AV) (w18_ : Option AV) (w19_ : Option AV) (w20_ : Option AV) (w21_ : Option AV) (w22_ : Option AV) (a : Int) (b : Int) (g : Int) (k : Int) (t : Int) (d : Int) (y : Int) (u : Int) (v : Int) (w : Int) (q : Int) (r : Int) (i : Int) (M : Mem), I393 a b g k t d y u v w q r i M → jSt p l e rm_L_walks s m args below meth c 23 D cy ad kdZ (lnZ 32) 47 A cells slots ex H0 Q 393 [some (.inr 0), some (.inl a), some (.inl b), some (.inl g), some (.inl k), some (.inl t), some (.inl d), some (.inl y), some (.inl u), some (.inl v), some (.inl w), some (.inr 46), some (.inl q), some (.inl r), some (.inl i), w15_, w16_, w17_, w18_, w19_, w20_, w21_, w22_] [] M)
    (w16_ : Option AV) (w17_ : Option AV) (w18_ : Option AV) (w19_ : Option AV) (w20_ : Option AV) (w21_ : Option AV) (w22_ : Option AV) (a : Int) (b : Int) (g : Int) (k : Int) (t : Int) (d : Int) (y : Int) (u : Int) (v : Int) (w : Int) (q : Int) (r : Int) (i : Int) (o : Int) (M : Mem) (h : (w = (0 : Int) → (I393 a b g k t d y u v w q r i M)) ∧ (¬ w = (0 : Int) → (((6 : Int) ≤ o → ((¬ y = (0 : Int) → ((¬ (0 : Int) = (0 : Int) → (inR (d + 3) ∧ (0 < (4 : Int) ∧ (I393 a b g k t (Int.tmod (d + 3) 4) y u v w q r i M)))) ∧ (¬ (¬ (0 : Int) = (0 : Int)) → (inR (d + 1) ∧ (0 < (4 : Int) ∧ (I393 a b g k t (Int.tmod (d + 1) 4) y u v w q r i M)))))) ∧ (¬ (¬ y = (0 : Int)) → ((¬ (0 : Int) = (1 : Int) → (inR (d + 3) ∧ (0 < (4 : Int) ∧ (I393 a b g k t (Int.tmod (d + 3) 4) y u v w q r i M)))) ∧ (¬ (¬ (0 : Int) = (1 : Int)) → (inR (d + 1) ∧ (0 < (4 : Int) ∧ (I393 a b g k t (Int.tmod (d + 1) 4) y u v w q r i M)))))))) ∧ (¬ (6 : Int) ≤ o → ((¬ y = (0 : Int) → ((¬ (1 : Int) = (0 : Int) → (inR (d + 3) ∧ (0 < (4 : Int) ∧ (I393 a b g k t (Int.tmod (d + 3) 4) y u v w q r i M)))) ∧ (¬ (¬ (1 : Int) = (0 : Int)) → (inR (d + 1) ∧ (0 < (4 : Int) ∧ (I393 a b g k t (Int.tmod (d + 1) 4) y u v w q r i M)))))) ∧ (¬ (¬ y = (0 : Int)) → ((¬ (1 : Int) = (1 : Int) → (inR (d + 3) ∧ (0 < (4 : Int) ∧ (I393 a b g k t (Int.tmod (d + 3) 4) y u v w q r i M)))) ∧ (¬ (¬ (1 : Int) = (1 : Int)) → (inR (d + 1) ∧ (0 < (4 : Int) ∧ (I393 a b g k t (Int.tmod (d + 1) 4) y u v w q r i M))))))))))) :
    jSt p l e rm_L_walks s m args below meth c 23 D cy ad kdZ (lnZ 32) 47 A cells slots ex H0 Q 346 [some (.inr 0), some (.inl a), some (.inl b), some (.inl g), some (.inl k), some (.inl t), some (.inl d), some (.inl y), some (.inl u), some (.inl v), some (.inl w), some (.inr 46), some (.inl q), some (.inl r), some (.inl i), some (.inl o), w16_, w17_, w18_, w19_, w20_, w21_, w22_] [] M := by
  refine jC_snd (cst := cstL) (cuts := [0, 25, 27, 47, 80, 106, 111, 144, 183, 224, 259, 293, 346, 393, 466]) (J := js_L_walks_346z I393) C cstL_ok ⟨tb_L_walks_346z, ct_L_walks_346z, 28, tbo_L_walks_346z, by decide, by decide, exT_of hex, sct_L_walks_346z , h⟩ ?_
  intro pc ls st M hJ
  unfold js_L_walks_346z at hJ
  rcases bsel hJ with ⟨hpc, hI⟩ | hI
  all_goals clear hJ
  · obtain rfl := Nat.eq_of_beq_eq_true hpc
    unfold jg_L_walks_393 at hI
    split at hI
    rotate_left
    · exact hI.elim
    exact hJ393 _ _ _ _ _ _ _ _ _ _ _ _ _ _ _ _ _ _ _ _ _ _ hI
  have hJ := hI
  clear hI
  exact hJ.elim
def tb_L_walks_393z : TB := [(393, .iinc 14 1, 3, []), (396, .goto (-349), 3, [47])]
theorem tbo_L_walks_393z : tbOK cL_walks tb_L_walks_393z = true := by decide +kernel
def ct_L_walks_393z : List (Nat × CS) := []
theorem sct_L_walks_393z {l : Launch} {D : va_G} {cy : Nat → ClassId} {ad : Nat → Nat}  : ∀ q ∈ ct_L_walks_393z, Site l D cy ad kdZ (lnZ 32) 47 RL tb_L_walks_393z rm_L_walks q.1 q.2 := fun q h => absurd h List.not_mem_nil
def js_L_walks_393z (I47 : Int → Int → Int → Int → Int → Int → Int → Int → Int → Int → Int → Int → Int → Mem → Prop) : KT := fun pc ls st M => bif Nat.beq pc 47 then jg_L_walks_47 I47 ls st M else (False)
set_option maxRecDepth 100000 in
set_option maxHeartbeats 4000000 in
theorem sg_L_walks_393z {p : Program} {l : Launch} {e : Env} {s : State} {m : MethodId} {args : Array Value} {below : List Frame} {meth : Method} {c : Code} {D : va_G} {cy : Nat → ClassId} {ad : Nat → Nat} {A : Nat → Prop} {cells slots : Nat} {ex : List (Nat × Value)} {H0 : Heap} {Q : State → Prop} {post : Int → Mem → Prop}  (I47 : Int → Int → Int → Int → Int → Int → Int → Int → Int → Int → Int → Int → Int → Mem → Prop)
    (hex : exB (ex.map Prod.fst) tb_L_walks_393z = true) (C : jC p l e rm_L_walks s m args below meth c cL_walks 23 RL D cy ad kdZ (lnZ 32) 47 A cells slots H0 Q 2 post)
    (hJ47 : ∀ (w15_ : Option AV) (w16_ : Option AV) (w17_ : Option AV) (w18_ : Option AV) (w19_ : Option AV) (w20_ : Option AV) (w21_ : Option AV) (w22_ : Option AV) (a : Int) (b : Int) (g : Int) (k : Int) (t : Int) (d : Int) (y : Int) (u : Int) (v : Int) (w : Int) (q : Int) (r : Int) (i : Int) (M : Mem), I47 a b g k t d y u v w q r i M → jSt p l e rm_L_walks s m args below meth c 23 D cy ad kdZ (lnZ 32) 47 A cells slots ex H0 Q 47 [some (.inr 0), some (.inl a), some (.inl b), some (.inl g), some (.inl k), some (.inl t), some (.inl d), some (.inl y), some (.inl u), some (.inl v), some (.inl w), some (.inr 46), some (.inl q), some (.inl r), some (.inl i), w15_, w16_, w17_, w18_, w19_, w20_, w21_, w22_] [] M)
    (w15_ : Option AV) (w16_ : Option AV) (w17_ : Option AV) (w18_ : Option AV) (w19_ : Option AV) (w20_ : Option AV) (w21_ : Option AV) (w22_ : Option AV) (a : Int) (b : Int) (g : Int) (k : Int) (t : Int) (d : Int) (y : Int) (u : Int) (v : Int) (w : Int) (q : Int) (r : Int) (i : Int) (M : Mem) (h : inR (i + 1) ∧ (I47 a b g k t d y u v w q r (i + 1) M)) :
    jSt p l e rm_L_walks s m args below meth c 23 D cy ad kdZ (lnZ 32) 47 A cells slots ex H0 Q 393 [some (.inr 0), some (.inl a), some (.inl b), some (.inl g), some (.inl k), some (.inl t), some (.inl d), some (.inl y), some (.inl u), some (.inl v), some (.inl w), some (.inr 46), some (.inl q), some (.inl r), some (.inl i), w15_, w16_, w17_, w18_, w19_, w20_, w21_, w22_] [] M := by
  refine jC_snd (cst := cstL) (cuts := [0, 25, 27, 47, 80, 106, 111, 144, 183, 224, 259, 293, 346, 393, 466]) (J := js_L_walks_393z I47) C cstL_ok ⟨tb_L_walks_393z, ct_L_walks_393z, 4, tbo_L_walks_393z, by decide, by decide, exT_of hex, sct_L_walks_393z , h⟩ ?_
  intro pc ls st M hJ
  unfold js_L_walks_393z at hJ
  rcases bsel hJ with ⟨hpc, hI⟩ | hI
  all_goals clear hJ
  · obtain rfl := Nat.eq_of_beq_eq_true hpc
    unfold jg_L_walks_47 at hI
    split at hI
    rotate_left
    · exact hI.elim
    exact hJ47 _ _ _ _ _ _ _ _ _ _ _ _ _ _ _ _ _ _ _ _ _ _ hI
  have hJ := hI
  clear hI
  exact hJ.elim
def tb_L_walks_466z : TB := [(466, .aload_n 0, 1, []), (467, .bipush 120, 2, []), (469, .invokevirtual 63, 3, []), (472, .pop, 1, []), (473, .iload 14, 2, []), (475, .ifCond .eq 46, 3, [521]), (478, .aload_n 0, 1, []), (479, .iload_n 1, 1, []), (480, .iload_n 2, 1, []), (481, .iconst 0, 1, []), (482, .invokevirtual 67, 3, []), (485, .bipush (-100), 2, []), (487, .iload 13, 2, []), (489, .isub, 1, []), (490, .if_icmp .ne 31, 3, [521]), (493, .aload_n 0, 1, []), (494, .iload_n 1, 1, []), (495, .iconst 4, 1, []), (496, .iconst 0, 1, []), (497, .invokevirtual 67, 3, []), (500, .bipush (-2), 2, []), (502, .if_icmp .ne 19, 3, [521]), (505, .aload_n 0, 1, []), (506, .iload_n 1, 1, []), (507, .iconst 0, 1, []), (508, .iconst 5, 1, []), (509, .invokevirtual 67, 3, []), (512, .bipush (-2), 2, []), (514, .if_icmp .ne 7, 3, [521]), (517, .iconst 1, 1, []), (518, .goto 4, 3, [522]), (521, .iconst 0, 1, []), (522, .ireturn, 1, [])]
theorem tbo_L_walks_466z : tbOK cL_walks tb_L_walks_466z = true := by decide +kernel
def ct_L_walks_466z : List (Nat × CS) := [(469, (2, 1, P_X8_type, CZ_X8_type)), (482, (4, 1, P_X8_walk, CZ_X8_walk)), (497, (4, 1, P_X8_walk, CZ_X8_walk)), (509, (4, 1, P_X8_walk, CZ_X8_walk))]
theorem sct_L_walks_466z {l : Launch} {D : va_G} {cy : Nat → ClassId} {ad : Nat → Nat} (o_X8_type : OKZ_X8_type l D cy ad 32) (o_X8_walk : OKZ_X8_walk l D cy ad 32) : ∀ q ∈ ct_L_walks_466z, Site l D cy ad kdZ (lnZ 32) 47 RL tb_L_walks_466z rm_L_walks q.1 q.2 := List.forall_mem_cons.mpr ⟨Or.inl ⟨63, 1, yX8_type, cX8_type, 2, (some .int), rm_X8_type, rfl, rfl, o_X8_type, ca_X8_type, mkL_63, ⟨rfl, rfl, Nat.le_of_ble_eq_true rfl, Nat.le_of_ble_eq_true rfl⟩, rvz_X8_type⟩, List.forall_mem_cons.mpr ⟨Or.inl ⟨67, 3, yX8_walk, cX8_walk, 5, (some .int), rm_X8_walk, rfl, rfl, o_X8_walk, ca_X8_walk, mkL_67, ⟨rfl, rfl, Nat.le_of_ble_eq_true rfl, Nat.le_of_ble_eq_true rfl⟩, rvz_X8_walk⟩, List.forall_mem_cons.mpr ⟨Or.inl ⟨67, 3, yX8_walk, cX8_walk, 5, (some .int), rm_X8_walk, rfl, rfl, o_X8_walk, ca_X8_walk, mkL_67, ⟨rfl, rfl, Nat.le_of_ble_eq_true rfl, Nat.le_of_ble_eq_true rfl⟩, rvz_X8_walk⟩, List.forall_mem_cons.mpr ⟨Or.inl ⟨67, 3, yX8_walk, cX8_walk, 5, (some .int), rm_X8_walk, rfl, rfl, o_X8_walk, ca_X8_walk, mkL_67, ⟨rfl, rfl, Nat.le_of_ble_eq_true rfl, Nat.le_of_ble_eq_true rfl⟩, rvz_X8_walk⟩, fun q h => absurd h List.not_mem_nil⟩⟩⟩⟩
def js_L_walks_466z  : KT := fun pc ls st M => False
set_option maxRecDepth 100000 in
set_option maxHeartbeats 4000000 in
theorem sg_L_walks_466z {p : Program} {l : Launch} {e : Env} {s : State} {m : MethodId} {args : Array Value} {below : List Frame} {meth : Method} {c : Code} {D : va_G} {cy : Nat → ClassId} {ad : Nat → Nat} {A : Nat → Prop} {cells slots : Nat} {ex : List (Nat × Value)} {H0 : Heap} {Q : State → Prop} {post : Int → Mem → Prop} (o_X8_type : OKZ_X8_type l D cy ad 32) (o_X8_walk : OKZ_X8_walk l D cy ad 32) 
    (hex : exB (ex.map Prod.fst) tb_L_walks_466z = true) (C : jC p l e rm_L_walks s m args below meth c cL_walks 23 RL D cy ad kdZ (lnZ 32) 47 A cells slots H0 Q 2 post)
    
    (w15_ : Option AV) (w16_ : Option AV) (w17_ : Option AV) (w18_ : Option AV) (w19_ : Option AV) (w20_ : Option AV) (w21_ : Option AV) (w22_ : Option AV) (a : Int) (b : Int) (g : Int) (k : Int) (t : Int) (d : Int) (y : Int) (u : Int) (v : Int) (w : Int) (q : Int) (r : Int) (i : Int) (M : Mem) (h : p_X8_type 0 120 M ∧ ∀ (x2 : Int) (M1 : Mem), inR x2 → okM M1 → cz_X8_type 0 120 M x2 M1 → ((i = (0 : Int) → (((0 : Int) = 0 ∨ (0 : Int) = 1) ∧ post 0 M1)) ∧ (¬ i = (0 : Int) → (p_X8_walk 0 a b 0 M1 ∧ ∀ (x4 : Int) (M3 : Mem), inR x4 → okM M3 → cz_X8_walk 0 a b 0 M1 x4 M3 → (inR ((-100) - r) ∧ ((¬ x4 = ((-100) - r) → (((0 : Int) = 0 ∨ (0 : Int) = 1) ∧ post 0 M3)) ∧ (¬ (¬ x4 = ((-100) - r)) → (p_X8_walk 0 a 4 0 M3 ∧ ∀ (x6 : Int) (M5 : Mem), inR x6 → okM M5 → cz_X8_walk 0 a 4 0 M3 x6 M5 → ((¬ x6 = (-2 : Int) → (((0 : Int) = 0 ∨ (0 : Int) = 1) ∧ post 0 M5)) ∧ (¬ (¬ x6 = (-2 : Int)) → (p_X8_walk 0 a 0 5 M5 ∧ ∀ (x8 : Int) (M7 : Mem), inR x8 → okM M7 → cz_X8_walk 0 a 0 5 M5 x8 M7 → ((¬ x8 = (-2 : Int) → (((0 : Int) = 0 ∨ (0 : Int) = 1) ∧ post 0 M7)) ∧ (¬ (¬ x8 = (-2 : Int)) → (((1 : Int) = 0 ∨ (1 : Int) = 1) ∧ post 1 M7)))))))))))))) :
    jSt p l e rm_L_walks s m args below meth c 23 D cy ad kdZ (lnZ 32) 47 A cells slots ex H0 Q 466 [some (.inr 0), some (.inl a), some (.inl b), some (.inl g), some (.inl k), some (.inl t), some (.inl d), some (.inl y), some (.inl u), some (.inl v), some (.inl w), some (.inr 46), some (.inl q), some (.inl r), some (.inl i), w15_, w16_, w17_, w18_, w19_, w20_, w21_, w22_] [] M := by
  refine jC_snd (cst := cstL) (cuts := [0, 25, 27, 47, 80, 106, 111, 144, 183, 224, 259, 293, 346, 393, 466]) (J := js_L_walks_466z ) C cstL_ok ⟨tb_L_walks_466z, ct_L_walks_466z, 35, tbo_L_walks_466z, by decide, by decide, exT_of hex, sct_L_walks_466z o_X8_type o_X8_walk, h⟩ ?_
  intro pc ls st M hJ
  unfold js_L_walks_466z at hJ
  exact hJ.elim

