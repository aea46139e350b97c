abbrev rm_L_edits : Room := { frames := 7, cells := 1, slots := 64, locals := 155 }
def jg_L_edits_34 (I : Int → Int → Int → Int → Int → Int → Mem → Prop) : List (Option AV) → List AV → Mem → Prop := fun ls st M => match ls, st, M with
  | [some (.inr 0), some (.inl g), some (.inl k), some (.inl j), some (.inl r), some (.inl t), some (.inl d), _, _, _, _, _, _, _, _], [.inr 0], M => I g k j r t d M
  | _, _, _ => False
def tb_L_edits_0x : TB := [(0, .aload_n 0, 1, []), (1, .iconst 0, 1, []), (2, .invokevirtual 9, 3, []), (5, .aload_n 0, 1, []), (6, .iconst 1, 1, []), (7, .invokevirtual 9, 3, []), (10, .imul, 1, []), (11, .istore 4, 2, []), (13, .iload_n 1, 1, []), (14, .iconst 3, 1, []), (15, .ishr, 1, []), (16, .iload 4, 2, []), (18, .invokestatic 44, 3, []), (21, .istore 5, 2, []), (23, .iload_n 1, 1, []), (24, .bipush 11, 2, []), (26, .ishr, 1, []), (27, .iconst 3, 1, []), (28, .invokestatic 44, 3, []), (31, .istore 6, 2, []), (33, .aload_n 0, 1, [])]
theorem tbo_L_edits_0x : tbOK cL_edits tb_L_edits_0x = true := by decide +kernel
def ct_L_edits_0x : List (Nat × CS) := [(2, (2, 1, P_X8_value, C_X8_value)), (7, (2, 1, P_X8_value, C_X8_value)), (18, (2, 1, P_L_low, C_L_low)), (28, (2, 1, P_L_low, C_L_low))]
theorem sct_L_edits_0x {l : Launch} {D : va_G} {cy : Nat → ClassId} {ad : Nat → Nat} (o_L_low : OK_L_low l D cy ad) (o_X8_value : OK_X8_value l D cy ad) : ∀ q ∈ ct_L_edits_0x, Site l D cy ad kdX lnX 46 RL tb_L_edits_0x rm_L_edits q.1 q.2 := List.forall_mem_cons.mpr ⟨Or.inl ⟨9, 1, yX8_value, cX8_value, 2, (some .int), rm_X8_value, rfl, rfl, o_X8_value, ca_X8_value, mkL_9, ⟨rfl, rfl, Nat.le_of_ble_eq_true rfl, Nat.le_of_ble_eq_true rfl⟩, rv_X8_value⟩, List.forall_mem_cons.mpr ⟨Or.inl ⟨9, 1, yX8_value, cX8_value, 2, (some .int), rm_X8_value, rfl, rfl, o_X8_value, ca_X8_value, mkL_9, ⟨rfl, rfl, Nat.le_of_ble_eq_true rfl, Nat.le_of_ble_eq_true rfl⟩, rv_X8_value⟩, List.forall_mem_cons.mpr ⟨Or.inr (Or.inl ⟨44, 2, yL_low, cL_low, 2, (some .int), rm_L_low, rfl, rfl, o_L_low, ca_L_low, mkL_44, rfl, ⟨rfl, rfl, Nat.le_of_ble_eq_true rfl, Nat.le_of_ble_eq_true rfl⟩⟩), List.forall_mem_cons.mpr ⟨Or.inr (Or.inl ⟨44, 2, yL_low, cL_low, 2, (some .int), rm_L_low, rfl, rfl, o_L_low, ca_L_low, mkL_44, rfl, ⟨rfl, rfl, Nat.le_of_ble_eq_true rfl, Nat.le_of_ble_eq_true rfl⟩⟩), fun q h => absurd h List.not_mem_nil⟩⟩⟩⟩
def js_L_edits_0x (I34 : Int → Int → Int → Int → Int → Int → Mem → Prop) : KT := fun pc ls st M => bif Nat.beq pc 34 then jg_L_edits_34 I34 ls st M else (False)
set_option maxRecDepth 100000 in
set_option maxHeartbeats 4000000 in
theorem sg_L_edits_0x {p : Program} {l : Launch} {e : Env} {s : State} {m : MethodId} {args : Array Value} {below : List Frame} {meth : Method} {c : Code} {D : va_G} {cy : Nat → ClassId} {ad : Nat → Nat} {A : Nat → Prop} {cells slots : Nat} {ex : List (Nat × Value)} {H0 : Heap} {Q : State → Prop} {post : Int → Mem → Prop} (o_L_low : OK_L_low l D cy ad) (o_X8_value : OK_X8_value l D cy ad) (I34 : Int → Int → Int → Int → Int → Int → Mem → Prop)
    (hex : exB (ex.map Prod.fst) tb_L_edits_0x = true) (C : jC p l e rm_L_edits s m args below meth c cL_edits 15 RL D cy ad kdX lnX 46 A cells slots H0 Q 1 post)
    (hJ34 : ∀ (w7_ : Option AV) (w8_ : Option AV) (w9_ : Option AV) (w10_ : Option AV) (w11_ : Option AV) (w12_ : Option AV) (w13_ : Option AV) (w14_ : Option AV) (g : Int) (k : Int) (j : Int) (r : Int) (t : Int) (d : Int) (M : Mem), I34 g k j r t d M → jSt p l e rm_L_edits s m args below meth c 15 D cy ad kdX lnX 46 A cells slots ex H0 Q 34 [some (.inr 0), some (.inl g), some (.inl k), some (.inl j), some (.inl r), some (.inl t), some (.inl d), w7_, w8_, w9_, w10_, w11_, w12_, w13_, w14_] [.inr 0] M)
    (w4_ : Option AV) (w5_ : Option AV) (w6_ : Option AV) (w7_ : Option AV) (w8_ : Option AV) (w9_ : Option AV) (w10_ : Option AV) (w11_ : Option AV) (w12_ : Option AV) (w13_ : Option AV) (w14_ : Option AV) (g : Int) (k : Int) (j : Int) (M : Mem) (h : p_X8_value 0 0 M ∧ ∀ (x2 : Int) (M1 : Mem), inR x2 → okM M1 → c_X8_value 0 0 M x2 M1 → (p_X8_value 0 1 M1 ∧ ∀ (x4 : Int) (M3 : Mem), inR x4 → okM M3 → c_X8_value 0 1 M1 x4 M3 → (inR (x2 * x4) ∧ (p_L_low (bShr g 3) (x2 * x4) M3 ∧ ∀ (x6 : Int) (M5 : Mem), inR x6 → okM M5 → c_L_low (bShr g 3) (x2 * x4) M3 x6 M5 → (p_L_low (bShr g 11) 3 M5 ∧ ∀ (x8 : Int) (M7 : Mem), inR x8 → okM M7 → c_L_low (bShr g 11) 3 M5 x8 M7 → (I34 g k j (x2 * x4) x6 x8 M7)))))) :
    jSt p l e rm_L_edits s m args below meth c 15 D cy ad kdX lnX 46 A cells slots ex H0 Q 0 [some (.inr 0), some (.inl g), some (.inl k), some (.inl j), w4_, w5_, w6_, w7_, w8_, w9_, w10_, w11_, w12_, w13_, w14_] [] M := by
  refine jC_snd (cst := cstL) (cuts := [0, 34, 39, 64, 66, 71, 118, 309, 336, 482, 507, 540, 549, 554]) (J := js_L_edits_0x I34) C cstL_ok ⟨tb_L_edits_0x, ct_L_edits_0x, 23, tbo_L_edits_0x, by decide, by decide, exT_of hex, sct_L_edits_0x o_L_low o_X8_value, h⟩ ?_
  intro pc ls st M hJ
  unfold js_L_edits_0x at hJ
  rcases bsel hJ with ⟨hpc, hI⟩ | hI
  all_goals clear hJ
  · obtain rfl := Nat.eq_of_beq_eq_true hpc
    unfold jg_L_edits_34 at hI
    split at hI
    rotate_left
    · exact hI.elim
    exact hJ34 _ _ _ _ _ _ _ _ _ _ _ _ _ _ _ hI
  have hJ := hI
  clear hI
  exact hJ.elim
def jg_L_edits_64 (I : Int → Int → Int → Int → Int → Int → Int → Int → Int → Mem → Prop) : List (Option AV) → List AV → Mem → Prop := fun ls st M => match ls, st, M with
  | [some (.inr 0), some (.inl g), some (.inl k), some (.inl j), some (.inl r), some (.inl t), some (.inl d), _, _, some (.inl o), some (.inl y), _, _, _, _], [.inl u], M => I g k j r t d o y u M
  | _, _, _ => False
def jg_L_edits_309 (I : Int → Int → Int → Int → Int → Int → Int → Int → Int → Int → Int → Mem → Prop) : List (Option AV) → List AV → Mem → Prop := fun ls st M => match ls, st, M with
  | [some (.inr 0), some (.inl g), some (.inl k), some (.inl j), some (.inl r), some (.inl t), some (.inl d), _, _, some (.inl o), some (.inl y), some (.inl q), some (.inl z), some (.inl i), _], [], M => I g k j r t d o y q z i M
  | _, _, _ => False
def jg_L_edits_482 (I : Int → Int → Int → Int → Int → Int → Mem → Prop) : List (Option AV) → List AV → Mem → Prop := fun ls st M => match ls, st, M with
  | [some (.inr 0), some (.inl g), some (.inl k), some (.inl j), some (.inl r), some (.inl t), some (.inl d), _, _, _, _, _, _, _, _], [], M => I g k j r t d M
  | _, _, _ => False
def tb_L_edits_39x : TB := [(39, .iload_n 1, 1, []), (40, .iconst 5, 1, []), (41, .invokestatic 44, 3, []), (44, .istore 9, 2, []), (46, .iload 9, 2, []), (48, .iconst 3, 1, []), (49, .if_icmp .ge 171, 3, [220]), (52, .aload_n 0, 1, []), (53, .iload 5, 2, []), (55, .iload 6, 2, []), (57, .invokevirtual 74, 3, []), (60, .istore 10, 2, []), (62, .bipush 64, 2, []), (220, .iload 9, 2, []), (222, .iconst 3, 1, []), (223, .if_icmp .ne 65, 3, [288]), (226, .aload_n 0, 1, []), (227, .aload_n 0, 1, []), (228, .iload 5, 2, []), (230, .invokevirtual 22, 3, []), (233, .iconst 1, 1, []), (234, .invokevirtual 28, 3, []), (237, .istore 10, 2, []), (239, .aload_n 0, 1, []), (240, .iload 5, 2, []), (242, .iload 6, 2, []), (244, .invokevirtual 80, 3, []), (247, .istore 11, 2, []), (249, .iload 11, 2, []), (251, .iload 10, 2, []), (253, .if_icmp .lt 30, 3, [283]), (256, .aload_n 0, 1, []), (257, .iload 5, 2, []), (259, .invokevirtual 25, 3, []), (262, .iload 6, 2, []), (264, .if_icmp .ne 19, 3, [283]), (267, .aload_n 0, 1, []), (268, .aload_n 0, 1, []), (269, .iload 5, 2, []), (271, .invokevirtual 22, 3, []), (274, .iconst 1, 1, []), (275, .invokevirtual 28, 3, []), (278, .iload 11, 2, []), (280, .if_icmp .eq 5, 3, [285]), (283, .iconst (-1), 1, []), (284, .ireturn, 1, []), (285, .goto 197, 3, [482]), (288, .aload_n 0, 1, []), (289, .invokevirtual 59, 3, []), (292, .pop, 1, []), (293, .iconst 0, 1, []), (294, .istore 10, 2, []), (296, .aload_n 0, 1, []), (297, .iconst 0, 1, []), (298, .invokevirtual 9, 3, []), (301, .istore 11, 2, []), (303, .iconst 0, 1, []), (304, .istore 12, 2, []), (306, .iconst 0, 1, []), (307, .istore 13, 2, [])]
theorem tbo_L_edits_39x : tbOK cL_edits tb_L_edits_39x = true := by decide +kernel
def ct_L_edits_39x : List (Nat × CS) := [(41, (2, 1, P_L_low, C_L_low)), (57, (3, 1, P_X8_partsIf, C_X8_partsIf)), (230, (2, 1, P_X8_label, C_X8_label)), (234, (3, 1, P_X8_ofPart, C_X8_ofPart)), (244, (3, 1, P_X8_fill, C_X8_fill)), (259, (2, 1, P_X8_kind, C_X8_kind)), (271, (2, 1, P_X8_label, C_X8_label)), (275, (3, 1, P_X8_ofPart, C_X8_ofPart)), (289, (1, 1, P_X8_clearText, C_X8_clearText)), (298, (2, 1, P_X8_value, C_X8_value))]
theorem sct_L_edits_39x {l : Launch} {D : va_G} {cy : Nat → ClassId} {ad : Nat → Nat} (o_L_low : OK_L_low l D cy ad) (o_X8_clearText : OK_X8_clearText l D cy ad) (o_X8_fill : OK_X8_fill l D cy ad) (o_X8_kind : OK_X8_kind l D cy ad) (o_X8_label : OK_X8_label l D cy ad) (o_X8_ofPart : OK_X8_ofPart l D cy ad) (o_X8_partsIf : OK_X8_partsIf l D cy ad) (o_X8_value : OK_X8_value l D cy ad) : ∀ q ∈ ct_L_edits_39x, Site l D cy ad kdX lnX 46 RL tb_L_edits_39x rm_L_edits q.1 q.2 := List.forall_mem_cons.mpr ⟨Or.inr (Or.inl ⟨44, 2, yL_low, cL_low, 2, (some .int), rm_L_low, rfl, rfl, o_L_low, ca_L_low, mkL_44, rfl, ⟨rfl, rfl, Nat.le_of_ble_eq_true rfl, Nat.le_of_ble_eq_true rfl⟩⟩), List.forall_mem_cons.mpr ⟨Or.inl ⟨74, 2, yX8_partsIf, cX8_partsIf, 4, (some .int), rm_X8_partsIf, rfl, rfl, o_X8_partsIf, ca_X8_partsIf, mkL_74, ⟨rfl, rfl, Nat.le_of_ble_eq_true rfl, Nat.le_of_ble_eq_true rfl⟩, rv_X8_partsIf⟩, List.forall_mem_cons.mpr ⟨Or.inl ⟨22, 1, yX8_label, cX8_label, 2, (some .int), rm_X8_label, rfl, rfl, o_X8_label, ca_X8_label, mkL_22, ⟨rfl, rfl, Nat.le_of_ble_eq_true rfl, Nat.le_of_ble_eq_true rfl⟩, rv_X8_label⟩, List.forall_mem_cons.mpr ⟨Or.inl ⟨28, 2, yX8_ofPart, cX8_ofPart, 3, (some .int), rm_X8_ofPart, rfl, rfl, o_X8_ofPart, ca_X8_ofPart, mkL_28, ⟨rfl, rfl, Nat.le_of_ble_eq_true rfl, Nat.le_of_ble_eq_true rfl⟩, rv_X8_ofPart⟩, List.forall_mem_cons.mpr ⟨Or.inl ⟨80, 2, yX8_fill, cX8_fill, 3, (some .int), rm_X8_fill, rfl, rfl, o_X8_fill, ca_X8_fill, mkL_80, ⟨rfl, rfl, Nat.le_of_ble_eq_true rfl, Nat.le_of_ble_eq_true rfl⟩, rv_X8_fill⟩, List.forall_mem_cons.mpr ⟨Or.inl ⟨25, 1, yX8_kind, cX8_kind, 2, (some .int), rm_X8_kind, rfl, rfl, o_X8_kind, ca_X8_kind, mkL_25, ⟨rfl, rfl, Nat.le_of_ble_eq_true rfl, Nat.le_of_ble_eq_true rfl⟩, rv_X8_kind⟩, List.forall_mem_cons.mpr ⟨Or.inl ⟨22, 1, yX8_label, cX8_label, 2, (some .int), rm_X8_label, rfl, rfl, o_X8_label, ca_X8_label, mkL_22, ⟨rfl, rfl, Nat.le_of_ble_eq_true rfl, Nat.le_of_ble_eq_true rfl⟩, rv_X8_label⟩, List.forall_mem_cons.mpr ⟨Or.inl ⟨28, 2, yX8_ofPart, cX8_ofPart, 3, (some .int), rm_X8_ofPart, rfl, rfl, o_X8_ofPart, ca_X8_ofPart, mkL_28, ⟨rfl, rfl, Nat.le_of_ble_eq_true rfl, Nat.le_of_ble_eq_true rfl⟩, rv_X8_ofPart⟩, List.forall_mem_cons.mpr ⟨Or.inl ⟨59, 0, yX8_clearText, cX8_clearText, 1, (some .int), rm_X8_clearText, rfl, rfl, o_X8_clearText, ca_X8_clearText, mkL_59, ⟨rfl, rfl, Nat.le_of_ble_eq_true rfl, Nat.le_of_ble_eq_true rfl⟩, rv_X8_clearText⟩, List.forall_mem_cons.mpr ⟨Or.inl ⟨9, 1, yX8_value, cX8_value, 2, (some .int), rm_X8_value, rfl, rfl, o_X8_value, ca_X8_value, mkL_9, ⟨rfl, rfl, Nat.le_of_ble_eq_true rfl, Nat.le_of_ble_eq_true rfl⟩, rv_X8_value⟩, fun q h => absurd h List.not_mem_nil⟩⟩⟩⟩⟩⟩⟩⟩⟩⟩
def js_L_edits_39x (I64 : Int → Int → Int → Int → Int → Int → Int → Int → Int → Mem → Prop) (I309 : Int → Int → Int → Int → Int → Int → Int → Int → Int → Int → Int → Mem → Prop) (I482 : Int → Int → Int → Int → Int → Int → Mem → Prop) : KT := fun pc ls st M => bif Nat.beq pc 64 then jg_L_edits_64 I64 ls st M else (bif Nat.beq pc 309 then jg_L_edits_309 I309 ls st M else (bif Nat.beq pc 482 then jg_L_edits_482 I482 ls st M else (False)))
set_option maxRecDepth 100000 in
set_option maxHeartbeats 4000000 in
theorem sg_L_edits_39x {p : Program} {l : Launch} {e : Env} {s : State} {m : MethodId} {args : Array Value} {below : List Frame} {meth : Method} {c : Code} {D : va_G} {cy : Nat → ClassId} {ad : Nat → Nat} {A : Nat → Prop} {cells slots : Nat} {ex : List (Nat × Value)} {H0 : Heap} {Q : State → Prop} {post : Int → Mem → Prop} (o_L_low : OK_L_low l D cy ad) (o_X8_clearText : OK_X8_clearText l D cy ad) (o_X8_fill : OK_X8_fill l D cy ad) (o_X8_kind : OK_X8_kind l D cy ad) (o_X8_label : OK_X8_label l D cy ad) (o_X8_ofPart : OK_X8_ofPart l D cy ad) (o_X8_partsIf : OK_X8_partsIf l D cy ad) (o_X8_value : OK_X8_value l D cy ad) (I64 : Int → Int → Int → Int → Int → Int → Int → Int → Int → Mem → Prop) (I309 : Int → Int → Int → Int → Int → Int → Int → Int → Int → Int → Int → Mem → Prop) (I482 : Int → Int → Int → Int → Int → Int → Mem → Prop)
    (hex : exB (ex.map Prod.fst) tb_L_edits_39x = true) (C : jC p l e rm_L_edits s m args below meth c cL_edits 15 RL D cy ad kdX lnX 46 A cells slots H0 Q 1 post)
    (hJ64 : ∀ (w7_ : Option AV) (w8_ : Option AV) (w11_ : Option AV) (w12_ : Option AV) (w13_ : Option AV) (w14_ : Option AV) (g : Int) (k : Int) (j : Int) (r : Int) (t : Int) (d : Int) (o : Int) (y : Int) (u : Int) (M : Mem), I64 g k j r t d o y u M → jSt p l e rm_L_edits s m args below meth c 15 D cy ad kdX lnX 46 A cells slots ex H0 Q 64 [some (.inr 0), some (.inl g), some (.inl k), some (.inl j), some (.inl r), some (.inl t), some (.inl d), w7_, w8_, some (.inl o), some (.inl y), w11_, w12_, w13_, w14_] [.inl u] M)
    (hJ309 : ∀ (w7_ : Option AV) (w8_ : Option AV) (w14_ : Option AV) (g : Int) (k : Int) (j : Int) (r : Int) (t : Int) (d : Int) (o : Int) (y : Int) (q : Int) (z : Int) (i : Int) (M : Mem), I309 g k j r t d o y q z i M → jSt p l e rm_L_edits s m args below meth c 15 D cy ad kdX lnX 46 A cells slots ex H0 Q 309 [some (.inr 0), some (.inl g), some (.inl k), some (.inl j), some (.inl r), some (.inl t), some (.inl d), w7_, w8_, some (.inl o), some (.inl y), some (.inl q), some (.inl z), some (.inl i), w14_] [] M)
    (hJ482 : ∀ (w7_ : Option AV) (w8_ : Option AV) (w9_ : Option AV) (w10_ : Option AV) (w11_ : Option AV) (w12_ : Option AV) (w13_ : Option AV) (w14_ : Option AV) (g : Int) (k : Int) (j : Int) (r : Int) (t : Int) (d : Int) (M : Mem), I482 g k j r t d M → jSt p l e rm_L_edits s m args below meth c 15 D cy ad kdX lnX 46 A cells slots ex H0 Q 482 [some (.inr 0), some (.inl g), some (.inl k), some (.inl j), some (.inl r), some (.inl t), some (.inl d), w7_, w8_, w9_, w10_, w11_, w12_, w13_, w14_] [] M)
    (w7_ : Option AV) (w8_ : Option AV) (w9_ : Option AV) (w10_ : Option AV) (w11_ : Option AV) (w12_ : Option AV) (w13_ : Option AV) (w14_ : Option AV) (g : Int) (k : Int) (j : Int) (r : Int) (t : Int) (d : Int) (M : Mem) (h : p_L_low g 5 M ∧ ∀ (x2 : Int) (M1 : Mem), inR x2 → okM M1 → c_L_low g 5 M x2 M1 → (((3 : Int) ≤ x2 → ((¬ x2 = (3 : Int) → (p_X8_clearText 0 M1 ∧ ∀ (x4 : Int) (M3 : Mem), inR x4 → okM M3 → c_X8_clearText 0 M1 x4 M3 → (p_X8_value 0 0 M3 ∧ ∀ (x6 : Int) (M5 : Mem), inR x6 → okM M5 → c_X8_value 0 0 M3 x6 M5 → (I309 g k j r t d x2 0 x6 0 0 M5)))) ∧ (¬ (¬ x2 = (3 : Int)) → (p_X8_label 0 t M1 ∧ ∀ (x8 : Int) (M7 : Mem), inR x8 → okM M7 → c_X8_label 0 t M1 x8 M7 → (p_X8_ofPart 0 x8 1 M7 ∧ ∀ (x10 : Int) (M9 : Mem), inR x10 → okM M9 → c_X8_ofPart 0 x8 1 M7 x10 M9 → (p_X8_fill 0 t d M9 ∧ ∀ (x12 : Int) (M11 : Mem), inR x12 → okM M11 → c_X8_fill 0 t d M9 x12 M11 → ((x12 < x10 → ((True) ∧ post (-1) M11)) ∧ (¬ x12 < x10 → (p_X8_kind 0 t M11 ∧ ∀ (x14 : Int) (M13 : Mem), inR x14 → okM M13 → c_X8_kind 0 t M11 x14 M13 → ((¬ x14 = d → ((True) ∧ post (-1) M13)) ∧ (¬ (¬ x14 = d) → (p_X8_label 0 t M13 ∧ ∀ (x16 : Int) (M15 : Mem), inR x16 → okM M15 → c_X8_label 0 t M13 x16 M15 → (p_X8_ofPart 0 x16 1 M15 ∧ ∀ (x18 : Int) (M17 : Mem), inR x18 → okM M17 → c_X8_ofPart 0 x16 1 M15 x18 M17 → ((x18 = x12 → (I482 g k j r t d M17)) ∧ (¬ x18 = x12 → ((True) ∧ post (-1) M17)))))))))))))))) ∧ (¬ (3 : Int) ≤ x2 → (p_X8_partsIf 0 t d M1 ∧ ∀ (x20 : Int) (M19 : Mem), inR x20 → okM M19 → c_X8_partsIf 0 t d M1 x20 M19 → (I64 g k j r t d x2 x20 64 M19))))) :
    jSt p l e rm_L_edits s m args below meth c 15 D cy ad kdX lnX 46 A cells slots ex H0 Q 39 [some (.inr 0), some (.inl g), some (.inl k), some (.inl j), some (.inl r), some (.inl t), some (.inl d), w7_, w8_, w9_, w10_, w11_, w12_, w13_, w14_] [] M := by
  refine jC_snd (cst := cstL) (cuts := [0, 34, 39, 64, 66, 71, 118, 309, 336, 482, 507, 540, 549, 554]) (J := js_L_edits_39x I64 I309 I482) C cstL_ok ⟨tb_L_edits_39x, ct_L_edits_39x, 62, tbo_L_edits_39x, by decide, by decide, exT_of hex, sct_L_edits_39x o_L_low o_X8_clearText o_X8_fill o_X8_kind o_X8_label o_X8_ofPart o_X8_partsIf o_X8_value, h⟩ ?_
  intro pc ls st M hJ
  unfold js_L_edits_39x at hJ
  rcases bsel hJ with ⟨hpc, hI⟩ | hI
  all_goals clear hJ
  · obtain rfl := Nat.eq_of_beq_eq_true hpc
    unfold jg_L_edits_64 at hI
    split at hI
    rotate_left
    · exact hI.elim
    exact hJ64 _ _ _ _ _ _ _ _ _ _ _ _ _ _ _ _ hI
  have hJ := hI
  clear hI
  rcases bsel hJ with ⟨hpc, hI⟩ | hI
  all_goals clear hJ
  · obtain rfl := Nat.eq_of_beq_eq_true hpc
    unfold jg_L_edits_309 at hI
    split at hI
    rotate_left
    · exact hI.elim
    exact hJ309 _ _ _ _ _ _ _ _ _ _ _ _ _ _ _ hI
  have hJ := hI
  clear hI
  rcases bsel hJ with ⟨hpc, hI⟩ | hI
  all_goals clear hJ
  · obtain rfl := Nat.eq_of_beq_eq_true hpc
    unfold jg_L_edits_482 at hI
    split at hI
    rotate_left
    · exact hI.elim
    exact hJ482 _ _ _ _ _ _ _ _ _ _ _ _ _ _ _ hI
  have hJ := hI
  clear hI
  exact hJ.elim
def jg_L_edits_71 (I : Int → Int → Int → Int → Int → Int → Int → Int → Int → Mem → Prop) : List (Option AV) → List AV → Mem → Prop := fun ls st M => match ls, st, M with
  | [some (.inr 0), some (.inl g), some (.inl k), some (.inl j), some (.inl r), some (.inl t), some (.inl d), _, _, some (.inl o), some (.inl y), some (.inr 46), some (.inl i), _, _], [], M => I g k j r t d o y i M
  | _, _, _ => False
def tb_L_edits_66z : TB := [(66, .astore 11, 2, []), (68, .iconst 0, 1, []), (69, .istore 12, 2, [])]
theorem tbo_L_edits_66z : tbOK cL_edits tb_L_edits_66z = true := by decide +kernel
def ct_L_edits_66z : List (Nat × CS) := []
theorem sct_L_edits_66z {l : Launch} {D : va_G} {cy : Nat → ClassId} {ad : Nat → Nat}  : ∀ q ∈ ct_L_edits_66z, Site l D cy ad kdZ (lnZ 64) 47 RL tb_L_edits_66z rm_L_edits q.1 q.2 := fun q h => absurd h List.not_mem_nil
def js_L_edits_66z (I71 : Int → Int → Int → Int → Int → Int → Int → Int → Int → Mem → Prop) : KT := fun pc ls st M => bif Nat.beq pc 71 then jg_L_edits_71 I71 ls st M else (False)
set_option maxRecDepth 100000 in
set_option maxHeartbeats 4000000 in
theorem sg_L_edits_66z {p : Program} {l : Launch} {e : Env} {s : State} {m : MethodId} {args : Array Value} {below : List Frame} {meth : Method} {c : Code} {D : va_G} {cy : Nat → ClassId} {ad : Nat → Nat} {A : Nat → Prop} {cells slots : Nat} {ex : List (Nat × Value)} {H0 : Heap} {Q : State → Prop} {post : Int → Mem → Prop}  (I71 : Int → Int → Int → Int → Int → Int → Int → Int → Int → Mem → Prop)
    (hex : exB (ex.map Prod.fst) tb_L_edits_66z = true) (C : jC p l e rm_L_edits s m args below meth c cL_edits 15 RL D cy ad kdZ (lnZ 64) 47 A cells slots H0 Q 1 post)
    (hJ71 : ∀ (w7_ : Option AV) (w8_ : Option AV) (w13_ : Option AV) (w14_ : Option AV) (g : Int) (k : Int) (j : Int) (r : Int) (t : Int) (d : Int) (o : Int) (y : Int) (i : Int) (M : Mem), I71 g k j r t d o y i M → jSt p l e rm_L_edits s m args below meth c 15 D cy ad kdZ (lnZ 64) 47 A cells slots ex H0 Q 71 [some (.inr 0), some (.inl g), some (.inl k), some (.inl j), some (.inl r), some (.inl t), some (.inl d), w7_, w8_, some (.inl o), some (.inl y), some (.inr 46), some (.inl i), w13_, w14_] [] M)
    (w7_ : Option AV) (w8_ : Option AV) (w11_ : Option AV) (w12_ : Option AV) (w13_ : Option AV) (w14_ : Option AV) (g : Int) (k : Int) (j : Int) (r : Int) (t : Int) (d : Int) (o : Int) (y : Int) (M : Mem) (h : I71 g k j r t d o y 0 M) :
    jSt p l e rm_L_edits s m args below meth c 15 D cy ad kdZ (lnZ 64) 47 A cells slots ex H0 Q 66 [some (.inr 0), some (.inl g), some (.inl k), some (.inl j), some (.inl r), some (.inl t), some (.inl d), w7_, w8_, some (.inl o), some (.inl y), w11_, w12_, w13_, w14_] [.inr 46] M := by
  refine jC_snd (cst := cstL) (cuts := [0, 34, 39, 64, 66, 71, 118, 309, 336, 482, 507, 540, 549, 554]) (J := js_L_edits_66z I71) C cstL_ok ⟨tb_L_edits_66z, ct_L_edits_66z, 5, tbo_L_edits_66z, by decide, by decide, exT_of hex, sct_L_edits_66z , h⟩ ?_
  intro pc ls st M hJ
  unfold js_L_edits_66z at hJ
  rcases bsel hJ with ⟨hpc, hI⟩ | hI
  all_goals clear hJ
  · obtain rfl := Nat.eq_of_beq_eq_true hpc
    unfold jg_L_edits_71 at hI
    split at hI
    rotate_left
    · exact hI.elim
    exact hJ71 _ _ _ _ _ _ _ _ _ _ _ _ _ _ hI
  have hJ := hI
  clear hI
  exact hJ.elim
def jg_L_edits_118 (I : Int → Int → Int → Int → Int → Int → Int → Int → Int → Int → Int → Mem → Prop) : List (Option AV) → List AV → Mem → Prop := fun ls st M => match ls, st, M with
  | [some (.inr 0), some (.inl g), some (.inl k), some (.inl j), some (.inl r), some (.inl t), some (.inl d), _, _, some (.inl o), some (.inl y), some (.inr 46), some (.inl q), some (.inl z), some (.inl i)], [], M => I g k j r t d o y q z i M
  | _, _, _ => False
def tb_L_edits_71z : TB := [(71, .iload 12, 2, []), (73, .iload 4, 2, []), (75, .if_icmp .ge 27, 3, [102]), (78, .iload 12, 2, []), (80, .bipush 64, 2, []), (82, .if_icmp .ge 20, 3, [102]), (85, .aload 11, 2, []), (87, .iload 12, 2, []), (89, .aload_n 0, 1, []), (90, .iload 12, 2, []), (92, .invokevirtual 22, 3, []), (95, .iastore, 1, []), (96, .iinc 12 1, 3, []), (99, .goto (-28), 3, [71]), (102, .aload_n 0, 1, []), (103, .iload 5, 2, []), (105, .iload 6, 2, []), (107, .invokevirtual 77, 3, []), (110, .istore 12, 2, []), (112, .iconst 0, 1, []), (113, .istore 13, 2, []), (115, .iconst 0, 1, []), (116, .istore 14, 2, [])]
theorem tbo_L_edits_71z : tbOK cL_edits tb_L_edits_71z = true := by decide +kernel
def ct_L_edits_71z : List (Nat × CS) := [(92, (2, 1, P_X8_label, CZ_X8_label)), (107, (3, 1, P_X8_setTile, CZ_X8_setTile))]
theorem sct_L_edits_71z {l : Launch} {D : va_G} {cy : Nat → ClassId} {ad : Nat → Nat} (o_X8_label : OKZ_X8_label l D cy ad 64) (o_X8_setTile : OKZ_X8_setTile l D cy ad 64) : ∀ q ∈ ct_L_edits_71z, Site l D cy ad kdZ (lnZ 64) 47 RL tb_L_edits_71z rm_L_edits q.1 q.2 := List.forall_mem_cons.mpr ⟨Or.inl ⟨22, 1, yX8_label, cX8_label, 2, (some .int), rm_X8_label, rfl, rfl, o_X8_label, ca_X8_label, mkL_22, ⟨rfl, rfl, Nat.le_of_ble_eq_true rfl, Nat.le_of_ble_eq_true rfl⟩, rvz_X8_label⟩, List.forall_mem_cons.mpr ⟨Or.inl ⟨77, 2, yX8_setTile, cX8_setTile, 3, (some .int), rm_X8_setTile, rfl, rfl, o_X8_setTile, ca_X8_setTile, mkL_77, ⟨rfl, rfl, Nat.le_of_ble_eq_true rfl, Nat.le_of_ble_eq_true rfl⟩, rvz_X8_setTile⟩, fun q h => absurd h List.not_mem_nil⟩⟩
def js_L_edits_71z (I71 : Int → Int → Int → Int → Int → Int → Int → Int → Int → Mem → Prop) (I118 : Int → Int → Int → Int → Int → Int → Int → Int → Int → Int → Int → Mem → Prop) : KT := fun pc ls st M => bif Nat.beq pc 71 then jg_L_edits_71 I71 ls st M else (bif Nat.beq pc 118 then jg_L_edits_118 I118 ls st M else (False))
set_option maxRecDepth 100000 in
set_option maxHeartbeats 4000000 in
theorem sg_L_edits_71z {p : Program} {l : Launch} {e : Env} {s : State} {m : MethodId} {args : Array Value} {below : List Frame} {meth : Method} {c : Code} {D : va_G} {cy : Nat → ClassId} {ad : Nat → Nat} {A : Nat → Prop} {cells slots : Nat} {ex : List (Nat × Value)} {H0 : Heap} {Q : State → Prop} {post : Int → Mem → Prop} (o_X8_label : OKZ_X8_label l D cy ad 64) (o_X8_setTile : OKZ_X8_setTile l D cy ad 64) (I71 : Int → Int → Int → Int → Int → Int → Int → Int → Int → Mem → Prop) (I118 : Int → Int → Int → Int → Int → Int → Int → Int → Int → Int → Int → Mem → Prop)
    (hex : exB (ex.map Prod.fst) tb_L_edits_71z = true) (C : jC p l e rm_L_edits s m args below meth c cL_edits 15 RL D cy ad kdZ (lnZ 64) 47 A cells slots H0 Q 1 post)
    (hJ71 : ∀ (w7_ : Option AV) (w8_ : Option AV) (w13_ : Option AV) (w14_ : Option AV) (g : Int) (k : Int) (j : Int) (r : Int) (t : Int) (d : Int) (o : Int) (y : Int) (i : Int) (M : Mem), I71 g k j r t d o y i M → jSt p l e rm_L_edits s m args below meth c 15 D cy ad kdZ (lnZ 64) 47 A cells slots ex H0 Q 71 [some (.inr 0), some (.inl g), some (.inl k), some (.inl j), some (.inl r), some (.inl t), some (.inl d), w7_, w8_, some (.inl o), some (.inl y), some (.inr 46), some (.inl i), w13_, w14_] [] M)
    (hJ118 : ∀ (w7_ : Option AV) (w8_ : Option AV) (g : Int) (k : Int) (j : Int) (r : Int) (t : Int) (d : Int) (o : Int) (y : Int) (q : Int) (z : Int) (i : Int) (M : Mem), I118 g k j r t d o y q z i M → jSt p l e rm_L_edits s m args below meth c 15 D cy ad kdZ (lnZ 64) 47 A cells slots ex H0 Q 118 [some (.inr 0), some (.inl g), some (.inl k), some (.inl j), some (.inl r), some (.inl t), some (.inl d), w7_, w8_, some (.inl o), some (.inl y), some (.inr 46), some (.inl q), some (.inl z), some (.inl i)] [] M)
    (w7_ : Option AV) (w8_ : Option AV) (w13_ : Option AV) (w14_ : Option AV) (g : Int) (k : Int) (j : Int) (r : Int) (t : Int) (d : Int) (o : Int) (y : Int) (i : Int) (M : Mem) (h : (r ≤ i → (p_X8_setTile 0 t d M ∧ ∀ (x2 : Int) (M1 : Mem), inR x2 → okM M1 → cz_X8_setTile 0 t d M x2 M1 → (I118 g k j r t d o y x2 0 0 M1))) ∧ (¬ r ≤ i → (((64 : Int) ≤ i → (p_X8_setTile 0 t d M ∧ ∀ (x4 : Int) (M3 : Mem), inR x4 → okM M3 → cz_X8_setTile 0 t d M x4 M3 → (I118 g k j r t d o y x4 0 0 M3))) ∧ (¬ (64 : Int) ≤ i → (p_X8_label 0 i M ∧ ∀ (x6 : Int) (M5 : Mem), inR x6 → okM M5 → cz_X8_label 0 i M x6 M5 → (kdZ 46 = 21 ∧ (0 ≤ i ∧ i < 64) ∧ (inR (i + 1) ∧ (I71 g k j r t d o y (i + 1) (up M5 46 (i).toNat x6))))))))) :
    jSt p l e rm_L_edits s m args below meth c 15 D cy ad kdZ (lnZ 64) 47 A cells slots ex H0 Q 71 [some (.inr 0), some (.inl g), some (.inl k), some (.inl j), some (.inl r), some (.inl t), some (.inl d), w7_, w8_, some (.inl o), some (.inl y), some (.inr 46), some (.inl i), w13_, w14_] [] M := by
  refine jC_snd (cst := cstL) (cuts := [0, 34, 39, 64, 66, 71, 118, 309, 336, 482, 507, 540, 549, 554]) (J := js_L_edits_71z I71 I118) C cstL_ok ⟨tb_L_edits_71z, ct_L_edits_71z, 25, tbo_L_edits_71z, by decide, by decide, exT_of hex, sct_L_edits_71z o_X8_label o_X8_setTile, h⟩ ?_
  intro pc ls st M hJ
  unfold js_L_edits_71z at hJ
  rcases bsel hJ with ⟨hpc, hI⟩ | hI
  all_goals clear hJ
  · obtain rfl := Nat.eq_of_beq_eq_true hpc
    unfold jg_L_edits_71 at hI
    split at hI
    rotate_left
    · exact hI.elim
    exact hJ71 _ _ _ _ _ _ _ _ _ _ _ _ _ _ hI
  have hJ := hI
  clear hI
  rcases bsel hJ with ⟨hpc, hI⟩ | hI
  all_goals clear hJ
  · obtain rfl := Nat.eq_of_beq_eq_true hpc
    unfold jg_L_edits_118 at hI
    split at hI
    rotate_left
    · exact hI.elim
    exact hJ118 _ _ _ _ _ _ _ _ _ _ _ _ _ _ hI
  have hJ := hI
  clear hI
  exact hJ.elim
def tb_L_edits_118z : TB := [(118, .iload 14, 2, []), (120, .iload 4, 2, []), (122, .if_icmp .ge 47, 3, [169]), (125, .iload 14, 2, []), (127, .bipush 64, 2, []), (129, .if_icmp .ge 40, 3, [169]), (132, .iload 13, 2, []), (134, .iload 14, 2, []), (136, .iload 5, 2, []), (138, .if_icmp .eq 21, 3, [159]), (141, .aload_n 0, 1, []), (142, .iload 14, 2, []), (144, .invokevirtual 22, 3, []), (147, .aload 11, 2, []), (149, .iload 14, 2, []), (151, .iaload, 1, []), (152, .if_icmp .eq 7, 3, [159]), (155, .iconst 1, 1, []), (156, .goto 4, 3, [160]), (159, .iconst 0, 1, []), (160, .iadd, 1, []), (161, .istore 13, 2, []), (163, .iinc 14 1, 3, []), (166, .goto (-48), 3, [118]), (169, .aload_n 0, 1, []), (170, .bipush 6, 2, []), (172, .invokevirtual 9, 3, []), (175, .iload 10, 2, []), (177, .if_icmp .ne 38, 3, [215]), (180, .aload_n 0, 1, []), (181, .iload 5, 2, []), (183, .invokevirtual 25, 3, []), (186, .iload 6, 2, []), (188, .if_icmp .ne 27, 3, [215]), (191, .iload 4, 2, []), (193, .bipush 64, 2, []), (195, .if_icmp .gt 13, 3, [208]), (198, .iload 12, 2, []), (200, .iload 13, 2, []), (202, .if_icmp .eq 15, 3, [217]), (205, .goto 10, 3, [215]), (208, .iload 12, 2, []), (210, .iload 13, 2, []), (212, .if_icmp .ge 5, 3, [217]), (215, .iconst (-1), 1, []), (216, .ireturn, 1, []), (217, .goto 265, 3, [482])]
theorem tbo_L_edits_118z : tbOK cL_edits tb_L_edits_118z = true := by decide +kernel
def ct_L_edits_118z : List (Nat × CS) := [(144, (2, 1, P_X8_label, CZ_X8_label)), (172, (2, 1, P_X8_value, CZ_X8_value)), (183, (2, 1, P_X8_kind, CZ_X8_kind))]
theorem sct_L_edits_118z {l : Launch} {D : va_G} {cy : Nat → ClassId} {ad : Nat → Nat} (o_X8_kind : OKZ_X8_kind l D cy ad 64) (o_X8_label : OKZ_X8_label l D cy ad 64) (o_X8_value : OKZ_X8_value l D cy ad 64) : ∀ q ∈ ct_L_edits_118z, Site l D cy ad kdZ (lnZ 64) 47 RL tb_L_edits_118z rm_L_edits q.1 q.2 := List.forall_mem_cons.mpr ⟨Or.inl ⟨22, 1, yX8_label, cX8_label, 2, (some .int), rm_X8_label, rfl, rfl, o_X8_label, ca_X8_label, mkL_22, ⟨rfl, rfl, Nat.le_of_ble_eq_true rfl, Nat.le_of_ble_eq_true rfl⟩, rvz_X8_label⟩, List.forall_mem_cons.mpr ⟨Or.inl ⟨9, 1, yX8_value, cX8_value, 2, (some .int), rm_X8_value, rfl, rfl, o_X8_value, ca_X8_value, mkL_9, ⟨rfl, rfl, Nat.le_of_ble_eq_true rfl, Nat.le_of_ble_eq_true rfl⟩, rvz_X8_value⟩, List.forall_mem_cons.mpr ⟨Or.inl ⟨25, 1, yX8_kind, cX8_kind, 2, (some .int), rm_X8_kind, rfl, rfl, o_X8_kind, ca_X8_kind, mkL_25, ⟨rfl, rfl, Nat.le_of_ble_eq_true rfl, Nat.le_of_ble_eq_true rfl⟩, rvz_X8_kind⟩, fun q h => absurd h List.not_mem_nil⟩⟩⟩
def js_L_edits_118z (I118 : Int → Int → Int → Int → Int → Int → Int → Int → Int → Int → Int → Mem → Prop) (I482 : Int → Int → Int → Int → Int → Int → Mem → Prop) : KT := fun pc ls st M => bif Nat.beq pc 118 then jg_L_edits_118 I118 ls st M else (bif Nat.beq pc 482 then jg_L_edits_482 I482 ls st M else (False))
set_option maxRecDepth 100000 in
set_option maxHeartbeats 4000000 in
theorem sg_L_edits_118z {p : Program} {l : Launch} {e : Env} {s : State} {m : MethodId} {args : Array Value} {below : List Frame} {meth : Method} {c : Code} {D : va_G} {cy : Nat → ClassId} {ad : Nat → Nat} {A : Nat → Prop} {cells slots : Nat} {ex : List (Nat × Value)} {H0 : Heap} {Q : State → Prop} {post : Int → Mem → Prop} (o_X8_kind : OKZ_X8_kind l D cy ad 64) (o_X8_label : OKZ_X8_label l D cy ad 64) (o_X8_value : OKZ_X8_value l D cy ad 64) (I118 : Int → Int → Int → Int → Int → Int → Int → Int → Int → Int → Int → Mem → Prop) (I482 : Int → Int → Int → Int → Int → Int → Mem → Prop)
    (hex : exB (ex.map Prod.fst) tb_L_edits_118z = true) (C : jC p l e rm_L_edits s m args below meth c cL_edits 15 RL D cy ad kdZ (lnZ 64) 47 A cells slots H0 Q 1 post)
    (hJ118 : ∀ (w7_ : Option AV) (w8_ : Option AV) (g : Int) (k : Int) (j : Int) (r : Int) (t : Int) (d : Int) (o : Int) (y : Int) (q : Int) (z : Int) (i : Int) (M : Mem), I118 g k j r t d o y q z i M → jSt p l e rm_L_edits s m args below meth c 15 D cy ad kdZ (lnZ 64) 47 A cells slots ex H0 Q 118 [some (.inr 0), some (.inl g), some (.inl k), some (.inl j), some (.inl r), some (.inl t), some (.inl d), w7_, w8_, some (.inl o), some (.inl y), some (.inr 46), some (.inl q), some (.inl z), some (.inl i)] [] M)
    (hJ482 : ∀ (w7_ : Option AV) (w8_ : Option AV) (w9_ : Option AV) (w10_ : Option AV) (w11_ : Option AV) (w12_ : Option AV) (w13_ : Option AV) (w14_ : Option AV) (g : Int) (k : Int) (j : Int) (r : Int) (t : Int) (d : Int) (M : Mem), I482 g k j r t d M → jSt p l e rm_L_edits s m args below meth c 15 D cy ad kdZ (lnZ 64) 47 A cells slots ex H0 Q 482 [some (.inr 0), some (.inl g), some (.inl k), some (.inl j), some (.inl r), some (.inl t), some (.inl d), w7_, w8_, w9_, w10_, w11_, w12_, w13_, w14_] [] M)
    (w7_ : Option AV) (w8_ : Option AV) (g : Int) (k : Int) (j : Int) (r : Int) (t : Int) (d : Int) (o : Int) (y : Int) (q : Int) (z : Int) (i : Int) (M : Mem) (h : (r ≤ i → (p_X8_value 0 6 M ∧ ∀ (x2 : Int) (M1 : Mem), inR x2 → okM M1 → cz_X8_value 0 6 M x2 M1 → ((¬ x2 = y → ((True) ∧ post (-1) M1)) ∧ (¬ (¬ x2 = y) → (p_X8_kind 0 t M1 ∧ ∀ (x4 : Int) (M3 : Mem), inR x4 → okM M3 → cz_X8_kind 0 t M1 x4 M3 → ((¬ x4 = d → ((True) ∧ post (-1) M3)) ∧ (¬ (¬ x4 = d) → (((64 : Int) < r → ((z ≤ q → (I482 g k j r t d M3)) ∧ (¬ z ≤ q → ((True) ∧ post (-1) M3)))) ∧ (¬ (64 : Int) < r → ((q = z → (I482 g k j r t d M3)) ∧ (¬ q = z → ((True) ∧ post (-1) M3)))))))))))) ∧ (¬ r ≤ i → (((64 : Int) ≤ i → (p_X8_value 0 6 M ∧ ∀ (x6 : Int) (M5 : Mem), inR x6 → okM M5 → cz_X8_value 0 6 M x6 M5 → ((¬ x6 = y → ((True) ∧ post (-1) M5)) ∧ (¬ (¬ x6 = y) → (p_X8_kind 0 t M5 ∧ ∀ (x8 : Int) (M7 : Mem), inR x8 → okM M7 → cz_X8_kind 0 t M5 x8 M7 → ((¬ x8 = d → ((True) ∧ post (-1) M7)) ∧ (¬ (¬ x8 = d) → (((64 : Int) < r → ((z ≤ q → (I482 g k j r t d M7)) ∧ (¬ z ≤ q → ((True) ∧ post (-1) M7)))) ∧ (¬ (64 : Int) < r → ((q = z → (I482 g k j r t d M7)) ∧ (¬ q = z → ((True) ∧ post (-1) M7)))))))))))) ∧ (¬ (64 : Int) ≤ i → ((i = t → (inR (z + 0) ∧ (inR (i + 1) ∧ (I118 g k j r t d o y q (z + 0) (i + 1) M)))) ∧ (¬ i = t → (p_X8_label 0 i M ∧ ∀ (x10 : Int) (M9 : Mem), inR x10 → okM M9 → cz_X8_label 0 i M x10 M9 → (kdZ 46 = 21 ∧ (0 ≤ i ∧ i < 64) ∧ ((x10 = (M9 46 (i).toNat) → (inR (z + 0) ∧ (inR (i + 1) ∧ (I118 g k j r t d o y q (z + 0) (i + 1) M9)))) ∧ (¬ x10 = (M9 46 (i).toNat) → (inR (z + 1) ∧ (inR (i + 1) ∧ (I118 g k j r t d o y q (z + 1) (i + 1) M9))))))))))))) :
    jSt p l e rm_L_edits s m args below meth c 15 D cy ad kdZ (lnZ 64) 47 A cells slots ex H0 Q 118 [some (.inr 0), some (.inl g), some (.inl k), some (.inl j), some (.inl r), some (.inl t), some (.inl d), w7_, w8_, some (.inl o), some (.inl y), some (.inr 46), some (.inl q), some (.inl z), some (.inl i)] [] M := by
  refine jC_snd (cst := cstL) (cuts := [0, 34, 39, 64, 66, 71, 118, 309, 336, 482, 507, 540, 549, 554]) (J := js_L_edits_118z I118 I482) C cstL_ok ⟨tb_L_edits_118z, ct_L_edits_118z, 49, tbo_L_edits_118z, by decide, by decide, exT_of hex, sct_L_edits_118z o_X8_kind o_X8_label o_X8_value, h⟩ ?_
  intro pc ls st M hJ
  unfold js_L_edits_118z at hJ
  rcases bsel hJ with ⟨hpc, hI⟩ | hI
  all_goals clear hJ
  · obtain rfl := Nat.eq_of_beq_eq_true hpc
    unfold jg_L_edits_118 at hI
    split at hI
    rotate_left
    · exact hI.elim
    exact hJ118 _ _ _ _ _ _ _ _ _ _ _ _ _ _ hI
  have hJ := hI
  clear hI
  rcases bsel hJ with ⟨hpc, hI⟩ | hI
  all_goals clear hJ
  · obtain rfl := Nat.eq_of_beq_eq_true hpc
    unfold jg_L_edits_482 at hI
    split at hI
    rotate_left
    · exact hI.elim
    exact hJ482 _ _ _ _ _ _ _ _ _ _ _ _ _ _ _ hI
  have hJ := hI
  clear hI
  exact hJ.elim
def jg_L_edits_336 (I : Int → Int → Int → Int → Int → Int → Int → Int → Int → Int → Int → Mem → Prop) : List (Option AV) → List AV → Mem → Prop := fun ls st M => match ls, st, M with
  | [some (.inr 0), some (.inl g), some (.inl k), some (.inl j), some (.inl r), some (.inl t), some (.inl d), _, _, some (.inl o), some (.inl y), some (.inl q), some (.inl z), some (.inl i), _], [], M => I g k j r t d o y q z i M
  | _, _, _ => False
def tb_L_edits_309x : TB := [(309, .iload 13, 2, []), (311, .iload 4, 2, []), (313, .if_icmp .ge 81, 3, [394]), (316, .iload 13, 2, []), (318, .ifCond .le 18, 3, [336]), (321, .iload 13, 2, []), (323, .iload 11, 2, []), (325, .irem, 1, []), (326, .ifCond .ne 10, 3, [336]), (329, .aload_n 0, 1, []), (330, .bipush 47, 2, []), (332, .invokevirtual 63, 3, []), (335, .pop, 1, []), (394, .aload_n 0, 1, []), (395, .invokevirtual 83, 3, []), (398, .iload 10, 2, []), (400, .if_icmp .eq 5, 3, [405]), (403, .iconst (-1), 1, []), (404, .ireturn, 1, []), (405, .aload_n 0, 1, []), (406, .bipush 47, 2, []), (408, .invokevirtual 63, 3, []), (411, .pop, 1, []), (412, .aload_n 0, 1, []), (413, .invokevirtual 83, 3, []), (416, .bipush (-100), 2, []), (418, .iload 12, 2, []), (420, .isub, 1, []), (421, .if_icmp .ne 18, 3, [439]), (424, .iload 12, 2, []), (426, .iload 4, 2, []), (428, .aload_n 0, 1, []), (429, .iconst 1, 1, []), (430, .invokevirtual 9, 3, []), (433, .iadd, 1, []), (434, .iconst 1, 1, []), (435, .isub, 1, []), (436, .if_icmp .eq 5, 3, [441]), (439, .iconst (-1), 1, []), (440, .ireturn, 1, []), (441, .aload_n 0, 1, []), (442, .invokevirtual 59, 3, []), (445, .pop, 1, []), (446, .aload_n 0, 1, []), (447, .bipush 48, 2, []), (449, .invokevirtual 63, 3, []), (452, .pop, 1, []), (453, .aload_n 0, 1, []), (454, .invokevirtual 83, 3, []), (457, .bipush (-101), 2, []), (459, .if_icmp .eq 5, 3, [464]), (462, .iconst (-1), 1, []), (463, .ireturn, 1, []), (464, .aload_n 0, 1, []), (465, .bipush 54, 2, []), (467, .invokevirtual 63, 3, []), (470, .pop, 1, []), (471, .aload_n 0, 1, []), (472, .invokevirtual 83, 3, []), (475, .bipush (-101), 2, []), (477, .if_icmp .eq 5, 3, [482]), (480, .iconst (-1), 1, []), (481, .ireturn, 1, [])]
theorem tbo_L_edits_309x : tbOK cL_edits tb_L_edits_309x = true := by decide +kernel
def ct_L_edits_309x : List (Nat × CS) := [(332, (2, 1, P_X8_type, C_X8_type)), (395, (1, 1, P_X8_readTiles, C_X8_readTiles)), (408, (2, 1, P_X8_type, C_X8_type)), (413, (1, 1, P_X8_readTiles, C_X8_readTiles)), (430, (2, 1, P_X8_value, C_X8_value)), (442, (1, 1, P_X8_clearText, C_X8_clearText)), (449, (2, 1, P_X8_type, C_X8_type)), (454, (1, 1, P_X8_readTiles, C_X8_readTiles)), (467, (2, 1, P_X8_type, C_X8_type)), (472, (1, 1, P_X8_readTiles, C_X8_readTiles))]
theorem sct_L_edits_309x {l : Launch} {D : va_G} {cy : Nat → ClassId} {ad : Nat → Nat} (o_X8_clearText : OK_X8_clearText l D cy ad) (o_X8_readTiles : OK_X8_readTiles l D cy ad) (o_X8_type : OK_X8_type l D cy ad) (o_X8_value : OK_X8_value l D cy ad) : ∀ q ∈ ct_L_edits_309x, Site l D cy ad kdX lnX 46 RL tb_L_edits_309x rm_L_edits q.1 q.2 := List.forall_mem_cons.mpr ⟨Or.inl ⟨63, 1, yX8_type, cX8_type, 2, (some .int), rm_X8_type, rfl, rfl, o_X8_type, ca_X8_type, mkL_63, ⟨rfl, rfl, Nat.le_of_ble_eq_true rfl, Nat.le_of_ble_eq_true rfl⟩, rv_X8_type⟩, List.forall_mem_cons.mpr ⟨Or.inl ⟨83, 0, yX8_readTiles, cX8_readTiles, 3, (some .int), rm_X8_readTiles, rfl, rfl, o_X8_readTiles, ca_X8_readTiles, mkL_83, ⟨rfl, rfl, Nat.le_of_ble_eq_true rfl, Nat.le_of_ble_eq_true rfl⟩, rv_X8_readTiles⟩, List.forall_mem_cons.mpr ⟨Or.inl ⟨63, 1, yX8_type, cX8_type, 2, (some .int), rm_X8_type, rfl, rfl, o_X8_type, ca_X8_type, mkL_63, ⟨rfl, rfl, Nat.le_of_ble_eq_true rfl, Nat.le_of_ble_eq_true rfl⟩, rv_X8_type⟩, List.forall_mem_cons.mpr ⟨Or.inl ⟨83, 0, yX8_readTiles, cX8_readTiles, 3, (some .int), rm_X8_readTiles, rfl, rfl, o_X8_readTiles, ca_X8_readTiles, mkL_83, ⟨rfl, rfl, Nat.le_of_ble_eq_true rfl, Nat.le_of_ble_eq_true rfl⟩, rv_X8_readTiles⟩, List.forall_mem_cons.mpr ⟨Or.inl ⟨9, 1, yX8_value, cX8_value, 2, (some .int), rm_X8_value, rfl, rfl, o_X8_value, ca_X8_value, mkL_9, ⟨rfl, rfl, Nat.le_of_ble_eq_true rfl, Nat.le_of_ble_eq_true rfl⟩, rv_X8_value⟩, List.forall_mem_cons.mpr ⟨Or.inl ⟨59, 0, yX8_clearText, cX8_clearText, 1, (some .int), rm_X8_clearText, rfl, rfl, o_X8_clearText, ca_X8_clearText, mkL_59, ⟨rfl, rfl, Nat.le_of_ble_eq_true rfl, Nat.le_of_ble_eq_true rfl⟩, rv_X8_clearText⟩, List.forall_mem_cons.mpr ⟨Or.inl ⟨63, 1, yX8_type, cX8_type, 2, (some .int), rm_X8_type, rfl, rfl, o_X8_type, ca_X8_type, mkL_63, ⟨rfl, rfl, Nat.le_of_ble_eq_true rfl, Nat.le_of_ble_eq_true rfl⟩, rv_X8_type⟩, List.forall_mem_cons.mpr ⟨Or.inl ⟨83, 0, yX8_readTiles, cX8_readTiles, 3, (some .int), rm_X8_readTiles, rfl, rfl, o_X8_readTiles, ca_X8_readTiles, mkL_83, ⟨rfl, rfl, Nat.le_of_ble_eq_true rfl, Nat.le_of_ble_eq_true rfl⟩, rv_X8_readTiles⟩, List.forall_mem_cons.mpr ⟨Or.inl ⟨63, 1, yX8_type, cX8_type, 2, (some .int), rm_X8_type, rfl, rfl, o_X8_type, ca_X8_type, mkL_63, ⟨rfl, rfl, Nat.le_of_ble_eq_true rfl, Nat.le_of_ble_eq_true rfl⟩, rv_X8_type⟩, List.forall_mem_cons.mpr ⟨Or.inl ⟨83, 0, yX8_readTiles, cX8_readTiles, 3, (some .int), rm_X8_readTiles, rfl, rfl, o_X8_readTiles, ca_X8_readTiles, mkL_83, ⟨rfl, rfl, Nat.le_of_ble_eq_true rfl, Nat.le_of_ble_eq_true rfl⟩, rv_X8_readTiles⟩, fun q h => absurd h List.not_mem_nil⟩⟩⟩⟩⟩⟩⟩⟩⟩⟩
def js_L_edits_309x (I336 : Int → Int → Int → Int → Int → Int → Int → Int → Int → Int → Int → Mem → Prop) (I482 : Int → Int → Int → Int → Int → Int → Mem → Prop) : KT := fun pc ls st M => bif Nat.beq pc 336 then jg_L_edits_336 I336 ls st M else (bif Nat.beq pc 482 then jg_L_edits_482 I482 ls st M else (False))
set_option maxRecDepth 100000 in
set_option maxHeartbeats 4000000 in
theorem sg_L_edits_309x {p : Program} {l : Launch} {e : Env} {s : State} {m : MethodId} {args : Array Value} {below : List Frame} {meth : Method} {c : Code} {D : va_G} {cy : Nat → ClassId} {ad : Nat → Nat} {A : Nat → Prop} {cells slots : Nat} {ex : List (Nat × Value)} {H0 : Heap} {Q : State → Prop} {post : Int → Mem → Prop} (o_X8_clearText : OK_X8_clearText l D cy ad) (o_X8_readTiles : OK_X8_readTiles l D cy ad) (o_X8_type : OK_X8_type l D cy ad) (o_X8_value : OK_X8_value l D cy ad) (I336 : Int → Int → Int → Int → Int → Int → Int → Int → Int → Int → Int → Mem → Prop) (I482 : Int → Int → Int → Int → Int → Int → Mem → Prop)
    (hex : exB (ex.map Prod.fst) tb_L_edits_309x = true) (C : jC p l e rm_L_edits s m args below meth c cL_edits 15 RL D cy ad kdX lnX 46 A cells slots H0 Q 1 post)
    (hJ336 : ∀ (w7_ : Option AV) (w8_ : Option AV) (w14_ : Option AV) (g : Int) (k : Int) (j : Int) (r : Int) (t : Int) (d : Int) (o : Int) (y : Int) (q : Int) (z : Int) (i : Int) (M : Mem), I336 g k j r t d o y q z i M → jSt p l e rm_L_edits s m args below meth c 15 D cy ad kdX lnX 46 A cells slots ex H0 Q 336 [some (.inr 0), some (.inl g), some (.inl k), some (.inl j), some (.inl r), some (.inl t), some (.inl d), w7_, w8_, some (.inl o), some (.inl y), some (.inl q), some (.inl z), some (.inl i), w14_] [] M)
    (hJ482 : ∀ (w7_ : Option AV) (w8_ : Option AV) (w9_ : Option AV) (w10_ : Option AV) (w11_ : Option AV) (w12_ : Option AV) (w13_ : Option AV) (w14_ : Option AV) (g : Int) (k : Int) (j : Int) (r : Int) (t : Int) (d : Int) (M : Mem), I482 g k j r t d M → jSt p l e rm_L_edits s m args below meth c 15 D cy ad kdX lnX 46 A cells slots ex H0 Q 482 [some (.inr 0), some (.inl g), some (.inl k), some (.inl j), some (.inl r), some (.inl t), some (.inl d), w7_, w8_, w9_, w10_, w11_, w12_, w13_, w14_] [] M)
    (w7_ : Option AV) (w8_ : Option AV) (w14_ : Option AV) (g : Int) (k : Int) (j : Int) (r : Int) (t : Int) (d : Int) (o : Int) (y : Int) (q : Int) (z : Int) (i : Int) (M : Mem) (h : (r ≤ i → (p_X8_readTiles 0 M ∧ ∀ (x2 : Int) (M1 : Mem), inR x2 → okM M1 → c_X8_readTiles 0 M x2 M1 → ((x2 = y → (p_X8_type 0 47 M1 ∧ ∀ (x4 : Int) (M3 : Mem), inR x4 → okM M3 → c_X8_type 0 47 M1 x4 M3 → (p_X8_readTiles 0 M3 ∧ ∀ (x6 : Int) (M5 : Mem), inR x6 → okM M5 → c_X8_readTiles 0 M3 x6 M5 → (inR ((-100) - z) ∧ ((¬ x6 = ((-100) - z) → ((True) ∧ post (-1) M5)) ∧ (¬ (¬ x6 = ((-100) - z)) → (p_X8_value 0 1 M5 ∧ ∀ (x8 : Int) (M7 : Mem), inR x8 → okM M7 → c_X8_value 0 1 M5 x8 M7 → (inR (r + x8) ∧ (inR ((r + x8) - 1) ∧ ((z = ((r + x8) - 1) → (p_X8_clearText 0 M7 ∧ ∀ (x10 : Int) (M9 : Mem), inR x10 → okM M9 → c_X8_clearText 0 M7 x10 M9 → (p_X8_type 0 48 M9 ∧ ∀ (x12 : Int) (M11 : Mem), inR x12 → okM M11 → c_X8_type 0 48 M9 x12 M11 → (p_X8_readTiles 0 M11 ∧ ∀ (x14 : Int) (M13 : Mem), inR x14 → okM M13 → c_X8_readTiles 0 M11 x14 M13 → ((x14 = (-101 : Int) → (p_X8_type 0 54 M13 ∧ ∀ (x16 : Int) (M15 : Mem), inR x16 → okM M15 → c_X8_type 0 54 M13 x16 M15 → (p_X8_readTiles 0 M15 ∧ ∀ (x18 : Int) (M17 : Mem), inR x18 → okM M17 → c_X8_readTiles 0 M15 x18 M17 → ((x18 = (-101 : Int) → (I482 g k j r t d M17)) ∧ (¬ x18 = (-101 : Int) → ((True) ∧ post (-1) M17)))))) ∧ (¬ x14 = (-101 : Int) → ((True) ∧ post (-1) M13))))))) ∧ (¬ z = ((r + x8) - 1) → ((True) ∧ post (-1) M7)))))))))))) ∧ (¬ x2 = y → ((True) ∧ post (-1) M1))))) ∧ (¬ r ≤ i → ((i ≤ (0 : Int) → (I336 g k j r t d o y q z i M)) ∧ (¬ i ≤ (0 : Int) → (0 < q ∧ ((¬ (Int.tmod i q) = (0 : Int) → (I336 g k j r t d o y q z i M)) ∧ (¬ (¬ (Int.tmod i q) = (0 : Int)) → (p_X8_type 0 47 M ∧ ∀ (x20 : Int) (M19 : Mem), inR x20 → okM M19 → c_X8_type 0 47 M x20 M19 → (I336 g k j r t d o y q z i M19))))))))) :
    jSt p l e rm_L_edits s m args below meth c 15 D cy ad kdX lnX 46 A cells slots ex H0 Q 309 [some (.inr 0), some (.inl g), some (.inl k), some (.inl j), some (.inl r), some (.inl t), some (.inl d), w7_, w8_, some (.inl o), some (.inl y), some (.inl q), some (.inl z), some (.inl i), w14_] [] M := by
  refine jC_snd (cst := cstL) (cuts := [0, 34, 39, 64, 66, 71, 118, 309, 336, 482, 507, 540, 549, 554]) (J := js_L_edits_309x I336 I482) C cstL_ok ⟨tb_L_edits_309x, ct_L_edits_309x, 65, tbo_L_edits_309x, by decide, by decide, exT_of hex, sct_L_edits_309x o_X8_clearText o_X8_readTiles o_X8_type o_X8_value, h⟩ ?_
  intro pc ls st M hJ
  unfold js_L_edits_309x at hJ
  rcases bsel hJ with ⟨hpc, hI⟩ | hI
  all_goals clear hJ
  · obtain rfl := Nat.eq_of_beq_eq_true hpc
    unfold jg_L_edits_336 at hI
    split at hI
    rotate_left
    · exact hI.elim
    exact hJ336 _ _ _ _ _ _ _ _ _ _ _ _ _ _ _ hI
  have hJ := hI
  clear hI
  rcases bsel hJ with ⟨hpc, hI⟩ | hI
  all_goals clear hJ
  · obtain rfl := Nat.eq_of_beq_eq_true hpc
    unfold jg_L_edits_482 at hI
    split at hI
    rotate_left
    · exact hI.elim
    exact hJ482 _ _ _ _ _ _ _ _ _ _ _ _ _ _ _ hI
  have hJ := hI
  clear hI
  exact hJ.elim
def tb_L_edits_336x : TB := [(336, .iload_n 2, 1, []), (337, .iload 13, 2, []), (339, .bipush 13, 2, []), (341, .irem, 1, []), (342, .iload 13, 2, []), (344, .bipush 29, 2, []), (346, .idiv, 1, []), (347, .iadd, 1, []), (348, .ishr, 1, []), (349, .iconst 3, 1, []), (350, .invokestatic 44, 3, []), (353, .istore 14, 2, []), (355, .iload 10, 2, []), (357, .aload_n 0, 1, []), (358, .iload 13, 2, []), (360, .invokevirtual 25, 3, []), (363, .iload 14, 2, []), (365, .if_icmp .eq 7, 3, [372]), (368, .iconst 1, 1, []), (369, .goto 4, 3, [373]), (372, .iconst 0, 1, []), (373, .iadd, 1, []), (374, .istore 10, 2, []), (376, .aload_n 0, 1, []), (377, .bipush 48, 2, []), (379, .iload 14, 2, []), (381, .iadd, 1, []), (382, .i2c, 1, []), (383, .invokevirtual 63, 3, []), (386, .istore 12, 2, []), (388, .iinc 13 1, 3, []), (391, .goto (-82), 3, [309])]
theorem tbo_L_edits_336x : tbOK cL_edits tb_L_edits_336x = true := by decide +kernel
def ct_L_edits_336x : List (Nat × CS) := [(350, (2, 1, P_L_low, C_L_low)), (360, (2, 1, P_X8_kind, C_X8_kind)), (383, (2, 1, P_X8_type, C_X8_type))]
theorem sct_L_edits_336x {l : Launch} {D : va_G} {cy : Nat → ClassId} {ad : Nat → Nat} (o_L_low : OK_L_low l D cy ad) (o_X8_kind : OK_X8_kind l D cy ad) (o_X8_type : OK_X8_type l D cy ad) : ∀ q ∈ ct_L_edits_336x, Site l D cy ad kdX lnX 46 RL tb_L_edits_336x rm_L_edits q.1 q.2 := List.forall_mem_cons.mpr ⟨Or.inr (Or.inl ⟨44, 2, yL_low, cL_low, 2, (some .int), rm_L_low, rfl, rfl, o_L_low, ca_L_low, mkL_44, rfl, ⟨rfl, rfl, Nat.le_of_ble_eq_true rfl, Nat.le_of_ble_eq_true rfl⟩⟩), List.forall_mem_cons.mpr ⟨Or.inl ⟨25, 1, yX8_kind, cX8_kind, 2, (some .int), rm_X8_kind, rfl, rfl, o_X8_kind, ca_X8_kind, mkL_25, ⟨rfl, rfl, Nat.le_of_ble_eq_true rfl, Nat.le_of_ble_eq_true rfl⟩, rv_X8_kind⟩, List.forall_mem_cons.mpr ⟨Or.inl ⟨63, 1, yX8_type, cX8_type, 2, (some .int), rm_X8_type, rfl, rfl, o_X8_type, ca_X8_type, mkL_63, ⟨rfl, rfl, Nat.le_of_ble_eq_true rfl, Nat.le_of_ble_eq_true rfl⟩, rv_X8_type⟩, fun q h => absurd h List.not_mem_nil⟩⟩⟩
def js_L_edits_336x (I309 : Int → Int → Int → Int → Int → Int → Int → Int → Int → Int → Int → Mem → Prop) : KT := fun pc ls st M => bif Nat.beq pc 309 then jg_L_edits_309 I309 ls st M else (False)
set_option maxRecDepth 100000 in
set_option maxHeartbeats 4000000 in
theorem sg_L_edits_336x {p : Program} {l : Launch} {e : Env} {s : State} {m : MethodId} {args : Array Value} {below : List Frame} {meth : Method} {c : Code} {D : va_G} {cy : Nat → ClassId} {ad : Nat → Nat} {A : Nat → Prop} {cells slots : Nat} {ex : List (Nat × Value)} {H0 : Heap} {Q : State → Prop} {post : Int → Mem → Prop} (o_L_low : OK_L_low l D cy ad) (o_X8_kind : OK_X8_kind l D cy ad) (o_X8_type : OK_X8_type l D cy ad) (I309 : Int → Int → Int → Int → Int → Int → Int → Int → Int → Int → Int → Mem → Prop)
    (hex : exB (ex.map Prod.fst) tb_L_edits_336x = true) (C : jC p l e rm_L_edits s m args below meth c cL_edits 15 RL D cy ad kdX lnX 46 A cells slots H0 Q 1 post)
    (hJ309 : ∀ (w7_ : Option AV) (w8_ : Option AV) (w14_ : Option AV) (g : Int) (k : Int) (j : Int) (r : Int) (t : Int) (d : Int) (o : Int) (y : Int) (q : Int) (z : Int) (i : Int) (M : Mem), I309 g k j r t d o y q z i M → jSt p l e rm_L_edits s m args below meth c 15 D cy ad kdX lnX 46 A cells slots ex H0 Q 309 [some (.inr 0), some (.inl g), some (.inl k), some (.inl j), some (.inl r), some (.inl t), some (.inl d), w7_, w8_, some (.inl o), some (.inl y), some (.inl q), some (.inl z), some (.inl i), w14_] [] M)
    (w7_ : Option AV) (w8_ : Option AV) (w14_ : Option AV) (g : Int) (k : Int) (j : Int) (r : Int) (t : Int) (d : Int) (o : Int) (y : Int) (q : Int) (z : Int) (i : Int) (M : Mem) (h : 0 < (13 : Int) ∧ ((0 ≤ i ∧ 0 < (29 : Int)) ∧ (inR ((Int.tmod i 13) + (i / 29)) ∧ (p_L_low (bShr k ((Int.tmod i 13) + (i / 29))) 3 M ∧ ∀ (x2 : Int) (M1 : Mem), inR x2 → okM M1 → c_L_low (bShr k ((Int.tmod i 13) + (i / 29))) 3 M x2 M1 → (p_X8_kind 0 i M1 ∧ ∀ (x4 : Int) (M3 : Mem), inR x4 → okM M3 → c_X8_kind 0 i M1 x4 M3 → ((x4 = x2 → (inR (y + 0) ∧ (inR (48 + x2) ∧ ((0 ≤ (48 + x2) ∧ (48 + x2) < 65536) ∧ (p_X8_type 0 (48 + x2) M3 ∧ ∀ (x6 : Int) (M5 : Mem), inR x6 → okM M5 → c_X8_type 0 (48 + x2) M3 x6 M5 → (inR (i + 1) ∧ (I309 g k j r t d o (y + 0) q x6 (i + 1) M5))))))) ∧ (¬ x4 = x2 → (inR (y + 1) ∧ (inR (48 + x2) ∧ ((0 ≤ (48 + x2) ∧ (48 + x2) < 65536) ∧ (p_X8_type 0 (48 + x2) M3 ∧ ∀ (x8 : Int) (M7 : Mem), inR x8 → okM M7 → c_X8_type 0 (48 + x2) M3 x8 M7 → (inR (i + 1) ∧ (I309 g k j r t d o (y + 1) q x8 (i + 1) M7))))))))))))) :
    jSt p l e rm_L_edits s m args below meth c 15 D cy ad kdX lnX 46 A cells slots ex H0 Q 336 [some (.inr 0), some (.inl g), some (.inl k), some (.inl j), some (.inl r), some (.inl t), some (.inl d), w7_, w8_, some (.inl o), some (.inl y), some (.inl q), some (.inl z), some (.inl i), w14_] [] M := by
  refine jC_snd (cst := cstL) (cuts := [0, 34, 39, 64, 66, 71, 118, 309, 336, 482, 507, 540, 549, 554]) (J := js_L_edits_336x I309) C cstL_ok ⟨tb_L_edits_336x, ct_L_edits_336x, 34, tbo_L_edits_336x, by decide, by decide, exT_of hex, sct_L_edits_336x o_L_low o_X8_kind o_X8_type, h⟩ ?_
  intro pc ls st M hJ
  unfold js_L_edits_336x at hJ
  rcases bsel hJ with ⟨hpc, hI⟩ | hI
  all_goals clear hJ
  · obtain rfl := Nat.eq_of_beq_eq_true hpc
    unfold jg_L_edits_309 at hI
    split at hI
    rotate_left
    · exact hI.elim
    exact hJ309 _ _ _ _ _ _ _ _ _ _ _ _ _ _ _ hI
  have hJ := hI
  clear hI
  exact hJ.elim
def jg_L_edits_507 (I : Int → Int → Int → Int → Int → Int → Mem → Prop) : List (Option AV) → List AV → Mem → Prop := fun ls st M => match ls, st, M with
  | [some (.inr 0), some (.inl g), some (.inl k), some (.inl j), some (.inl r), some (.inl t), some (.inl d), _, _, _, _, _, _, _, _], [], M => I g k j r t d M
  | _, _, _ => False
def tb_L_edits_482x : TB := [(482, .aload_n 0, 1, []), (483, .bipush 8, 2, []), (485, .invokevirtual 9, 3, []), (488, .iload_n 3, 1, []), (489, .bipush 12, 2, []), (491, .if_icmp .ge 9, 3, [500]), (494, .iload_n 3, 1, []), (495, .iconst 1, 1, []), (496, .iadd, 1, []), (497, .goto 5, 3, [502]), (500, .bipush 12, 2, []), (502, .if_icmp .eq 5, 3, [507]), (505, .iconst (-1), 1, []), (506, .ireturn, 1, [])]
theorem tbo_L_edits_482x : tbOK cL_edits tb_L_edits_482x = true := by decide +kernel
def ct_L_edits_482x : List (Nat × CS) := [(485, (2, 1, P_X8_value, C_X8_value))]
theorem sct_L_edits_482x {l : Launch} {D : va_G} {cy : Nat → ClassId} {ad : Nat → Nat} (o_X8_value : OK_X8_value l D cy ad) : ∀ q ∈ ct_L_edits_482x, Site l D cy ad kdX lnX 46 RL tb_L_edits_482x rm_L_edits q.1 q.2 := List.forall_mem_cons.mpr ⟨Or.inl ⟨9, 1, yX8_value, cX8_value, 2, (some .int), rm_X8_value, rfl, rfl, o_X8_value, ca_X8_value, mkL_9, ⟨rfl, rfl, Nat.le_of_ble_eq_true rfl, Nat.le_of_ble_eq_true rfl⟩, rv_X8_value⟩, fun q h => absurd h List.not_mem_nil⟩
def js_L_edits_482x (I507 : Int → Int → Int → Int → Int → Int → Mem → Prop) : KT := fun pc ls st M => bif Nat.beq pc 507 then jg_L_edits_507 I507 ls st M else (False)
set_option maxRecDepth 100000 in
set_option maxHeartbeats 4000000 in
theorem sg_L_edits_482x {p : Program} {l : Launch} {e : Env} {s : State} {m : MethodId} {args : Array Value} {below : List Frame} {meth : Method} {c : Code} {D : va_G} {cy : Nat → ClassId} {ad : Nat → Nat} {A : Nat → Prop} {cells slots : Nat} {ex : List (Nat × Value)} {H0 : Heap} {Q : State → Prop} {post : Int → Mem → Prop} (o_X8_value : OK_X8_value l D cy ad) (I507 : Int → Int → Int → Int → Int → Int → Mem → Prop)
    (hex : exB (ex.map Prod.fst) tb_L_edits_482x = true) (C : jC p l e rm_L_edits s m args below meth c cL_edits 15 RL D cy ad kdX lnX 46 A cells slots H0 Q 1 post)
    (hJ507 : ∀ (w7_ : Option AV) (w8_ : Option AV) (w9_ : Option AV) (w10_ : Option AV) (w11_ : Option AV) (w12_ : Option AV) (w13_ : Option AV) (w14_ : Option AV) (g : Int) (k : Int) (j : Int) (r : Int) (t : Int) (d : Int) (M : Mem), I507 g k j r t d M → jSt p l e rm_L_edits s m args below meth c 15 D cy ad kdX lnX 46 A cells slots ex H0 Q 507 [some (.inr 0), some (.inl g), some (.inl k), some (.inl j), some (.inl r), some (.inl t), some (.inl d), w7_, w8_, w9_, w10_, w11_, w12_, w13_, w14_] [] M)
    (w7_ : Option AV) (w8_ : Option AV) (w9_ : Option AV) (w10_ : Option AV) (w11_ : Option AV) (w12_ : Option AV) (w13_ : Option AV) (w14_ : Option AV) (g : Int) (k : Int) (j : Int) (r : Int) (t : Int) (d : Int) (M : Mem) (h : p_X8_value 0 8 M ∧ ∀ (x2 : Int) (M1 : Mem), inR x2 → okM M1 → c_X8_value 0 8 M x2 M1 → (((12 : Int) ≤ j → ((x2 = (12 : Int) → (I507 g k j r t d M1)) ∧ (¬ x2 = (12 : Int) → ((True) ∧ post (-1) M1)))) ∧ (¬ (12 : Int) ≤ j → (inR (j + 1) ∧ ((x2 = (j + 1) → (I507 g k j r t d M1)) ∧ (¬ x2 = (j + 1) → ((True) ∧ post (-1) M1))))))) :
    jSt p l e rm_L_edits s m args below meth c 15 D cy ad kdX lnX 46 A cells slots ex H0 Q 482 [some (.inr 0), some (.inl g), some (.inl k), some (.inl j), some (.inl r), some (.inl t), some (.inl d), w7_, w8_, w9_, w10_, w11_, w12_, w13_, w14_] [] M := by
  refine jC_snd (cst := cstL) (cuts := [0, 34, 39, 64, 66, 71, 118, 309, 336, 482, 507, 540, 549, 554]) (J := js_L_edits_482x I507) C cstL_ok ⟨tb_L_edits_482x, ct_L_edits_482x, 16, tbo_L_edits_482x, by decide, by decide, exT_of hex, sct_L_edits_482x o_X8_value, h⟩ ?_
  intro pc ls st M hJ
  unfold js_L_edits_482x at hJ
  rcases bsel hJ with ⟨hpc, hI⟩ | hI
  all_goals clear hJ
  · obtain rfl := Nat.eq_of_beq_eq_true hpc
    unfold jg_L_edits_507 at hI
    split at hI
    rotate_left
    · exact hI.elim
    exact hJ507 _ _ _ _ _ _ _ _ _ _ _ _ _ _ _ hI
  have hJ := hI
  clear hI
  exact hJ.elim
def tb_L_edits_482z : TB := [(482, .aload_n 0, 1, []), (483, .bipush 8, 2, []), (485, .invokevirtual 9, 3, []), (488, .iload_n 3, 1, []), (489, .bipush 12, 2, []), (491, .if_icmp .ge 9, 3, [500]), (494, .iload_n 3, 1, []), (495, .iconst 1, 1, []), (496, .iadd, 1, []), (497, .goto 5, 3, [502]), (500, .bipush 12, 2, []), (502, .if_icmp .eq 5, 3, [507]), (505, .iconst (-1), 1, []), (506, .ireturn, 1, [])]
theorem tbo_L_edits_482z : tbOK cL_edits tb_L_edits_482z = true := by decide +kernel
def ct_L_edits_482z : List (Nat × CS) := [(485, (2, 1, P_X8_value, CZ_X8_value))]
theorem sct_L_edits_482z {l : Launch} {D : va_G} {cy : Nat → ClassId} {ad : Nat → Nat} (o_X8_value : OKZ_X8_value l D cy ad 64) : ∀ q ∈ ct_L_edits_482z, Site l D cy ad kdZ (lnZ 64) 47 RL tb_L_edits_482z rm_L_edits q.1 q.2 := List.forall_mem_cons.mpr ⟨Or.inl ⟨9, 1, yX8_value, cX8_value, 2, (some .int), rm_X8_value, rfl, rfl, o_X8_value, ca_X8_value, mkL_9, ⟨rfl, rfl, Nat.le_of_ble_eq_true rfl, Nat.le_of_ble_eq_true rfl⟩, rvz_X8_value⟩, fun q h => absurd h List.not_mem_nil⟩
def js_L_edits_482z (I507 : Int → Int → Int → Int → Int → Int → Mem → Prop) : KT := fun pc ls st M => bif Nat.beq pc 507 then jg_L_edits_507 I507 ls st M else (False)
set_option maxRecDepth 100000 in
set_option maxHeartbeats 4000000 in
theorem sg_L_edits_482z {p : Program} {l : Launch} {e : Env} {s : State} {m : MethodId} {args : Array Value} {below : List Frame} {meth : Method} {c : Code} {D : va_G} {cy : Nat → ClassId} {ad : Nat → Nat} {A : Nat → Prop} {cells slots : Nat} {ex : List (Nat × Value)} {H0 : Heap} {Q : State → Prop} {post : Int → Mem → Prop} (o_X8_value : OKZ_X8_value l D cy ad 64) (I507 : Int → Int → Int → Int → Int → Int → Mem → Prop)
    (hex : exB (ex.map Prod.fst) tb_L_edits_482z = true) (C : jC p l e rm_L_edits s m args below meth c cL_edits 15 RL D cy ad kdZ (lnZ 64) 47 A cells slots H0 Q 1 post)
    (hJ507 : ∀ (w7_ : Option AV) (w8_ : Option AV) (w9_ : Option AV) (w10_ : Option AV) (w11_ : Option AV) (w12_ : Option AV) (w13_ : Option AV) (w14_ : Option AV) (g : Int) (k : Int) (j : Int) (r : Int) (t : Int) (d : Int) (M : Mem), I507 g k j r t d M → jSt p l e rm_L_edits s m args below meth c 15 D cy ad kdZ (lnZ 64) 47 A cells slots ex H0 Q 507 [some (.inr 0), some (.inl g), some (.inl k), some (.inl j), some (.inl r), some (.inl t), some (.inl d), w7_, w8_, w9_, w10_, w11_, w12_, w13_, w14_] [] M)
    (w7_ : Option AV) (w8_ : Option AV) (w9_ : Option AV) (w10_ : Option AV) (w11_ : Option AV) (w12_ : Option AV) (w13_ : Option AV) (w14_ : Option AV) (g : Int) (k : Int) (j : Int) (r : Int) (t : Int) (d : Int) (M : Mem) (h : p_X8_value 0 8 M ∧ ∀ (x2 : Int) (M1 : Mem), inR x2 → okM M1 → cz_X8_value 0 8 M x2 M1 → (((12 : Int) ≤ j → ((x2 = (12 : Int) → (I507 g k j r t d M1)) ∧ (¬ x2 = (12 : Int) → ((True) ∧ post (-1) M1)))) ∧ (¬ (12 : Int) ≤ j → (inR (j + 1) ∧ ((x2 = (j + 1) → (I507 g k j r t d M1)) ∧ (¬ x2 = (j + 1) → ((True) ∧ post (-1) M1))))))) :
    jSt p l e rm_L_edits s m args below meth c 15 D cy ad kdZ (lnZ 64) 47 A cells slots ex H0 Q 482 [some (.inr 0), some (.inl g), some (.inl k), some (.inl j), some (.inl r), some (.inl t), some (.inl d), w7_, w8_, w9_, w10_, w11_, w12_, w13_, w14_] [] M := by
  refine jC_snd (cst := cstL) (cuts := [0, 34, 39, 64, 66, 71, 118, 309, 336, 482, 507, 540, 549, 554]) (J := js_L_edits_482z I507) C cstL_ok ⟨tb_L_edits_482z, ct_L_edits_482z, 16, tbo_L_edits_482z, by decide, by decide, exT_of hex, sct_L_edits_482z o_X8_value, h⟩ ?_
  intro pc ls st M hJ
  unfold js_L_edits_482z at hJ
  rcases bsel hJ with ⟨hpc, hI⟩ | hI
  all_goals clear hJ
  · obtain rfl := Nat.eq_of_beq_eq_true hpc
    unfold jg_L_edits_507 at hI
    split at hI
    rotate_left
    · exact hI.elim
    exact hJ507 _ _ _ _ _ _ _ _ _ _ _ _ _ _ _ hI
  have hJ := hI
  clear hI
  exact hJ.elim
def jg_L_edits_540 (I : Int → Int → Int → Int → Int → Int → Int → Mem → Prop) : List (Option AV) → List AV → Mem → Prop := fun ls st M => match ls, st, M with
  | [some (.inr 0), some (.inl g), some (.inl k), some (.inl j), some (.inl r), some (.inl t), some (.inl d), _, _, _, some (.inl y), _, _, _, _], [.inr 0], M => I g k j r t d y M
  | _, _, _ => False
def jg_L_edits_554 (I : Int → Int → Int → Int → Int → Int → Int → Mem → Prop) : List (Option AV) → List AV → Mem → Prop := fun ls st M => match ls, st, M with
  | [some (.inr 0), some (.inl g), some (.inl k), some (.inl j), some (.inl r), some (.inl t), some (.inl d), _, _, _, some (.inl y), _, _, _, _], [], M => I g k j r t d y M
  | _, _, _ => False
def tb_L_edits_507x : TB := [(507, .iload_n 2, 1, []), (508, .bipush 25, 2, []), (510, .ishr, 1, []), (511, .iconst 3, 1, []), (512, .iand, 1, []), (513, .ifCond .ne 43, 3, [556]), (516, .aload_n 0, 1, []), (517, .invokevirtual 86, 3, []), (520, .istore 10, 2, []), (522, .iload 10, 2, []), (524, .iload_n 3, 1, []), (525, .bipush 12, 2, []), (527, .if_icmp .ge 7, 3, [534]), (530, .iload_n 3, 1, []), (531, .goto 5, 3, [536]), (534, .bipush 11, 2, []), (536, .if_icmp .ne 18, 3, [554]), (539, .aload_n 0, 1, []), (556, .iload_n 3, 1, []), (557, .bipush 12, 2, []), (559, .if_icmp .ge 9, 3, [568]), (562, .iload_n 3, 1, []), (563, .iconst 1, 1, []), (564, .iadd, 1, []), (565, .goto 5, 3, [570]), (568, .bipush 12, 2, []), (570, .ireturn, 1, [])]
theorem tbo_L_edits_507x : tbOK cL_edits tb_L_edits_507x = true := by decide +kernel
def ct_L_edits_507x : List (Nat × CS) := [(517, (1, 1, P_X8_undo, C_X8_undo))]
theorem sct_L_edits_507x {l : Launch} {D : va_G} {cy : Nat → ClassId} {ad : Nat → Nat} (o_X8_undo : OK_X8_undo l D cy ad) : ∀ q ∈ ct_L_edits_507x, Site l D cy ad kdX lnX 46 RL tb_L_edits_507x rm_L_edits q.1 q.2 := List.forall_mem_cons.mpr ⟨Or.inl ⟨86, 0, yX8_undo, cX8_undo, 1, (some .int), rm_X8_undo, rfl, rfl, o_X8_undo, ca_X8_undo, mkL_86, ⟨rfl, rfl, Nat.le_of_ble_eq_true rfl, Nat.le_of_ble_eq_true rfl⟩, rv_X8_undo⟩, fun q h => absurd h List.not_mem_nil⟩
def js_L_edits_507x (I540 : Int → Int → Int → Int → Int → Int → Int → Mem → Prop) (I554 : Int → Int → Int → Int → Int → Int → Int → Mem → Prop) : KT := fun pc ls st M => bif Nat.beq pc 540 then jg_L_edits_540 I540 ls st M else (bif Nat.beq pc 554 then jg_L_edits_554 I554 ls st M else (False))
set_option maxRecDepth 100000 in
set_option maxHeartbeats 4000000 in
theorem sg_L_edits_507x {p : Program} {l : Launch} {e : Env} {s : State} {m : MethodId} {args : Array Value} {below : List Frame} {meth : Method} {c : Code} {D : va_G} {cy : Nat → ClassId} {ad : Nat → Nat} {A : Nat → Prop} {cells slots : Nat} {ex : List (Nat × Value)} {H0 : Heap} {Q : State → Prop} {post : Int → Mem → Prop} (o_X8_undo : OK_X8_undo l D cy ad) (I540 : Int → Int → Int → Int → Int → Int → Int → Mem → Prop) (I554 : Int → Int → Int → Int → Int → Int → Int → Mem → Prop)
    (hex : exB (ex.map Prod.fst) tb_L_edits_507x = true) (C : jC p l e rm_L_edits s m args below meth c cL_edits 15 RL D cy ad kdX lnX 46 A cells slots H0 Q 1 post)
    (hJ540 : ∀ (w7_ : Option AV) (w8_ : Option AV) (w9_ : Option AV) (w11_ : Option AV) (w12_ : Option AV) (w13_ : Option AV) (w14_ : Option AV) (g : Int) (k : Int) (j : Int) (r : Int) (t : Int) (d : Int) (y : Int) (M : Mem), I540 g k j r t d y M → jSt p l e rm_L_edits s m args below meth c 15 D cy ad kdX lnX 46 A cells slots ex H0 Q 540 [some (.inr 0), some (.inl g), some (.inl k), some (.inl j), some (.inl r), some (.inl t), some (.inl d), w7_, w8_, w9_, some (.inl y), w11_, w12_, w13_, w14_] [.inr 0] M)
    (hJ554 : ∀ (w7_ : Option AV) (w8_ : Option AV) (w9_ : Option AV) (w11_ : Option AV) (w12_ : Option AV) (w13_ : Option AV) (w14_ : Option AV) (g : Int) (k : Int) (j : Int) (r : Int) (t : Int) (d : Int) (y : Int) (M : Mem), I554 g k j r t d y M → jSt p l e rm_L_edits s m args below meth c 15 D cy ad kdX lnX 46 A cells slots ex H0 Q 554 [some (.inr 0), some (.inl g), some (.inl k), some (.inl j), some (.inl r), some (.inl t), some (.inl d), w7_, w8_, w9_, some (.inl y), w11_, w12_, w13_, w14_] [] M)
    (w7_ : Option AV) (w8_ : Option AV) (w9_ : Option AV) (w10_ : Option AV) (w11_ : Option AV) (w12_ : Option AV) (w13_ : Option AV) (w14_ : Option AV) (g : Int) (k : Int) (j : Int) (r : Int) (t : Int) (d : Int) (M : Mem) (h : (¬ (bAnd (bShr k 25) 3) = (0 : Int) → (((12 : Int) ≤ j → ((True) ∧ post 12 M)) ∧ (¬ (12 : Int) ≤ j → (inR (j + 1) ∧ ((True) ∧ post (j + 1) M))))) ∧ (¬ (¬ (bAnd (bShr k 25) 3) = (0 : Int)) → (p_X8_undo 0 M ∧ ∀ (x2 : Int) (M1 : Mem), inR x2 → okM M1 → c_X8_undo 0 M x2 M1 → (((12 : Int) ≤ j → ((¬ x2 = (11 : Int) → (I554 g k j r t d x2 M1)) ∧ (¬ (¬ x2 = (11 : Int)) → (I540 g k j r t d x2 M1)))) ∧ (¬ (12 : Int) ≤ j → ((¬ x2 = j → (I554 g k j r t d x2 M1)) ∧ (¬ (¬ x2 = j) → (I540 g k j r t d x2 M1)))))))) :
    jSt p l e rm_L_edits s m args below meth c 15 D cy ad kdX lnX 46 A cells slots ex H0 Q 507 [some (.inr 0), some (.inl g), some (.inl k), some (.inl j), some (.inl r), some (.inl t), some (.inl d), w7_, w8_, w9_, w10_, w11_, w12_, w13_, w14_] [] M := by
  refine jC_snd (cst := cstL) (cuts := [0, 34, 39, 64, 66, 71, 118, 309, 336, 482, 507, 540, 549, 554]) (J := js_L_edits_507x I540 I554) C cstL_ok ⟨tb_L_edits_507x, ct_L_edits_507x, 29, tbo_L_edits_507x, by decide, by decide, exT_of hex, sct_L_edits_507x o_X8_undo, h⟩ ?_
  intro pc ls st M hJ
  unfold js_L_edits_507x at hJ
  rcases bsel hJ with ⟨hpc, hI⟩ | hI
  all_goals clear hJ
  · obtain rfl := Nat.eq_of_beq_eq_true hpc
    unfold jg_L_edits_540 at hI
    split at hI
    rotate_left
    · exact hI.elim
    exact hJ540 _ _ _ _ _ _ _ _ _ _ _ _ _ _ _ hI
  have hJ := hI
  clear hI
  rcases bsel hJ with ⟨hpc, hI⟩ | hI
  all_goals clear hJ
  · obtain rfl := Nat.eq_of_beq_eq_true hpc
    unfold jg_L_edits_554 at hI
    split at hI
    rotate_left
    · exact hI.elim
    exact hJ554 _ _ _ _ _ _ _ _ _ _ _ _ _ _ _ hI
  have hJ := hI
  clear hI
  exact hJ.elim
def tb_L_edits_507z : TB := [(507, .iload_n 2, 1, []), (508, .bipush 25, 2, []), (510, .ishr, 1, []), (511, .iconst 3, 1, []), (512, .iand, 1, []), (513, .ifCond .ne 43, 3, [556]), (516, .aload_n 0, 1, []), (517, .invokevirtual 86, 3, []), (520, .istore 10, 2, []), (522, .iload 10, 2, []), (524, .iload_n 3, 1, []), (525, .bipush 12, 2, []), (527, .if_icmp .ge 7, 3, [534]), (530, .iload_n 3, 1, []), (531, .goto 5, 3, [536]), (534, .bipush 11, 2, []), (536, .if_icmp .ne 18, 3, [554]), (539, .aload_n 0, 1, []), (556, .iload_n 3, 1, []), (557, .bipush 12, 2, []), (559, .if_icmp .ge 9, 3, [568]), (562, .iload_n 3, 1, []), (563, .iconst 1, 1, []), (564, .iadd, 1, []), (565, .goto 5, 3, [570]), (568, .bipush 12, 2, []), (570, .ireturn, 1, [])]
theorem tbo_L_edits_507z : tbOK cL_edits tb_L_edits_507z = true := by decide +kernel
def ct_L_edits_507z : List (Nat × CS) := [(517, (1, 1, P_X8_undo, CZ_X8_undo))]
theorem sct_L_edits_507z {l : Launch} {D : va_G} {cy : Nat → ClassId} {ad : Nat → Nat} (o_X8_undo : OKZ_X8_undo l D cy ad 64) : ∀ q ∈ ct_L_edits_507z, Site l D cy ad kdZ (lnZ 64) 47 RL tb_L_edits_507z rm_L_edits q.1 q.2 := List.forall_mem_cons.mpr ⟨Or.inl ⟨86, 0, yX8_undo, cX8_undo, 1, (some .int), rm_X8_undo, rfl, rfl, o_X8_undo, ca_X8_undo, mkL_86, ⟨rfl, rfl, Nat.le_of_ble_eq_true rfl, Nat.le_of_ble_eq_true rfl⟩, rvz_X8_undo⟩, fun q h => absurd h List.not_mem_nil⟩
def js_L_edits_507z (I540 : Int → Int → Int → Int → Int → Int → Int → Mem → Prop) (I554 : Int → Int → Int → Int → Int → Int → Int → Mem → Prop) : KT := fun pc ls st M => bif Nat.beq pc 540 then jg_L_edits_540 I540 ls st M else (bif Nat.beq pc 554 then jg_L_edits_554 I554 ls st M else (False))
set_option maxRecDepth 100000 in
set_option maxHeartbeats 4000000 in
theorem sg_L_edits_507z {p : Program} {l : Launch} {e : Env} {s : State} {m : MethodId} {args : Array Value} {below : List Frame} {meth : Method} {c : Code} {D : va_G} {cy : Nat → ClassId} {ad : Nat → Nat} {A : Nat → Prop} {cells slots : Nat} {ex : List (Nat × Value)} {H0 : Heap} {Q : State → Prop} {post : Int → Mem → Prop} (o_X8_undo : OKZ_X8_undo l D cy ad 64) (I540 : Int → Int → Int → Int → Int → Int → Int → Mem → Prop) (I554 : Int → Int → Int → Int → Int → Int → Int → Mem → Prop)
    (hex : exB (ex.map Prod.fst) tb_L_edits_507z = true) (C : jC p l e rm_L_edits s m args below meth c cL_edits 15 RL D cy ad kdZ (lnZ 64) 47 A cells slots H0 Q 1 post)
    (hJ540 : ∀ (w7_ : Option AV) (w8_ : Option AV) (w9_ : Option AV) (w11_ : Option AV) (w12_ : Option AV) (w13_ : Option AV) (w14_ : Option AV) (g : Int) (k : Int) (j : Int) (r : Int) (t : Int) (d : Int) (y : Int) (M : Mem), I540 g k j r t d y M → jSt p l e rm_L_edits s m args below meth c 15 D cy ad kdZ (lnZ 64) 47 A cells slots ex H0 Q 540 [some (.inr 0), some (.inl g), some (.inl k), some (.inl j), some (.inl r), some (.inl t), some (.inl d), w7_, w8_, w9_, some (.inl y), w11_, w12_, w13_, w14_] [.inr 0] M)
    (hJ554 : ∀ (w7_ : Option AV) (w8_ : Option AV) (w9_ : Option AV) (w11_ : Option AV) (w12_ : Option AV) (w13_ : Option AV) (w14_ : Option AV) (g : Int) (k : Int) (j : Int) (r : Int) (t : Int) (d : Int) (y : Int) (M : Mem), I554 g k j r t d y M → jSt p l e rm_L_edits s m args below meth c 15 D cy ad kdZ (lnZ 64) 47 A cells slots ex H0 Q 554 [some (.inr 0), some (.inl g), some (.inl k), some (.inl j), some (.inl r), some (.inl t), some (.inl d), w7_, w8_, w9_, some (.inl y), w11_, w12_, w13_, w14_] [] M)
    (w7_ : Option AV) (w8_ : Option AV) (w9_ : Option AV) (w10_ : Option AV) (w11_ : Option AV) (w12_ : Option AV) (w13_ : Option AV) (w14_ : Option AV) (g : Int) (k : Int) (j : Int) (r : Int) (t : Int) (d : Int) (M : Mem) (h : (¬ (bAnd (bShr k 25) 3) = (0 : Int) → (((12 : Int) ≤ j → ((True) ∧ post 12 M)) ∧ (¬ (12 : Int) ≤ j → (inR (j + 1) ∧ ((True) ∧ post (j + 1) M))))) ∧ (¬ (¬ (bAnd (bShr k 25) 3) = (0 : Int)) → (p_X8_undo 0 M ∧ ∀ (x2 : Int) (M1 : Mem), inR x2 → okM M1 → cz_X8_undo 0 M x2 M1 → (((12 : Int) ≤ j → ((¬ x2 = (11 : Int) → (I554 g k j r t d x2 M1)) ∧ (¬ (¬ x2 = (11 : Int)) → (I540 g k j r t d x2 M1)))) ∧ (¬ (12 : Int) ≤ j → ((¬ x2 = j → (I554 g k j r t d x2 M1)) ∧ (¬ (¬ x2 = j) → (I540 g k j r t d x2 M1)))))))) :
    jSt p l e rm_L_edits s m args below meth c 15 D cy ad kdZ (lnZ 64) 47 A cells slots ex H0 Q 507 [some (.inr 0), some (.inl g), some (.inl k), some (.inl j), some (.inl r), some (.inl t), some (.inl d), w7_, w8_, w9_, w10_, w11_, w12_, w13_, w14_] [] M := by
  refine jC_snd (cst := cstL) (cuts := [0, 34, 39, 64, 66, 71, 118, 309, 336, 482, 507, 540, 549, 554]) (J := js_L_edits_507z I540 I554) C cstL_ok ⟨tb_L_edits_507z, ct_L_edits_507z, 29, tbo_L_edits_507z, by decide, by decide, exT_of hex, sct_L_edits_507z o_X8_undo, h⟩ ?_
  intro pc ls st M hJ
  unfold js_L_edits_507z at hJ
  rcases bsel hJ with ⟨hpc, hI⟩ | hI
  all_goals clear hJ
  · obtain rfl := Nat.eq_of_beq_eq_true hpc
    unfold jg_L_edits_540 at hI
    split at hI
    rotate_left
    · exact hI.elim
    exact hJ540 _ _ _ _ _ _ _ _ _ _ _ _ _ _ _ hI
  have hJ := hI
  clear hI
  rcases bsel hJ with ⟨hpc, hI⟩ | hI
  all_goals clear hJ
  · obtain rfl := Nat.eq_of_beq_eq_true hpc
    unfold jg_L_edits_554 at hI
    split at hI
    rotate_left
    · exact hI.elim
    exact hJ554 _ _ _ _ _ _ _ _ _ _ _ _ _ _ _ hI
  have hJ := hI
  clear hI
  exact hJ.elim
def tb_L_edits_549x : TB := [(549, .iload 10, 2, []), (551, .goto 4, 3, [555]), (555, .ireturn, 1, [])]
theorem tbo_L_edits_549x : tbOK cL_edits tb_L_edits_549x = true := by decide +kernel
def ct_L_edits_549x : List (Nat × CS) := []
theorem sct_L_edits_549x {l : Launch} {D : va_G} {cy : Nat → ClassId} {ad : Nat → Nat}  : ∀ q ∈ ct_L_edits_549x, Site l D cy ad kdX lnX 46 RL tb_L_edits_549x rm_L_edits q.1 q.2 := fun q h => absurd h List.not_mem_nil
def js_L_edits_549x  : KT := fun pc ls st M => False
set_option maxRecDepth 100000 in
set_option maxHeartbeats 4000000 in
theorem sg_L_edits_549x {p : Program} {l : Launch} {e : Env} {s : State} {m : MethodId} {args : Array Value} {below : List Frame} {meth : Method} {c : Code} {D : va_G} {cy : Nat → ClassId} {ad : Nat → Nat} {A : Nat → Prop} {cells slots : Nat} {ex : List (Nat × Value)} {H0 : Heap} {Q : State → Prop} {post : Int → Mem → Prop}  
    (hex : exB (ex.map Prod.fst) tb_L_edits_549x = true) (C : jC p l e rm_L_edits s m args below meth c cL_edits 15 RL D cy ad kdX lnX 46 A cells slots H0 Q 1 post)
    
    (w7_ : Option AV) (w8_ : Option AV) (w9_ : Option AV) (w11_ : Option AV) (w12_ : Option AV) (w13_ : Option AV) (w14_ : Option AV) (g : Int) (k : Int) (j : Int) (r : Int) (t : Int) (d : Int) (y : Int) (M : Mem) (h : (True) ∧ post y M) :
    jSt p l e rm_L_edits s m args below meth c 15 D cy ad kdX lnX 46 A cells slots ex H0 Q 549 [some (.inr 0), some (.inl g), some (.inl k), some (.inl j), some (.inl r), some (.inl t), some (.inl d), w7_, w8_, w9_, some (.inl y), w11_, w12_, w13_, w14_] [] M := by
  refine jC_snd (cst := cstL) (cuts := [0, 34, 39, 64, 66, 71, 118, 309, 336, 482, 507, 540, 549, 554]) (J := js_L_edits_549x ) C cstL_ok ⟨tb_L_edits_549x, ct_L_edits_549x, 5, tbo_L_edits_549x, by decide, by decide, exT_of hex, sct_L_edits_549x , h⟩ ?_
  intro pc ls st M hJ
  unfold js_L_edits_549x at hJ
  exact hJ.elim
def tb_L_edits_549z : TB := [(549, .iload 10, 2, []), (551, .goto 4, 3, [555]), (555, .ireturn, 1, [])]
theorem tbo_L_edits_549z : tbOK cL_edits tb_L_edits_549z = true := by decide +kernel
def ct_L_edits_549z : List (Nat × CS) := []
theorem sct_L_edits_549z {l : Launch} {D : va_G} {cy : Nat → ClassId} {ad : Nat → Nat}  : ∀ q ∈ ct_L_edits_549z, Site l D cy ad kdZ (lnZ 64) 47 RL tb_L_edits_549z rm_L_edits q.1 q.2 := fun q h => absurd h List.not_mem_nil
def js_L_edits_549z  : KT := fun pc ls st M => False
set_option maxRecDepth 100000 in
set_option maxHeartbeats 4000000 in
theorem sg_L_edits_549z {p : Program} {l : Launch} {e : Env} {s : State} {m : MethodId} {args : Array Value} {below : List Frame} {meth : Method} {c : Code} {D : va_G} {cy : Nat → ClassId} {ad : Nat → Nat} {A : Nat → Prop} {cells slots : Nat} {ex : List (Nat × Value)} {H0 : Heap} {Q : State → Prop} {post : Int → Mem → Prop}  
    (hex : exB (ex.map Prod.fst) tb_L_edits_549z = true) (C : jC p l e rm_L_edits s m args below meth c cL_edits 15 RL D cy ad kdZ (lnZ 64) 47 A cells slots H0 Q 1 post)
    
    (w7_ : Option AV) (w8_ : Option AV) (w9_ : Option AV) (w11_ : Option AV) (w12_ : Option AV) (w13_ : Option AV) (w14_ : Option AV) (g : Int) (k : Int) (j : Int) (r : Int) (t : Int) (d : Int) (y : Int) (M : Mem) (h : (True) ∧ post y M) :
    jSt p l e rm_L_edits s m args below meth c 15 D cy ad kdZ (lnZ 64) 47 A cells slots ex H0 Q 549 [some (.inr 0), some (.inl g), some (.inl k), some (.inl j), some (.inl r), some (.inl t), some (.inl d), w7_, w8_, w9_, some (.inl y), w11_, w12_, w13_, w14_] [] M := by
  refine jC_snd (cst := cstL) (cuts := [0, 34, 39, 64, 66, 71, 118, 309, 336, 482, 507, 540, 549, 554]) (J := js_L_edits_549z ) C cstL_ok ⟨tb_L_edits_549z, ct_L_edits_549z, 5, tbo_L_edits_549z, by decide, by decide, exT_of hex, sct_L_edits_549z , h⟩ ?_
  intro pc ls st M hJ
  unfold js_L_edits_549z at hJ
  exact hJ.elim

