abbrev rm_L_print : Room := { frames := 3, cells := 0, slots := 0, locals := 63 }
def jg_L_print_19 (I : Int → Mem → Prop) : List (Option AV) → List AV → Mem → Prop := fun ls st M => match ls, st, M with
  | [some (.inr 0), _, _, some (.inl t)], [], M => I t M
  | _, _, _ => False
def jg_L_print_44 (I : Int → Mem → Prop) : List (Option AV) → List AV → Mem → Prop := fun ls st M => match ls, st, M with
  | [some (.inr 0), _, _, some (.inl t)], [], M => I t M
  | _, _, _ => False
def tb_L_print_4x : TB := [(4, .iload_n 3, 1, []), (5, .aload_n 0, 1, []), (6, .iconst 0, 1, []), (7, .invokevirtual 9, 3, []), (10, .aload_n 0, 1, []), (11, .iconst 1, 1, []), (12, .invokevirtual 9, 3, []), (15, .imul, 1, []), (16, .if_icmp .ge 28, 3, [44])]
theorem tbo_L_print_4x : tbOK cL_print tb_L_print_4x = true := by decide +kernel
def ct_L_print_4x : List (Nat × CS) := [(7, (2, 1, P_X8_value, C_X8_value)), (12, (2, 1, P_X8_value, C_X8_value))]
theorem sct_L_print_4x {l : Launch} {D : va_G} {cy : Nat → ClassId} {ad : Nat → Nat} (o_X8_value : OK_X8_value l D cy ad) : ∀ q ∈ ct_L_print_4x, Site l D cy ad kdX lnX 46 RL tb_L_print_4x rm_L_print q.1 q.2 := List.forall_mem_cons.mpr ⟨Or.inl ⟨9, 1, yX8_value, cX8_value, 2, (some .int), rm_X8_value, rfl, rfl, o_X8_value, ca_X8_value, mkL_9, ⟨rfl, rfl, Nat.le_of_ble_eq_true rfl, Nat.le_of_ble_eq_true rfl⟩, rv_X8_value⟩, List.forall_mem_cons.mpr ⟨Or.inl ⟨9, 1, yX8_value, cX8_value, 2, (some .int), rm_X8_value, rfl, rfl, o_X8_value, ca_X8_value, mkL_9, ⟨rfl, rfl, Nat.le_of_ble_eq_true rfl, Nat.le_of_ble_eq_true rfl⟩, rv_X8_value⟩, fun q h => absurd h List.not_mem_nil⟩⟩
def js_L_print_4x (I19 : Int → Mem → Prop) (I44 : Int → Mem → Prop) : KT := fun pc ls st M => bif Nat.beq pc 19 then jg_L_print_19 I19 ls st M else (bif Nat.beq pc 44 then jg_L_print_44 I44 ls st M else (False))
set_option maxRecDepth 100000 in
set_option maxHeartbeats 4000000 in
theorem sg_L_print_4x {p : Program} {l : Launch} {e : Env} {s : State} {m : MethodId} {args : Array Value} {below : List Frame} {meth : Method} {c : Code} {D : va_G} {cy : Nat → ClassId} {ad : Nat → Nat} {A : Nat → Prop} {cells slots : Nat} {ex : List (Nat × Value)} {H0 : Heap} {Q : State → Prop} {post : Int → Mem → Prop} (o_X8_value : OK_X8_value l D cy ad) (I19 : Int → Mem → Prop) (I44 : Int → Mem → Prop)
    (hex : exB (ex.map Prod.fst) tb_L_print_4x = true) (C : jC p l e rm_L_print s m args below meth c cL_print 4 RL D cy ad kdX lnX 46 A cells slots H0 Q 1 post)
    (hJ19 : ∀ (w1_ : Option AV) (w2_ : Option AV) (t : Int) (M : Mem), I19 t M → jSt p l e rm_L_print s m args below meth c 4 D cy ad kdX lnX 46 A cells slots ex H0 Q 19 [some (.inr 0), w1_, w2_, some (.inl t)] [] M)
    (hJ44 : ∀ (w1_ : Option AV) (w2_ : Option AV) (t : Int) (M : Mem), I44 t M → jSt p l e rm_L_print s m args below meth c 4 D cy ad kdX lnX 46 A cells slots ex H0 Q 44 [some (.inr 0), w1_, w2_, some (.inl t)] [] M)
    (w1_ : Option AV) (w2_ : Option AV) (t : Int) (M : Mem) (h : p_X8_value 0 0 M ∧ ∀ (x2 : Int) (M1 : Mem), inR x2 → okM M1 → c_X8_value 0 0 M x2 M1 → (p_X8_value 0 1 M1 ∧ ∀ (x4 : Int) (M3 : Mem), inR x4 → okM M3 → c_X8_value 0 1 M1 x4 M3 → (inR (x2 * x4) ∧ (((x2 * x4) ≤ t → (I44 t M3)) ∧ (¬ (x2 * x4) ≤ t → (I19 t M3)))))) :
    jSt p l e rm_L_print s m args below meth c 4 D cy ad kdX lnX 46 A cells slots ex H0 Q 4 [some (.inr 0), w1_, w2_, some (.inl t)] [] M := by
  refine jC_snd (cst := cstL) (cuts := [4, 19, 44]) (J := js_L_print_4x I19 I44) C cstL_ok ⟨tb_L_print_4x, ct_L_print_4x, 11, tbo_L_print_4x, by decide, by decide, exT_of hex, sct_L_print_4x o_X8_value, h⟩ ?_
  intro pc ls st M hJ
  unfold js_L_print_4x at hJ
  rcases bsel hJ with ⟨hpc, hI⟩ | hI
  all_goals clear hJ
  · obtain rfl := Nat.eq_of_beq_eq_true hpc
    unfold jg_L_print_19 at hI
    split at hI
    rotate_left
    · exact hI.elim
    exact hJ19 _ _ _ _ hI
  have hJ := hI
  clear hI
  rcases bsel hJ with ⟨hpc, hI⟩ | hI
  all_goals clear hJ
  · obtain rfl := Nat.eq_of_beq_eq_true hpc
    unfold jg_L_print_44 at hI
    split at hI
    rotate_left
    · exact hI.elim
    exact hJ44 _ _ _ _ hI
  have hJ := hI
  clear hI
  exact hJ.elim

