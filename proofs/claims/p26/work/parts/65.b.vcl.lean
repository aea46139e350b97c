abbrev p_L_low (v : Int) (b : Int) (M : Mem) : Prop := 0 < b
abbrev c_L_low (v : Int) (b : Int) (M : Mem) (x : Int) (M' : Mem) : Prop := x = lowF v b ∧ M' = M
def P_L_low (as : List AV) (M : Mem) : Prop := match as with
  | [.inl v, .inl b] => p_L_low v b M
  | _ => False
def C_L_low (as : List AV) (M : Mem) (x : Int) (M' : Mem) : Prop := match as with
  | [.inl v, .inl b] => c_L_low v b M x M'
  | _ => False
abbrev rm_L_low : Room := { frames := 0, cells := 0, slots := 0, locals := 0 }
abbrev OK_L_low (l : Launch) (D : va_G) (cy : Nat → ClassId) (ad : Nat → Nat) : Prop := MetA l D cy ad kdX lnX 46 yL_low cL_low 2 (some .int) rm_L_low 1 P_L_low C_L_low
theorem ca_L_low : CalS yL_low cL_low 2 (some .int) 2 := ⟨⟨wcL_low, wnL, by decide +kernel, by decide +kernel, by decide +kernel⟩, wsL_low⟩
def J_L_low  (v : Int) (b : Int) (M0 : Mem) : IT := fun pc ls st M μ => False
def JA_L_low  (as : List AV) (M0 : Mem) : IT := match as with
  | [.inl v, .inl b] => J_L_low  v b M0
  | _ => fun _ _ _ _ _ => False
def tb_L_low_0 : TB := [(0, .iload_n 0, 1, []), (1, .ldc 8, 2, []), (3, .iand, 1, []), (4, .iload_n 1, 1, []), (5, .irem, 1, []), (6, .ireturn, 1, [])]
theorem tbo_L_low_0 : tbOK cL_low tb_L_low_0 = true := by decide +kernel
def ct_L_low_0 : List (Nat × CS) := []
theorem sct_L_low_0 {l : Launch} {D : va_G} {cy : Nat → ClassId} {ad : Nat → Nat}  : ∀ q ∈ ct_L_low_0, Site l D cy ad kdX lnX 46 yL_low.cls tb_L_low_0 rm_L_low q.1 q.2 := fun q h => absurd h List.not_mem_nil
set_option maxRecDepth 100000 in
set_option maxHeartbeats 4000000 in
theorem vc_L_low_0 {l : Launch} {D : va_G} {cy : Nat → ClassId} {ad : Nat → Nat}   (v : Int) (b : Int)  (M0 : Mem)  (M1_ : Mem) (n : Nat) (h : 0 < b ∧ ((True) ∧ c_L_low v b M0 (Int.tmod (bAnd v 2147483647) b) M0)) : VCs l D cy ad kdX lnX 46 cL_low yL_low.cls rm_L_low [] cstL 1 (C_L_low [.inl v, .inl b] M0) [] (jJ (J_L_low  v b M0)) 0 [some (.inl v), some (.inl b)] [] M0 := ⟨tb_L_low_0, ct_L_low_0, 8, tbo_L_low_0, by decide, by decide, exT_nil, sct_L_low_0 , h⟩
set_option maxRecDepth 100000 in
set_option maxHeartbeats 4000000 in
theorem met_L_low {l : Launch} {D : va_G} {cy : Nat → ClassId} {ad : Nat → Nat} (hA : jA ad 46)  
    (hent : ∀ (v : Int) (b : Int) (M0 : Mem), p_L_low v b M0 → okM M0 → inR v → inR b → 0 < b ∧ ((True) ∧ c_L_low v b M0 (Int.tmod (bAnd v 2147483647) b) M0))
    : OK_L_low l D cy ad := by
  refine met_of2 (cst := cstL) (cuts := []) (JA_L_low ) hA (jWX) (by decide) cstL_ok rfl ?_ ?_ ?_
  · intro as M0 h
    unfold P_L_low at h
    split at h
    · exact Nat.le_of_ble_eq_true rfl
    · exact h.elim
  · intro as M0 h hM has
    unfold P_L_low at h
    split at h
    next v b => exact vc_L_low_0   v b M0 M0 0 (hent v b M0 h hM (has v (by simp)) (has b (by simp)))
    · exact h.elim
  · intro as M0 h hM has pc ls st M n hI hM1
    unfold P_L_low at h
    split at h
    · exact hI.elim
    · exact h.elim
abbrev p_L_steps (p : Nat) (M : Mem) : Prop := p = 0 ∧ ∃ σ, absX M σ
abbrev c_L_steps (p : Nat) (M : Mem) (x : Int) (M' : Mem) : Prop := x = 1 ∧ ∀ σ, absX M σ → absX M' σ
def P_L_steps (as : List AV) (M : Mem) : Prop := match as with
  | [.inr p] => p_L_steps p M
  | _ => False
def C_L_steps (as : List AV) (M : Mem) (x : Int) (M' : Mem) : Prop := match as with
  | [.inr p] => c_L_steps p M x M'
  | _ => False
abbrev rm_L_steps : Room := { frames := 3, cells := 0, slots := 0, locals := 63 }
abbrev OK_L_steps (l : Launch) (D : va_G) (cy : Nat → ClassId) (ad : Nat → Nat) : Prop := MetA l D cy ad kdX lnX 46 yL_steps cL_steps 6 (some .boolean) rm_L_steps 2 P_L_steps C_L_steps
theorem ca_L_steps : CalS yL_steps cL_steps 6 (some .boolean) 1 := ⟨⟨wcL_steps, wnL, by decide +kernel, by decide +kernel, by decide +kernel⟩, wsL_steps⟩
def jm_L_steps_16 (I16 : Nat → Mem → Int → Int → Int → Mem → Nat → Prop) (p : Nat) (M0 : Mem) : List (Option AV) → List AV → Mem → Nat → Prop := fun ls st M μ => match ls, st, M, μ with
  | [some (.inr p_), some (.inl a), some (.inl c), some (.inl t), _, _], [], M, μ => p = p_ ∧ I16 p M0 a c t M μ
  | _, _, _, _ => False
def jm_L_steps_24 (I24 : Nat → Mem → Int → Int → Int → Int → Mem → Nat → Prop) (p : Nat) (M0 : Mem) : List (Option AV) → List AV → Mem → Nat → Prop := fun ls st M μ => match ls, st, M, μ with
  | [some (.inr p_), some (.inl a), some (.inl c), some (.inl t), some (.inl d), _], [], M, μ => p = p_ ∧ I24 p M0 a c t d M μ
  | _, _, _, _ => False
def J_L_steps (I16 : Nat → Mem → Int → Int → Int → Mem → Nat → Prop) (I24 : Nat → Mem → Int → Int → Int → Int → Mem → Nat → Prop) (p : Nat) (M0 : Mem) : IT := fun pc ls st M μ => bif Nat.beq pc 16 then jm_L_steps_16 I16 p M0 ls st M μ else (bif Nat.beq pc 24 then jm_L_steps_24 I24 p M0 ls st M μ else (False))
def JA_L_steps (I16 : Nat → Mem → Int → Int → Int → Mem → Nat → Prop) (I24 : Nat → Mem → Int → Int → Int → Int → Mem → Nat → Prop) (as : List AV) (M0 : Mem) : IT := match as with
  | [.inr p] => J_L_steps I16 I24 p M0
  | _ => fun _ _ _ _ _ => False
def tb_L_steps_0 : TB := [(0, .aload_n 0, 1, []), (1, .iconst 0, 1, []), (2, .invokevirtual 9, 3, []), (5, .aload_n 0, 1, []), (6, .iconst 1, 1, []), (7, .invokevirtual 9, 3, []), (10, .imul, 1, []), (11, .istore_n 1, 1, []), (12, .iconst 0, 1, []), (13, .istore_n 2, 1, []), (14, .iconst 0, 1, []), (15, .istore_n 3, 1, [])]
theorem tbo_L_steps_0 : tbOK cL_steps tb_L_steps_0 = true := by decide +kernel
def ct_L_steps_0 : List (Nat × CS) := [(2, (2, 1, P_X8_value, C_X8_value)), (7, (2, 1, P_X8_value, C_X8_value))]
theorem sct_L_steps_0 {l : Launch} {D : va_G} {cy : Nat → ClassId} {ad : Nat → Nat} (o_X8_value : OK_X8_value l D cy ad) : ∀ q ∈ ct_L_steps_0, Site l D cy ad kdX lnX 46 yL_steps.cls tb_L_steps_0 rm_L_steps q.1 q.2 := List.forall_mem_cons.mpr ⟨Or.inl ⟨9, 1, yX8_value, cX8_value, 2, (some .int), rm_X8_value, rfl, rfl, o_X8_value, ca_X8_value, mkL_9, ⟨rfl, rfl, by decide, by decide⟩, rv_X8_value⟩, List.forall_mem_cons.mpr ⟨Or.inl ⟨9, 1, yX8_value, cX8_value, 2, (some .int), rm_X8_value, rfl, rfl, o_X8_value, ca_X8_value, mkL_9, ⟨rfl, rfl, by decide, by decide⟩, rv_X8_value⟩, fun q h => absurd h List.not_mem_nil⟩⟩
set_option maxRecDepth 100000 in
set_option maxHeartbeats 4000000 in
theorem vc_L_steps_0 {l : Launch} {D : va_G} {cy : Nat → ClassId} {ad : Nat → Nat} (o_X8_value : OK_X8_value l D cy ad) {I16 : Nat → Mem → Int → Int → Int → Mem → Nat → Prop} {I24 : Nat → Mem → Int → Int → Int → Int → Mem → Nat → Prop} (p : Nat)  (M0 : Mem)  (M1_ : Mem) (n : Nat) (h : p_X8_value p 0 M0 ∧ ∀ (x2 : Int) (M1 : Mem), inR x2 → okM M1 → c_X8_value p 0 M0 x2 M1 → (p_X8_value p 1 M1 ∧ ∀ (x4 : Int) (M3 : Mem), inR x4 → okM M3 → c_X8_value p 1 M1 x4 M3 → (inR (x2 * x4) ∧ (∃ μ : Nat, p = p ∧ I16 p M0 (x2 * x4) 0 0 M3 μ)))) : VCs l D cy ad kdX lnX 46 cL_steps yL_steps.cls rm_L_steps [] cstL 2 (C_L_steps [.inr p] M0) [16, 24] (jJ (J_L_steps I16 I24 p M0)) 0 [some (.inr p), none, none, none, none, none] [] M0 := ⟨tb_L_steps_0, ct_L_steps_0, 14, tbo_L_steps_0, by decide, by decide, exT_nil, sct_L_steps_0 o_X8_value, h⟩
def tb_L_steps_16 : TB := [(16, .iload_n 3, 1, []), (17, .iload_n 1, 1, []), (18, .if_icmp .ge 85, 3, [103]), (21, .iconst 0, 1, []), (22, .istore 4, 2, []), (103, .iload_n 2, 1, []), (104, .aload_n 0, 1, []), (105, .bipush 7, 2, []), (107, .invokevirtual 9, 3, []), (110, .if_icmp .ne 7, 3, [117]), (113, .iconst 1, 1, []), (114, .goto 4, 3, [118]), (117, .iconst 0, 1, []), (118, .ireturn, 1, [])]
theorem tbo_L_steps_16 : tbOK cL_steps tb_L_steps_16 = true := by decide +kernel
def ct_L_steps_16 : List (Nat × CS) := [(107, (2, 1, P_X8_value, C_X8_value))]
theorem sct_L_steps_16 {l : Launch} {D : va_G} {cy : Nat → ClassId} {ad : Nat → Nat} (o_X8_value : OK_X8_value l D cy ad) : ∀ q ∈ ct_L_steps_16, Site l D cy ad kdX lnX 46 yL_steps.cls tb_L_steps_16 rm_L_steps q.1 q.2 := List.forall_mem_cons.mpr ⟨Or.inl ⟨9, 1, yX8_value, cX8_value, 2, (some .int), rm_X8_value, rfl, rfl, o_X8_value, ca_X8_value, mkL_9, ⟨rfl, rfl, by decide, by decide⟩, rv_X8_value⟩, fun q h => absurd h List.not_mem_nil⟩
set_option maxRecDepth 100000 in
set_option maxHeartbeats 4000000 in
theorem vc_L_steps_16 {l : Launch} {D : va_G} {cy : Nat → ClassId} {ad : Nat → Nat} (o_X8_value : OK_X8_value l D cy ad) {I16 : Nat → Mem → Int → Int → Int → Mem → Nat → Prop} {I24 : Nat → Mem → Int → Int → Int → Int → Mem → Nat → Prop} (p : Nat) (w4_ : Option AV) (w5_ : Option AV) (M0 : Mem) (a : Int) (c : Int) (t : Int) (M : Mem) (n : Nat) (h : (a ≤ t → (p_X8_value p 7 M ∧ ∀ (x2 : Int) (M1 : Mem), inR x2 → okM M1 → c_X8_value p 7 M x2 M1 → ((¬ c = x2 → (((0 : Int) = 0 ∨ (0 : Int) = 1) ∧ c_L_steps p M0 0 M1)) ∧ (¬ (¬ c = x2) → (((1 : Int) = 0 ∨ (1 : Int) = 1) ∧ c_L_steps p M0 1 M1))))) ∧ (¬ a ≤ t → (∃ μ : Nat, μ < n ∧ p = p ∧ I24 p M0 a c t 0 M μ))) : VCs l D cy ad kdX lnX 46 cL_steps yL_steps.cls rm_L_steps [] cstL 2 (C_L_steps [.inr p] M0) [16, 24] (jJ1 (J_L_steps I16 I24 p M0) n) 16 [some (.inr p), some (.inl a), some (.inl c), some (.inl t), w4_, w5_] [] M := ⟨tb_L_steps_16, ct_L_steps_16, 16, tbo_L_steps_16, by decide, by decide, exT_nil, sct_L_steps_16 o_X8_value, h⟩
def tb_L_steps_24 : TB := [(24, .iload 4, 2, []), (26, .iconst 4, 1, []), (27, .if_icmp .ge 70, 3, [97]), (30, .aload_n 0, 1, []), (31, .iload_n 3, 1, []), (32, .iload 4, 2, []), (34, .invokevirtual 15, 3, []), (37, .istore 5, 2, []), (39, .iload_n 2, 1, []), (40, .iload 5, 2, []), (42, .ifCond .lt 7, 3, [49]), (45, .iconst 1, 1, []), (46, .goto 4, 3, [50]), (49, .iconst 0, 1, []), (50, .iadd, 1, []), (51, .istore_n 2, 1, []), (52, .iload 5, 2, []), (54, .ifCond .lt 28, 3, [82]), (57, .iload 5, 2, []), (59, .iload_n 1, 1, []), (60, .if_icmp .ge 29, 3, [89]), (63, .aload_n 0, 1, []), (64, .iload 5, 2, []), (66, .iload 4, 2, []), (68, .iconst 2, 1, []), (69, .iadd, 1, []), (70, .iconst 4, 1, []), (71, .irem, 1, []), (72, .invokevirtual 15, 3, []), (75, .iload_n 3, 1, []), (76, .if_icmp .eq 15, 3, [91]), (79, .goto 10, 3, [89]), (82, .iload 5, 2, []), (84, .bipush (-5), 2, []), (86, .if_icmp .eq 5, 3, [91]), (89, .iconst 0, 1, []), (90, .ireturn, 1, []), (91, .iinc 4 1, 3, []), (94, .goto (-70), 3, [24]), (97, .iinc 3 1, 3, []), (100, .goto (-84), 3, [16])]
theorem tbo_L_steps_24 : tbOK cL_steps tb_L_steps_24 = true := by decide +kernel
def ct_L_steps_24 : List (Nat × CS) := [(34, (3, 1, P_X8_neighbour, C_X8_neighbour)), (72, (3, 1, P_X8_neighbour, C_X8_neighbour))]
theorem sct_L_steps_24 {l : Launch} {D : va_G} {cy : Nat → ClassId} {ad : Nat → Nat} (o_X8_neighbour : OK_X8_neighbour l D cy ad) : ∀ q ∈ ct_L_steps_24, Site l D cy ad kdX lnX 46 yL_steps.cls tb_L_steps_24 rm_L_steps q.1 q.2 := List.forall_mem_cons.mpr ⟨Or.inl ⟨15, 2, yX8_neighbour, cX8_neighbour, 3, (some .int), rm_X8_neighbour, rfl, rfl, o_X8_neighbour, ca_X8_neighbour, mkL_15, ⟨rfl, rfl, by decide, by decide⟩, rv_X8_neighbour⟩, List.forall_mem_cons.mpr ⟨Or.inl ⟨15, 2, yX8_neighbour, cX8_neighbour, 3, (some .int), rm_X8_neighbour, rfl, rfl, o_X8_neighbour, ca_X8_neighbour, mkL_15, ⟨rfl, rfl, by decide, by decide⟩, rv_X8_neighbour⟩, fun q h => absurd h List.not_mem_nil⟩⟩
set_option maxRecDepth 100000 in
set_option maxHeartbeats 4000000 in
theorem vc_L_steps_24 {l : Launch} {D : va_G} {cy : Nat → ClassId} {ad : Nat → Nat} (o_X8_neighbour : OK_X8_neighbour l D cy ad) {I16 : Nat → Mem → Int → Int → Int → Mem → Nat → Prop} {I24 : Nat → Mem → Int → Int → Int → Int → Mem → Nat → Prop} (p : Nat) (w5_ : Option AV) (M0 : Mem) (a : Int) (c : Int) (t : Int) (d : Int) (M : Mem) (n : Nat) (h : ((4 : Int) ≤ d → (inR (t + 1) ∧ (∃ μ : Nat, μ < n ∧ p = p ∧ I16 p M0 a c (t + 1) M μ))) ∧ (¬ (4 : Int) ≤ d → (p_X8_neighbour p t d M ∧ ∀ (x2 : Int) (M1 : Mem), inR x2 → okM M1 → c_X8_neighbour p t d M x2 M1 → ((x2 < (0 : Int) → (inR (c + 0) ∧ ((x2 < (0 : Int) → ((x2 = (-5 : Int) → (inR (d + 1) ∧ (∃ μ : Nat, μ < n ∧ p = p ∧ I24 p M0 a (c + 0) t (d + 1) M1 μ))) ∧ (¬ x2 = (-5 : Int) → (((0 : Int) = 0 ∨ (0 : Int) = 1) ∧ c_L_steps p M0 0 M1)))) ∧ (¬ x2 < (0 : Int) → ((a ≤ x2 → (((0 : Int) = 0 ∨ (0 : Int) = 1) ∧ c_L_steps p M0 0 M1)) ∧ (¬ a ≤ x2 → (inR (d + 2) ∧ (0 < (4 : Int) ∧ (p_X8_neighbour p x2 (Int.tmod (d + 2) 4) M1 ∧ ∀ (x4 : Int) (M3 : Mem), inR x4 → okM M3 → c_X8_neighbour p x2 (Int.tmod (d + 2) 4) M1 x4 M3 → ((x4 = t → (inR (d + 1) ∧ (∃ μ : Nat, μ < n ∧ p = p ∧ I24 p M0 a (c + 0) t (d + 1) M3 μ))) ∧ (¬ x4 = t → (((0 : Int) = 0 ∨ (0 : Int) = 1) ∧ c_L_steps p M0 0 M3)))))))))))) ∧ (¬ x2 < (0 : Int) → (inR (c + 1) ∧ ((x2 < (0 : Int) → ((x2 = (-5 : Int) → (inR (d + 1) ∧ (∃ μ : Nat, μ < n ∧ p = p ∧ I24 p M0 a (c + 1) t (d + 1) M1 μ))) ∧ (¬ x2 = (-5 : Int) → (((0 : Int) = 0 ∨ (0 : Int) = 1) ∧ c_L_steps p M0 0 M1)))) ∧ (¬ x2 < (0 : Int) → ((a ≤ x2 → (((0 : Int) = 0 ∨ (0 : Int) = 1) ∧ c_L_steps p M0 0 M1)) ∧ (¬ a ≤ x2 → (inR (d + 2) ∧ (0 < (4 : Int) ∧ (p_X8_neighbour p x2 (Int.tmod (d + 2) 4) M1 ∧ ∀ (x6 : Int) (M5 : Mem), inR x6 → okM M5 → c_X8_neighbour p x2 (Int.tmod (d + 2) 4) M1 x6 M5 → ((x6 = t → (inR (d + 1) ∧ (∃ μ : Nat, μ < n ∧ p = p ∧ I24 p M0 a (c + 1) t (d + 1) M5 μ))) ∧ (¬ x6 = t → (((0 : Int) = 0 ∨ (0 : Int) = 1) ∧ c_L_steps p M0 0 M5)))))))))))))))) : VCs l D cy ad kdX lnX 46 cL_steps yL_steps.cls rm_L_steps [] cstL 2 (C_L_steps [.inr p] M0) [16, 24] (jJ1 (J_L_steps I16 I24 p M0) n) 24 [some (.inr p), some (.inl a), some (.inl c), some (.inl t), some (.inl d), w5_] [] M := ⟨tb_L_steps_24, ct_L_steps_24, 43, tbo_L_steps_24, by decide, by decide, exT_nil, sct_L_steps_24 o_X8_neighbour, h⟩
set_option maxRecDepth 100000 in
set_option maxHeartbeats 4000000 in
theorem met_L_steps {l : Launch} {D : va_G} {cy : Nat → ClassId} {ad : Nat → Nat} (hA : jA ad 46) (o_X8_neighbour : OK_X8_neighbour l D cy ad) (o_X8_value : OK_X8_value l D cy ad) (I16 : Nat → Mem → Int → Int → Int → Mem → Nat → Prop) (I24 : Nat → Mem → Int → Int → Int → Int → Mem → Nat → Prop)
    (hent : ∀ (p : Nat) (M0 : Mem), p_L_steps p M0 → okM M0 → p_X8_value p 0 M0 ∧ ∀ (x2 : Int) (M1 : Mem), inR x2 → okM M1 → c_X8_value p 0 M0 x2 M1 → (p_X8_value p 1 M1 ∧ ∀ (x4 : Int) (M3 : Mem), inR x4 → okM M3 → c_X8_value p 1 M1 x4 M3 → (inR (x2 * x4) ∧ (∃ μ : Nat, p = p ∧ I16 p M0 (x2 * x4) 0 0 M3 μ))))
    (hc16 : ∀ (p : Nat) (M0 : Mem), p_L_steps p M0 → okM M0 → ∀ (a : Int) (c : Int) (t : Int) (M : Mem) (n : Nat), I16 p M0 a c t M n → okM M → (a ≤ t → (p_X8_value p 7 M ∧ ∀ (x2 : Int) (M1 : Mem), inR x2 → okM M1 → c_X8_value p 7 M x2 M1 → ((¬ c = x2 → (((0 : Int) = 0 ∨ (0 : Int) = 1) ∧ c_L_steps p M0 0 M1)) ∧ (¬ (¬ c = x2) → (((1 : Int) = 0 ∨ (1 : Int) = 1) ∧ c_L_steps p M0 1 M1))))) ∧ (¬ a ≤ t → (∃ μ : Nat, μ < n ∧ p = p ∧ I24 p M0 a c t 0 M μ)))
    (hc24 : ∀ (p : Nat) (M0 : Mem), p_L_steps p M0 → okM M0 → ∀ (a : Int) (c : Int) (t : Int) (d : Int) (M : Mem) (n : Nat), I24 p M0 a c t d M n → okM M → ((4 : Int) ≤ d → (inR (t + 1) ∧ (∃ μ : Nat, μ < n ∧ p = p ∧ I16 p M0 a c (t + 1) M μ))) ∧ (¬ (4 : Int) ≤ d → (p_X8_neighbour p t d M ∧ ∀ (x2 : Int) (M1 : Mem), inR x2 → okM M1 → c_X8_neighbour p t d M x2 M1 → ((x2 < (0 : Int) → (inR (c + 0) ∧ ((x2 < (0 : Int) → ((x2 = (-5 : Int) → (inR (d + 1) ∧ (∃ μ : Nat, μ < n ∧ p = p ∧ I24 p M0 a (c + 0) t (d + 1) M1 μ))) ∧ (¬ x2 = (-5 : Int) → (((0 : Int) = 0 ∨ (0 : Int) = 1) ∧ c_L_steps p M0 0 M1)))) ∧ (¬ x2 < (0 : Int) → ((a ≤ x2 → (((0 : Int) = 0 ∨ (0 : Int) = 1) ∧ c_L_steps p M0 0 M1)) ∧ (¬ a ≤ x2 → (inR (d + 2) ∧ (0 < (4 : Int) ∧ (p_X8_neighbour p x2 (Int.tmod (d + 2) 4) M1 ∧ ∀ (x4 : Int) (M3 : Mem), inR x4 → okM M3 → c_X8_neighbour p x2 (Int.tmod (d + 2) 4) M1 x4 M3 → ((x4 = t → (inR (d + 1) ∧ (∃ μ : Nat, μ < n ∧ p = p ∧ I24 p M0 a (c + 0) t (d + 1) M3 μ))) ∧ (¬ x4 = t → (((0 : Int) = 0 ∨ (0 : Int) = 1) ∧ c_L_steps p M0 0 M3)))))))))))) ∧ (¬ x2 < (0 : Int) → (inR (c + 1) ∧ ((x2 < (0 : Int) → ((x2 = (-5 : Int) → (inR (d + 1) ∧ (∃ μ : Nat, μ < n ∧ p = p ∧ I24 p M0 a (c + 1) t (d + 1) M1 μ))) ∧ (¬ x2 = (-5 : Int) → (((0 : Int) = 0 ∨ (0 : Int) = 1) ∧ c_L_steps p M0 0 M1)))) ∧ (¬ x2 < (0 : Int) → ((a ≤ x2 → (((0 : Int) = 0 ∨ (0 : Int) = 1) ∧ c_L_steps p M0 0 M1)) ∧ (¬ a ≤ x2 → (inR (d + 2) ∧ (0 < (4 : Int) ∧ (p_X8_neighbour p x2 (Int.tmod (d + 2) 4) M1 ∧ ∀ (x6 : Int) (M5 : Mem), inR x6 → okM M5 → c_X8_neighbour p x2 (Int.tmod (d + 2) 4) M1 x6 M5 → ((x6 = t → (inR (d + 1) ∧ (∃ μ : Nat, μ < n ∧ p = p ∧ I24 p M0 a (c + 1) t (d + 1) M5 μ))) ∧ (¬ x6 = t → (((0 : Int) = 0 ∨ (0 : Int) = 1) ∧ c_L_steps p M0 0 M5))))))))))))))))
    : OK_L_steps l D cy ad := by
  refine met_of2 (cst := cstL) (cuts := [16, 24]) (JA_L_steps I16 I24) hA (jWX) (by decide) cstL_ok rfl ?_ ?_ ?_
  · intro as M0 h
    unfold P_L_steps at h
    split at h
    · exact Nat.le_of_ble_eq_true rfl
    · exact h.elim
  · intro as M0 h hM has
    unfold P_L_steps at h
    split at h
    next p => exact vc_L_steps_0 (I16 := I16) (I24 := I24) o_X8_value p M0 M0 0 (hent p M0 h hM)
    · exact h.elim
  · intro as M0 h hM has pc ls st M n hI hM1
    unfold P_L_steps at h
    split at h
    next p =>
      have hJ : J_L_steps I16 I24 p M0 pc ls st M n := hI
      clear hI
      unfold J_L_steps at hJ
      rcases bsel hJ with ⟨hpc, hI⟩ | hI
      all_goals clear hJ
      · obtain rfl := Nat.eq_of_beq_eq_true hpc
        unfold jm_L_steps_16 at hI
        split at hI
        rotate_left
        · exact hI.elim
        obtain ⟨rfl, hI⟩ := hI
        exact vc_L_steps_16 (I16 := I16) (I24 := I24) o_X8_value _ _ _ M0 _ _ _ _ _ (hc16 _ _ h hM _ _ _ _ _ hI hM1)
      have hJ := hI
      clear hI
      rcases bsel hJ with ⟨hpc, hI⟩ | hI
      all_goals clear hJ
      · obtain rfl := Nat.eq_of_beq_eq_true hpc
        unfold jm_L_steps_24 at hI
        split at hI
        rotate_left
        · exact hI.elim
        obtain ⟨rfl, hI⟩ := hI
        exact vc_L_steps_24 (I16 := I16) (I24 := I24) o_X8_neighbour _ _ M0 _ _ _ _ _ _ (hc24 _ _ h hM _ _ _ _ _ _ hI hM1)
      have hJ := hI
      clear hI
      exact hJ.elim
    · exact h.elim
abbrev p_L_greatest (p : Nat) (k : Int) (M : Mem) : Prop := p = 0 ∧ (0 ≤ k ∧ k ≤ 5) ∧ ∃ σ, absX M σ
abbrev c_L_greatest (p : Nat) (k : Int) (M : Mem) (x : Int) (M' : Mem) : Prop := x = 1 ∧ ∀ σ, absX M σ → absX M' σ
def P_L_greatest (as : List AV) (M : Mem) : Prop := match as with
  | [.inr p, .inl k] => p_L_greatest p k M
  | _ => False
def C_L_greatest (as : List AV) (M : Mem) (x : Int) (M' : Mem) : Prop := match as with
  | [.inr p, .inl k] => c_L_greatest p k M x M'
  | _ => False
abbrev rm_L_greatest : Room := { frames := 5, cells := 0, slots := 0, locals := 113 }
abbrev OK_L_greatest (l : Launch) (D : va_G) (cy : Nat → ClassId) (ad : Nat → Nat) : Prop := MetA l D cy ad kdX lnX 46 yL_greatest cL_greatest 5 (some .boolean) rm_L_greatest 2 P_L_greatest C_L_greatest
theorem ca_L_greatest : CalS yL_greatest cL_greatest 5 (some .boolean) 2 := ⟨⟨wcL_greatest, wnL, by decide +kernel, by decide +kernel, by decide +kernel⟩, wsL_greatest⟩
def jm_L_greatest_5 (I5 : Nat → Int → Mem → Int → Int → Mem → Nat → Prop) (p : Nat) (k : Int) (M0 : Mem) : List (Option AV) → List AV → Mem → Nat → Prop := fun ls st M μ => match ls, st, M, μ with
  | [some (.inr p_), some (.inl k_), some (.inl b), some (.inl j), _], [], M, μ => p = p_ ∧ k = k_ ∧ I5 p k M0 b j M μ
  | _, _, _, _ => False
def J_L_greatest (I5 : Nat → Int → Mem → Int → Int → Mem → Nat → Prop) (p : Nat) (k : Int) (M0 : Mem) : IT := fun pc ls st M μ => bif Nat.beq pc 5 then jm_L_greatest_5 I5 p k M0 ls st M μ else (False)
def JA_L_greatest (I5 : Nat → Int → Mem → Int → Int → Mem → Nat → Prop) (as : List AV) (M0 : Mem) : IT := match as with
  | [.inr p, .inl k] => J_L_greatest I5 p k M0
  | _ => fun _ _ _ _ _ => False
def tb_L_greatest_0 : TB := [(0, .bipush (-5), 2, []), (2, .istore_n 2, 1, []), (3, .iconst 0, 1, []), (4, .istore_n 3, 1, [])]
theorem tbo_L_greatest_0 : tbOK cL_greatest tb_L_greatest_0 = true := by decide +kernel
def ct_L_greatest_0 : List (Nat × CS) := []
theorem sct_L_greatest_0 {l : Launch} {D : va_G} {cy : Nat → ClassId} {ad : Nat → Nat}  : ∀ q ∈ ct_L_greatest_0, Site l D cy ad kdX lnX 46 yL_greatest.cls tb_L_greatest_0 rm_L_greatest q.1 q.2 := fun q h => absurd h List.not_mem_nil
set_option maxRecDepth 100000 in
set_option maxHeartbeats 4000000 in
theorem vc_L_greatest_0 {l : Launch} {D : va_G} {cy : Nat → ClassId} {ad : Nat → Nat}  {I5 : Nat → Int → Mem → Int → Int → Mem → Nat → Prop} (p : Nat) (k : Int)  (M0 : Mem)  (M1_ : Mem) (n : Nat) (h : ∃ μ : Nat, p = p ∧ k = k ∧ I5 p k M0 (-5) 0 M0 μ) : VCs l D cy ad kdX lnX 46 cL_greatest yL_greatest.cls rm_L_greatest [] cstL 2 (C_L_greatest [.inr p, .inl k] M0) [5] (jJ (J_L_greatest I5 p k M0)) 0 [some (.inr p), some (.inl k), none, none, none] [] M0 := ⟨tb_L_greatest_0, ct_L_greatest_0, 6, tbo_L_greatest_0, by decide, by decide, exT_nil, sct_L_greatest_0 , h⟩
def tb_L_greatest_5 : TB := [(5, .iload_n 3, 1, []), (6, .aload_n 0, 1, []), (7, .bipush 6, 2, []), (9, .invokevirtual 9, 3, []), (12, .if_icmp .ge 50, 3, [62]), (15, .aload_n 0, 1, []), (16, .iload_n 3, 1, []), (17, .invokevirtual 19, 3, []), (20, .istore 4, 2, []), (22, .aload_n 0, 1, []), (23, .iload 4, 2, []), (25, .iconst 0, 1, []), (26, .invokevirtual 28, 3, []), (29, .iload_n 1, 1, []), (30, .if_icmp .ne 26, 3, [56]), (33, .iload_n 2, 1, []), (34, .ifCond .lt 19, 3, [53]), (37, .aload_n 0, 1, []), (38, .iload 4, 2, []), (40, .iconst 1, 1, []), (41, .invokevirtual 28, 3, []), (44, .aload_n 0, 1, []), (45, .iload_n 2, 1, []), (46, .iconst 1, 1, []), (47, .invokevirtual 28, 3, []), (50, .if_icmp .le 6, 3, [56]), (53, .iload 4, 2, []), (55, .istore_n 2, 1, []), (56, .iinc 3 1, 3, []), (59, .goto (-54), 3, [5]), (62, .aload_n 0, 1, []), (63, .iload_n 1, 1, []), (64, .invokevirtual 31, 3, []), (67, .iload_n 2, 1, []), (68, .if_icmp .ne 7, 3, [75]), (71, .iconst 1, 1, []), (72, .goto 4, 3, [76]), (75, .iconst 0, 1, []), (76, .ireturn, 1, [])]
theorem tbo_L_greatest_5 : tbOK cL_greatest tb_L_greatest_5 = true := by decide +kernel
def ct_L_greatest_5 : List (Nat × CS) := [(9, (2, 1, P_X8_value, C_X8_value)), (17, (2, 1, P_X8_part, C_X8_part)), (26, (3, 1, P_X8_ofPart, C_X8_ofPart)), (41, (3, 1, P_X8_ofPart, C_X8_ofPart)), (47, (3, 1, P_X8_ofPart, C_X8_ofPart)), (64, (2, 1, P_X8_greatestPart, C_X8_greatestPart))]
theorem sct_L_greatest_5 {l : Launch} {D : va_G} {cy : Nat → ClassId} {ad : Nat → Nat} (o_X8_greatestPart : OK_X8_greatestPart l D cy ad) (o_X8_ofPart : OK_X8_ofPart l D cy ad) (o_X8_part : OK_X8_part l D cy ad) (o_X8_value : OK_X8_value l D cy ad) : ∀ q ∈ ct_L_greatest_5, Site l D cy ad kdX lnX 46 yL_greatest.cls tb_L_greatest_5 rm_L_greatest q.1 q.2 := List.forall_mem_cons.mpr ⟨Or.inl ⟨9, 1, yX8_value, cX8_value, 2, (some .int), rm_X8_value, rfl, rfl, o_X8_value, ca_X8_value, mkL_9, ⟨rfl, rfl, by decide, by decide⟩, rv_X8_value⟩, List.forall_mem_cons.mpr ⟨Or.inl ⟨19, 1, yX8_part, cX8_part, 2, (some .int), rm_X8_part, rfl, rfl, o_X8_part, ca_X8_part, mkL_19, ⟨rfl, rfl, by decide, by decide⟩, rv_X8_part⟩, List.forall_mem_cons.mpr ⟨Or.inl ⟨28, 2, yX8_ofPart, cX8_ofPart, 3, (some .int), rm_X8_ofPart, rfl, rfl, o_X8_ofPart, ca_X8_ofPart, mkL_28, ⟨rfl, rfl, by decide, by decide⟩, rv_X8_ofPart⟩, List.forall_mem_cons.mpr ⟨Or.inl ⟨28, 2, yX8_ofPart, cX8_ofPart, 3, (some .int), rm_X8_ofPart, rfl, rfl, o_X8_ofPart, ca_X8_ofPart, mkL_28, ⟨rfl, rfl, by decide, by decide⟩, rv_X8_ofPart⟩, List.forall_mem_cons.mpr ⟨Or.inl ⟨28, 2, yX8_ofPart, cX8_ofPart, 3, (some .int), rm_X8_ofPart, rfl, rfl, o_X8_ofPart, ca_X8_ofPart, mkL_28, ⟨rfl, rfl, by decide, by decide⟩, rv_X8_ofPart⟩, List.forall_mem_cons.mpr ⟨Or.inl ⟨31, 1, yX8_greatestPart, cX8_greatestPart, 2, (some .int), rm_X8_greatestPart, rfl, rfl, o_X8_greatestPart, ca_X8_greatestPart, mkL_31, ⟨rfl, rfl, by decide, by decide⟩, rv_X8_greatestPart⟩, fun q h => absurd h List.not_mem_nil⟩⟩⟩⟩⟩⟩
set_option maxRecDepth 100000 in
set_option maxHeartbeats 4000000 in
theorem vc_L_greatest_5 {l : Launch} {D : va_G} {cy : Nat → ClassId} {ad : Nat → Nat} (o_X8_greatestPart : OK_X8_greatestPart l D cy ad) (o_X8_ofPart : OK_X8_ofPart l D cy ad) (o_X8_part : OK_X8_part l D cy ad) (o_X8_value : OK_X8_value l D cy ad) {I5 : Nat → Int → Mem → Int → Int → Mem → Nat → Prop} (p : Nat) (k : Int) (w4_ : Option AV) (M0 : Mem) (b : Int) (j : Int) (M : Mem) (n : Nat) (h : p_X8_value p 6 M ∧ ∀ (x2 : Int) (M1 : Mem), inR x2 → okM M1 → c_X8_value p 6 M x2 M1 → ((x2 ≤ j → (p_X8_greatestPart p k M1 ∧ ∀ (x4 : Int) (M3 : Mem), inR x4 → okM M3 → c_X8_greatestPart p k M1 x4 M3 → ((¬ x4 = b → (((0 : Int) = 0 ∨ (0 : Int) = 1) ∧ c_L_greatest p k M0 0 M3)) ∧ (¬ (¬ x4 = b) → (((1 : Int) = 0 ∨ (1 : Int) = 1) ∧ c_L_greatest p k M0 1 M3))))) ∧ (¬ x2 ≤ j → (p_X8_part p j M1 ∧ ∀ (x6 : Int) (M5 : Mem), inR x6 → okM M5 → c_X8_part p j M1 x6 M5 → (p_X8_ofPart p x6 0 M5 ∧ ∀ (x8 : Int) (M7 : Mem), inR x8 → okM M7 → c_X8_ofPart p x6 0 M5 x8 M7 → ((¬ x8 = k → (inR (j + 1) ∧ (∃ μ : Nat, μ < n ∧ p = p ∧ k = k ∧ I5 p k M0 b (j + 1) M7 μ))) ∧ (¬ (¬ x8 = k) → ((b < (0 : Int) → (inR (j + 1) ∧ (∃ μ : Nat, μ < n ∧ p = p ∧ k = k ∧ I5 p k M0 x6 (j + 1) M7 μ))) ∧ (¬ b < (0 : Int) → (p_X8_ofPart p x6 1 M7 ∧ ∀ (x10 : Int) (M9 : Mem), inR x10 → okM M9 → c_X8_ofPart p x6 1 M7 x10 M9 → (p_X8_ofPart p b 1 M9 ∧ ∀ (x12 : Int) (M11 : Mem), inR x12 → okM M11 → c_X8_ofPart p b 1 M9 x12 M11 → ((x10 ≤ x12 → (inR (j + 1) ∧ (∃ μ : Nat, μ < n ∧ p = p ∧ k = k ∧ I5 p k M0 b (j + 1) M11 μ))) ∧ (¬ x10 ≤ x12 → (inR (j + 1) ∧ (∃ μ : Nat, μ < n ∧ p = p ∧ k = k ∧ I5 p k M0 x6 (j + 1) M11 μ))))))))))))))) : VCs l D cy ad kdX lnX 46 cL_greatest yL_greatest.cls rm_L_greatest [] cstL 2 (C_L_greatest [.inr p, .inl k] M0) [5] (jJ1 (J_L_greatest I5 p k M0) n) 5 [some (.inr p), some (.inl k), some (.inl b), some (.inl j), w4_] [] M := ⟨tb_L_greatest_5, ct_L_greatest_5, 41, tbo_L_greatest_5, by decide, by decide, exT_nil, sct_L_greatest_5 o_X8_greatestPart o_X8_ofPart o_X8_part o_X8_value, h⟩
set_option maxRecDepth 100000 in
set_option maxHeartbeats 4000000 in
theorem met_L_greatest {l : Launch} {D : va_G} {cy : Nat → ClassId} {ad : Nat → Nat} (hA : jA ad 46) (o_X8_greatestPart : OK_X8_greatestPart l D cy ad) (o_X8_ofPart : OK_X8_ofPart l D cy ad) (o_X8_part : OK_X8_part l D cy ad) (o_X8_value : OK_X8_value l D cy ad) (I5 : Nat → Int → Mem → Int → Int → Mem → Nat → Prop)
    (hent : ∀ (p : Nat) (k : Int) (M0 : Mem), p_L_greatest p k M0 → okM M0 → inR k → ∃ μ : Nat, p = p ∧ k = k ∧ I5 p k M0 (-5) 0 M0 μ)
    (hc5 : ∀ (p : Nat) (k : Int) (M0 : Mem), p_L_greatest p k M0 → okM M0 → inR k → ∀ (b : Int) (j : Int) (M : Mem) (n : Nat), I5 p k M0 b j M n → okM M → p_X8_value p 6 M ∧ ∀ (x2 : Int) (M1 : Mem), inR x2 → okM M1 → c_X8_value p 6 M x2 M1 → ((x2 ≤ j → (p_X8_greatestPart p k M1 ∧ ∀ (x4 : Int) (M3 : Mem), inR x4 → okM M3 → c_X8_greatestPart p k M1 x4 M3 → ((¬ x4 = b → (((0 : Int) = 0 ∨ (0 : Int) = 1) ∧ c_L_greatest p k M0 0 M3)) ∧ (¬ (¬ x4 = b) → (((1 : Int) = 0 ∨ (1 : Int) = 1) ∧ c_L_greatest p k M0 1 M3))))) ∧ (¬ x2 ≤ j → (p_X8_part p j M1 ∧ ∀ (x6 : Int) (M5 : Mem), inR x6 → okM M5 → c_X8_part p j M1 x6 M5 → (p_X8_ofPart p x6 0 M5 ∧ ∀ (x8 : Int) (M7 : Mem), inR x8 → okM M7 → c_X8_ofPart p x6 0 M5 x8 M7 → ((¬ x8 = k → (inR (j + 1) ∧ (∃ μ : Nat, μ < n ∧ p = p ∧ k = k ∧ I5 p k M0 b (j + 1) M7 μ))) ∧ (¬ (¬ x8 = k) → ((b < (0 : Int) → (inR (j + 1) ∧ (∃ μ : Nat, μ < n ∧ p = p ∧ k = k ∧ I5 p k M0 x6 (j + 1) M7 μ))) ∧ (¬ b < (0 : Int) → (p_X8_ofPart p x6 1 M7 ∧ ∀ (x10 : Int) (M9 : Mem), inR x10 → okM M9 → c_X8_ofPart p x6 1 M7 x10 M9 → (p_X8_ofPart p b 1 M9 ∧ ∀ (x12 : Int) (M11 : Mem), inR x12 → okM M11 → c_X8_ofPart p b 1 M9 x12 M11 → ((x10 ≤ x12 → (inR (j + 1) ∧ (∃ μ : Nat, μ < n ∧ p = p ∧ k = k ∧ I5 p k M0 b (j + 1) M11 μ))) ∧ (¬ x10 ≤ x12 → (inR (j + 1) ∧ (∃ μ : Nat, μ < n ∧ p = p ∧ k = k ∧ I5 p k M0 x6 (j + 1) M11 μ)))))))))))))))
    : OK_L_greatest l D cy ad := by
  refine met_of2 (cst := cstL) (cuts := [5]) (JA_L_greatest I5) hA (jWX) (by decide) cstL_ok rfl ?_ ?_ ?_
  · intro as M0 h
    unfold P_L_greatest at h
    split at h
    · exact Nat.le_of_ble_eq_true rfl
    · exact h.elim
  · intro as M0 h hM has
    unfold P_L_greatest at h
    split at h
    next p k => exact vc_L_greatest_0 (I5 := I5)  p k M0 M0 0 (hent p k M0 h hM (has k (by simp)))
    · exact h.elim
  · intro as M0 h hM has pc ls st M n hI hM1
    unfold P_L_greatest at h
    split at h
    next p k =>
      have hJ : J_L_greatest I5 p k M0 pc ls st M n := hI
      clear hI
      unfold J_L_greatest at hJ
      rcases bsel hJ with ⟨hpc, hI⟩ | hI
      all_goals clear hJ
      · obtain rfl := Nat.eq_of_beq_eq_true hpc
        unfold jm_L_greatest_5 at hI
        split at hI
        rotate_left
        · exact hI.elim
        obtain ⟨rfl, rfl, hI⟩ := hI
        exact vc_L_greatest_5 (I5 := I5) o_X8_greatestPart o_X8_ofPart o_X8_part o_X8_value _ _ _ M0 _ _ _ _ (hc5 _ _ _ h hM (has _ (by simp)) _ _ _ _ hI hM1)
      have hJ := hI
      clear hI
      exact hJ.elim
    · exact h.elim
