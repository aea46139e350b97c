/-! ===== one instruction of the small machine is one of the bytecode ===== -/
def lnOK (i : Instr) (n : Nat) : Bool := match i with
  | .bipush _ => n == 2
  | .iload _ => n == 2
  | .istore _ => n == 2
  | .aload _ => n == 2
  | .astore _ => n == 2
  | .ldc _ => n == 2
  | .sipush _ => n == 3
  | .iinc _ _ => n == 3
  | .lstore _ => n == 2
  | .lload _ => n == 2
  | .ldc2_w _ => n == 3
  | .newarray _ => n == 2
  | .goto _ => n == 3
  | .ifCond _ _ => n == 3
  | .if_icmp _ _ => n == 3
  | .getfield _ => n == 3
  | .putfield _ => n == 3
  | .invokevirtual _ => n == 3
  | .invokestatic _ => n == 3
  | .tableswitch _ _ _ _ => true
  | _ => n == 1
def tbL (tb : TB) : Bool := tb.all fun q => lnOK q.2.1 q.2.2.1
theorem bif_of {b : Bool} {p : Prop} (h : bif b then p else False) : b = true ∧ p := by
  cases b with
  | true => exact ⟨rfl, h⟩
  | false => exact h.elim
theorem bifn_of {b : Bool} {p : Prop} (h : bif b then False else p) : b = false ∧ p := by
  cases b with
  | true => exact h.elim
  | false => exact ⟨rfl, h⟩
theorem v1_of {st : List AV} {K : Int → List AV → Prop} (h : v1 st K) : ∃ x r, st = .inl x :: r ∧ K x r := by
  unfold v1 at h
  split at h
  · exact ⟨_, _, rfl, h⟩
  · exact h.elim
theorem v2_of {st : List AV} {K : Int → Int → List AV → Prop} (h : v2 st K) : ∃ x y r, st = .inl y :: .inl x :: r ∧ K x y r := by
  unfold v2 at h
  split at h
  · exact ⟨_, _, _, rfl, h⟩
  · exact h.elim
theorem vA_of {st : List AV} {K : Nat → List AV → Prop} (h : vA st K) : ∃ a r, st = .inr a :: r ∧ K a r := by
  unfold vA at h
  split at h
  · exact ⟨_, _, rfl, h⟩
  · exact h.elim
theorem vIA_of {st : List AV} {K : Int → Nat → List AV → Prop} (h : vIA st K) : ∃ i a r, st = .inl i :: .inr a :: r ∧ K i a r := by
  unfold vIA at h
  split at h
  · exact ⟨_, _, _, rfl, h⟩
  · exact h.elim
theorem vIIA_of {st : List AV} {K : Int → Int → Nat → List AV → Prop} (h : vIIA st K) : ∃ x i a r, st = .inl x :: .inl i :: .inr a :: r ∧ K x i a r := by
  unfold vIIA at h
  split at h
  · exact ⟨_, _, _, _, rfl, h⟩
  · exact h.elim
theorem vtg_of {ts : List Nat} {K : Nat → Prop} (h : vtg ts K) : ∃ t, ts = [t] ∧ K t := by
  unfold vtg at h
  split at h
  · exact ⟨_, rfl, h⟩
  · exact h.elim
theorem vldI_of {ls : List (Option AV)} {k : Nat} {K : Int → Prop} (h : vldI ls k K) : ∃ x, ls[k]? = some (some (.inl x)) ∧ K x := by
  unfold vldI at h
  split at h
  next x e => exact ⟨x, e, h⟩
  · exact h.elim
theorem vldA_of {ls : List (Option AV)} {k : Nat} {K : Nat → Prop} (h : vldA ls k K) : ∃ a, ls[k]? = some (some (.inr a)) ∧ K a := by
  unfold vldA at h
  split at h
  next x e => exact ⟨x, e, h⟩
  · exact h.elim
theorem vtab_of {lo : Int} {us : List Nat} {x : Int} {K : Nat → Prop} (h : vtab lo us x K) (h0 : lo ≤ x) (h1 : x < lo + us.length) : ∃ u, us[(x - lo).toNat]? = some u ∧ K u := by
  induction us generalizing lo with
  | nil => simp at h1; omega
  | cons u r ih =>
    obtain ⟨a, b⟩ := h
    by_cases e : x = lo
    · refine ⟨u, ?_, a e⟩
      rw [show (x - lo).toNat = 0 by omega]; rfl
    · obtain ⟨v, c1, c2⟩ := ih b (by omega) (by simp at h1; omega)
      refine ⟨v, ?_, c2⟩
      rw [show (x - lo).toNat = (x - (lo + 1)).toNat + 1 by omega]
      simpa using c1
theorem st_push {st : List AV} {v : Int} (h : ∀ x, Sum.inl x ∈ st → inR x) (hv : inR v) : ∀ x, (Sum.inl x : AV) ∈ (.inl v :: st) → inR x := fun x hx => by
  rcases List.mem_cons.mp hx with e | e
  · cases e; exact hv
  · exact h x e
theorem st_pushA {st : List AV} {a : Nat} (h : ∀ x, Sum.inl x ∈ st → inR x) : ∀ x, (Sum.inl x : AV) ∈ (.inr a :: st) → inR x := fun x hx => by
  rcases List.mem_cons.mp hx with e | e
  · cases e
  · exact h x e
theorem st_tl {st : List AV} {v : AV} (h : ∀ x, (Sum.inl x : AV) ∈ (v :: st) → inR x) : ∀ x, Sum.inl x ∈ st → inR x := fun x hx => h x (List.mem_cons_of_mem _ hx)
theorem ls_set {ls : List (Option AV)} {k : Nat} {v : AV} (h : ∀ x, some (Sum.inl x) ∈ ls → inR x) (hv : ∀ x, v = .inl x → inR x) : ∀ x, some (Sum.inl x) ∈ ls.set k (some v) → inR x := fun x hx => by
  rcases List.mem_or_eq_of_mem_set hx with e | e
  · exact h x e
  · exact hv x (Option.some.inj e).symm
theorem b8 {v : Int} (h : -128 ≤ v) (h2 : v ≤ 127) : (Int8.ofInt v).toInt32 = I32 v := by
  apply Int32.toInt_inj.mp
  rw [I32_toInt ⟨by omega, by omega⟩, Int8.toInt_toInt32, Int8.toInt_ofInt_of_le (by omega) (by omega)]
theorem b16 {v : Int} (h : -32768 ≤ v) (h2 : v ≤ 32767) : (Int16.ofInt v).toInt32 = I32 v := by
  apply Int32.toInt_inj.mp
  rw [I32_toInt ⟨by omega, by omega⟩, Int16.toInt_toInt32, Int16.toInt_ofInt_of_le (by omega) (by omega)]
theorem inR_tdiv {x y : Int} (hx : inR x) (h0 : 0 ≤ x) (hy : 0 < y) : inR (x / y) := by
  have h1 : 0 ≤ x / y := Int.ediv_nonneg h0 (by omega)
  have h2 : x / y ≤ x := Int.ediv_le_self y h0
  exact ⟨by omega, by have := hx.2; omega⟩
theorem inR_tmod {x y : Int} (hx : inR y) (hy : 0 < y) : inR (x.tmod y) := by
  obtain ⟨h1, h2⟩ := tmod_bounds (a := x) hy
  exact ⟨by have := hx.2; omega, by have := hx.2; omega⟩
section SND
variable {p : Program} {l : Launch} {e : Env} {R : Room} {s : State} {m : MethodId} {args : Array Value} {below : List Frame} {meth : Method} {c : Code}
variable {cc : ByteArray} {nL : Nat} {own : String} {D : va_G} {cy : Nat → ClassId} {ad kd ln : Nat → Nat} {nc : Nat} {A : Nat → Prop} {cells slots : Nat} {ex : List (Nat × Value)} {H0 : Heap} {Q : State → Prop}
/-- the machine stands at pc with these locals, this stack, this memory: from there it comes to Q -/
def jSt (p : Program) (l : Launch) (e : Env) (R : Room) (s : State) (m : MethodId) (args : Array Value) (below : List Frame) (meth : Method) (c : Code) (nL : Nat) (D : va_G) (cy : Nat → ClassId) (ad kd ln : Nat → Nat) (nc : Nat) (A : Nat → Prop) (cells slots : Nat) (ex : List (Nat × Value)) (H0 : Heap) (Q : State → Prop) : KT := fun pc ls st M =>
  ∀ (H : Heap) (locs : List Loc) (lsC : Array Slot), (∀ a k, inR (M a k)) → (∀ x, some (Sum.inl x) ∈ ls → inR x) → (∀ x, Sum.inl x ∈ st → inR x) →
    va_P D vwCl (wld ad kd ln cy nc M) H → va_S A H0 H locs → jL ex ad lsC nL ls → W p l e R s m args below meth c H locs cells slots Q (F0 m pc lsC (st.map (cV ad)))
def jEnv (p : Program) (s : State) (m : MethodId) (args : Array Value) (c : Code) (cc : ByteArray) (nL : Nat) (own : String) (D : va_G) (cy : Nat → ClassId) : Prop :=
  p.tables.exec = Jvm.exec ∧ c.code = cc ∧ c.maxLocals = nL ∧ s.vm.findClass own = some m.cls ∧ (∀ w ∈ wtb, w.before args s = true) ∧ va_K D vwCl (tysJ cy) s
/-- what the method's end gives -/
def jEnd (p : Program) (l : Launch) (e : Env) (R : Room) (s : State) (m : MethodId) (args : Array Value) (below : List Frame) (meth : Method) (c : Code) (cc : ByteArray) (D : va_G) (cy : Nat → ClassId) (ad kd ln : Nat → Nat) (nc : Nat) (A : Nat → Prop) (cells slots : Nat) (H0 : Heap) (Q : State → Prop) (rty : Nat) (post : Int → Mem → Prop) : Prop :=
  ∀ (x : Int) (M : Mem) (H : Heap) (locs : List Loc) (lsC : Array Slot) (pc : Nat), post x M → inR x → (∀ a k, inR (M a k)) → va_P D vwCl (wld ad kd ln cy nc M) H → va_S A H0 H locs →
    (vret rty x → decode cc pc = .ok (.ireturn, 1) → W p l e R s m args below meth c H locs cells slots Q (F0 m pc lsC [.int (I32 x)])) ∧
    (rty = 4 → decode cc pc = .ok (.areturn, 1) → W p l e R s m args below meth c H locs cells slots Q (F0 m pc lsC [.ref (ad x.toNat)])) ∧
    (rty = 0 → decode cc pc = .ok (.return_, 1) → W p l e R s m args below meth c H locs cells slots Q (F0 m pc lsC []))
variable {tb : TB} {ft : List (Nat × Nat × Nat × Nat)} {cst : Nat → Int} {rty : Nat} {post : Int → Mem → Prop} {ct : List (Nat × CS)}
theorem step_snd (hE : jEnv p s m args c cc nL own D cy) (hW : jW kd ln nc) (hA : jA ad nc) (hF : ∀ a, a < nc → A (ad a)) (hxt : exT ex tb) (htb : tbOK cc tb = true) (htl : tbL tb = true) (hft : ftOK own ft = true) (hcst : ∀ j, cst j ≠ 0 → Cond.constant own j (I32 (cst j)) ∈ wtb ∧ inR (cst j)) (hcst2 : ∀ pc j n ts, tb.lookup pc = some (.ldc j, n, ts) → cst j ≠ 0)
    (hend : jEnd p l e R s m args below meth c cc D cy ad kd ln nc A cells slots H0 Q rty post)
    (hcl : ∀ (pc : Nat) (i : Instr) (n : Nat) (ts : List Nat), tb.lookup pc = some (i, n, ts) → (∃ j, i = .invokevirtual j ∨ i = .invokestatic j) → ∀ (ls : List (Option AV)) (st : List AV) (M : Mem) (K : List AV → Mem → Prop), vcall (ct.lookup pc) st M K →
      (∀ st' M', K st' M' → jSt p l e R s m args below meth c nL D cy ad kd ln nc A cells slots ex H0 Q (pc + n) ls st' M') → jSt p l e R s m args below meth c nL D cy ad kd ln nc A cells slots ex H0 Q pc ls st M)
    {pc : Nat} {i : Instr} {n : Nat} {ts : List Nat} (hl : tb.lookup pc = some (i, n, ts)) {ls : List (Option AV)} {st : List AV} {M : Mem} {K : KT}
    (h : vstep kd ln (ftl ft) cst rty post (ct.lookup pc) K pc i n ts ls st M) (hK : ∀ pc ls st M, K pc ls st M → jSt p l e R s m args below meth c nL D cy ad kd ln nc A cells slots ex H0 Q pc ls st M) :
    jSt p l e R s m args below meth c nL D cy ad kd ln nc A cells slots ex H0 Q pc ls st M := by
  obtain ⟨hdg, htg⟩ := tbOK_of htb hl
  have hln : lnOK i n = true := List.all_eq_true.mp htl _ (lookup_mem hl)
  have hcl := hcl pc i n ts hl
  obtain ⟨hx, hb, hml, hown, hts, hKv⟩ := id hE
  intro H locs lsC hM hls hst hP hS hL
  have hD : va_D A (wld ad kd ln cy nc M) := (wld_D hA).weaken (fun k q _ ⟨a, h1, h2⟩ => by rw [← h2]; exact hF a h1)
  have hxt := hxt pc i n ts hl
  unfold vstep at h
  split at h
  · -- iconst
    simp [lnOK] at hln; subst hln
    simp [tgOK] at htg
    exact lv_iconst hx hb hdg rfl (hK _ _ _ _ h H locs lsC hM hls (st_push hst ⟨by omega, by omega⟩) hP hS hL)
  · simp [lnOK] at hln; subst hln
    simp [tgOK] at htg
    exact lv_bipush hx hb hdg (b8 htg.1 htg.2) (hK _ _ _ _ h H locs lsC hM hls (st_push hst ⟨by omega, by omega⟩) hP hS hL)
  · simp [lnOK] at hln; subst hln
    simp [tgOK] at htg
    exact lv_sipush hx hb hdg (b16 htg.1 htg.2) (hK _ _ _ _ h H locs lsC hM hls (st_push hst ⟨by omega, by omega⟩) hP hS hL)
  · simp [lnOK] at hln; subst hln
    rename_i j
    obtain ⟨h1, h2⟩ := hcst j (hcst2 _ _ _ _ hl)
    exact lv_ldc hx hb hown (hts _ h1) hdg (hK _ _ _ _ h H locs lsC hM hls (st_push hst h2) hP hS hL)
  · simp [lnOK] at hln; subst hln
    obtain ⟨x, e1, h⟩ := vldI_of h
    exact lv_iload_n hx hb hdg rfl (jL_get hL e1) (hK _ _ _ _ h H locs lsC hM hls (st_push hst (hls x (List.mem_of_getElem? e1))) hP hS hL)
  · simp [lnOK] at hln; subst hln
    obtain ⟨x, e1, h⟩ := vldI_of h
    exact lv_iload hx hb hdg (jL_get hL e1) (hK _ _ _ _ h H locs lsC hM hls (st_push hst (hls x (List.mem_of_getElem? e1))) hP hS hL)
  · simp [lnOK] at hln; subst hln
    obtain ⟨x, e1, h⟩ := vldA_of h
    exact lv_aload_n hx hb hdg rfl (jL_get hL e1) (hK _ _ _ _ h H locs lsC hM hls (st_pushA hst) hP hS hL)
  · simp [lnOK] at hln; subst hln
    obtain ⟨x, e1, h⟩ := vldA_of h
    exact lv_aload hx hb hdg (jL_get hL e1) (hK _ _ _ _ h H locs lsC hM hls (st_pushA hst) hP hS hL)
  · simp [lnOK] at hln; subst hln
    obtain ⟨hi, h⟩ := bif_of h
    have hi := Nat.blt_eq.mp hi
    obtain ⟨x, r, rfl, h⟩ := v1_of h
    obtain ⟨hl1, lv, h1, h2, h3⟩ := hL
    exact lv_istore_n hx hb hdg rfl h1 (by omega) rfl (fun ls' hl' => hK _ _ _ _ h H locs ls' hM (ls_set hls (fun y hy => by cases hy; exact hst _ List.mem_cons_self)) (st_tl hst) hP hS (jL_set (v := .inl x) hl1 hi h2 h3 (hxt _ rfl) hl'))
  · simp [lnOK] at hln; subst hln
    obtain ⟨hi, h⟩ := bif_of h
    have hi := Nat.blt_eq.mp hi
    obtain ⟨x, r, rfl, h⟩ := v1_of h
    obtain ⟨hl1, lv, h1, h2, h3⟩ := hL
    exact lv_istore hx hb hdg h1 (by omega) rfl (fun ls' hl' => hK _ _ _ _ h H locs ls' hM (ls_set hls (fun y hy => by cases hy; exact hst _ List.mem_cons_self)) (st_tl hst) hP hS (jL_set (v := .inl x) hl1 hi h2 h3 (hxt _ rfl) hl'))
  · simp [lnOK] at hln; subst hln
    obtain ⟨hi, h⟩ := bif_of h
    have hi := Nat.blt_eq.mp hi
    obtain ⟨x, r, rfl, h⟩ := vA_of h
    obtain ⟨hl1, lv, h1, h2, h3⟩ := hL
    exact lv_astore_n hx hb hdg rfl h1 (by omega) rfl (fun ls' hl' => hK _ _ _ _ h H locs ls' hM (ls_set hls (fun y hy => by cases hy)) (st_tl hst) hP hS (jL_set (v := .inr x) hl1 hi h2 h3 (hxt _ rfl) hl'))
  · simp [lnOK] at hln; subst hln
    obtain ⟨hi, h⟩ := bif_of h
    have hi := Nat.blt_eq.mp hi
    obtain ⟨x, r, rfl, h⟩ := vA_of h
    obtain ⟨hl1, lv, h1, h2, h3⟩ := hL
    exact lv_astore hx hb hdg h1 (by omega) rfl (fun ls' hl' => hK _ _ _ _ h H locs ls' hM (ls_set hls (fun y hy => by cases hy)) (st_tl hst) hP hS (jL_set (v := .inr x) hl1 hi h2 h3 (hxt _ rfl) hl'))
  · simp [lnOK] at hln; subst hln
    obtain ⟨x, y, r, rfl, h0, h⟩ := v2_of h
    refine lv_iadd hx hb hdg ?_
    rw [I32_add]
    exact hK _ _ _ _ h H locs lsC hM hls (st_push (st_tl (st_tl hst)) h0) hP hS hL
  · simp [lnOK] at hln; subst hln
    obtain ⟨x, y, r, rfl, h0, h⟩ := v2_of h
    refine lv_isub hx hb hdg ?_
    rw [I32_sub]
    exact hK _ _ _ _ h H locs lsC hM hls (st_push (st_tl (st_tl hst)) h0) hP hS hL
  · simp [lnOK] at hln; subst hln
    obtain ⟨x, y, r, rfl, h0, h⟩ := v2_of h
    refine lv_imul hx hb hdg ?_
    rw [I32_mul]
    exact hK _ _ _ _ h H locs lsC hM hls (st_push (st_tl (st_tl hst)) h0) hP hS hL
  · simp [lnOK] at hln; subst hln
    obtain ⟨x, y, r, rfl, ⟨h0, h1⟩, h⟩ := v2_of h
    have ry : inR y := hst _ List.mem_cons_self
    have rx : inR x := hst _ (List.mem_cons_of_mem _ List.mem_cons_self)
    refine lv_idiv hx hb hdg (fun z => by have := (I32_eq ry inR_0).mp (z.trans I32_0.symm); omega) ?_
    rw [I32_div rx ry, Int.tdiv_eq_ediv_of_nonneg h0]
    exact hK _ _ _ _ h H locs lsC hM hls (st_push (st_tl (st_tl hst)) (inR_tdiv rx h0 h1)) hP hS hL
  · simp [lnOK] at hln; subst hln
    obtain ⟨x, y, r, rfl, h1, h⟩ := v2_of h
    have ry : inR y := hst _ List.mem_cons_self
    have rx : inR x := hst _ (List.mem_cons_of_mem _ List.mem_cons_self)
    refine lv_irem hx hb hdg (fun z => by have := (I32_eq ry inR_0).mp (z.trans I32_0.symm); omega) ?_
    rw [I32_rem rx ry]
    exact hK _ _ _ _ h H locs lsC hM hls (st_push (st_tl (st_tl hst)) (inR_tmod ry h1)) hP hS hL
  · simp [lnOK] at hln; subst hln
    obtain ⟨x, y, r, rfl, h⟩ := v2_of h
    refine lv_iand hx hb hdg ?_
    have := hK _ _ _ _ h H locs lsC hM hls (st_push (st_tl (st_tl hst)) (I32_inR _)) hP hS hL
    rw [List.map_cons, bAnd] at this
    simpa only [cV, I32_of] using this
  · simp [lnOK] at hln; subst hln
    obtain ⟨x, y, r, rfl, h⟩ := v2_of h
    refine lv_ior hx hb hdg ?_
    have := hK _ _ _ _ h H locs lsC hM hls (st_push (st_tl (st_tl hst)) (I32_inR _)) hP hS hL
    rw [List.map_cons, bOr] at this
    simpa only [cV, I32_of] using this
  · simp [lnOK] at hln; subst hln
    obtain ⟨x, y, r, rfl, h⟩ := v2_of h
    refine lv_ixor hx hb hdg ?_
    have := hK _ _ _ _ h H locs lsC hM hls (st_push (st_tl (st_tl hst)) (I32_inR _)) hP hS hL
    rw [List.map_cons, bXor] at this
    simpa only [cV, I32_of] using this
  · simp [lnOK] at hln; subst hln
    obtain ⟨x, y, r, rfl, h⟩ := v2_of h
    refine lv_ishl hx hb hdg ?_
    have := hK _ _ _ _ h H locs lsC hM hls (st_push (st_tl (st_tl hst)) (I32_inR _)) hP hS hL
    rw [List.map_cons, bShl] at this
    simpa only [cV, I32_of] using this
  · simp [lnOK] at hln; subst hln
    obtain ⟨x, y, r, rfl, h⟩ := v2_of h
    refine lv_ishr hx hb hdg ?_
    have := hK _ _ _ _ h H locs lsC hM hls (st_push (st_tl (st_tl hst)) (I32_inR _)) hP hS hL
    rw [List.map_cons, bShr] at this
    simpa only [cV, I32_of] using this
  · -- iinc
    simp [lnOK] at hln; subst hln
    obtain ⟨x, e1, h0, h⟩ := vldI_of h
    obtain ⟨hl1, lv, h1, h2, h3⟩ := hL
    obtain ⟨k0, hk0⟩ := List.getElem?_of_mem (h2 _ _ e1)
    have hi := (List.getElem?_eq_some_iff.mp e1).1
    exact lv_iinc hx hb hdg h1 (k := k0) hk0 (I32_add _ _) (by omega) rfl (fun ls' hl' => hK _ _ _ _ h H locs ls' hM (ls_set hls (fun y hy => by cases hy; exact h0)) hst hP hS (jL_set (v := .inl _) hl1 hi h2 h3 (hxt _ rfl) hl'))
  · -- i2c
    simp [lnOK] at hln; subst hln
    obtain ⟨x, r, rfl, ⟨c0, c1⟩, h⟩ := v1_of h
    have rx : inR x := hst _ List.mem_cons_self
    have e1 : I32 x = nI x.toNat := by
      show Int32.ofInt x = Int32.ofNat x.toNat
      rw [← Int32.ofInt_eq_ofNat]; congr 1; omega
    have e2 := (pk_charN (q := x.toNat) (by omega)).1
    refine lv_i2c (v := I32 x) hx hb hdg (by rw [e1]; exact Value.int.inj e2) ?_
    exact hK _ _ _ _ h H locs lsC hM hls (st_push (st_tl hst) rx) hP hS hL
  · -- dup
    simp [lnOK] at hln; subst hln
    split at h
    next v r =>
      exact lv_dup hx hb hdg (cV_cat v) (hK _ _ _ _ h H locs lsC hM hls (fun x hx => by rcases List.mem_cons.mp hx with e | e; exact hst x (e ▸ List.mem_cons_self); exact hst x e) hP hS hL)
    · exact h.elim
  · simp [lnOK] at hln; subst hln
    split at h
    next v r =>
      exact lv_pop hx hb hdg (cV_cat v) (hK _ _ _ _ h H locs lsC hM hls (st_tl hst) hP hS hL)
    · exact h.elim
  · -- goto
    simp [lnOK] at hln; subst hln
    obtain ⟨t, rfl, h⟩ := vtg_of h
    simp [tgOK] at htg
    exact lv_goto hx hb hdg htg (hK _ _ _ _ h H locs lsC hM hls hst hP hS hL)
  · -- ifCond
    rename_i cnd off
    simp [lnOK] at hln; subst hln
    obtain ⟨x, r, rfl, h⟩ := v1_of h
    obtain ⟨t, rfl, ht, hf⟩ := vtg_of h
    simp [tgOK] at htg
    have rx : inR x := hst _ List.mem_cons_self
    have kt := fun q => hK _ _ _ _ (ht q) H locs lsC hM hls (st_tl hst) hP hS hL
    have kf := fun q => hK _ _ _ _ (hf q) H locs lsC hM hls (st_tl hst) hP hS hL
    cases cnd
    · exact lv_if_eq hx hb hdg htg (fun q => kt ((I32_eq rx inR_0).mp (by rw [I32_0]; exact q))) (fun q => kf (fun z => q (by have := (I32_eq rx inR_0).mpr z; rwa [I32_0] at this)))
    · exact lv_if_ne hx hb hdg htg (fun q => kt (fun z => q (by have := (I32_eq rx inR_0).mpr z; rwa [I32_0] at this))) (fun q => kf (fun z => z ((I32_eq rx inR_0).mp (by rw [I32_0]; exact q))))
    · exact lv_if_lt hx hb hdg htg (fun q => kt ((I32_lt rx inR_0).mp (by rw [I32_0]; exact q))) (fun q => kf (fun z => q (by have := (I32_lt rx inR_0).mpr z; rwa [I32_0] at this)))
    · exact lv_if_ge hx hb hdg htg (fun q => kt ((I32_le inR_0 rx).mp (by rw [I32_0]; exact q))) (fun q => kf (fun z => q (by have := (I32_le inR_0 rx).mpr z; rwa [I32_0] at this)))
    · exact lv_if_gt hx hb hdg htg (fun q => kt ((I32_lt inR_0 rx).mp (by rw [I32_0]; exact q))) (fun q => kf (fun z => q (by have := (I32_lt inR_0 rx).mpr z; rwa [I32_0] at this)))
    · exact lv_if_le hx hb hdg htg (fun q => kt ((I32_le rx inR_0).mp (by rw [I32_0]; exact q))) (fun q => kf (fun z => q (by have := (I32_le rx inR_0).mpr z; rwa [I32_0] at this)))
  · -- if_icmp
    rename_i cnd off
    simp [lnOK] at hln; subst hln
    obtain ⟨x, y, r, rfl, h⟩ := v2_of h
    obtain ⟨t, rfl, ht, hf⟩ := vtg_of h
    simp [tgOK] at htg
    have ry : inR y := hst _ List.mem_cons_self
    have rx : inR x := hst _ (List.mem_cons_of_mem _ List.mem_cons_self)
    have kt := fun q => hK _ _ _ _ (ht q) H locs lsC hM hls (st_tl (st_tl hst)) hP hS hL
    have kf := fun q => hK _ _ _ _ (hf q) H locs lsC hM hls (st_tl (st_tl hst)) hP hS hL
    cases cnd
    · exact lv_icmp_eq hx hb hdg htg (fun q => kt ((I32_eq rx ry).mp q)) (fun q => kf (fun z => q ((I32_eq rx ry).mpr z)))
    · exact lv_icmp_ne hx hb hdg htg (fun q => kt (fun z => q ((I32_eq rx ry).mpr z))) (fun q => kf (fun z => z ((I32_eq rx ry).mp q)))
    · exact lv_icmp_lt hx hb hdg htg (fun q => kt ((I32_lt rx ry).mp q)) (fun q => kf (fun z => q ((I32_lt rx ry).mpr z)))
    · exact lv_icmp_ge hx hb hdg htg (fun q => kt ((I32_le ry rx).mp q)) (fun q => kf (fun z => q ((I32_le ry rx).mpr z)))
    · exact lv_icmp_gt hx hb hdg htg (fun q => kt ((I32_lt ry rx).mp q)) (fun q => kf (fun z => q ((I32_lt ry rx).mpr z)))
    · exact lv_icmp_le hx hb hdg htg (fun q => kt ((I32_le rx ry).mp q)) (fun q => kf (fun z => q ((I32_le rx ry).mpr z)))
  · -- tableswitch
    rename_i dflt lo hi0 offs
    obtain ⟨x, r, rfl, h⟩ := v1_of h
    split at h
    next d us =>
      obtain ⟨ho, hi⟩ := h
      simp only [tgOK, Bool.and_eq_true, decide_eq_true_eq] at htg
      obtain ⟨⟨⟨⟨t1, t2⟩, t3⟩, t4⟩, t5⟩ := htg
      have rx : inR x := hst _ List.mem_cons_self
      by_cases q1 : x < lo ∨ hi0 < x
      · exact lv_tableOut hx hb hdg (by rw [I32_toInt rx]; exact q1) t1 (hK _ _ _ _ (ho q1) H locs lsC hM hls (st_tl hst) hP hS hL)
      · obtain ⟨u, g1, g2⟩ := vtab_of hi (by omega) (by omega)
        have g3 : offs[((I32 x).toInt - lo).toNat]? = some ((u : Int) - (pc : Int)) := by
          rw [I32_toInt rx, ← Array.getElem?_toList, t5, List.getElem?_map, g1]; rfl
        exact lv_tableIn hx hb hdg (by rw [I32_toInt rx]; omega) (by rw [I32_toInt rx]; omega) g3 (by omega) (hK _ _ _ _ g2 H locs lsC hM hls (st_tl hst) hP hS hL)
    · exact h.elim
  · -- getfield
    simp [lnOK] at hln; subst hln
    rename_i j
    obtain ⟨a, r, rfl, hk, h⟩ := vA_of h
    obtain ⟨C, T, N, hc, hkN, hlink, hsame⟩ := ftOK_of hft (j := j) (ci := (ftl ft j).1) (k := (ftl ft j).2) rfl (by rw [← hk]; exact hW.2.2 a)
    obtain ⟨-, -, hin, hN, -, -⟩ := clsOK_of hc
    have hci : (ftl ft j).1 < 20 := Nat.lt_of_lt_of_le (lt_or_ge10 hc) (by decide)
    have ha : a < nc := hW.1 a (by rw [hk]; omega)
    have he : (wld ad kd ln cy nc M)[a]? = some (ad a, .inr ((ftl ft j).1, flds ad (ftl ft j).1 a M)) := by rw [wld_at ha, eOf_obj hk hci]
    rw [hN] at hkN
    refine va_get hx hb (Ts := wtb) hts hin hown hKv hP a he hc (ftl ft j).2 (by rw [hN]; exact hkN) (hts _ hlink) (fun z hz => by rw [hsame] at hz; exact hz) (flds_at hkN) hdg ?_
    cases hr : isRf (ftl ft j).1 (ftl ft j).2 with
    | true =>
      rw [hr] at h
      exact hK _ _ _ _ h H locs lsC hM hls (st_pushA (st_tl hst)) hP hS hL
    | false =>
      rw [hr] at h
      exact hK _ _ _ _ h H locs lsC hM hls (st_push (st_tl hst) (hM _ _)) hP hS hL
  · -- putfield
    simp [lnOK] at hln; subst hln
    rename_i j
    unfold vput at h
    split at h
    next x a r =>
      obtain ⟨hk, h⟩ := h
      obtain ⟨hrf, h⟩ := bifn_of h
      obtain ⟨C, T, N, hc, hkN, hlink, hsame⟩ := ftOK_of hft (j := j) (ci := (ftl ft j).1) (k := (ftl ft j).2) rfl (by rw [← hk]; exact hW.2.2 a)
      obtain ⟨⟨ty0, hty⟩, hnm, hin, hN, hI, -⟩ := clsOK_of hc
      obtain ⟨hd, hfin⟩ := hI _ hkN hrf
      have hci : (ftl ft j).1 < 20 := Nat.lt_of_lt_of_le (lt_or_ge10 hc) (by decide)
      have ha : a < nc := hW.1 a (by rw [hk]; omega)
      have he : (wld ad kd ln cy nc M)[a]? = some (ad a, .inr ((ftl ft j).1, flds ad (ftl ft j).1 a M)) := by rw [wld_at ha, eOf_obj hk hci]
      have hkN2 := hkN
      rw [hN] at hkN2
      have rx : inR x := hst _ List.mem_cons_self
      refine va_put hx hb (Ts := wtb) hts hin ty0 hty hnm hown hKv hP hD hS a he hc (ftl ft j).2 hkN (hts _ hlink) (fun z hz => by rw [hsame] at hz; exact hz) hfin hd (v := .int (I32 x)) rfl rfl (by rw [flds_len]; exact hkN2) hdg (fun H1 locs1 hP1 hD1 hS1 => ?_)
      rw [wld_set (f := upR (M a) (ftl ft j).2 x) (by rw [eOf_obj hk hci]; congr 2; exact flds_up hkN2 _ (by rw [hrf]; rfl))] at hP1
      exact hK _ _ _ _ h H1 locs1 lsC (up_inR hM rx) hls (st_tl (st_tl hst)) hP1 hS1 hL
    next b a r =>
      obtain ⟨hk, hkb, hb100, h⟩ := h
      obtain ⟨h86, h⟩ := bif_of h
      have h8 : (ftl ft j).1 = 8 := Nat.eq_of_beq_eq_true (Bool.and_eq_true _ _ ▸ h86).1
      have h67 : (ftl ft j).2 = 6 ∨ (ftl ft j).2 = 7 := by
        rcases (Bool.or_eq_true _ _ ▸ (Bool.and_eq_true _ _ ▸ h86).2) with q | q
        · exact Or.inl (Nat.eq_of_beq_eq_true q)
        · exact Or.inr (Nat.eq_of_beq_eq_true q)
      obtain ⟨C, T, N, hc, hkN, hlink, hsame⟩ := ftOK_of hft (j := j) (ci := (ftl ft j).1) (k := (ftl ft j).2) rfl (by rw [← hk]; exact hW.2.2 a)
      obtain ⟨⟨ty0, hty⟩, hnm, hin, hN, -, hI⟩ := clsOK_of hc
      obtain ⟨hd, hfin⟩ := hI h8 _ h67
      have hci : (ftl ft j).1 < 20 := Nat.lt_of_lt_of_le (lt_or_ge10 hc) (by decide)
      have ha : a < nc := hW.1 a (by rw [hk]; omega)
      have he : (wld ad kd ln cy nc M)[a]? = some (ad a, .inr ((ftl ft j).1, flds ad (ftl ft j).1 a M)) := by rw [wld_at ha, eOf_obj hk hci]
      have hkN2 := hkN
      rw [hN] at hkN2
      refine va_put hx hb (Ts := wtb) hts hin ty0 hty hnm hown hKv hP hD hS a he hc (ftl ft j).2 hkN (hts _ hlink) (fun z hz => by rw [hsame] at hz; exact hz) hfin hd (v := .ref (ad b)) rfl rfl (by rw [flds_len]; exact hkN2) hdg (fun H1 locs1 hP1 hD1 hS1 => ?_)
      rw [wld_set (f := upR (M a) (ftl ft j).2 (b : Int)) (by
        rw [eOf_obj hk hci]; congr 2
        refine flds_up (x := (b : Int)) hkN2 _ ?_
        rw [h8]
        have e1 : rfo 8 (ftl ft j).2 a (up M a (ftl ft j).2 (b : Int)) = b := by
          rcases h67 with q | q <;> rw [q] <;> simp [rfo, up_eq, upA_s, upR_s]
        rcases h67 with q | q <;> rw [q] at e1 ⊢ <;> simp only [isRf, cond_true, e1])] at hP1
      exact hK _ _ _ _ h H1 locs1 lsC (up_inR hM ⟨by omega, by omega⟩) hls (st_tl (st_tl hst)) hP1 hS1 hL
    · exact h.elim
  · -- iaload
    simp [lnOK] at hln; subst hln
    obtain ⟨x, a, r, rfl, hk, ⟨h0, h1⟩, h⟩ := vIA_of h
    have ha : a < nc := hW.1 a (by rw [hk]; omega)
    have rx : inR x := hst _ List.mem_cons_self
    have he : (wld ad kd ln cy nc M)[a]? = some (ad a, .inl (cy 21, ln a, .inl (fun j => I32 (M a j)))) := by rw [wld_at ha, eOf_arr hk (by omega) (by omega)]
    refine va_iald hx hb hKv hP a 1 he rfl (I32_vp rx h0 h1) hdg ?_
    rw [I32_clamp rx]
    exact hK _ _ _ _ h H locs lsC hM hls (st_push (st_tl (st_tl hst)) (hM _ _)) hP hS hL
  · simp [lnOK] at hln; subst hln
    obtain ⟨x, a, r, rfl, hk, ⟨h0, h1⟩, h⟩ := vIA_of h
    have ha : a < nc := hW.1 a (by rw [hk]; omega)
    have rx : inR x := hst _ List.mem_cons_self
    have he : (wld ad kd ln cy nc M)[a]? = some (ad a, .inl (cy 20, ln a, .inl (fun j => I32 (M a j)))) := by rw [wld_at ha, eOf_arr hk (by omega) (by omega)]
    refine va_cald hx hb hKv hP a 0 he rfl (I32_vp rx h0 h1) hdg ?_
    rw [I32_clamp rx]
    exact hK _ _ _ _ h H locs lsC hM hls (st_push (st_tl (st_tl hst)) (hM _ _)) hP hS hL
  · simp [lnOK] at hln; subst hln
    obtain ⟨x, a, r, rfl, hk, ⟨h0, h1⟩, h⟩ := vIA_of h
    have ha : a < nc := hW.1 a (by rw [hk]; omega)
    have rx : inR x := hst _ List.mem_cons_self
    have he : (wld ad kd ln cy nc M)[a]? = some (ad a, .inl (cy 22, ln a, .inl (fun j => I32 (M a j)))) := by rw [wld_at ha, eOf_arr hk (by omega) (by omega)]
    refine va_zald hx hb hKv hP a 2 he rfl (I32_vp rx h0 h1) hdg ?_
    rw [I32_clamp rx]
    exact hK _ _ _ _ h H locs lsC hM hls (st_push (st_tl (st_tl hst)) (hM _ _)) hP hS hL
  · -- aaload
    simp [lnOK] at hln; subst hln
    obtain ⟨x, a, r, rfl, hk, ⟨h0, h1⟩, h⟩ := vIA_of h
    have ha : a < nc := hW.1 a (by rw [hk]; omega)
    have rx : inR x := hst _ List.mem_cons_self
    have he : (wld ad kd ln cy nc M)[a]? = some (ad a, .inl (cy 23, ln a, .inr (.inr (.inr (.inr (fun i => some (ad (a + 1 + i)))))))) := by rw [wld_at ha, eOf_rows hk]
    have hin : vp_in (I32 x) (ln a) := I32_vp rx h0 h1
    have hlt : (I32 x).toNatClampNeg < ln a := Nat.not_le.mp fun q => hin (Or.inr q)
    refine W.aald (v := .ref (ad (a + 1 + x.toNat))) (ty := .array .int) hx hb (hP a _ he) ((hKv.2 3 _ rfl).1 (ln a) (fun j => va_rf (some (ad (a + 1 + j))))) rfl (fun q => by cases q) (by show ¬ (I32 x < 0 ∨ (arrV _ _ _).slots.size ≤ _); rw [arrV_size]; exact hin) (by show (arrV _ _ _).slots[_]? = _; rw [arrV_read _ _ hlt, I32_clamp rx]; rfl) rfl rfl hdg ?_
    exact hK _ _ _ _ h H locs lsC hM hls (st_pushA (st_tl (st_tl hst))) hP hS hL
  · -- iastore
    simp [lnOK] at hln; subst hln
    obtain ⟨y, x, a, r, rfl, hk, ⟨h0, h1⟩, h⟩ := vIIA_of h
    have ha : a < nc := hW.1 a (by rw [hk]; omega)
    have ry : inR y := hst _ List.mem_cons_self
    have rx : inR x := hst _ (List.mem_cons_of_mem _ List.mem_cons_self)
    have he : (wld ad kd ln cy nc M)[a]? = some (ad a, .inl (cy 21, ln a, .inl (fun j => I32 (M a j)))) := by rw [wld_at ha, eOf_arr hk (by omega) (by omega)]
    refine va_iast hx hb hKv hP hD hS a 1 he rfl (I32_vp rx h0 h1) hdg (fun H1 locs1 hP1 hD1 hS1 => ?_)
    rw [I32_clamp rx, ← upI, wld_set (f := upR (M a) x.toNat y) (by rw [eOf_arr hk (by omega) (by omega), upA_s])] at hP1
    exact hK _ _ _ _ h H1 locs1 lsC (up_inR hM ry) hls (st_tl (st_tl (st_tl hst))) hP1 hS1 hL
  · -- castore
    simp [lnOK] at hln; subst hln
    obtain ⟨y, x, a, r, rfl, hk, ⟨h0, h1⟩, ⟨c0, c1⟩, h⟩ := vIIA_of h
    have ha : a < nc := hW.1 a (by rw [hk]; omega)
    have ry : inR y := hst _ List.mem_cons_self
    have rx : inR x := hst _ (List.mem_cons_of_mem _ List.mem_cons_self)
    have he : (wld ad kd ln cy nc M)[a]? = some (ad a, .inl (cy 20, ln a, .inl (fun j => I32 (M a j)))) := by rw [wld_at ha, eOf_arr hk (by omega) (by omega)]
    have hn : vp_nar .char (I32 y) = I32 y := by
      have e1 : I32 y = nI y.toNat := by
        show Int32.ofInt y = Int32.ofNat y.toNat
        rw [← Int32.ofInt_eq_ofNat]; congr 1; omega
      have e2 := (pk_charN (q := y.toNat) (by omega)).1
      unfold vp_nar
      rw [e1, e2]
    refine va_cast hx hb hKv hP hD hS a 0 he rfl (I32_vp rx h0 h1) hdg (fun H1 locs1 hP1 hD1 hS1 => ?_)
    rw [hn, I32_clamp rx, ← upI, wld_set (f := upR (M a) x.toNat y) (by rw [eOf_arr hk (by omega) (by omega), upA_s])] at hP1
    exact hK _ _ _ _ h H1 locs1 lsC (up_inR hM ry) hls (st_tl (st_tl (st_tl hst))) hP1 hS1 hL
  · -- bastore
    simp [lnOK] at hln; subst hln
    obtain ⟨y, x, a, r, rfl, hk, ⟨h0, h1⟩, c0, h⟩ := vIIA_of h
    have ha : a < nc := hW.1 a (by rw [hk]; omega)
    have ry : inR y := hst _ List.mem_cons_self
    have rx : inR x := hst _ (List.mem_cons_of_mem _ List.mem_cons_self)
    have he : (wld ad kd ln cy nc M)[a]? = some (ad a, .inl (cy 22, ln a, .inl (fun j => I32 (M a j)))) := by rw [wld_at ha, eOf_arr hk (by omega) (by omega)]
    have hn : vp_nar .boolean (I32 y) = I32 y := by rcases c0 with rfl | rfl <;> decide
    refine va_zast hx hb hKv hP hD hS a 2 he rfl (I32_vp rx h0 h1) hdg (fun H1 locs1 hP1 hD1 hS1 => ?_)
    rw [hn, I32_clamp rx, ← upI, wld_set (f := upR (M a) x.toNat y) (by rw [eOf_arr hk (by omega) (by omega), upA_s])] at hP1
    exact hK _ _ _ _ h H1 locs1 lsC (up_inR hM ry) hls (st_tl (st_tl (st_tl hst))) hP1 hS1 hL
  · -- ireturn
    simp [lnOK] at hln; subst hln
    split at h
    next x => exact (hend x M H locs lsC pc h.2 (hst _ List.mem_cons_self) hM hP hS).1 h.1 hdg
    · exact h.elim
  · simp [lnOK] at hln; subst hln
    split at h
    next a => exact (hend (a : Int) M H locs lsC pc h.2.2 ⟨by omega, by omega⟩ hM hP hS).2.1 h.1 hdg
    · exact h.elim
  · simp [lnOK] at hln; subst hln
    split at h
    · exact (hend 0 M H locs lsC pc h.2 inR_0 hM hP hS).2.2 h.1 hdg
    · exact h.elim
  · exact hcl ⟨_, Or.inl rfl⟩ ls st M _ h (fun st' M' hk => hK _ _ _ _ hk) H locs lsC hM hls hst hP hS hL
  · exact hcl ⟨_, Or.inr rfl⟩ ls st M _ h (fun st' M' hk => hK _ _ _ _ hk) H locs lsC hM hls hst hP hS hL
  · exact h.elim
end SND
