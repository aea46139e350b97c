/-! ===== a world with one row more, and contracts carried over to it ===== -/
def kdZ (a : Nat) : Nat := if a = 46 then 21 else kdX a
def lnZ (n a : Nat) : Nat := if a = 46 then n else lnX a
theorem kdZ_lo {a : Nat} (h : a < 46) : kdZ a = kdX a := if_neg (by omega)
theorem lnZ_lo {n a : Nat} (h : a < 46) : lnZ n a = lnX a := if_neg (by omega)
theorem kdZ_of {a : Nat} {q : vw_C} (h : vwCl[kdX a]? = some q) : kdZ a = kdX a := kdZ_lo (kd_lt (fun z => by rw [z] at h; cases h))
theorem jWZ {n : Nat} (hn : n ≤ 100000) : jW kdZ (lnZ n) 47 := by
  refine ⟨fun a h => ?_, fun a => ?_, fun a => ?_⟩
  · by_cases q : a = 46
    · omega
    · unfold kdZ at h
      rw [if_neg q] at h
      have := jWX.1 a h
      omega
  · unfold lnZ
    split
    · exact hn
    · exact jWX.2.1 a
  · unfold kdZ
    split
    · decide
    · exact jWX.2.2 a
def glu (M1 M : Mem) : Mem := fun a => if a < 46 then M1 a else M a
theorem glu_lo {M1 M : Mem} {a : Nat} (h : a < 46) : glu M1 M a = M1 a := if_pos h
theorem glu_hi {M1 M : Mem} {a : Nat} (h : 46 ≤ a) : glu M1 M a = M a := if_neg (by omega)
theorem glu_eq {M1 M : Mem} (h : M1 = M) : glu M1 M = M := by
  subst h
  funext a
  unfold glu
  split <;> rfl
theorem absX_lo {M M' σ : Mem} (h : absX M σ) (e : ∀ b, b < 46 → M' b = M b) : absX M' σ := by
  have hp := h.1.2.2.2.2.2.2
  refine ⟨absB_congr h.1 (fun b _ _ _ _ _ b6 => e b (by omega)), ?_⟩
  rw [e 0 (by decide)]
  exact partsOK_cg h.2 (fun b hb => e b (by omega))
theorem absX_glu {M1 M σ : Mem} (h : absX M1 σ) : absX (glu M1 M) σ := absX_lo h (fun _ hb => glu_lo hb)
section LZ
variable {D : va_G} {cy : Nat → ClassId} {ad : Nat → Nat} {n : Nat} {M M1 : Mem} {H : Heap}
theorem eOf_Z {a : Nat} (h : a < 46) : eOf ad kdZ (lnZ n) cy M a = eOf ad kdX lnX cy M a := by
  unfold eOf
  rw [kdZ_lo h, lnZ_lo h]
theorem wld_lt {kd ln : Nat → Nat} {nc k : Nat} {q : Nat × va_E} (h : (wld ad kd ln cy nc M)[k]? = some q) : k < nc := by
  have := (List.getElem?_eq_some_iff.mp h).1
  simpa [wld] using this
theorem wldZ_X (h : va_P D vwCl (wld ad kdZ (lnZ n) cy 47 M) H) : va_P D vwCl (wld ad kdX lnX cy 46 M) H := by
  intro k q hk
  have hl := wld_lt hk
  refine h k q ?_
  rw [wld_at hl] at hk
  rw [wld_at (by omega), eOf_Z hl]
  exact hk
theorem wldZ_46 (h : va_P D vwCl (wld ad kdZ (lnZ n) cy 47 M) H) : va_at D vwCl (ad 46, .inl (cy 21, n, .inl (fun j => I32 (M 46 j)))) H := h 46 _ (wld_at (by decide))
theorem wldX_Z (h : va_P D vwCl (wld ad kdX lnX cy 46 M) H) (h2 : va_at D vwCl (ad 46, .inl (cy 21, n, .inl (fun j => I32 (M 46 j)))) H) : va_P D vwCl (wld ad kdZ (lnZ n) cy 47 M) H := by
  intro k q hk
  have hl := wld_lt hk
  by_cases e : k = 46
  · subst e
    rw [wld_at hl] at hk
    cases hk
    exact h2
  · refine h k q ?_
    rw [wld_at hl, eOf_Z (by omega)] at hk
    rw [wld_at (by omega)]
    exact hk
theorem wld_cg {kd ln : Nat → Nat} {nc : Nat} (h : va_P D vwCl (wld ad kd ln cy nc M) H) (e : ∀ a, a < nc → M1 a = M a) : va_P D vwCl (wld ad kd ln cy nc M1) H := by
  intro k q hk
  have hl := wld_lt hk
  refine h k q ?_
  rw [wld_at hl] at hk ⊢
  rw [eOf_congr (e k hl)] at hk
  exact hk
theorem jA_le {a b : Nat} (h : jA ad b) (hab : a ≤ b) : jA ad a := fun x y hx hy => h x y (by omega) (by omega)
theorem glu_ok (h1 : okM M1) (h : okM M) : okM (glu M1 M) := fun a k => by
  unfold glu
  split
  · exact h1 a k
  · exact h a k
theorem FR_46 (hA : jA ad 47) : ¬ FR ad 46 (ad 46) := fun ⟨a, h1, h2⟩ => by
  have := hA a 46 (by omega) (by decide) h2
  omega
theorem FR_le {a b q : Nat} (hab : a ≤ b) (h : FR ad a q) : FR ad b q := by
  obtain ⟨c, h1, h2⟩ := h
  exact ⟨c, by omega, h2⟩
theorem va_at_arr {x N : Nat} {cA : ClassId} {f : Nat → Int32} {H1 : Heap} (h : va_at D vwCl (x, .inl (cA, N, .inl f)) H) (e : H1[x]? = H[x]?) : va_at D vwCl (x, .inl (cA, N, .inl f)) H1 := by
  show H1[x]? = _
  rw [e]
  exact h
end LZ
theorem lift_Z {l : Launch} {D : va_G} {cy : Nat → ClassId} {ad : Nat → Nat} {n : Nat} {y : MethodName} {code : ByteArray} {maxL : Nat} {ret : Option FieldType} {rm : Room} {rty : Nat} {P : List AV → Mem → Prop} {C C' : List AV → Mem → Int → Mem → Prop}
    (hA : jA ad 47) (h : MetA l D cy ad kdX lnX 46 y code maxL ret rm rty P C) (hC : ∀ as M x M1, C as M x M1 → C' as M x (glu M1 M)) : MetA l D cy ad kdZ (lnZ n) 47 y code maxL ret rm rty P C' := by
  intro as M hP hM has
  have h1 := h as M hP hM has
  intro p e ha hc hk s m args below hf happ hPc hK
  obtain ⟨hargs, hw, hKv⟩ := hPc
  obtain ⟨n0, o, w1, w2, w3, ⟨⟨x, M1, e1, rx, hM1, hC1, hP1⟩, hF⟩, L, hFE, hL⟩ := h1 p e ha hc hk s m args below hf happ ⟨hargs, wldZ_X hw, hKv⟩ hK
  have h46 := wldZ_46 hw
  have hlt : ad 46 < s.heap.size := (hw 46 _ (wld_at (by decide))).lt
  refine ⟨n0, o, w1, w2, w3, ⟨⟨x, glu M1 M, e1, rx, glu_ok hM1 hM, hC _ _ _ _ hC1, wldX_Z (wld_cg hP1 (fun a ha => glu_lo ha)) ?_⟩, hF.1, fun q h1 h2 => hF.2 q h1 (fun z => h2 (FR_le (by decide) z))⟩, L, hFE, fun q hq => FR_le (by decide) (hL q hq)⟩
  rw [glu_hi (Nat.le_refl 46)]
  exact va_at_arr h46 (hF.2 _ hlt (FR_46 hA))
/-! ===== a method of the law in pieces, each with its own small tables ===== -/
/-- a run from pc to the next of the cuts, over some tables of the code -/
def VCs (l : Launch) (D : va_G) (cy : Nat → ClassId) (ad kd ln : Nat → Nat) (nc : Nat) (code : ByteArray) (own : String) (rm : Room) (ex : List (Nat × Value)) (cst : Nat → Int) (rty : Nat) (post : Int → Mem → Prop) (cuts : List Nat) (J : KT) : KT := fun pc ls st M =>
  ∃ (tb : TB) (ct : List (Nat × CS)) (F : Nat), tbOK code tb = true ∧ tbL tb = true ∧ ldcB tb cst = true ∧ exT ex tb ∧ (∀ q ∈ ct, Site l D cy ad kd ln nc own tb rm q.1 q.2) ∧ vc kd ln tb (ftl []) cst rty post ct cuts J F pc ls st M
section SEG
variable {p : Program} {l : Launch} {e : Env} {R : Room} {s : State} {m : MethodId} {args : Array Value} {below : List Frame} {meth : Method} {c : Code}
variable {cc : ByteArray} {nL : Nat} {own : String} {D : va_G} {cy : Nat → ClassId} {ad kd ln : Nat → Nat} {nc : Nat} {A : Nat → Prop} {cells slots : Nat} {ex : List (Nat × Value)} {H0 : Heap} {Q : State → Prop}
/-- all that a piece wants of the place where it is run -/
def jC (p : Program) (l : Launch) (e : Env) (R : Room) (s : State) (m : MethodId) (args : Array Value) (below : List Frame) (meth : Method) (c : Code) (cc : ByteArray) (nL : Nat) (own : String) (D : va_G) (cy : Nat → ClassId) (ad kd ln : Nat → Nat) (nc : Nat) (A : Nat → Prop) (cells slots : Nat) (H0 : Heap) (Q : State → Prop) (rty : Nat) (post : Int → Mem → Prop) : Prop :=
  jEnv p s m args c cc nL own D cy ∧ jA ad nc ∧ jW kd ln nc ∧ (∀ a, a < nc → A (ad a)) ∧ (cells ≤ R.cells ∧ slots ≤ R.slots) ∧ jEnd p l e R s m args below meth c cc D cy ad kd ln nc A cells slots H0 Q rty post
theorem jC_snd {rty : Nat} {post : Int → Mem → Prop} {cst : Nat → Int} {cuts : List Nat} {J : KT}
    (C : jC p l e R s m args below meth c cc nL own D cy ad kd ln nc A cells slots H0 Q rty post) (hcst : ∀ j, cst j ≠ 0 → Cond.constant own j (I32 (cst j)) ∈ wtb ∧ inR (cst j))
    {pc : Nat} {ls : List (Option AV)} {st : List AV} {M : Mem} (h : VCs l D cy ad kd ln nc cc own R ex cst rty post cuts J pc ls st M) (hJ : ∀ pc ls st M, J pc ls st M → jSt p l e R s m args below meth c nL D cy ad kd ln nc A cells slots ex H0 Q pc ls st M) :
    jSt p l e R s m args below meth c nL D cy ad kd ln nc A cells slots ex H0 Q pc ls st M := by
  obtain ⟨hE, hA, hW, hF, hcs, hend⟩ := C
  obtain ⟨tb, ct, F, htb, htl, hld, hxt, hct, h⟩ := h
  have hcl : ∀ (pc : Nat) (i : Instr) (n : Nat) (ts : List Nat), tb.lookup pc = some (i, n, ts) → (∃ j, i = .invokevirtual j ∨ i = .invokestatic j) → ∀ (ls : List (Option AV)) (st : List AV) (N : Mem) (K : List AV → Mem → Prop), vcall (ct.lookup pc) st N K →
      (∀ st' M', K st' M' → jSt p l e R s m args below meth c nL D cy ad kd ln nc A cells slots ex H0 Q (pc + n) ls st' M') → jSt p l e R s m args below meth c nL D cy ad kd ln nc A cells slots ex H0 Q pc ls st N := by
    intro pc i n ts hl hi ls st N K hv hK
    have hn : n = 3 := by
      have := List.all_eq_true.mp htl _ (lookup_mem hl)
      obtain ⟨j, rfl | rfl⟩ := hi <;> simpa [lnOK] using this
    subst hn
    cases hc : ct.lookup pc with
    | none => rw [hc] at hv; exact hv.elim
    | some cs =>
      rw [hc] at hv
      exact site_snd hF hcs hE htb hW hA (hct _ (lookup_mem hc)) hv hK
  exact vc_snd (fun (pc : Nat) (i : Instr) (n : Nat) (ts : List Nat) (hl : tb.lookup pc = some (i, n, ts)) (ls : List (Option AV)) (st : List AV) (N : Mem) (K : KT) h hK => step_snd hE hW hA hF hxt htb htl rfl hcst (ldc_of hld) hend hcl hl (ls := ls) (st := st) (M := N) (K := K) h hK) hJ F pc ls st M h
/-- behind a call of any contract -/
theorem jn_go {mc ms pc : Nat} {lsC : Array Slot} {st0 rest : List Value} {H : Heap} {locs : List Loc} {Qa : State → Outcome → State → Prop} {free : Nat → Prop} (hr : va_Run p l e R s m args below meth c H locs cells slots mc ms (F0 m pc lsC st0) rest Qa free) (hS : va_S A H0 H locs) (hF : ∀ q, free q → A q) (hQ : ∀ st oc t, Qa st oc t → va_F free st t)
    (kk : ∀ (v : Option Value) (st t : State) (locs1 : List Loc), st.heap = H → Qa st (.returned v) t → va_S A H0 t.heap locs1 → W p l e R s m args below meth c t.heap locs1 (cells + mc) (slots + ms) Q (F0 m (pc + 3) lsC (v.toList ++ rest))) :
    W p l e R s m args below meth c H locs cells slots Q (F0 m pc lsC st0) := by
  intro T hT X
  obtain ⟨v, st₀, t, T', L, h0, X', hL, e1, e2, hQa, st⟩ := hr T hT X
  obtain ⟨hz, hk⟩ := hQ _ _ _ hQa
  rw [h0] at hz hk
  obtain ⟨t2, a1, b1⟩ := kk v st₀ t (locs ++ L) h0 hQa
    ⟨Nat.le_trans hS.1 hz, fun q h1 h2 => by rw [hk q (Nat.lt_of_lt_of_le h1 hS.1) (fun z => h2 (hF q z))]; exact hS.2.1 q h1 h2, fun q hq => by
      rcases List.mem_append.mp hq with h | h
      · exact hS.2.2 q h
      · exact hF _ (hL q h)⟩ T' e1 X'
  exact ⟨t2, st t2 a1, b1⟩
end SEG
/-- a whole method: from its entry to the cuts, from each cut to the next with a smaller measure, or to the end -/
theorem met_of2 {l : Launch} {D : va_G} {cy : Nat → ClassId} {ad kd ln : Nat → Nat} {nc : Nat} {y : MethodName} {code : ByteArray} {maxL : Nat} {ret : Option FieldType} {rm : Room} {rty : Nat} {P : List AV → Mem → Prop} {C : List AV → Mem → Int → Mem → Prop}
    {cst : Nat → Int} {cuts : List Nat} (I : List AV → Mem → IT)
    (hA : jA ad nc) (hW : jW kd ln nc) (hy : plainName y.cls = true) (hcst : ∀ j, cst j ≠ 0 → Cond.constant y.cls j (I32 (cst j)) ∈ wtb ∧ inR (cst j)) (hret : retOf rty ret)
    (hlen : ∀ as M, P as M → as.length ≤ maxL)
    (hent : ∀ as M, P as M → (∀ a k, inR (M a k)) → (∀ x, Sum.inl x ∈ as → inR x) → VCs l D cy ad kd ln nc code y.cls rm [] cst rty (C as M) cuts (jJ (I as M)) 0 (as.map some ++ List.replicate (maxL - as.length) none) [] M)
    (hcut : ∀ as M, P as M → (∀ a k, inR (M a k)) → (∀ x, Sum.inl x ∈ as → inR x) → ∀ pc ls st M' n, I as M pc ls st M' n → (∀ a k, inR (M' a k)) → VCs l D cy ad kd ln nc code y.cls rm [] cst rty (C as M) cuts (jJ1 (I as M) n) pc ls st M') :
    MetA l D cy ad kd ln nc y code maxL ret rm rty P C := by
  intro as M hP hM has
  refine Met.ofW (cc := code) (maxL := maxL) (ret := ret) hy rfl ?_
  intro p e s m args below meth c s₁ B hml hv
  obtain ⟨rfl, hPw, hK⟩ := hv
  have hts := atoms_spec (ws := Cond.code y code maxL ret :: wtb) B.pre
  have hown : s.vm.findClass y.cls = some m.cls := findClass_of_methodNamed B.named
  have hE : jEnv p s m (as.map (cV ad)).toArray c code maxL y.cls D cy := ⟨B.exec, B.bytes, hml, hown, fun w hw => hts w (List.mem_cons_of_mem _ hw), hK⟩
  have hend := end_snd (l := l) (e := e) (R := rm) (below := below) (ad := ad) (kd := kd) (ln := ln) (nc := nc) (post := C as M) hE B.returns hret B.notSynchronized
  have hC : jC p l e rm s m (as.map (cV ad)).toArray below meth c code maxL y.cls D cy ad kd ln nc (FR ad nc) 0 0 s.heap (MQ below (jQ D cy ad kd ln nc rty (C as M)) (as.map (cV ad)).toArray s 0 0 (FR ad nc)) rty (C as M) :=
    ⟨hE, hA, hW, fun a ha => ⟨a, ha, rfl⟩, ⟨Nat.zero_le _, Nat.zero_le _⟩, hend⟩
  have hloop : ∀ (n : Nat) (pc : Nat) (ls : List (Option AV)) (st : List AV) (M' : Mem), I as M pc ls st M' n → jSt p l e rm s m (as.map (cV ad)).toArray below meth c maxL D cy ad kd ln nc (FR ad nc) 0 0 [] s.heap (MQ below (jQ D cy ad kd ln nc rty (C as M)) (as.map (cV ad)).toArray s 0 0 (FR ad nc)) pc ls st M' := by
    intro n
    induction n using Nat.strongRecOn with
    | ind n ih =>
      intro pc ls st M' hI H locs lsC hM' hls hst hP' hS' hL'
      refine jC_snd hC hcst (hcut as M hP hM has pc ls st M' n hI hM') ?_ H locs lsC hM' hls hst hP' hS' hL'
      rintro pc ls st M2 ⟨μ, hμ, hI2⟩
      exact ih μ hμ pc ls st M2 hI2
  have hall := jC_snd hC hcst (J := jJ (I as M)) (hent as M hP hM has) (by
    rintro pc ls st M2 ⟨μ, hI2⟩
    exact hloop μ pc ls st M2 hI2)
  rw [lg_entry_eq]
  refine hall s.heap [] _ hM (fun x hx => ?_) (fun x hx => by cases hx) hPw va_S.rf (jL_entry (hlen as M hP))
  rcases List.mem_append.mp hx with h | h
  · obtain ⟨v, h1, h2⟩ := List.mem_map.mp h
    cases h2
    exact has x h1
  · have := List.eq_of_mem_replicate h
    cases this
