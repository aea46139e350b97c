/-! ===== the law's edits as one contract ===== -/
theorem ca_L_print : CalS yL_print cL_print 4 (some .long) 1 := ⟨⟨wcL_print, wnL, by decide +kernel, by decide +kernel, by decide +kernel⟩, wsL_print⟩
section JP
variable {p : Program} {l : Launch} {e : Env} {R : Room} {s : State} {m : MethodId} {args : Array Value} {below : List Frame} {meth : Method} {c : Code} {cc : ByteArray} {nL : Nat} {D : va_G} {cy : Nat → ClassId} {ad : Nat → Nat} {A : Nat → Prop} {cells slots : Nat} {H0 : Heap} {Q : State → Prop}
/-- the number of the map, wherever it is asked for -/
theorem jw_print (hE : jEnv p s m args c cc nL RL D cy) (hA : jA ad 46) (hF : ∀ a, a < 46 → A (ad a)) (hrm : rm_L_print.frames + 1 ≤ R.frames ∧ 8 + (4 + 11) + rm_L_print.locals ≤ R.locals) (hcs : cells ≤ R.cells ∧ slots ≤ R.slots)
    {pc : Nat} (hdg : decode cc pc = .ok (.invokestatic 70, 3)) {lsC : Array Slot} (hsz : lsC.size = nL) {M : Mem} (hσ : ∃ σ, absX M σ) (hM : okM M) {H : Heap} {locs : List Loc} (hP : va_P D vwCl (wld ad kdX lnX cy 46 M) H) (hS : va_S A H0 H locs)
    (kk : ∀ (v : Int64) (M1 : Mem) (H1 : Heap) (locs1 : List Loc), okM M1 → (∀ σ, absX M σ → v = prS σ ∧ absX M1 σ) → va_P D vwCl (wld ad kdX lnX cy 46 M1) H1 → va_S A H0 H1 locs1 → (∀ q, q < H.size → ¬ FR ad 46 q → H1[q]? = H[q]?) → W p l e R s m args below meth c H1 locs1 cells slots Q (F0 m (pc + 3) lsC [.long v])) :
    W p l e R s m args below meth c H locs cells slots Q (F0 m pc lsC [.ref (ad 0)]) := by
  obtain ⟨⟨w1, w2, w3, w4, w5⟩, w6⟩ := ca_L_print
  obtain ⟨hx, hb, hml, hown, hts, hKv⟩ := id hE
  have hT : GoodIn wtb (wsS RL 70 yL_print (Cond.code yL_print cL_print 4 (some .long) :: wtb)) := by
    intro w hw
    unfold wsS at hw
    rcases List.mem_append.mp hw with hw | hw
    · simp only [List.mem_cons, List.not_mem_nil, or_false] at hw
      rcases hw with rfl | rfl | rfl
      · exact ⟨wtb_in mkL_70 rfl, good_of_word rfl⟩
      · exact ⟨wtb_in w6 rfl, good_of_word rfl⟩
      · exact ⟨wtb_in w2 rfl, good_of_word rfl⟩
    · exact good_cons (big := wtb) w1 w hw
  have hrun := va_runS (p := p) (l := l) (e := e) (R := R) (s := s) (m := m) (args := args) (below := below) (meth := meth) (c := c) (H := H) (locs := locs) (cells := cells) (slots := slots) (mc := 0) (ms := 0) (As := [.ref (ad 0)]) (rest := []) (g := F0 m pc lsC [.ref (ad 0)])
    ⟨hx, hb, hml, hown, hts⟩ (ok_L_print hA M hσ hM) (cwS 1 hts hT rfl rfl rfl ⟨rfl, w3, w4, w5⟩ hrm)
    ⟨fun a U g mk q => ⟨q.1, q.2.1, va_K.moved (u := U) (U := U.calling g mk a) (Vm.Alike.refl U.vm) q.2.2⟩, fun U hU hW2 => ⟨rfl, by rw [hU]; exact hP, va_K.moved hW2.alike hKv⟩⟩
    rfl rfl hsz rfl (by show 2 * 0 + 0 ≤ 8; decide) hdg hcs
  have hFA : ∀ q, FR ad 46 q → A q := fun q ⟨a, h1, h2⟩ => by rw [← h2]; exact hF a h1
  refine jn_go hrun hS hFA (fun st oc t hq => hq.2) (fun v st0 t locs1 h0 hq hS1 => ?_)
  obtain ⟨⟨v1, M1, hv, hM1, hC1, hP1⟩, hz, hk⟩ := hq
  have hv2 : v = some (.long v1) := Outcome.returned.inj hv
  subst hv2
  rw [h0] at hz hk
  exact kk v1 M1 t.heap locs1 hM1 hC1 hP1 hS1 hk
end JP
section ED1
variable {p : Program} {l : Launch} {e : Env} {s : State} {m : MethodId} {args : Array Value} {below : List Frame} {meth : Method} {c : Code} {D : va_G} {cy : Nat → ClassId} {ad : Nat → Nat} {A : Nat → Prop} {cells slots : Nat} {H0 : Heap} {Q : State → Prop} {M0 σ0 : Mem} {g k j : Int}
theorem ej_34 (hE : jEnv p s m args c cL_edits 15 RL D cy) (hA : jA ad 46) (hF : ∀ a, a < 46 → A (ad a)) (hcs : cells ≤ rm_L_edits.cells ∧ slots ≤ rm_L_edits.slots) (hσ : absX M0 σ0)
    (H39 : ∀ (w7_ : Option AV) (w8_ : Option AV) (w9_ : Option AV) (w10_ : Option AV) (w11_ : Option AV) (w12_ : Option AV) (w13_ : Option AV) (w14_ : Option AV) (g1 : Int) (k1 : Int) (j1 : Int) (r : Int) (t : Int) (d : Int) (M : Mem), E39 M0 σ0 g k j g1 k1 j1 r t d M → jSt p l e rm_L_edits s m args below meth c 15 D cy ad kdX lnX 46 A cells slots [(7, .long (prS σ0))] H0 Q 39 [some (.inr 0), some (.inl g1), some (.inl k1), some (.inl j1), some (.inl r), some (.inl t), some (.inl d), w7_, w8_, w9_, w10_, w11_, w12_, w13_, w14_] [] M) :
    ∀ (w7_ : Option AV) (w8_ : Option AV) (w9_ : Option AV) (w10_ : Option AV) (w11_ : Option AV) (w12_ : Option AV) (w13_ : Option AV) (w14_ : Option AV) (g1 : Int) (k1 : Int) (j1 : Int) (r : Int) (t : Int) (d : Int) (M : Mem), E34 M0 σ0 g k j g1 k1 j1 r t d M → jSt p l e rm_L_edits s m args below meth c 15 D cy ad kdX lnX 46 A cells slots [] H0 Q 34 [some (.inr 0), some (.inl g1), some (.inl k1), some (.inl j1), some (.inl r), some (.inl t), some (.inl d), w7_, w8_, w9_, w10_, w11_, w12_, w13_, w14_] [.inr 0] M := by
  obtain ⟨hx, hb, -, -, -, -⟩ := id hE
  rintro w7_ w8_ w9_ w10_ w11_ w12_ w13_ w14_ g1 k1 j1 r t d M ⟨hK, T⟩ H locs lsC hM hls hst hP hS hL
  have hl := jL_lv hL [(0, .ref (ad 0)), (1, .int (I32 g1)), (2, .int (I32 k1)), (3, .int (I32 j1)), (4, .int (I32 r)), (5, .int (I32 t)), (6, .int (I32 d))] (fun q hq => by
    simp only [List.mem_cons, List.not_mem_nil, or_false] at hq
    rcases hq with rfl | rfl | rfl | rfl | rfl | rfl | rfl
    · exact Or.inl ⟨.inr 0, rfl, rfl⟩
    · exact Or.inl ⟨.inl g1, rfl, rfl⟩
    · exact Or.inl ⟨.inl k1, rfl, rfl⟩
    · exact Or.inl ⟨.inl j1, rfl, rfl⟩
    · exact Or.inl ⟨.inl r, rfl, rfl⟩
    · exact Or.inl ⟨.inl t, rfl, rfl⟩
    · exact Or.inl ⟨.inl d, rfl, rfl⟩)
  refine jw_print hE hA hF ⟨Nat.le_of_ble_eq_true rfl, Nat.le_of_ble_eq_true rfl⟩ hcs dL_edits_34 hl.1 ⟨σ0, T σ0 hσ⟩ hM hP hS (fun v M1 H1 locs1 hM1 hc hP1 hS1 _ => ?_)
  obtain rfl : v = prS σ0 := (hc σ0 (T σ0 hσ)).1
  refine lv_lstore (lv' := [(7, .long (prS σ0)), (0, .ref (ad 0)), (1, .int (I32 g1)), (2, .int (I32 k1)), (3, .int (I32 j1)), (4, .int (I32 r)), (5, .int (I32 t)), (6, .int (I32 d))]) hx hb dL_edits_37 hl (by decide) rfl (fun ls hl => ?_)
  refine H39 none none none none none none none none g1 k1 j1 r t d M1 ⟨hK, fun σ hσ => (hc σ (T σ hσ)).2⟩ H1 locs1 ls hM1 (fun x hx => hls x ?_) (fun x hx => absurd hx List.not_mem_nil) hP1 hS1 (jL_mk rfl hl ?_ ?_)
  · simp only [List.mem_cons, List.not_mem_nil, or_false, Option.some.injEq, reduceCtorEq, false_or, Sum.inl.injEq] at hx ⊢
    rcases hx with h | h | h | h | h | h <;> simp [h]
  · intro i w hw
    match i, hw with
    | 0, hw => cases hw; simp [cV]
    | 1, hw => cases hw; simp [cV]
    | 2, hw => cases hw; simp [cV]
    | 3, hw => cases hw; simp [cV]
    | 4, hw => cases hw; simp [cV]
    | 5, hw => cases hw; simp [cV]
    | 6, hw => cases hw; simp [cV]
    | 7, hw => cases hw
    | 8, hw => cases hw
    | 9, hw => cases hw
    | 10, hw => cases hw
    | 11, hw => cases hw
    | 12, hw => cases hw
    | 13, hw => cases hw
    | 14, hw => cases hw
    | i + 15, hw => simp at hw
  · intro q hq
    rcases List.mem_cons.mp hq with rfl | h
    · exact List.mem_cons_self
    · exact absurd h List.not_mem_nil
theorem ej_540x (hE : jEnv p s m args c cL_edits 15 RL D cy) (hA : jA ad 46) (hF : ∀ a, a < 46 → A (ad a)) (hcs : cells ≤ rm_L_edits.cells ∧ slots ≤ rm_L_edits.slots) (hσ : absX M0 σ0)
    (H549 : ∀ (w7_ : Option AV) (w8_ : Option AV) (w9_ : Option AV) (w11_ : Option AV) (w12_ : Option AV) (w13_ : Option AV) (w14_ : Option AV) (g1 : Int) (k1 : Int) (j1 : Int) (r : Int) (t : Int) (d : Int) (y : Int) (M : Mem), E549 M0 σ0 g k j g1 k1 j1 r t d y M → jSt p l e rm_L_edits s m args below meth c 15 D cy ad kdX lnX 46 A cells slots [(7, .long (prS σ0))] H0 Q 549 [some (.inr 0), some (.inl g1), some (.inl k1), some (.inl j1), some (.inl r), some (.inl t), some (.inl d), w7_, w8_, w9_, some (.inl y), w11_, w12_, w13_, w14_] [] M) :
    ∀ (w7_ : Option AV) (w8_ : Option AV) (w9_ : Option AV) (w11_ : Option AV) (w12_ : Option AV) (w13_ : Option AV) (w14_ : Option AV) (g1 : Int) (k1 : Int) (j1 : Int) (r : Int) (t : Int) (d : Int) (y : Int) (M : Mem), E540 M0 σ0 g k j g1 k1 j1 r t d y M → jSt p l e rm_L_edits s m args below meth c 15 D cy ad kdX lnX 46 A cells slots [(7, .long (prS σ0))] H0 Q 540 [some (.inr 0), some (.inl g1), some (.inl k1), some (.inl j1), some (.inl r), some (.inl t), some (.inl d), w7_, w8_, w9_, some (.inl y), w11_, w12_, w13_, w14_] [.inr 0] M := by
  obtain ⟨hx, hb, -, -, -, -⟩ := id hE
  rintro w7_ w8_ w9_ w11_ w12_ w13_ w14_ g1 k1 j1 r t d y M ⟨hK, -, hy, σ2, a2, hx2, hk2⟩ H locs lsC hM hls hst hP hS hL
  have hl := jL_lv hL [(7, .long (prS σ0))] (fun q hq => Or.inr hq)
  refine jw_print hE hA hF ⟨Nat.le_of_ble_eq_true rfl, Nat.le_of_ble_eq_true rfl⟩ hcs dL_edits_540 hl.1 ⟨σ2, a2⟩ hM hP hS (fun v M1 H1 locs1 hM1 hc hP1 hS1 hfr => ?_)
  have ev := hc σ2 a2
  have ep : prS σ2 = prS σ0 := by
    show prF (σ2 1) (nT (gS σ2)) = prF (σ0 1) (nT (gS σ0))
    rw [hx2.1]
    exact prF_cg _ (fun t ht => hk2 t (by have := nT_s hσ.1.1; omega))
  obtain rfl : v = prS σ0 := ev.1.trans ep
  refine lv_lload hx hb dL_edits_543 (lv_at hl 0 rfl) ?_
  refine W.lcmp hx hb dL_edits_545 ?_
  rw [lg_self]
  refine lv_if_ne (tgt := 554) hx hb dL_edits_546 (by decide) (fun z => absurd rfl z) (fun _ => ?_)
  exact H549 w7_ w8_ w9_ w11_ w12_ w13_ w14_ g1 k1 j1 r t d y M1 ⟨hK, rfl, hy, σ2, ev.2, hx2, hk2⟩ H1 locs1 lsC hM1 hls (fun x hx => absurd hx List.not_mem_nil) hP1 hS1 hL
theorem ej_540z (hE : jEnv p s m args c cL_edits 15 RL D cy) (hA : jA ad 47) (hF : ∀ a, a < 46 → A (ad a)) (hcs : cells ≤ rm_L_edits.cells ∧ slots ≤ rm_L_edits.slots) (hσ : absX M0 σ0)
    (H549 : ∀ (w7_ : Option AV) (w8_ : Option AV) (w9_ : Option AV) (w11_ : Option AV) (w12_ : Option AV) (w13_ : Option AV) (w14_ : Option AV) (g1 : Int) (k1 : Int) (j1 : Int) (r : Int) (t : Int) (d : Int) (y : Int) (M : Mem), E549 M0 σ0 g k j g1 k1 j1 r t d y M → jSt p l e rm_L_edits s m args below meth c 15 D cy ad kdZ (lnZ 64) 47 A cells slots [(7, .long (prS σ0))] H0 Q 549 [some (.inr 0), some (.inl g1), some (.inl k1), some (.inl j1), some (.inl r), some (.inl t), some (.inl d), w7_, w8_, w9_, some (.inl y), w11_, w12_, w13_, w14_] [] M) :
    ∀ (w7_ : Option AV) (w8_ : Option AV) (w9_ : Option AV) (w11_ : Option AV) (w12_ : Option AV) (w13_ : Option AV) (w14_ : Option AV) (g1 : Int) (k1 : Int) (j1 : Int) (r : Int) (t : Int) (d : Int) (y : Int) (M : Mem), E540 M0 σ0 g k j g1 k1 j1 r t d y M → jSt p l e rm_L_edits s m args below meth c 15 D cy ad kdZ (lnZ 64) 47 A cells slots [(7, .long (prS σ0))] H0 Q 540 [some (.inr 0), some (.inl g1), some (.inl k1), some (.inl j1), some (.inl r), some (.inl t), some (.inl d), w7_, w8_, w9_, some (.inl y), w11_, w12_, w13_, w14_] [.inr 0] M := by
  obtain ⟨hx, hb, -, -, -, -⟩ := id hE
  rintro w7_ w8_ w9_ w11_ w12_ w13_ w14_ g1 k1 j1 r t d y M ⟨hK, -, hy, σ2, a2, hx2, hk2⟩ H locs lsC hM hls hst hP hS hL
  have hl := jL_lv hL [(7, .long (prS σ0))] (fun q hq => Or.inr hq)
  refine jw_print hE (jA_le hA (by decide)) hF ⟨Nat.le_of_ble_eq_true rfl, Nat.le_of_ble_eq_true rfl⟩ hcs dL_edits_540 hl.1 ⟨σ2, a2⟩ hM (wldZ_X hP) hS (fun v M1 H1 locs1 hM1 hc hP1 hS1 hfr => ?_)
  have ev := hc σ2 a2
  have ep : prS σ2 = prS σ0 := by
    show prF (σ2 1) (nT (gS σ2)) = prF (σ0 1) (nT (gS σ0))
    rw [hx2.1]
    exact prF_cg _ (fun t ht => hk2 t (by have := nT_s hσ.1.1; omega))
  obtain rfl : v = prS σ0 := ev.1.trans ep
  refine lv_lload hx hb dL_edits_543 (lv_at hl 0 rfl) ?_
  refine W.lcmp hx hb dL_edits_545 ?_
  rw [lg_self]
  refine lv_if_ne (tgt := 554) hx hb dL_edits_546 (by decide) (fun z => absurd rfl z) (fun _ => ?_)
  have h46 := wldZ_46 hP
  have hlt : ad 46 < H.size := (hP 46 _ (wld_at (by decide))).lt
  have hPZ : va_P D vwCl (wld ad kdZ (lnZ 64) cy 47 (glu M1 M)) H1 := by
    refine wldX_Z (wld_cg hP1 (fun a ha => glu_lo ha)) ?_
    rw [glu_hi (Nat.le_refl 46)]
    exact va_at_arr h46 (hfr _ hlt (FR_46 hA))
  exact H549 w7_ w8_ w9_ w11_ w12_ w13_ w14_ g1 k1 j1 r t d y (glu M1 M) ⟨hK, rfl, hy, σ2, absX_lo ev.2 (fun b hb => glu_lo hb), hx2, hk2⟩ H1 locs1 lsC (glu_ok hM1 hM) hls (fun x hx => absurd hx List.not_mem_nil) hPZ hS1 hL
end ED1
/-- the end of a method, before it has made a row -/
theorem endX {p : Program} {l : Launch} {e : Env} {R : Room} {s : State} {m : MethodId} {args : Array Value} {below : List Frame} {meth : Method} {c : Code} {cc : ByteArray} {nL : Nat} {own : String} {D : va_G} {cy : Nat → ClassId} {ad : Nat → Nat} {mc ms : Nat} {C post : Int → Mem → Prop}
    (hE : jEnv p s m args c cc nL own D cy) (hr : meth.sig.returnType = some .int) (hlocks : meth.locks = false) (hC : ∀ x M, post x M → C x M) :
    jEnd p l e R s m args below meth c cc D cy ad kdX lnX 46 (fun q => FR ad 46 q ∨ s.heap.size ≤ q) 0 0 s.heap (MQ below (jQ D cy ad kdX lnX 46 1 C) args s mc ms (fun q => FR ad 46 q ∨ s.heap.size ≤ q)) 1 post := by
  obtain ⟨hx, hb, -, -, -, -⟩ := id hE
  intro x M H locs lsC pc hp rx hM hP hS
  refine ⟨fun hv hdg => ?_, fun h4 => by omega, fun h0 => by omega⟩
  refine W.widen (Nat.zero_le mc) (Nat.zero_le ms) (W.zret (ty := .int) hx hb hr rfl (fun t ht _ => ?_) hS.2.2 hdg)
  exact ⟨⟨x, M, rfl, rx, hM, hC x M hp, by rw [ht]; exact hP⟩, by rw [ht]; exact hS.1, fun q h1 h2 => by rw [ht]; exact hS.2.1 q h1 (fun z => z.elim h2 (fun y => absurd h1 (Nat.not_lt.mpr y)))⟩
abbrev p_L_edits (p : Nat) (g k j : Int) (M : Mem) : Prop := p = 0 ∧ (g = g ∧ k = k) ∧ ∃ σ, absX M σ ∧ nT (gS σ) ≤ 64 ∧ j = σ 0 7
abbrev c_L_edits (p : Nat) (g k j : Int) (M : Mem) (x : Int) (M' : Mem) : Prop := (p = p ∧ g = g ∧ k = k ∧ j = j) ∧ 0 ≤ x ∧ ∃ σ', absX M' σ' ∧ σ' 0 7 = x ∧ ∀ σ, absX M σ → gS σ' = gS σ ∧ ∀ n : Nat, n < 6 → σ' 2 n = σ 2 n
def P_L_edits (as : List AV) (M : Mem) : Prop := match as with
  | [.inr p, .inl g, .inl k, .inl j] => p_L_edits p g k j M
  | _ => False
def C_L_edits (as : List AV) (M : Mem) (x : Int) (M' : Mem) : Prop := match as with
  | [.inr p, .inl g, .inl k, .inl j] => c_L_edits p g k j M x M'
  | _ => False
theorem ca_L_edits : CalS yL_edits cL_edits 15 (some .int) 4 := ⟨⟨wcL_edits, wnL, by decide +kernel, by decide +kernel, by decide +kernel⟩, wsL_edits⟩
def postE (σ0 : Mem) (x : Int) (M : Mem) : Prop := 0 ≤ x ∧ ∃ σ', absX M σ' ∧ σ' 0 7 = x ∧ gS σ' = gS σ0 ∧ σ' 2 = σ0 2
section WE
variable {l : Launch} {D : va_G} {cy : Nat → ClassId} {ad : Nat → Nat}
abbrev OK_L_edits (l : Launch) (D : va_G) (cy : Nat → ClassId) (ad : Nat → Nat) : Prop := MetN l D cy ad yL_edits cL_edits 15 (some .int) rm_L_edits 1 P_L_edits C_L_edits 1 64
set_option maxHeartbeats 1000000 in
theorem ok_L_edits (hA : jA ad 46) : OK_L_edits l D cy ad := by
  intro sz as M0 hP hM0 has
  unfold P_L_edits at hP
  split at hP
  rotate_left
  · exact hP.elim
  next p0 g k j =>
  obtain ⟨rfl, -, σ, hσ, hn, hj⟩ := hP
  refine Met.ofW (cc := cL_edits) (maxL := 15) (ret := some .int) (by decide) rfl ?_
  intro p e s m args below meth c s₁ B hml hv
  obtain ⟨rfl, hsz, hPw, hK⟩ := hv
  subst hsz
  have hts := atoms_spec (ws := Cond.code yL_edits cL_edits 15 (some .int) :: wtb) B.pre
  have hown : s.vm.findClass RL = some m.cls := findClass_of_methodNamed B.named
  have htw : ∀ w ∈ wtb, w.before (([.inr 0, .inl g, .inl k, .inl j] : List AV).map (cV ad)).toArray s = true := fun w hw => hts w (List.mem_cons_of_mem _ hw)
  have hE : jEnv p s m (([.inr 0, .inl g, .inl k, .inl j] : List AV).map (cV ad)).toArray c cL_edits 15 RL D cy := ⟨B.exec, B.bytes, hml, hown, htw, hK⟩
  have hF : ∀ a, a < 46 → (fun q => FR ad 46 q ∨ s.heap.size ≤ q) (ad a) := fun a ha => Or.inl ⟨a, ha, rfl⟩
  have hA2 : ∀ q, s.heap.size ≤ q → (fun q => FR ad 46 q ∨ s.heap.size ≤ q) q := fun q hq => Or.inr hq
  have hC : ∀ x M, postE σ x M → C_L_edits [.inr 0, .inl g, .inl k, .inl j] M0 x M := fun x M ⟨h1, σ', h2, h3, h4, h5⟩ => ⟨⟨rfl, rfl, rfl, rfl⟩, h1, σ', h2, h3, fun τ hτ => ⟨h4.trans (absX_g hσ hτ), fun n hn => by rw [h5, ← hσ.1.2.2.2.1 n hn, hτ.1.2.2.2.1 n hn]⟩⟩
  have hpost : ∀ x M, (0 ≤ x ∧ ∃ σ', absX M σ' ∧ σ' 0 7 = x ∧ gS σ' = gS σ ∧ σ' 2 = σ 2) → postE σ x M := fun x M h => h
  have CX : jC p l e rm_L_edits s m (([.inr 0, .inl g, .inl k, .inl j] : List AV).map (cV ad)).toArray below meth c cL_edits 15 RL D cy ad kdX lnX 46 (fun q => FR ad 46 q ∨ s.heap.size ≤ q) 0 0 s.heap (MQ below (jQ D cy ad kdX lnX 46 1 (C_L_edits [.inr 0, .inl g, .inl k, .inl j] M0)) (([.inr 0, .inl g, .inl k, .inl j] : List AV).map (cV ad)).toArray s 1 64 (fun q => FR ad 46 q ∨ s.heap.size ≤ q)) 1 (postE σ) :=
    ⟨hE, hA, jWX, hF, ⟨Nat.zero_le _, Nat.zero_le _⟩, endX hE B.returns B.notSynchronized hC⟩
  have H549x := es_549x (M0 := M0) (σ0 := σ) (g := g) (k := k) (j := j) (v0 := prS σ) hA CX hσ hn hj hpost
  have H540x := ej_540x hE hA hF ⟨Nat.zero_le _, Nat.zero_le _⟩ hσ H549x
  have H507x := es_507x hA CX hσ hn hj hpost H540x (fun _ _ _ _ _ _ _ _ _ _ _ _ _ _ _ hP => hP.2.2.2.elim)
  have H482x := es_482x hA CX hσ hn hj hpost H507x
  have H309x := es_309x hA CX hσ hn hj hpost H482x
  have H39x := es_39x hA CX hσ hn hj hpost (by
    rintro w7_ w8_ w11_ w12_ w13_ w14_ g1 k1 j1 r t d o y u M ⟨hK1, T, hy, -, rfl⟩
    refine jst_less (ls' := [some (.inr 0), some (.inl g1), some (.inl k1), some (.inl j1), some (.inl r), some (.inl t), some (.inl d), none, none, some (.inl o), some (.inl y), none, none, none, none]) ?_ ?_
    · repeat' (first | exact Or.inl rfl | exact Or.inr rfl | exact trivial | refine ⟨?_, ?_⟩)
    refine jst_new hE hA hF hA2 (harr_int htw) (n := 64) (by decide) (Nat.le_of_ble_eq_true rfl) (Nat.le_of_ble_eq_true rfl) dL_edits_64 (fun x hx => ?_) (fun x hx => absurd hx List.not_mem_nil) (h06_of (T σ hσ)) (fun q hA' hF' hne => ?_)
    · simp only [List.mem_cons, List.not_mem_nil, or_false, Option.some.injEq, Sum.inr.injEq, reduceCtorEq, false_or] at hx
      omega
    have CZ : jC p l e rm_L_edits s m (([.inr 0, .inl g, .inl k, .inl j] : List AV).map (cV ad)).toArray below meth c cL_edits 15 RL D cy (adN ad q) kdZ (lnZ 64) 47 (fun q => FR ad 46 q ∨ s.heap.size ≤ q) 1 64 s.heap (MQ below (jQ D cy ad kdX lnX 46 1 (C_L_edits [.inr 0, .inl g, .inl k, .inl j] M0)) (([.inr 0, .inl g, .inl k, .inl j] : List AV).map (cV ad)).toArray s 1 64 (fun q => FR ad 46 q ∨ s.heap.size ≤ q)) 1 (postE σ) :=
      ⟨hE, hA', jWZ (by decide), hF', ⟨Nat.le_of_ble_eq_true rfl, Nat.le_of_ble_eq_true rfl⟩, endN hE B.returns (Or.inl ⟨rfl, rfl⟩) B.notSynchronized (fun x M h => ⟨hC x M h, by obtain ⟨-, σ', h2, -⟩ := h; exact ⟨σ', h2⟩⟩)⟩
    have H549z := es_549z (M0 := M0) (σ0 := σ) (g := g) (k := k) (j := j) (v0 := prS σ) hA' CZ hσ hn hj hpost
    have H540z := ej_540z hE hA' (fun a ha => hF' a (by omega)) ⟨Nat.le_of_ble_eq_true rfl, Nat.le_of_ble_eq_true rfl⟩ hσ H549z
    have H507z := es_507z hA' CZ hσ hn hj hpost H540z (fun _ _ _ _ _ _ _ _ _ _ _ _ _ _ _ hP => hP.2.2.2.elim)
    have H482z := es_482z hA' CZ hσ hn hj hpost H507z
    have H118z := es_118z hA' CZ hσ hn hj hpost H482z
    have H71z := es_71z hA' CZ hσ hn hj hpost H118z
    exact es_66z hA' CZ hσ hn hj hpost H71z none none none none none none g1 k1 j1 r t d o y _ ⟨hK1, ⟨rfl, rfl⟩, absX_lo (T σ hσ) (fun b hb => upA_n (by omega)), hy⟩) H309x H482x
  have H34 := ej_34 hE hA hF ⟨Nat.zero_le _, Nat.zero_le _⟩ hσ H39x
  have hN := nT_s hσ.1.1
  have main : jSt p l e rm_L_edits s m (([.inr 0, .inl g, .inl k, .inl j] : List AV).map (cV ad)).toArray below meth c 15 D cy ad kdX lnX 46 (fun q => FR ad 46 q ∨ s.heap.size ≤ q) 0 0 [] s.heap (MQ below (jQ D cy ad kdX lnX 46 1 (C_L_edits [.inr 0, .inl g, .inl k, .inl j] M0)) (([.inr 0, .inl g, .inl k, .inl j] : List AV).map (cV ad)).toArray s 1 64 (fun q => FR ad 46 q ∨ s.heap.size ≤ q)) 0 ([.inr 0, .inl g, .inl k, .inl j].map some ++ List.replicate (15 - 4) none) [] M0 := by
    refine sg_L_edits_0x (ok_L_low hA) (ok_X8_value hA) (E34 M0 σ g k j) rfl CX H34 none none none none none none none none none none none g k j M0 ?_
    refine ⟨⟨rfl, rfl, σ, hσ⟩, fun x1 M1 _ _ hc => ?_⟩
    obtain ⟨e1, T1⟩ := tt_call (fun _ h => h) hσ hc
    refine ⟨⟨rfl, rfl, σ, T1 σ hσ⟩, fun x2 M2 _ _ hc => ?_⟩
    obtain ⟨e2, T2⟩ := tt_call T1 hσ hc
    have e12 : x1 * x2 = nT (gS σ) := by rw [e1, e2]; exact hN.1.symm
    rw [e12]
    have h9 : (0 : Int) < nT (gS σ) := by omega
    refine ⟨⟨by omega, by omega⟩, h9, fun x3 M3 _ _ hc => ?_⟩
    obtain ⟨e3, rfl⟩ := hc
    refine ⟨by show (0 : Int) < 3; decide, fun x4 M4 _ _ hc => ?_⟩
    obtain ⟨e4, rfl⟩ := hc
    have b3 := lowF_b (v := bShr g 3) h9
    have b4 := lowF_b (v := bShr g 11) (show (0 : Int) < 3 by decide)
    exact ⟨⟨rfl, rfl, rfl, rfl, by rw [e3]; exact b3, by rw [e4]; exact b4⟩, T2⟩
  rw [lg_entry_eq]
  refine main s.heap [] _ hM0 (fun x hx => ?_) (fun x hx => by cases hx) hPw va_S.rf (jL_entry (Nat.le_of_ble_eq_true rfl))
  rcases List.mem_append.mp hx with h | h
  · obtain ⟨v, h1, h2⟩ := List.mem_map.mp h
    cases h2
    exact has x h1
  · have := List.eq_of_mem_replicate h
    cases this
end WE
