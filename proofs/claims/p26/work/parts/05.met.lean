/-! ===== runs, loops, calls, whole methods ===== -/
theorem vc_snd {kd ln : Nat → Nat} {tb : TB} {ft : Nat → Nat × Nat} {cst : Nat → Int} {rty : Nat} {post : Int → Mem → Prop} {ct : List (Nat × CS)} {cuts : List Nat} {J S : KT}
    (hstep : ∀ (pc : Nat) (i : Instr) (n : Nat) (ts : List Nat), tb.lookup pc = some (i, n, ts) → ∀ (ls : List (Option AV)) (st : List AV) (M : Mem) (K : KT), vstep kd ln ft cst rty post (ct.lookup pc) K pc i n ts ls st M → (∀ pc ls st M, K pc ls st M → S pc ls st M) → S pc ls st M)
    (hJ : ∀ pc ls st M, J pc ls st M → S pc ls st M) : ∀ (f pc : Nat) (ls : List (Option AV)) (st : List AV) (M : Mem), vc kd ln tb ft cst rty post ct cuts J f pc ls st M → S pc ls st M := by
  intro f
  induction f with
  | zero => intro pc ls st M h; exact h.elim
  | succ f ih =>
    intro pc ls st M h
    unfold vc at h
    split at h
    next i n ts e =>
      refine hstep pc i n ts e ls st M _ h (fun pc' ls' st' M' hk => ?_)
      cases q : cuts.elem pc' with
      | true => rw [q] at hk; exact hJ _ _ _ _ hk
      | false => rw [q] at hk; exact ih _ _ _ _ hk
    · exact h.elim
/-- at a cut: what is said of this cut, with a measure -/
abbrev IT : Type := Nat → List (Option AV) → List AV → Mem → Nat → Prop
def jJ (I : IT) : KT := fun pc ls st M => ∃ μ, I pc ls st M μ
def jJ1 (I : IT) (n : Nat) : KT := fun pc ls st M => ∃ μ, μ < n ∧ I pc ls st M μ
def jrv (ad : Nat → Nat) (rty : Nat) (x : Int) : Option Value := match rty with
  | 0 => none
  | 4 => some (.ref (ad x.toNat))
  | _ => some (.int (I32 x))
def retOf (rty : Nat) (ret : Option FieldType) : Prop := match rty with
  | 0 => ret = none
  | 1 => ret = some .int
  | 2 => ret = some .boolean
  | 3 => ret = some .char
  | 4 => ∃ n, ret = some (.object n)
  | _ => False
def jQ (D : va_G) (cy : Nat → ClassId) (ad kd ln : Nat → Nat) (nc : Nat) (rty : Nat) (C : Int → Mem → Prop) : Array Value → State → Outcome → State → Prop := fun _ st oc t =>
  (∃ (x : Int) (M' : Mem), oc = .returned (jrv ad rty x) ∧ inR x ∧ (∀ a k, inR (M' a k)) ∧ C x M' ∧ va_P D vwCl (wld ad kd ln cy nc M') t.heap) ∧ va_F (FR ad nc) st t
/-- a method's contract in the small machine's words -/
def MetA (l : Launch) (D : va_G) (cy : Nat → ClassId) (ad kd ln : Nat → Nat) (nc : Nat) (y : MethodName) (code : ByteArray) (maxL : Nat) (ret : Option FieldType) (rm : Room) (rty : Nat) (P : List AV → Mem → Prop) (C : List AV → Mem → Int → Mem → Prop) : Prop :=
  ∀ (as : List AV) (M : Mem), P as M → (∀ a k, inR (M a k)) → (∀ x, Sum.inl x ∈ as → inR x) →
    Met l y (Cond.code y code maxL ret :: wtb) rm (va_Pc (as.map (cV ad)) (fun U => va_P D vwCl (wld ad kd ln cy nc M) U.heap ∧ va_K D vwCl (tysJ cy) U)) (jQ D cy ad kd ln nc rty (C as M)) 0 0 (FR ad nc)
def CalB (y : MethodName) (code : ByteArray) (maxL : Nat) (ret : Option FieldType) (n : Nat) : Prop :=
  Cond.code y code maxL ret ∈ lw_tbl ∧ Cond.initialized y.cls ∈ lw_tbl ∧ y.cls ≠ "java/lang/invoke/MethodHandle" ∧ y.cls ≠ "java/lang/invoke/VarHandle" ∧ (parseMethodDescriptor y.desc).map (fun d => d.parameters.length) = some n
def CalV (y : MethodName) (code : ByteArray) (maxL : Nat) (ret : Option FieldType) (n : Nat) : Prop := CalB y code maxL ret n ∧ Cond.instanceMethod y ∈ lw_tbl ∧ Cond.selects y.cls y y ∈ lw_tbl
def CalS (y : MethodName) (code : ByteArray) (maxL : Nat) (ret : Option FieldType) (n : Nat) : Prop := CalB y code maxL ret n ∧ Cond.static y ∈ lw_tbl
def RmOK (rm : Room) (maxL : Nat) (R : Room) : Prop := rm.cells = 0 ∧ rm.slots = 0 ∧ rm.frames + 1 ≤ R.frames ∧ 8 + (maxL + 11) + rm.locals ≤ R.locals
def SiteV (l : Launch) (D : va_G) (cy : Nat → ClassId) (ad kd ln : Nat → Nat) (nc : Nat) (own : String) (tb : TB) (R : Room) (pc : Nat) (cs : CS) : Prop :=
  ∃ (idx n : Nat) (y : MethodName) (code : ByteArray) (maxL : Nat) (ret : Option FieldType) (rm : Room), tb.lookup pc = some (.invokevirtual idx, 3, []) ∧ cs.1 = n + 1 ∧ MetA l D cy ad kd ln nc y code maxL ret rm cs.2.1 cs.2.2.1 cs.2.2.2 ∧ CalV y code maxL ret n ∧
    Cond.methodLink own idx y ∈ lw_tbl ∧ RmOK rm maxL R ∧ ∀ as M, cs.2.2.1 as M → ∃ a As q, as = .inr a :: As ∧ vwCl[kd a]? = some q ∧ q.1 = y.cls
def SiteS (l : Launch) (D : va_G) (cy : Nat → ClassId) (ad kd ln : Nat → Nat) (nc : Nat) (own : String) (tb : TB) (R : Room) (pc : Nat) (cs : CS) : Prop :=
  ∃ (idx n : Nat) (y : MethodName) (code : ByteArray) (maxL : Nat) (ret : Option FieldType) (rm : Room), tb.lookup pc = some (.invokestatic idx, 3, []) ∧ cs.1 = n ∧ MetA l D cy ad kd ln nc y code maxL ret rm cs.2.1 cs.2.2.1 cs.2.2.2 ∧ CalS y code maxL ret n ∧
    Cond.methodLink own idx y ∈ lw_tbl ∧ y.cls = own ∧ RmOK rm maxL R
/-- System.arraycopy of ints -/
def cpP (kd ln : Nat → Nat) (as : List AV) (_ : Mem) : Prop := match as with
  | [.inr a, .inl sp, .inr b, .inl dp, .inl n] => (kd a = 21 ∧ kd b = 21) ∧ (0 ≤ sp ∧ 0 ≤ dp ∧ 0 ≤ n) ∧ sp + n ≤ ln a ∧ dp + n ≤ ln b
  | _ => False
def cpF (f g : Nat → Int) (sp dp n : Nat) : Nat → Int := fun j => if dp ≤ j ∧ j < dp + n then f (sp + (j - dp)) else g j
def cpC (as : List AV) (M : Mem) (_ : Int) (M' : Mem) : Prop := match as with
  | [.inr a, .inl sp, .inr b, .inl dp, .inl n] => M' = upA M b (cpF (M a) (M b) sp.toNat dp.toNat n.toNat)
  | _ => False
def SiteC (kd ln : Nat → Nat) (own : String) (tb : TB) (R : Room) (pc : Nat) (cs : CS) : Prop :=
  ∃ idx, tb.lookup pc = some (.invokestatic idx, 3, []) ∧ cs = (5, 0, cpP kd ln, cpC) ∧ Cond.methodLink own idx arraycopyName ∈ lw_tbl ∧ Cond.native arraycopyName ∈ lw_tbl ∧ Cond.static arraycopyName ∈ lw_tbl ∧ Cond.initialized "java/lang/System" ∈ lw_tbl ∧ 1 ≤ R.frames ∧ 8 + (nativeFrameWords "java/lang/System" "arraycopy" 5 + 11) ≤ R.locals
theorem good_cons {big : List Cond} {y : MethodName} {code : ByteArray} {maxL : Nat} {ret : Option FieldType} (h : Cond.code y code maxL ret ∈ lw_tbl) : GoodIn wtb (Cond.code y code maxL ret :: wtb) := by
  intro w hw
  rcases List.mem_cons.mp hw with rfl | hw
  · exact ⟨wtb_in h rfl, good_of_word rfl⟩
  · exact ⟨hw, good_of_word (List.mem_filter.mp hw).2⟩
section MET
variable {p : Program} {l : Launch} {e : Env} {R : Room} {s : State} {m : MethodId} {args : Array Value} {below : List Frame} {meth : Method} {c : Code}
variable {cc : ByteArray} {nL : Nat} {own : String} {D : va_G} {cy : Nat → ClassId} {ad kd ln : Nat → Nat} {nc : Nat} {A : Nat → Prop} {cells slots : Nat} {ex : List (Nat × Value)} {H0 : Heap} {Q : State → Prop}
theorem jrv_push {rty : Nat} {x : Int} {r : List AV} : (vpush rty x r).map (cV ad) = (jrv ad rty x).toList ++ r.map (cV ad) := by
  match rty with
  | 0 => rfl
  | 1 => rfl
  | 2 => rfl
  | 3 => rfl
  | 4 => rfl
  | _ + 5 => rfl
theorem run_W {rty : Nat} {C : Int → Mem → Prop} {a : Array Value} {H : Heap} {locs : List Loc} {pc : Nat} {lsC : Array Slot} {st0 rest : List Value}
    (hr : va_Run p l e R s m args below meth c H locs cells slots 0 0 (F0 m pc lsC st0) rest (jQ D cy ad kd ln nc rty C a) (FR ad nc)) (hF : ∀ a, a < nc → A (ad a)) (hS : va_S A H0 H locs)
    (kk : ∀ (x : Int) (M' : Mem) (H1 : Heap) (locs1 : List Loc), inR x → (∀ a k, inR (M' a k)) → C x M' → va_P D vwCl (wld ad kd ln cy nc M') H1 → va_S A H0 H1 locs1 → W p l e R s m args below meth c H1 locs1 cells slots Q (F0 m (pc + 3) lsC ((jrv ad rty x).toList ++ rest))) :
    W p l e R s m args below meth c H locs cells slots Q (F0 m pc lsC st0) := by
  have hFA : ∀ q, FR ad nc q → A q := fun q ⟨a, h1, h2⟩ => by rw [← h2]; exact hF a h1
  intro T hT X
  obtain ⟨v, st₀, t, T', L, h0, X', hL, e1, e2, ⟨⟨x, M', hv, hx, hM', hC, hP⟩, hz, hk⟩, st⟩ := hr T hT X
  have hv2 : v = jrv ad rty x := Outcome.returned.inj hv
  subst hv2
  rw [h0] at hz hk
  obtain ⟨t2, a1, b1⟩ := kk x M' T'.heap (locs ++ L) hx hM' hC (by rw [e1]; exact hP)
    ⟨Nat.le_trans hS.1 (by rw [e1]; exact hz), fun q h1 h2 => by rw [e1, hk q (Nat.lt_of_lt_of_le h1 hS.1) (fun z => h2 (hFA q z))]; exact hS.2.1 q h1 h2, fun q hq => by
      rcases List.mem_append.mp hq with h | h
      · exact hS.2.2 q h
      · exact hFA _ (hL q h)⟩ T' rfl X'
  exact ⟨t2, st t2 a1, b1⟩
theorem cat_sum {ad : Nat → Nat} : ∀ r : List AV, ((r.map (cV ad)).map fun v => v.category).sum = r.length
  | [] => rfl
  | a :: r => by
    have := cat_sum (ad := ad) r
    simp only [List.map_cons, List.sum_cons, List.length_cons, cV_cat]
    simp only [List.map_map] at this ⊢
    omega
theorem st_split {ad : Nat → Nat} {st : List AV} {k : Nat} : st.map (cV ad) = ((st.take k).reverse.map (cV ad)).reverse ++ (st.drop k).map (cV ad) := by
  rw [List.map_reverse, List.reverse_reverse, ← List.map_append, List.take_append_drop]
theorem take_in {st : List AV} {k : Nat} (h : ∀ x, Sum.inl x ∈ st → inR x) : ∀ x, (Sum.inl x : AV) ∈ (st.take k).reverse → inR x := fun x hx => h x (List.mem_of_mem_take (List.mem_reverse.mp hx))
theorem drop_in {st : List AV} {k : Nat} {rt : Nat} {x : Int} (h : ∀ x, Sum.inl x ∈ st → inR x) (hx : inR x) : ∀ z, (Sum.inl z : AV) ∈ vpush rt x (st.drop k) → inR z := by
  intro z hz
  unfold vpush at hz
  split at hz
  · exact h z (List.mem_of_mem_drop hz)
  · rcases List.mem_cons.mp hz with q | q
    · cases q
    · exact h z (List.mem_of_mem_drop q)
  · rcases List.mem_cons.mp hz with q | q
    · cases q; exact hx
    · exact h z (List.mem_of_mem_drop q)
theorem siteV_snd {tb : TB} {pc : Nat} {cs : CS} (hF : ∀ a, a < nc → A (ad a)) (hcs : cells ≤ R.cells ∧ slots ≤ R.slots) (hE : jEnv p s m args c cc nL own D cy) (htb : tbOK cc tb = true) (hW : jW kd ln nc) (h : SiteV l D cy ad kd ln nc own tb R pc cs)
    {ls : List (Option AV)} {st : List AV} {M : Mem} {K : List AV → Mem → Prop} (hv : vcall (some cs) st M K) (hK : ∀ st' M', K st' M' → jSt p l e R s m args below meth c nL D cy ad kd ln nc A cells slots ex H0 Q (pc + 3) ls st' M') :
    jSt p l e R s m args below meth c nL D cy ad kd ln nc A cells slots ex H0 Q pc ls st M := by
  obtain ⟨idx, n, y, code, maxL, ret, rm, hl, hn, hmet, ⟨⟨w1, w2, w3, w4, w5⟩, w6, w7⟩, hlink, ⟨r1, r2, r3, r4⟩, hrecv⟩ := h
  obtain ⟨k, rt, P, C⟩ := cs
  dsimp only at hn hmet hrecv
  subst hn
  obtain ⟨hdg, -⟩ := tbOK_of htb hl
  obtain ⟨hx, hb, hml, hown, hts, hKv⟩ := id hE
  obtain ⟨g0, hP1, hk⟩ := bif_of hv
  have g1 := Nat.le_of_ble_eq_true (Bool.and_eq_true _ _ ▸ g0).1
  have g2 := Nat.le_of_ble_eq_true (Bool.and_eq_true _ _ ▸ g0).2
  intro H locs lsC hM hls hst hP hS hL
  obtain ⟨a, As, q, ha, hc, hcls⟩ := hrecv _ _ hP1
  have hnc : a < nc := hW.1 a (fun z => by rw [z] at hc; cases hc)
  have hci : kd a < 20 := Nat.lt_of_lt_of_le (lt_or_ge10 hc) (by decide)
  have he : (wld ad kd ln cy nc M)[a]? = some (ad a, .inr (kd a, flds ad (kd a) a M)) := by rw [wld_at hnc, eOf_obj rfl hci]
  have hr := va_recv hKv hP hc he
  rw [hcls] at hr
  have hT : GoodIn wtb (wsV own idx y.cls y (Cond.code y code maxL ret :: wtb)) := by
    intro w hw
    unfold wsV at hw
    rcases List.mem_append.mp hw with hw | hw
    · simp only [List.mem_cons, List.not_mem_nil, or_false] at hw
      rcases hw with rfl | rfl | rfl | rfl
      · exact ⟨wtb_in hlink rfl, good_of_word rfl⟩
      · exact ⟨wtb_in w6 rfl, good_of_word rfl⟩
      · exact ⟨wtb_in w7 rfl, good_of_word rfl⟩
      · exact ⟨wtb_in w2 rfl, good_of_word rfl⟩
    · exact good_cons (big := wtb) w1 w hw
  have hlenA : As.length = n := by
    have h1 := congrArg List.length ha
    rw [List.length_reverse, List.length_take, Nat.min_eq_left g1] at h1
    simp at h1
    exact h1.symm
  have hrun := va_runV (p := p) (l := l) (e := e) (R := R) (s := s) (m := m) (args := args) (below := below) (meth := meth) (c := c) (H := H) (locs := locs) (cells := cells) (slots := slots) (mc := 0) (ms := 0) (C := y.cls) (b := ad a) (As := As.map (cV ad)) (rest := (st.drop (n + 1)).map (cV ad)) (g := F0 m pc lsC (st.map (cV ad)))
    ⟨hx, hb, hml, hown, hts⟩ (hmet _ M hP1 hM (take_in hst)) (cwV n hts hT rfl r1 r2 ⟨rfl, w3, w4, w5⟩ ⟨r3, r4⟩)
    ⟨fun a U g mk q => ⟨q.1, q.2.1, va_K.moved (u := U) (U := U.calling g mk a) (Vm.Alike.refl U.vm) q.2.2⟩, hr, fun U hU hW2 => ⟨by rw [ha]; rfl, by rw [hU]; exact hP, va_K.moved hW2.alike hKv⟩⟩
    rfl (by rw [List.length_map]; exact hlenA) (by
      obtain ⟨z1, lv, z2, -⟩ := hL
      exact z2.1) (by
      show st.map (cV ad) = _
      rw [st_split (k := n + 1), ha]
      simp [cV]) (by
      show 2 * 0 + _ ≤ 8
      rw [cat_sum, List.length_drop]; omega) hdg hcs
  refine run_W hrun hF hS (fun x M' H1 locs1 hx1 hM1 hC1 hP2 hS1 => ?_)
  rw [← jrv_push]
  exact hK _ _ (hk x M' hx1 hM1 hC1) H1 locs1 lsC hM1 hls (drop_in hst hx1) hP2 hS1 hL
theorem siteS_snd {tb : TB} {pc : Nat} {cs : CS} (hF : ∀ a, a < nc → A (ad a)) (hcs : cells ≤ R.cells ∧ slots ≤ R.slots) (hE : jEnv p s m args c cc nL own D cy) (htb : tbOK cc tb = true) (h : SiteS l D cy ad kd ln nc own tb R pc cs)
    {ls : List (Option AV)} {st : List AV} {M : Mem} {K : List AV → Mem → Prop} (hv : vcall (some cs) st M K) (hK : ∀ st' M', K st' M' → jSt p l e R s m args below meth c nL D cy ad kd ln nc A cells slots ex H0 Q (pc + 3) ls st' M') :
    jSt p l e R s m args below meth c nL D cy ad kd ln nc A cells slots ex H0 Q pc ls st M := by
  obtain ⟨idx, n, y, code, maxL, ret, rm, hl, hn, hmet, ⟨⟨w1, w2, w3, w4, w5⟩, w6⟩, hlink, hcls, ⟨r1, r2, r3, r4⟩⟩ := h
  obtain ⟨k, rt, P, C⟩ := cs
  dsimp only at hn hmet
  subst hn
  obtain ⟨hdg, -⟩ := tbOK_of htb hl
  obtain ⟨hx, hb, hml, hown, hts, hKv⟩ := id hE
  obtain ⟨g0, hP1, hk⟩ := bif_of hv
  have g1 := Nat.le_of_ble_eq_true (Bool.and_eq_true _ _ ▸ g0).1
  have g2 := Nat.le_of_ble_eq_true (Bool.and_eq_true _ _ ▸ g0).2
  intro H locs lsC hM hls hst hP hS hL
  have hT : GoodIn wtb (wsS own idx y (Cond.code y code maxL ret :: wtb)) := by
    intro w hw
    unfold wsS at hw
    rcases List.mem_append.mp hw with hw | hw
    · simp only [List.mem_cons, List.not_mem_nil, or_false] at hw
      rcases hw with rfl | rfl | rfl
      · exact ⟨wtb_in hlink rfl, good_of_word rfl⟩
      · exact ⟨wtb_in w6 rfl, good_of_word rfl⟩
      · rw [← hcls]; exact ⟨wtb_in w2 rfl, good_of_word rfl⟩
    · exact good_cons (big := wtb) w1 w hw
  have hrun := va_runS (p := p) (l := l) (e := e) (R := R) (s := s) (m := m) (args := args) (below := below) (meth := meth) (c := c) (H := H) (locs := locs) (cells := cells) (slots := slots) (mc := 0) (ms := 0) (As := (st.take k).reverse.map (cV ad)) (rest := (st.drop k).map (cV ad)) (g := F0 m pc lsC (st.map (cV ad)))
    ⟨hx, hb, hml, hown, hts⟩ (hmet _ M hP1 hM (take_in hst)) (cwS k hts hT rfl r1 r2 ⟨hcls, w3, w4, w5⟩ ⟨r3, r4⟩)
    ⟨fun a U g mk q => ⟨q.1, q.2.1, va_K.moved (u := U) (U := U.calling g mk a) (Vm.Alike.refl U.vm) q.2.2⟩, fun U hU hW2 => ⟨rfl, by rw [hU]; exact hP, va_K.moved hW2.alike hKv⟩⟩
    rfl (by rw [List.length_map, List.length_reverse, List.length_take, Nat.min_eq_left g1]) (by
      obtain ⟨z1, lv, z2, -⟩ := hL
      exact z2.1) st_split (by
      show 2 * 0 + _ ≤ 8
      rw [cat_sum, List.length_drop]; omega) hdg hcs
  refine run_W hrun hF hS (fun x M' H1 locs1 hx1 hM1 hC1 hP2 hS1 => ?_)
  rw [← jrv_push]
  exact hK _ _ (hk x M' hx1 hM1 hC1) H1 locs1 lsC hM1 hls (drop_in hst hx1) hP2 hS1 hL
theorem siteC_snd {tb : TB} {pc : Nat} {cs : CS} (hF : ∀ a, a < nc → A (ad a)) (hcs : cells ≤ R.cells ∧ slots ≤ R.slots) (hE : jEnv p s m args c cc nL own D cy) (htb : tbOK cc tb = true) (hW : jW kd ln nc) (hA : jA ad nc) (h : SiteC kd ln own tb R pc cs)
    {ls : List (Option AV)} {st : List AV} {M : Mem} {K : List AV → Mem → Prop} (hv : vcall (some cs) st M K) (hK : ∀ st' M', K st' M' → jSt p l e R s m args below meth c nL D cy ad kd ln nc A cells slots ex H0 Q (pc + 3) ls st' M') :
    jSt p l e R s m args below meth c nL D cy ad kd ln nc A cells slots ex H0 Q pc ls st M := by
  obtain ⟨idx, hl, rfl, w1, w2, w3, w4, r1, r2⟩ := h
  obtain ⟨hdg, -⟩ := tbOK_of htb hl
  obtain ⟨hx, hb, hml, hown, hts, hKv⟩ := id hE
  obtain ⟨g0, hP1, hk⟩ := bif_of hv
  have g1 := Nat.le_of_ble_eq_true (Bool.and_eq_true _ _ ▸ g0).1
  have g2 := Nat.le_of_ble_eq_true (Bool.and_eq_true _ _ ▸ g0).2
  intro H locs lsC hM hls hst hP hS hL
  have hD : va_D A (wld ad kd ln cy nc M) := (wld_D hA).weaken (fun k q _ ⟨a, h1, h2⟩ => by rw [← h2]; exact hF a h1)
  match st, g1, g2, hP1, hk, hst with
  | v1 :: v2 :: v3 :: v4 :: v5 :: r, g1, g2, hP1, hk, hst =>
    match v1, v2, v3, v4, v5, hP1, hk, hst with
    | .inl n, .inl dp, .inr b, .inl sp, .inr a, hP1, hk, hst =>
      obtain ⟨⟨ka, kb⟩, ⟨q1, q2, q3⟩, q4, q5⟩ := hP1
      have ha : a < nc := hW.1 a (by rw [ka]; omega)
      have hb2 : b < nc := hW.1 b (by rw [kb]; omega)
      have hea : (wld ad kd ln cy nc M)[a]? = some (ad a, .inl (cy 21, ln a, .inl (fun j => I32 (M a j)))) := by rw [wld_at ha, eOf_arr ka (by omega) (by omega)]
      have heb : (wld ad kd ln cy nc M)[b]? = some (ad b, .inl (cy 21, ln b, .inl (fun j => I32 (M b j)))) := by rw [wld_at hb2, eOf_arr kb (by omega) (by omega)]
      have rn : inR n := hst _ (by simp)
      have rdp : inR dp := hst _ (by simp)
      have rsp : inR sp := hst _ (by simp)
      have nz : ∀ {z : Int}, inR z → 0 ≤ z → ¬ I32 z < 0 := fun hz h0 q => by
        rw [← I32_0] at q
        have := (I32_lt hz inR_0).mp q
        omega
      refine va_copyi hx hb (by obtain ⟨z1, lv, z2, -⟩ := hL; rw [hml, z2.1]) hown (hts _ (wtb_in w1 rfl)) (hts _ (wtb_in w2 rfl)) (hts _ (wtb_in w3 rfl)) (hts _ (wtb_in w4 rfl)) hKv hP hD hS a b 1 1 hea heb rfl rfl rfl (nz rsp q1) (nz rdp q2) (nz rn q3) (by rw [I32_clamp rsp, I32_clamp rn]; omega) (by rw [I32_clamp rdp, I32_clamp rn]; omega) (fun _ _ => rfl) r1 (by
        rw [cat_sum]
        have : r.length ≤ 8 := by simp at g2; omega
        omega) hdg (fun H1 locs1 hP1 hD1 hS1 => ?_)
      have e1 : va_cpy (fun j => I32 (M a j)) (fun j => I32 (M b j)) (I32 sp).toNatClampNeg (I32 dp).toNatClampNeg (I32 n).toNatClampNeg = fun j => I32 (cpF (M a) (M b) sp.toNat dp.toNat n.toNat j) := by
        rw [I32_clamp rsp, I32_clamp rdp, I32_clamp rn]
        funext j
        unfold va_cpy cpF
        split <;> rfl
      rw [e1, wld_set (f := cpF (M a) (M b) sp.toNat dp.toNat n.toNat) (by rw [eOf_arr kb (by omega) (by omega), upA_s])] at hP1
      have hM1 : ∀ c j, inR (upA M b (cpF (M a) (M b) sp.toNat dp.toNat n.toNat) c j) := fun c j => by
        by_cases e2 : c = b
        · rw [e2, upA_s]
          unfold cpF
          split <;> exact hM _ _
        · rw [upA_n e2]; exact hM _ _
      exact hK _ _ (hk 0 _ inR_0 hM1 rfl) H1 locs1 lsC hM1 hls (st_tl (st_tl (st_tl (st_tl (st_tl hst))))) hP1 hS1 hL
/-- any place where a call may stand -/
def Site (l : Launch) (D : va_G) (cy : Nat → ClassId) (ad kd ln : Nat → Nat) (nc : Nat) (own : String) (tb : TB) (R : Room) (pc : Nat) (cs : CS) : Prop :=
  SiteV l D cy ad kd ln nc own tb R pc cs ∨ SiteS l D cy ad kd ln nc own tb R pc cs ∨ SiteC kd ln own tb R pc cs
theorem site_snd {tb : TB} {pc : Nat} {cs : CS} (hF : ∀ a, a < nc → A (ad a)) (hcs : cells ≤ R.cells ∧ slots ≤ R.slots) (hE : jEnv p s m args c cc nL own D cy) (htb : tbOK cc tb = true) (hW : jW kd ln nc) (hA : jA ad nc) (h : Site l D cy ad kd ln nc own tb R pc cs)
    {ls : List (Option AV)} {st : List AV} {M : Mem} {K : List AV → Mem → Prop} (hv : vcall (some cs) st M K) (hK : ∀ st' M', K st' M' → jSt p l e R s m args below meth c nL D cy ad kd ln nc A cells slots ex H0 Q (pc + 3) ls st' M') :
    jSt p l e R s m args below meth c nL D cy ad kd ln nc A cells slots ex H0 Q pc ls st M := by
  rcases h with h | h | h
  · exact siteV_snd hF hcs hE htb hW h hv hK
  · exact siteS_snd hF hcs hE htb h hv hK
  · exact siteC_snd hF hcs hE htb hW hA h hv hK
theorem end_snd {rty : Nat} {post : Int → Mem → Prop} {ret : Option FieldType} (hE : jEnv p s m args c cc nL own D cy) (hr : meth.sig.returnType = ret) (hret : retOf rty ret) (hlocks : meth.locks = false) :
    jEnd p l e R s m args below meth c cc D cy ad kd ln nc (FR ad nc) 0 0 s.heap (MQ below (jQ D cy ad kd ln nc rty post) args s 0 0 (FR ad nc)) rty post := by
  obtain ⟨hx, hb, -, -, -, -⟩ := id hE
  intro x M H locs lsC pc hp rx hM hP hS
  have key : ∀ (t : State), t.heap = H → jQ D cy ad kd ln nc rty post args s (.returned (jrv ad rty x)) t := fun t ht => ⟨⟨x, M, rfl, rx, hM, hp, by rw [ht]; exact hP⟩, hS.F ht⟩
  refine ⟨fun hv hdg => ?_, fun h4 hdg => ?_, fun h0 hdg => ?_⟩
  · match rty, hret, hv, key with
    | 1, hret, hv, key => exact W.zret (ty := .int) hx hb (hr.trans hret) rfl (fun t ht _ => key t ht) hS.2.2 hdg
    | 2, hret, hv, key => exact W.zret (ty := .boolean) hx hb (hr.trans hret) (by rcases hv with rfl | rfl <;> decide) (fun t ht _ => key t ht) hS.2.2 hdg
    | 3, hret, hv, key =>
      refine W.zret (ty := .char) hx hb (hr.trans hret) ?_ (fun t ht _ => key t ht) hS.2.2 hdg
      have e1 : I32 x = nI x.toNat := by
        show Int32.ofInt x = Int32.ofNat x.toNat
        rw [← Int32.ofInt_eq_ofNat]; congr 1; have := hv.1; omega
      rw [e1]
      exact (pk_charN (q := x.toNat) (by have := hv.2; omega)).1
  · subst h4
    obtain ⟨nm, hn⟩ := hret
    exact W.aret (v := .ref (ad x.toNat)) hx hb (hr.trans hn) (Or.inl ⟨_, rfl⟩) (Or.inr ⟨_, rfl⟩) (fun t ht _ => key t ht) hS.2.2 hdg
  · subst h0
    exact W.vret hx hb (hr.trans hret) (fun t ht _ => key t ht) hS.2.2 hdg
end MET
/-- a whole method: from its entry to the cuts, from each cut to the next with a smaller measure, or to the end -/
theorem met_of {l : Launch} {D : va_G} {cy : Nat → ClassId} {ad kd ln : Nat → Nat} {nc : Nat} {y : MethodName} {code : ByteArray} {maxL : Nat} {ret : Option FieldType} {rm : Room} {rty : Nat} {P : List AV → Mem → Prop} {C : List AV → Mem → Int → Mem → Prop}
    {tb : TB} {ft : List (Nat × Nat × Nat × Nat)} {cst : Nat → Int} {ct : List (Nat × CS)} {cuts : List Nat} (F : Nat) (I : List AV → Mem → IT)
    (hA : jA ad nc) (hW : jW kd ln nc) (hy : plainName y.cls = true) (htb : tbOK code tb = true) (htl : tbL tb = true) (hft : ftOK y.cls ft = true) (hcst : ∀ j, cst j ≠ 0 → Cond.constant y.cls j (I32 (cst j)) ∈ wtb ∧ inR (cst j)) (hcst2 : ∀ pc j n ts, tb.lookup pc = some (.ldc j, n, ts) → cst j ≠ 0)
    (hret : retOf rty ret) (hct : ∀ q ∈ ct, Site l D cy ad kd ln nc y.cls tb rm q.1 q.2)
    (hlen : ∀ as M, P as M → as.length ≤ maxL)
    (hent : ∀ as M, P as M → (∀ a k, inR (M a k)) → (∀ x, Sum.inl x ∈ as → inR x) → vc kd ln tb (ftl ft) cst rty (C as M) ct cuts (jJ (I as M)) F 0 (as.map some ++ List.replicate (maxL - as.length) none) [] M)
    (hcut : ∀ as M, P as M → (∀ a k, inR (M a k)) → (∀ x, Sum.inl x ∈ as → inR x) → ∀ pc ls st M' n, I as M pc ls st M' n → (∀ a k, inR (M' a k)) → vc kd ln tb (ftl ft) cst rty (C as M) ct cuts (jJ1 (I as M) n) F pc ls st M') :
    MetA l D cy ad kd ln nc y code maxL ret rm rty P C := by
  intro as M hP hM has
  refine Met.ofW (cc := code) (maxL := maxL) (ret := ret) hy rfl ?_
  intro p e s m args below meth c s₁ B hml hv
  obtain ⟨rfl, hPw, hK⟩ := hv
  have hts := atoms_spec (ws := Cond.code y code maxL ret :: wtb) B.pre
  have hown : s.vm.findClass y.cls = some m.cls := findClass_of_methodNamed B.named
  have hE : jEnv p s m (as.map (cV ad)).toArray c code maxL y.cls D cy := ⟨B.exec, B.bytes, hml, hown, fun w hw => hts w (List.mem_cons_of_mem _ hw), hK⟩
  have hend := end_snd (l := l) (e := e) (R := rm) (below := below) (ad := ad) (kd := kd) (ln := ln) (nc := nc) (post := C as M) hE B.returns hret B.notSynchronized
  have hcl : ∀ (pc : Nat) (i : Instr) (n : Nat) (ts : List Nat), tb.lookup pc = some (i, n, ts) → (∃ j, i = .invokevirtual j ∨ i = .invokestatic j) → ∀ (ls : List (Option AV)) (st : List AV) (N : Mem) (K : List AV → Mem → Prop), vcall (ct.lookup pc) st N K →
      (∀ st' M', K st' M' → jSt p l e rm s m (as.map (cV ad)).toArray below meth c maxL D cy ad kd ln nc (FR ad nc) 0 0 [] s.heap (MQ below (jQ D cy ad kd ln nc rty (C as M)) (as.map (cV ad)).toArray s 0 0 (FR ad nc)) (pc + n) ls st' M') → jSt p l e rm s m (as.map (cV ad)).toArray below meth c maxL D cy ad kd ln nc (FR ad nc) 0 0 [] s.heap (MQ below (jQ D cy ad kd ln nc rty (C as M)) (as.map (cV ad)).toArray s 0 0 (FR ad nc)) pc ls st N := by
    intro pc i n ts hl hi ls st N K hv hK
    have hn : n = 3 := by
      have := List.all_eq_true.mp htl _ (lookup_mem hl)
      obtain ⟨j, rfl | rfl⟩ := hi <;> simpa [lnOK] using this
    subst hn
    cases hc : ct.lookup pc with
    | none => rw [hc] at hv; exact hv.elim
    | some cs =>
      rw [hc] at hv
      exact site_snd (fun a ha => ⟨a, ha, rfl⟩) ⟨Nat.zero_le _, Nat.zero_le _⟩ hE htb hW hA (hct _ (lookup_mem hc)) hv hK
  have hstep := fun (pc : Nat) (i : Instr) (n : Nat) (ts : List Nat) (hl : tb.lookup pc = some (i, n, ts)) (ls : List (Option AV)) (st : List AV) (N : Mem) (K : KT) h hK => step_snd hE hW hA (fun a ha => ⟨a, ha, rfl⟩) exT_nil htb htl hft hcst hcst2 hend hcl hl (ls := ls) (st := st) (M := N) (K := K) h hK
  have hloop : ∀ (n : Nat) (pc : Nat) (ls : List (Option AV)) (st : List AV) (M' : Mem), I as M pc ls st M' n → jSt p l e rm s m (as.map (cV ad)).toArray below meth c maxL D cy ad kd ln nc (FR ad nc) 0 0 [] s.heap (MQ below (jQ D cy ad kd ln nc rty (C as M)) (as.map (cV ad)).toArray s 0 0 (FR ad nc)) pc ls st M' := by
    intro n
    induction n using Nat.strongRecOn with
    | ind n ih =>
      intro pc ls st M' hI H locs lsC hM' hls hst hP' hS' hL'
      refine vc_snd hstep ?_ F pc ls st M' (hcut as M hP hM has pc ls st M' n hI hM') H locs lsC hM' hls hst hP' hS' hL'
      rintro pc ls st M2 ⟨μ, hμ, hI2⟩
      exact ih μ hμ pc ls st M2 hI2
  have hall := vc_snd hstep (J := jJ (I as M)) (by
    rintro pc ls st M2 ⟨μ, hI2⟩
    exact hloop μ pc ls st M2 hI2) F 0 _ [] M (hent as M hP hM has)
  rw [lg_entry_eq]
  refine hall s.heap [] _ hM (fun x hx => ?_) (fun x hx => by cases hx) hPw va_S.rf (jL_entry (hlen as M hP))
  rcases List.mem_append.mp hx with h | h
  · obtain ⟨v, h1, h2⟩ := List.mem_map.mp h
    cases h2
    exact has x h1
  · have := List.eq_of_mem_replicate h
    cases this
