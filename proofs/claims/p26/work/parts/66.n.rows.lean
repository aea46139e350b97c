/-! ===== rows for constructors and for the law's calls ===== -/
def mwE (cy : Nat → ClassId) (q : Nat) : va_E := .inl (cy 23, 12, .inr (.inr (.inr (.inr (fun i => some (q + 1 + i))))))
def mwR (cy : Nat → ClassId) : va_E := .inl (cy 21, 144, .inl (fun _ => 0))
def mwW (cy : Nat → ClassId) (q : Nat) : va_W := (q, mwE cy q) :: (List.range 12).map (fun j => (q + 1 + j, mwR cy))
theorem arrV_cg {cA : ClassId} {N : Nat} {f g : Nat → Value} (h : ∀ j, j < N → f j = g j) : arrV cA N f = arrV cA N g := by
  unfold arrV
  have : (fun j : Fin N => f j.val) = fun j : Fin N => g j.val := by
    funext j
    exact h j.val j.isLt
  rw [this]
section JC
variable {p : Program} {l : Launch} {e : Env} {R : Room} {s : State} {m : MethodId} {args : Array Value} {below : List Frame} {meth : Method} {c : Code} {H : Heap} {locs : List Loc} {cells slots : Nat} {Q : State → Prop}
variable {cc : ByteArray} {pc : Nat} {ls : Array Slot} {rest : List Value} {D : va_G} {cl : List vw_C} {A : Nat → Prop} {ws : va_W} {H0 : Heap} {tys : List (ClassId × FieldType)} {cy : Nat → ClassId}
theorem jc_new (hexec : p.tables.exec = Jvm.exec) (hb : c.code = cc) {atype : ArrayType} (harr : (Cond.arrayClass (newarray.typeOf atype)).before args s = true) {cA : ClassId} (hR : s.vm.findClass ("[" ++ (newarray.typeOf atype).toString) = some cA) (hd : defaultValue (newarray.typeOf atype) = .int 0) (hc8 : componentBytes (newarray.typeOf atype) ≤ 4)
    (hK : va_K D cl tys s) (hP : va_P D cl ws H) (hD : va_D A ws) (hS : va_S A H0 H locs) (hA : ∀ q, H0.size ≤ q → A q) {n : Int32} {N : Nat} (hn : ¬ n < 0) (hN : n.toNatClampNeg = N) (hN2 : N ≤ 100000) (hcells : cells + 1 ≤ R.cells) (hslots : slots + N ≤ R.slots) (hdg : decode cc pc = .ok (.newarray atype, 2))
    (kk : ∀ (q : Nat) (H1 : Heap), va_P D cl (ws ++ [(q, .inl (cA, N, .inl (fun _ => 0)))]) H1 → va_D A (ws ++ [(q, .inl (cA, N, .inl (fun _ => 0)))]) → va_S A H0 H1 locs → W p l e R s m args below meth c H1 locs (cells + 1) (slots + N) Q (F0 m (pc + 2) ls (.ref q :: rest))) :
    W p l e R s m args below meth c H locs cells slots Q (F0 m pc ls (.int n :: rest)) := by
  refine va_newa (atype := atype) (a0 := (N, .inl (fun _ => 0))) hexec hb harr rfl (hK.sub (tys' := []) [] rfl) hP hD hS hA (fun cX => by rw [hd]; rfl) hn hN ?_ hcells hslots hdg (fun q cX H1 hK1 hP1 hD1 hS1 => ?_)
  · exact Nat.le_trans (Nat.mul_le_mul hN2 hc8) (by decide)
  · have h1 := (hK1.2 0 _ rfl).2
    have e1 : cX = cA := by
      cases atype <;> exact Option.some.inj (h1.symm.trans hR)
    subst e1
    exact kk q H1 hP1 hD1 hS1
theorem jc_maps {H' : Heap} {L : List Loc} (hP : va_P D cl ws H) (hD : va_D A ws) (hS : va_S A H0 H locs) (hA : ∀ q, H0.size ≤ q → A q) (f1 : H'.size = H.size + 1 + 12) (f2 : H'[H.size]? = some (mwO (cy 23) 12 H.size 12)) (f3 : ∀ q, q < H.size → H'[q]? = H[q]?) (f4 : ∀ j, j < 12 → H'[H.size + 1 + j]? = some (mwI (cy 21) 144)) (f5 : ∀ q ∈ L, q.base = H.size) :
    va_P D cl (ws ++ mwW cy H.size) H' ∧ va_D A (ws ++ mwW cy H.size) ∧ va_S A H0 H' (locs ++ L) := by
  have key : ∀ (k : Nat) (q : Nat × va_E), (mwW cy H.size)[k]? = some q → q.1 = H.size + k ∧ va_at D cl q H' := by
    intro k q hq
    cases k with
    | zero =>
      cases hq
      refine ⟨rfl, ?_⟩
      show H'[H.size]? = some (vp_cell _ _)
      rw [f2, vp_cell_q]
      exact congrArg some (arrV_cg (fun j hj => if_pos hj))
    | succ k =>
      unfold mwW at hq
      rw [List.getElem?_cons_succ, List.getElem?_map] at hq
      cases hr : (List.range 12)[k]? with
      | none => rw [hr] at hq; cases hq
      | some j =>
        rw [hr] at hq
        cases hq
        obtain ⟨h1, h2⟩ := List.getElem?_eq_some_iff.mp hr
        rw [List.getElem_range] at h2
        subst h2
        have hk : k < 12 := by simpa using h1
        refine ⟨by show H.size + 1 + k = _; omega, ?_⟩
        show H'[H.size + 1 + k]? = some (vp_cell _ _)
        rw [f4 k hk]
        rfl
  have hp : ∀ (k : Nat) (x : Nat × va_E), ws[k]? = some x → H'[x.1]? = H[x.1]? := fun k x hx => f3 x.1 ((hP k x hx).lt)
  refine ⟨(hP.kept hp).app (fun k q hq => (key k q hq).2), hD.app ⟨fun i j x y hi hj hxy => ?_, fun k q hq => ?_⟩ (fun i j x y hx hy hxy => ?_), ⟨Nat.le_trans hS.1 (by omega), fun x h1 h2 => (f3 x (Nat.lt_of_lt_of_le h1 hS.1)).trans (hS.2.1 x h1 h2), fun q hq => ?_⟩⟩
  · have h1 := (key i x hi).1
    have h2 := (key j y hj).1
    omega
  · rw [(key k q hq).1]
    exact hA _ (Nat.le_trans hS.1 (Nat.le_add_right _ _))
  · have h1 := (hP i x hx).lt
    have h2 := (key j y hy).1
    omega
  · rcases List.mem_append.mp hq with h | h
    · exact hS.2.2 q h
    · rw [f5 q h]
      exact hA _ hS.1
/-- behind a call by contract: the rest of the heap stands -/
theorem jc_call {ad kd ln : Nat → Nat} {nc rty : Nat} {C : Int → Mem → Prop} {a : Array Value} {st0 : List Value}
    (hr : va_Run p l e R s m args below meth c H locs cells slots 0 0 (F0 m pc ls st0) rest (jQ D cy ad kd ln nc rty C a) (FR ad nc)) (hS : va_S A H0 H locs) (hF : ∀ a, a < nc → A (ad a))
    (kk : ∀ (x : Int) (M' : Mem) (H1 : Heap) (locs1 : List Loc), inR x → okM M' → C x M' → va_P D vwCl (wld ad kd ln cy nc M') H1 → va_S A H0 H1 locs1 → (∀ q : Nat, q < H.size → ¬ FR ad nc q → H1[q]? = H[q]?) → W p l e R s m args below meth c H1 locs1 cells slots Q (F0 m (pc + 3) ls ((jrv ad rty x).toList ++ rest))) :
    W p l e R s m args below meth c H locs cells slots Q (F0 m pc ls st0) := by
  have hFA : ∀ q, FR ad nc q → A q := fun q ⟨a, h1, h2⟩ => by rw [← h2]; exact hF a h1
  intro T hT X
  obtain ⟨v, st₀, t, T', L, h0, X', hL, e1, e2, ⟨⟨x, M', hv, hx, hM', hC, hP⟩, hz, hk⟩, st⟩ := hr T hT X
  have hv2 : v = jrv ad rty x := Outcome.returned.inj hv
  subst hv2
  rw [h0] at hz hk
  obtain ⟨t2, a1, b1⟩ := kk x M' T'.heap (locs ++ L) hx hM' hC (by rw [e1]; exact hP)
    ⟨Nat.le_trans hS.1 (by rw [e1]; exact hz), fun q h1 h2 => by rw [e1, hk q (Nat.lt_of_lt_of_le h1 hS.1) (fun z => h2 (hFA q z))]; exact hS.2.1 q h1 h2, fun q hq => by
      rcases List.mem_append.mp hq with h | h
      · exact hS.2.2 q h
      · exact hFA _ (hL q h)⟩ (fun q h1 h2 => by rw [e1]; exact hk q h1 h2) T' rfl X'
  exact ⟨t2, st t2 a1, b1⟩
/-- a call of a method of an object of a world -/
theorem jc_inv {nL : Nat} {own : String} {ad kd ln : Nat → Nat} {nc : Nat} {y : MethodName} {code : ByteArray} {maxL : Nat} {ret : Option FieldType} {rm : Room} {rty : Nat} {P : List AV → Mem → Prop} {C : List AV → Mem → Int → Mem → Prop} {idx n a : Nat} {As : List AV} {M : Mem} {q : vw_C}
    (hmet : MetA l D cy ad kd ln nc y code maxL ret rm rty P C) (hcal : CalV y code maxL ret n) (hlink : Cond.methodLink own idx y ∈ lw_tbl) (hrm : RmOK rm maxL R)
    (hx : p.tables.exec = Jvm.exec) (hb : c.code = cc) (hml : c.maxLocals = nL) (hown : s.vm.findClass own = some m.cls) (hts : ∀ w ∈ wtb, w.before args s = true) (hK : va_K D vwCl (tysJ cy) s)
    (hAn : As.length = n) (hq : vwCl[kd a]? = some q) (hcls : q.1 = y.cls) (hnc : a < nc) (hP1 : P (.inr a :: As) M) (hM : okM M) (hin : ∀ x, Sum.inl x ∈ As → inR x) (hPw : va_P D vwCl (wld ad kd ln cy nc M) H) (hS : va_S A H0 H locs) (hF : ∀ a, a < nc → A (ad a))
    (hsz : ls.size = nL) (hcat : (rest.map fun v => v.category).sum ≤ 8) (hdg : decode cc pc = .ok (.invokevirtual idx, 3)) (hcs : cells ≤ R.cells ∧ slots ≤ R.slots) {st0 : List Value} (hst : st0 = (As.map (cV ad)).reverse ++ .ref (ad a) :: rest)
    (kk : ∀ (x : Int) (M' : Mem) (H1 : Heap) (locs1 : List Loc), inR x → okM M' → C (.inr a :: As) M x M' → va_P D vwCl (wld ad kd ln cy nc M') H1 → va_S A H0 H1 locs1 → (∀ q : Nat, q < H.size → ¬ FR ad nc q → H1[q]? = H[q]?) → W p l e R s m args below meth c H1 locs1 cells slots Q (F0 m (pc + 3) ls ((jrv ad rty x).toList ++ rest))) :
    W p l e R s m args below meth c H locs cells slots Q (F0 m pc ls st0) := by
  obtain ⟨⟨w1, w2, w3, w4, w5⟩, w6, w7⟩ := hcal
  obtain ⟨r1, r2, r3, r4⟩ := hrm
  have hci : kd a < 20 := Nat.lt_of_lt_of_le (lt_or_ge10 hq) (by decide)
  have he : (wld ad kd ln cy nc M)[a]? = some (ad a, .inr (kd a, flds ad (kd a) a M)) := by rw [wld_at hnc, eOf_obj rfl hci]
  have hr := va_recv hK hPw hq he
  rw [hcls] at hr
  have hT : GoodIn wtb (wsV own idx y.cls y (Cond.code y code maxL ret :: wtb)) := by
    intro w hw
    unfold wsV at hw
    rcases List.mem_append.mp hw with hw | hw
    · simp only [List.mem_cons, List.not_mem_nil, or_false] at hw
      rcases hw with rfl | rfl | rfl | rfl
      · exact ⟨wtb_in hlink rfl, good_of_word rfl⟩
      · exact ⟨wtb_in w6 rfl, good_of_word rfl⟩
      · exact ⟨wtb_in w7 rfl, good_of_word rfl⟩
      · exact ⟨wtb_in w2 rfl, good_of_word rfl⟩
    · exact good_cons (big := wtb) w1 w hw
  have has : ∀ x, (Sum.inl x : AV) ∈ (.inr a :: As : List AV) → inR x := fun x hx => by
    rcases List.mem_cons.mp hx with h | h
    · cases h
    · exact hin x h
  have hrun := va_runV (p := p) (l := l) (e := e) (R := R) (s := s) (m := m) (args := args) (below := below) (meth := meth) (c := c) (H := H) (locs := locs) (cells := cells) (slots := slots) (mc := 0) (ms := 0) (C := y.cls) (b := ad a) (As := As.map (cV ad)) (rest := rest) (g := F0 m pc ls st0)
    ⟨hx, hb, hml, hown, hts⟩ (hmet _ M hP1 hM has) (cwV n hts hT rfl r1 r2 ⟨rfl, w3, w4, w5⟩ ⟨r3, r4⟩)
    ⟨fun a U g mk q => ⟨q.1, q.2.1, va_K.moved (u := U) (U := U.calling g mk a) (Vm.Alike.refl U.vm) q.2.2⟩, hr, fun U hU hW2 => ⟨rfl, by rw [hU]; exact hPw, va_K.moved hW2.alike hK⟩⟩
    rfl (by rw [List.length_map]; exact hAn) hsz hst (by show 2 * 0 + _ ≤ 8; omega) hdg hcs
  exact jc_call hrun hS hF kk
end JC
