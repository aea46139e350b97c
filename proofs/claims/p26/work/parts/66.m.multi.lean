/-! ===== rows of rows, made at once ===== -/
def mwI (cI : ClassId) (M : Nat) : Cell := arrV cI M (fun _ => .int 0)
def mwO (cA : ClassId) (N h i : Nat) : Cell := arrV cA N (fun j => if j < i then .ref (h + 1 + j) else .null)
/-- the state when i of the N rows are there -/
def mwS (T : State) (cA cI : ClassId) (N M : Nat) : Nat → State
  | 0 => T.pushCell (mwO cA N T.heap.size 0)
  | i + 1 => ((mwS T cA cI N M i).pushCell (mwI cI M)).setCell T.heap.size (mwO cA N T.heap.size (i + 1))
theorem mwO_next {cA : ClassId} {N h i : Nat} : (mwO cA N h i).setSlot i (.ref (h + 1 + i)) = mwO cA N h (i + 1) := by
  unfold mwO
  rw [arrV_store]
  congr 1
  funext j
  unfold updV
  by_cases q : j = i
  · rw [if_pos q, if_pos (by omega), q]
  · rw [if_neg q]
    show (if j < i then Value.ref (h + 1 + j) else Value.null) = _
    by_cases q2 : j < i
    · rw [if_pos q2, if_pos (by omega)]
    · rw [if_neg q2, if_neg (by omega)]
theorem mw_f (T : State) (cA cI : ClassId) (N M : Nat) : ∀ i, (mwS T cA cI N M i).heap.size = T.heap.size + 1 + i ∧ (mwS T cA cI N M i).heap[T.heap.size]? = some (mwO cA N T.heap.size i) ∧ (∀ q, q < T.heap.size → (mwS T cA cI N M i).heap[q]? = T.heap[q]?) ∧
    (∀ j, j < i → (mwS T cA cI N M i).heap[T.heap.size + 1 + j]? = some (mwI cI M)) ∧ (mwS T cA cI N M i).vm = T.vm ∧ (mwS T cA cI N M i).slotsUsed = T.slotsUsed + N + i * M := by
  intro i
  induction i with
  | zero =>
    have e : (mwS T cA cI N M 0).heap = T.heap.push (mwO cA N T.heap.size 0) := rfl
    have es : (mwO cA N T.heap.size 0).slots.size = N := arrV_size _ _ _
    refine ⟨by rw [e, Array.size_push], by rw [e, Array.getElem?_push, if_pos rfl], fun q hq => by rw [e, Array.getElem?_push, if_neg (Nat.ne_of_lt hq)], fun j hj => absurd hj (Nat.not_lt_zero _), rfl, ?_⟩
    show T.slotsUsed + (mwO cA N T.heap.size 0).slots.size = _
    rw [es, Nat.zero_mul, Nat.add_zero]
  | succ i ih =>
    obtain ⟨h1, h2, h3, h4, h5, h6⟩ := ih
    have e : (mwS T cA cI N M (i + 1)).heap = ((mwS T cA cI N M i).heap.push (mwI cI M)).setIfInBounds T.heap.size (mwO cA N T.heap.size (i + 1)) := rfl
    have es : (mwI cI M).slots.size = M := arrV_size _ _ _
    refine ⟨by rw [e, Array.size_setIfInBounds, Array.size_push, h1]; omega, ?_, fun q hq => ?_, fun j hj => ?_, h5, ?_⟩
    · rw [e, Array.getElem?_setIfInBounds, if_pos rfl, if_pos (by rw [Array.size_push, h1]; omega)]
    · rw [e, Array.getElem?_setIfInBounds, if_neg (Nat.ne_of_gt hq), Array.getElem?_push, if_neg (by rw [h1]; omega)]
      exact h3 q hq
    · rw [e, Array.getElem?_setIfInBounds, if_neg (by omega), Array.getElem?_push, h1]
      by_cases q : j = i
      · rw [q, if_pos rfl]
      · rw [if_neg (by omega)]
        exact h4 j (by omega)
    · show (mwS T cA cI N M i).slotsUsed + (mwI cI M).slots.size = _
      rw [es, h6, Nat.succ_mul]
      omega
theorem mw_top (T : State) (f : JFrame) (cA cI : ClassId) (N M : Nat) : ∀ i, mwS (T.setTop f) cA cI N M i = (mwS T cA cI N M i).setTop f := by
  intro i
  induction i with
  | zero => rfl
  | succ i ih =>
    show ((mwS (T.setTop f) cA cI N M i).pushCell (mwI cI M)).setCell T.heap.size _ = _
    rw [ih]
    rfl
section MW
variable {p : Program} {l : Launch} {e : Env} {R : Room} {s : State} {m : MethodId} {args : Array Value} {below : List Frame} {meth : Method} {c : Code} {T : State} {locs : List Loc} {cells slots : Nat}
theorem mw_X (X : Stand p l e R s m args below meth c T locs cells slots) (cA cI : ClassId) (N M : Nat) : ∀ i, ∃ L : List Loc, (∀ q ∈ L, q.base = T.heap.size) ∧ Stand p l e R s m args below meth c (mwS T cA cI N M i) (locs ++ L) (cells + 1 + i) (slots + N + i * M) := by
  intro i
  induction i with
  | zero =>
    have h := X.pushed (mwO cA N T.heap.size 0)
    have es : (mwO cA N T.heap.size 0).slots.size = N := arrV_size _ _ _
    rw [es] at h
    refine ⟨[], fun q hq => absurd hq List.not_mem_nil, ?_⟩
    rw [List.append_nil, Nat.zero_mul]
    exact h
  | succ i ih =>
    obtain ⟨L, hL, Xi⟩ := ih
    obtain ⟨h1, h2, -⟩ := mw_f T cA cI N M i
    have es : (mwI cI M).slots.size = M := arrV_size _ _ _
    have hc : ((mwS T cA cI N M i).pushCell (mwI cI M)).heap[T.heap.size]? = some (mwO cA N T.heap.size i) := by
      show ((mwS T cA cI N M i).heap.push (mwI cI M))[T.heap.size]? = _
      rw [Array.getElem?_push, if_neg (by rw [h1]; omega)]
      exact h2
    have h := (Xi.pushed (mwI cI M)).stored hc i (.ref (T.heap.size + 1 + i))
    rw [es, mwO_next, List.append_assoc] at h
    refine ⟨L ++ [⟨T.heap.size, i⟩], fun q hq => ?_, ?_⟩
    · rcases List.mem_append.mp hq with q1 | q1
      · exact hL q q1
      · rw [List.mem_singleton.mp q1]
    · rw [show slots + N + (i + 1) * M = slots + N + i * M + M by rw [Nat.succ_mul]; omega]
      exact h
end MW
section MV
variable {E : CtlPost} {e : Env} {d : Bool} {acts : List Action} {s : State}
/-- an array of N times the same default value -/
theorem mw_new {c comp : ClassId} {k : Class} {type : FieldType} {len : Nat} {init : Value} (hk : s.vm.classes[c]? = some k) (hkind : k.kind = .array comp type) (hlimit : ¬ len > e.platform.arrayLengthLimit) (hheap : ¬ len * componentBytes type > e.platform.maxHeapBytes)
    (hfit : fits type init = true) {Q : Addr → Pre} (h1 : s.heap.size < e.platform.maxCells) (h2 : s.slotsUsed + len ≤ e.platform.maxSlots) (hq : ∀ acts', Q s.heap.size d acts' (s.pushCell (arrV c len (fun _ => init)))) : wp (Jvm.newArray c len init) Q E e d acts s := by
  unfold Jvm.newArray Jvm.arrayFits
  simp only [wp_bind', W.ask, W.ite, hlimit, if_false, wp_pure', W.theClass, hk, hkind, hheap, W.alloc, Option.some.injEq, exists_eq_left', Array.size_replicate]
  rw [if_neg (by omega)]
  refine ⟨h1, h2, fun i v hv => ?_, ?_⟩
  · rw [Array.getElem?_replicate] at hv
    split at hv
    · cases hv
      simp [State.fitsSlot, State.slotType?, hk, hkind, hfit]
    · cases hv
  · rw [arrV_new]
    exact hq _
/-- the rows, one after the other -/
theorem mw_make {cA cI cc : ClassId} {kA kI : Class} {n k : Int32} {N M : Nat} (hkA : s.vm.classes[cA]? = some kA) (hkindA : kA.kind = .array cI (.array .int)) (hkI : s.vm.classes[cI]? = some kI) (hkindI : kI.kind = .array cc .int) (hn : ¬ n < 0) (hk : ¬ k < 0) (hN : n.toNatClampNeg = N) (hM : k.toNatClampNeg = M)
    (hl1 : ¬ N > e.platform.arrayLengthLimit) (hh1 : ¬ N * 4 > e.platform.maxHeapBytes) (hl2 : ¬ M > e.platform.arrayLengthLimit) (hh2 : ¬ M * 4 > e.platform.maxHeapBytes)
    (hc : s.heap.size + 1 + N ≤ e.platform.maxCells) (hs : s.slotsUsed + N + N * M ≤ e.platform.maxSlots) {Q : Addr → Pre} (hq : ∀ d' acts', Q s.heap.size d' acts' (mwS s cA cI N M N)) :
    wp (multianewarray.make cA [n, k]) Q E e d acts s := by
  have hfind : ([k].find? (· < 0)) = none := by simp [hk]
  have hz : N ≤ N + N * M := Nat.le_add_right _ _
  rw [multianewarray.make]
  simp only [wp_bind', W.ite, hn, if_false, wp_pure', W.theClass, hkA, hkindA, Option.some.injEq, exists_eq_left', hN]
  refine mw_new hkA hkindA hl1 hh1 rfl (by omega) (by omega) (fun acts0 => ?_)
  simp only [hfind]
  rw [ite_self, wp_bind', Std.Legacy.Range.forIn_eq_forIn_range']
  rw [show ([:N] : Std.Legacy.Range).size = N by simp [Std.Legacy.Range.size]]
  show wp (forIn (List.range' 0 N 1) PUnit.unit _) _ E e d acts0 _
  refine wp_forIn_inv (fun rest s' => ∃ i, i ≤ N ∧ rest = List.range' i (N - i) ∧ s' = mwS s cA cI N M i) _ _ ⟨0, Nat.zero_le _, rfl, ?_⟩ ?_ ?_
  · show s.pushCell (arrV cA N (fun _ => .null)) = s.pushCell (mwO cA N s.heap.size 0)
    congr 1
  · rintro x rest s' d' acts' Q' ⟨i, hi, hl, rfl⟩ hnext
    have hlt : i < N := by
      rcases Nat.lt_or_ge i N with h | h
      · exact h
      · rw [show N - i = 0 by omega] at hl
        cases hl
    rw [show N - i = (N - (i + 1)) + 1 by omega, List.range'_succ] at hl
    obtain ⟨rfl, hrest⟩ := List.cons.inj hl
    obtain ⟨f1, f2, f3, f4, f5, f6⟩ := mw_f s cA cI N M x
    have hmul : x * M + M ≤ N * M := by
      have := Nat.mul_le_mul_right M (show x + 1 ≤ N from hlt)
      rw [Nat.succ_mul] at this
      exact this
    have hkI' : (mwS s cA cI N M x).vm.classes[cI]? = some kI := by rw [f5]; exact hkI
    simp only [wp_bind']
    rw [multianewarray.make]
    simp only [wp_bind', W.ite, hk, if_false, wp_pure', W.theClass, hkI', hkindI, Option.some.injEq, exists_eq_left', hM]
    refine mw_new hkI' hkindI hl2 hh2 rfl (by rw [f1]; omega) (by rw [f6]; omega) (fun acts1 => ?_)
    simp only [wp_bind', W.writeLoc, wp_pure']
    refine ⟨mwO cA N s.heap.size x, ?_, (fun h => by cases h), (by show x < (arrV cA N _).slots.size; rw [arrV_size]; exact hlt), ?_, hnext _ _ _ ⟨x + 1, hlt, hrest, ?_⟩⟩
    · show ((mwS s cA cI N M x).heap.push _)[s.heap.size]? = _
      rw [Array.getElem?_push, if_neg (by rw [f1]; omega)]
      exact f2
    · have hv : (mwS s cA cI N M x).vm.classes[cA]? = some kA := by rw [f5]; exact hkA
      have e1 : (mwO cA N s.heap.size x).cls = cA := rfl
      have e2 : (mwO cA N s.heap.size x).vm = .none := rfl
      rw [e1, e2]
      simp [State.fitsSlot, State.slotType?, hv, hkindA, fits]
    · rw [f1, mwO_next]
      rfl
  · rintro s' d' acts' ⟨i, hi, hl, rfl⟩
    have hiN : i = N := by
      rcases Nat.lt_or_ge i N with h | h
      · rw [show N - i = (N - (i + 1)) + 1 by omega, List.range'_succ] at hl
        cases hl
      · omega
    subst hiN
    simp only [wp_pure']
    exact hq _ _
end MV
theorem mw_over {args : Array Value} {first s : State} {o : Option Outcome} {idx : List Nat} (h : (Cond.arrayOver (.array .int)).holds args first o s idx = true) :
    ∃ cI cA kA, s.vm.findClass (FieldType.array .int).toString = some cI ∧ s.vm.classes[cA]? = some kA ∧ kA.kind = .array cI (.array .int) ∧ s.vm.findClass ("[" ++ (FieldType.array .int).toString) = some cA := by
  simp only [Cond.holds, Cond.value, beq_iff_eq, Option.bind_eq_some_iff, Option.map_eq_some_iff] at h
  obtain ⟨cI, h1, cA, h2, kA, h3, h4⟩ := h
  obtain ⟨hlt, hp, -⟩ := Array.findIdx?_eq_some_iff_getElem.mp h2
  rw [(Array.getElem?_eq_some_iff.mp h3).2] at hp
  cases hk : kA.kind with
  | array component ty =>
    rw [hk] at h4 hp
    simp only [Bool.and_eq_true, decide_eq_true_eq, beq_iff_eq] at h4 hp
    exact ⟨cI, cA, kA, h1, h3, by rw [hk, hp, h4.1], h4.2⟩
  | _ => rw [hk] at h4; cases h4
/-- the class of rows of rows is there -/
def overOK (U : State) : Prop := ∃ cI cA kA, U.vm.findClass (FieldType.array .int).toString = some cI ∧ U.vm.classes[cA]? = some kA ∧ kA.kind = .array cI (.array .int) ∧ U.vm.findClass ("[" ++ (FieldType.array .int).toString) = some cA
theorem overOK.alike {u U : State} (hal : u.vm.Alike U.vm) (h : overOK u) : overOK U := by
  obtain ⟨cI, cA, kA, h1, h2, h3, h4⟩ := h
  obtain ⟨kB, h5, h6⟩ := hal.2.2 _ _ h2
  exact ⟨cI, cA, kB, by rw [hal.findClass]; exact h1, h5, by rw [h6]; exact h3, by rw [hal.findClass]; exact h4⟩
section MZ
variable {p : Program} {l : Launch} {e : Env} {R : Room} {s : State} {m : MethodId} {args : Array Value} {below : List Frame} {meth : Method} {c : Code} {H : Heap} {locs : List Loc} {cells slots : Nat} {Q : State → Prop}
/-- multianewarray of two dimensions of int -/
theorem jc_multi {cc : ByteArray} {own : String} {index : Nat} (hexec : p.tables.exec = Jvm.exec) (hb : c.code = cc) (hown : s.vm.findClass own = some m.cls) (hcl : (Cond.classLink own index "[[I").before args s = true) (hover : overOK s) (harr : (Cond.arrayClass .int).before args s = true)
    {pc : Nat} {ls : Array Slot} {n k : Int32} {N M : Nat} {rest : List Value} (hn : ¬ n < 0) (hk : ¬ k < 0) (hN : n.toNatClampNeg = N) (hM : k.toNatClampNeg = M) (hb1 : N * 4 ≤ 536870912) (hb2 : M * 4 ≤ 536870912) (hcells : cells + (1 + N) ≤ R.cells) (hslots : slots + (N + N * M) ≤ R.slots) (hdg : decode cc pc = .ok (.multianewarray index 2, 4))
    (kk : ∀ (H' : Heap) (cA cI : ClassId) (L : List Loc), s.vm.findClass ("[" ++ (FieldType.array .int).toString) = some cA → s.vm.findClass ("[" ++ FieldType.int.toString) = some cI → H'.size = H.size + 1 + N → H'[H.size]? = some (mwO cA N H.size N) → (∀ q, q < H.size → H'[q]? = H[q]?) → (∀ j, j < N → H'[H.size + 1 + j]? = some (mwI cI M)) → (∀ q ∈ L, q.base = H.size) →
      W p l e R s m args below meth c H' (locs ++ L) (cells + 1 + N) (slots + N + N * M) Q (F0 m (pc + 4) ls (.ref H.size :: rest))) :
    W p l e R s m args below meth c H locs cells slots Q (F0 m pc ls (.int k :: .int n :: rest)) := by
  intro T hT X
  subst hT
  subst hb
  have hpl : e.platform.magicAccessors = ({} : Platform).magicAccessors := by rw [X.admits.platform]
  obtain ⟨cI, cA, kA, hcI, hkA, hkindA, hnA⟩ := hover
  obtain ⟨cI', kI, cc', hcI', hkI, hkindI⟩ := Cond.arrayClass_spec harr
  cases (show some cI = some cI' from hcI.symm.trans hcI')
  obtain ⟨c0, hfc0, hcl0⟩ := Cond.classLink_spec hown hcl e.platform hpl
  cases (show some cA = some c0 from hnA.symm.trans hfc0)
  obtain ⟨hg₁, hwarm₁, hready₁⟩ := State.classEntry (e := e) X.warmed hcl0
  generalize T.vm.noted m.cls index (.cls cA) = vm₁ at hg₁ hwarm₁ hready₁
  have hal : s.vm.Alike vm₁ := hwarm₁.alike
  obtain ⟨kA₁, hkA₁, heA⟩ := hal.2.2 _ _ hkA
  obtain ⟨kI₁, hkI₁, heI⟩ := hal.2.2 _ _ hkI
  have X₁ := X.noted hwarm₁
  obtain ⟨hr1, hr2⟩ := X.roomAbove hcells hslots
  obtain ⟨L, hL, XF⟩ := mw_X X₁ cA cI N M N
  obtain ⟨f1, f2, f3, f4, f5, f6⟩ := mw_f (T.setVm vm₁) cA cI N M N
  obtain ⟨t, a1, b1⟩ := kk (mwS (T.setVm vm₁) cA cI N M N).heap cA cI L hnA hcI' f1 f2 f3 f4 hL (mwS (T.setVm vm₁) cA cI N M N) rfl XF
  refine ⟨t, ?_, b1⟩
  have hl1 : ¬ N > e.platform.arrayLengthLimit := by rw [Launch.admits_arrayLengthLimit X.admits]; omega
  have hh1 : ¬ N * 4 > e.platform.maxHeapBytes := by rw [Launch.admits_maxHeapBytes X.admits]; omega
  have hl2 : ¬ M > e.platform.arrayLengthLimit := by rw [Launch.admits_arrayLengthLimit X.admits]; omega
  have hh2 : ¬ M * 4 > e.platform.maxHeapBytes := by rw [Launch.admits_maxHeapBytes X.admits]; omega
  jvm_step X.here [hexec, hdg]
  simp only [multianewarray.sem, wp_bind', W.resolveClassAt_links (t := T.setTop (F0 m pc ls (.int k :: .int n :: rest))) (mm := m) (State.method?_setTop _ X.here.top) hg₁]
  rw [W.popN, if_neg (by decide)]
  refine ⟨F0 m pc ls (.int k :: .int n :: rest), State.topJava?_setTop' (s := T.setVm vm₁) _ X.here.top, [.int n, .int k], rest, rfl, rfl, ?_⟩
  simp only [List.mapM_cons, List.mapM_nil, wp_bind', wp_pure']
  refine mw_make (kA := kA₁) (kI := kI₁) (cI := cI) (cc := cc') hkA₁ (by rw [heA]; exact hkindA) hkI₁ (by rw [heI]; exact hkindI) hn hk hN hM hl1 hh1 hl2 hh2 (by show T.heap.size + 1 + _ ≤ _; omega) (by show T.slotsUsed + _ + _ ≤ _; omega) (fun d' acts' => ?_)
  have eS : ((T.setTop (F0 m pc ls (.int k :: .int n :: rest))).setVm vm₁).setTop { (F0 m pc ls (.int k :: .int n :: rest)) with stack := rest } = (T.setVm vm₁).setTop (F0 m pc ls rest) := by
    show ((T.setVm vm₁).setTop _).setTop _ = _
    rw [State.setTop_setTop]
  rw [eS, mw_top]
  simp only [wp_bind', W.mark, W.pushRef, State.topJava?_setTop' _ XF.here.top, Option.some.injEq, exists_eq_left', State.setTop_setTop, State.heap_setTop]
  intro acts
  simp [jvm, XF.here.top]
  exact a1
end MZ
