/-! ===== the small machine's runs are the bytecode's ===== -/
theorem lookup_mem {α : Type} {k : Nat} {v : α} : ∀ {l : List (Nat × α)}, l.lookup k = some v → (k, v) ∈ l
  | [], h => by cases h
  | (a, b) :: r, h => by
    rw [List.lookup_cons] at h
    by_cases e : (k == a) = true
    · rw [e] at h
      have e2 : k = a := by simpa using e
      cases h
      rw [e2]
      exact List.mem_cons_self
    · rw [Bool.not_eq_true] at e
      rw [e] at h
      exact List.mem_cons_of_mem _ (lookup_mem h)
def ftl (ft : List (Nat × Nat × Nat × Nat)) (j : Nat) : Nat × Nat := match ft.lookup j with
  | some q => (q.1, q.2.1)
  | none => (98, 98)
/-- what the tables say of a class by its number -/
def clsOK (ci : Nat) (C : String) (T : u_T) (N : Nat) : Prop :=
  (∃ ty0 : Nat → FieldType, ∀ k, k < N → parseFieldDescriptor (T k).2.2.1 = some (ty0 k)) ∧ (∀ a, a < N → ∀ b, b < N → a ≠ b → (T a).2.1 ≠ (T b).2.1) ∧ (∀ w ∈ u_ws C T N, w ∈ wtb) ∧ N = nfs.getD ci 0 ∧
  (∀ k, k < N → isRf ci k = false → parseFieldDescriptor (T k).2.2.1 = some .int ∧ (T k).2.2.2 = false) ∧ (ci = 8 → ∀ k, (k = 6 ∨ k = 7) → parseFieldDescriptor (T k).2.2.1 = some (.object "SeamMap$Parts") ∧ (T k).2.2.2 = false)
theorem lt_or_ge10 {α : Type} {cl : List α} {ci : Nat} {q : α} (h : cl[ci]? = some q) : ci < cl.length := (List.getElem?_eq_some_iff.mp h).1
theorem clsOK_of {ci : Nat} {C : String} {T : u_T} {N : Nat} (h : vwCl[ci]? = some (C, T, N)) : clsOK ci C T N := by
  have hl := lt_or_ge10 h
  match ci, hl, h with
  | 0, _, h => cases h; exact ⟨⟨tyX0, tyX0_ok⟩, nmX0, fun w hw => wtb_in (inX0 w hw) ((by decide +kernel : ∀ w ∈ wsX00, goodWord w = true) w hw), rfl, by decide +kernel, fun h => absurd h (by decide)⟩
  | 1, _, h => cases h; exact ⟨⟨tyX1, tyX1_ok⟩, nmX1, fun w hw => wtb_in (inX1 w hw) ((by decide +kernel : ∀ w ∈ wsX10, goodWord w = true) w hw), rfl, by decide +kernel, fun h => absurd h (by decide)⟩
  | 2, _, h => cases h; exact ⟨⟨tyX2, tyX2_ok⟩, nmX2, fun w hw => wtb_in (inX2 w hw) ((by decide +kernel : ∀ w ∈ wsX20, goodWord w = true) w hw), rfl, by decide +kernel, fun h => absurd h (by decide)⟩
  | 3, _, h => cases h; exact ⟨⟨tyX3, tyX3_ok⟩, nmX3, fun w hw => wtb_in (inX3 w hw) ((by decide +kernel : ∀ w ∈ wsX30, goodWord w = true) w hw), rfl, by decide +kernel, fun h => absurd h (by decide)⟩
  | 4, _, h => cases h; exact ⟨⟨tyX4, tyX4_ok⟩, nmX4, fun w hw => wtb_in (inX4 w hw) ((by decide +kernel : ∀ w ∈ wsX40, goodWord w = true) w hw), rfl, by decide +kernel, fun h => absurd h (by decide)⟩
  | 5, _, h => cases h; exact ⟨⟨tyX5, tyX5_ok⟩, nmX5, fun w hw => wtb_in (inX5 w hw) ((by decide +kernel : ∀ w ∈ wsX50, goodWord w = true) w hw), rfl, by decide +kernel, fun h => absurd h (by decide)⟩
  | 6, _, h => cases h; exact ⟨⟨tyX6, tyX6_ok⟩, nmX6, fun w hw => wtb_in (inX6 w hw) ((by decide +kernel : ∀ w ∈ wsX60, goodWord w = true) w hw), rfl, by decide +kernel, fun h => absurd h (by decide)⟩
  | 7, _, h => cases h; exact ⟨⟨tyX7, tyX7_ok⟩, nmX7, fun w hw => wtb_in (inX7 w hw) ((by decide +kernel : ∀ w ∈ wsX70, goodWord w = true) w hw), rfl, by decide +kernel, fun h => absurd h (by decide)⟩
  | 8, _, h => cases h; exact ⟨⟨tyX8, tyX8_ok⟩, nmX8, fun w hw => wtb_in (inX8 w hw) ((by decide +kernel : ∀ w ∈ wsX80, goodWord w = true) w hw), rfl, by decide +kernel, fun _ k hk => by rcases hk with rfl | rfl <;> decide +kernel⟩
theorem ftOK_of {own : String} {ft : List (Nat × Nat × Nat × Nat)} (h : ftOK own ft = true) {j ci k : Nat} (hj : ftl ft j = (ci, k)) (hc : ci ≠ 98) : ∃ (C : String) (T : u_T) (N : Nat), vwCl[ci]? = some (C, T, N) ∧ k < N ∧ Cond.fieldLink own j C (T k).2.1 (T k).2.2.1 ∈ wtb ∧ (T k).1 = C := by
  unfold ftl at hj
  cases e : ft.lookup j with
  | none => rw [e] at hj; cases hj; exact absurd rfl hc
  | some q =>
    obtain ⟨c1, k1, p1⟩ := q
    rw [e] at hj
    have hj1 : c1 = ci := congrArg Prod.fst hj
    have hj2 : k1 = k := congrArg Prod.snd hj
    subst hj1; subst hj2
    have h1 := List.all_eq_true.mp h _ (lookup_mem e)
    dsimp only at h1
    cases ev : vwCl[c1]? with
    | none => rw [ev] at h1; cases h1
    | some r =>
      obtain ⟨C, T, N⟩ := r
      rw [ev] at h1
      simp only [Bool.and_eq_true, decide_eq_true_eq] at h1
      exact ⟨C, T, N, rfl, h1.1.1, wtb_in (mem_at _ h1.1.2) rfl, h1.2⟩
/-! values, cells, worlds -/
def cV (ad : Nat → Nat) (v : AV) : Value := match v with
  | .inl x => .int (I32 x)
  | .inr a => .ref (ad a)
def flds (ad : Nat → Nat) (ci a : Nat) (M : Mem) : List Value := (List.range (nfs.getD ci 0)).map fun k => bif isRf ci k then .ref (ad (rfo ci k a M)) else .int (I32 (M a k))
def eOf (ad kd ln : Nat → Nat) (cy : Nat → ClassId) (M : Mem) (a : Nat) : va_E :=
  if kd a < 20 then .inr (kd a, flds ad (kd a) a M) else if kd a = 23 then .inl (cy 23, ln a, .inr (.inr (.inr (.inr (fun i => some (ad (a + 1 + i))))))) else .inl (cy (kd a), ln a, .inl (fun j => I32 (M a j)))
def wld (ad kd ln : Nat → Nat) (cy : Nat → ClassId) (nc : Nat) (M : Mem) : va_W := (List.range nc).map fun a => (ad a, eOf ad kd ln cy M a)
def tysJ (cy : Nat → ClassId) : List (ClassId × FieldType) := [(cy 20, .char), (cy 21, .int), (cy 22, .boolean), (cy 23, .array .int)]
def FR (ad : Nat → Nat) (nc : Nat) : Nat → Prop := fun q => ∃ a, a < nc ∧ ad a = q
/-- the layout: the cells' kinds and lengths -/
def jW (kd ln : Nat → Nat) (nc : Nat) : Prop := (∀ a, kd a ≠ 99 → a < nc) ∧ (∀ a, ln a ≤ 100000) ∧ (∀ a, kd a ≠ 98)
def jA (ad : Nat → Nat) (nc : Nat) : Prop := ∀ a b, a < nc → b < nc → ad a = ad b → a = b
theorem getD_lt {l : List Nat} {d a : Nat} (h : l.getD a d ≠ d) : a < l.length := by
  rcases Nat.lt_or_ge a l.length with q | q
  · exact q
  · exact absurd (by rw [List.getD_eq_getElem?_getD, List.getElem?_eq_none q]; rfl) h
theorem getD_all {l : List Nat} {d a : Nat} {P : Nat → Prop} (h : ∀ x ∈ l, P x) (hd : P d) : P (l.getD a d) := by
  rw [List.getD_eq_getElem?_getD]
  cases e : l[a]? with
  | none => exact hd
  | some x => exact h x (List.mem_of_getElem? e)
theorem jWX : jW kdX lnX 46 := ⟨fun a h => getD_lt h, fun a => getD_all (P := fun x => x ≤ 100000) (by decide) (by decide), fun a => getD_all (P := fun x => x ≠ 98) (by decide) (by decide)⟩
theorem jWY : jW kdY lnY 12 := ⟨fun a h => getD_lt h, fun a => getD_all (P := fun x => x ≤ 100000) (by decide) (by decide), fun a => getD_all (P := fun x => x ≠ 98) (by decide) (by decide)⟩
theorem rfo_congr {ci k a : Nat} {M M' : Mem} (h : M' a k = M a k) : rfo ci k a M' = rfo ci k a M := by
  unfold rfo
  split <;> first | rfl | rw [h]
theorem flds_congr {ad : Nat → Nat} {ci a : Nat} {M M' : Mem} (h : M' a = M a) : flds ad ci a M' = flds ad ci a M := by
  unfold flds
  refine List.map_congr_left fun k _ => ?_
  rw [rfo_congr (by rw [h]), h]
theorem eOf_congr {ad kd ln : Nat → Nat} {cy : Nat → ClassId} {a : Nat} {M M' : Mem} (h : M' a = M a) : eOf ad kd ln cy M' a = eOf ad kd ln cy M a := by
  unfold eOf
  rw [flds_congr h, h]
theorem upA_s {M : Mem} {a : Nat} {f : Nat → Int} : upA M a f a = f := by simp [upA]
theorem upA_n {M : Mem} {a b : Nat} {f : Nat → Int} (h : b ≠ a) : upA M a f b = M b := by simp [upA, h]
theorem up_eq {M : Mem} {a k : Nat} {v : Int} : up M a k v = upA M a (upR (M a) k v) := rfl
theorem upR_s {f : Nat → Int} {k : Nat} {v : Int} : upR f k v k = v := by simp [upR]
theorem upR_n {f : Nat → Int} {k j : Nat} {v : Int} (h : j ≠ k) : upR f k v j = f j := by simp [upR, h]
theorem up_inR {M : Mem} {a k : Nat} {v : Int} (h : ∀ b j, inR (M b j)) (hv : inR v) : ∀ b j, inR (up M a k v b j) := by
  intro b j
  rw [up_eq]
  by_cases e : b = a
  · subst e
    rw [upA_s]
    by_cases e2 : j = k
    · subst e2; rw [upR_s]; exact hv
    · rw [upR_n e2]; exact h _ _
  · rw [upA_n e]; exact h _ _
theorem flds_up {ad : Nat → Nat} {ci a k : Nat} {M : Mem} {x : Int} (hk : k < nfs.getD ci 0) (w : Value)
    (hw : (bif isRf ci k then Value.ref (ad (rfo ci k a (up M a k x))) else .int (I32 x)) = w) : (flds ad ci a M).set k w = flds ad ci a (up M a k x) := by
  apply List.ext_getElem?
  intro j
  unfold flds
  rw [List.getElem?_set, List.getElem?_map, List.getElem?_map]
  by_cases e : k = j
  · subst e
    rw [if_pos rfl, if_pos (by simp; exact hk), List.getElem?_range hk]
    rw [← hw]
    simp [up_eq, upA_s, upR_s]
  · rw [if_neg e]
    cases hj : (List.range (nfs.getD ci 0))[j]? with
    | none => rfl
    | some q =>
      have e2 : q = j := by
        obtain ⟨h1, h2⟩ := List.getElem?_eq_some_iff.mp hj
        rw [← h2, List.getElem_range]
      subst e2
      have e3 : up M a k x a q = M a q := by rw [up_eq, upA_s, upR_n (fun z => e z.symm)]
      show some (bif isRf ci q then Value.ref (ad (rfo ci q a M)) else .int (I32 (M a q))) = some (bif isRf ci q then Value.ref (ad (rfo ci q a (up M a k x))) else .int (I32 (up M a k x a q)))
      rw [rfo_congr (M := M) (M' := up M a k x) e3, e3]
theorem wld_at {ad kd ln : Nat → Nat} {cy : Nat → ClassId} {nc a : Nat} {M : Mem} (h : a < nc) : (wld ad kd ln cy nc M)[a]? = some (ad a, eOf ad kd ln cy M a) := by
  unfold wld
  rw [List.getElem?_map, List.getElem?_range h]
  rfl
theorem wld_set {ad kd ln : Nat → Nat} {cy : Nat → ClassId} {nc a : Nat} {M : Mem} {f : Nat → Int} {e : va_E} (he : e = eOf ad kd ln cy (upA M a f) a) : (wld ad kd ln cy nc M).set a (ad a, e) = wld ad kd ln cy nc (upA M a f) := by
  apply List.ext_getElem?
  intro j
  subst he
  unfold wld
  rw [List.getElem?_set, List.getElem?_map, List.getElem?_map]
  by_cases e : a = j
  · subst e
    rw [if_pos rfl]
    by_cases hl : a < nc
    · rw [if_pos (by simp; exact hl), List.getElem?_range hl]; rfl
    · rw [if_neg (by simp; omega), List.getElem?_eq_none (by simp; omega)]; rfl
  · rw [if_neg e]
    cases hj : (List.range nc)[j]? with
    | none => rfl
    | some q =>
      have e2 : q = j := by
        obtain ⟨h1, h2⟩ := List.getElem?_eq_some_iff.mp hj
        rw [← h2, List.getElem_range]
      subst e2
      show some (ad q, eOf ad kd ln cy M q) = some (ad q, eOf ad kd ln cy (upA M a f) q)
      rw [eOf_congr (M := M) (M' := upA M a f) (upA_n (fun z => e z.symm))]
theorem wld_D {ad kd ln : Nat → Nat} {cy : Nat → ClassId} {nc : Nat} {M : Mem} (hA : jA ad nc) : va_D (FR ad nc) (wld ad kd ln cy nc M) := by
  have key : ∀ (k : Nat) (q : Nat × va_E), (wld ad kd ln cy nc M)[k]? = some q → k < nc ∧ q.1 = ad k := by
    intro k q h
    have hl : k < nc := by
      have := (List.getElem?_eq_some_iff.mp h).1
      simpa [wld] using this
    rw [wld_at hl] at h
    cases h
    exact ⟨hl, rfl⟩
  refine ⟨fun i j x y hi hj hxy => ?_, fun k q h => ?_⟩
  · obtain ⟨h1, h2⟩ := key i x hi
    obtain ⟨h3, h4⟩ := key j y hj
    exact hA i j h1 h3 (by rw [← h2, ← h4]; exact hxy)
  · obtain ⟨h1, h2⟩ := key k q h
    exact ⟨k, h1, h2.symm⟩
theorem eOf_obj {ad kd ln : Nat → Nat} {cy : Nat → ClassId} {M : Mem} {a ci : Nat} (h : kd a = ci) (hc : ci < 20) : eOf ad kd ln cy M a = .inr (ci, flds ad ci a M) := by
  unfold eOf; rw [h, if_pos hc]
theorem eOf_arr {ad kd ln : Nat → Nat} {cy : Nat → ClassId} {M : Mem} {a ci : Nat} (h : kd a = ci) (h1 : 20 ≤ ci) (h2 : ci ≠ 23) : eOf ad kd ln cy M a = .inl (cy ci, ln a, .inl (fun j => I32 (M a j))) := by
  unfold eOf; rw [h, if_neg (by omega), if_neg h2]
theorem eOf_rows {ad kd ln : Nat → Nat} {cy : Nat → ClassId} {M : Mem} {a : Nat} (h : kd a = 23) : eOf ad kd ln cy M a = .inl (cy 23, ln a, .inr (.inr (.inr (.inr (fun i => some (ad (a + 1 + i))))))) := by
  unfold eOf; rw [h]; rfl
theorem flds_at {ad : Nat → Nat} {ci a k : Nat} {M : Mem} (h : k < nfs.getD ci 0) : (flds ad ci a M)[k]? = some (bif isRf ci k then .ref (ad (rfo ci k a M)) else .int (I32 (M a k))) := by
  unfold flds
  rw [List.getElem?_map, List.getElem?_range h]
  rfl
theorem flds_len {ad : Nat → Nat} {ci a : Nat} {M : Mem} : (flds ad ci a M).length = nfs.getD ci 0 := by simp [flds]
theorem upI {f : Nat → Int} {k : Nat} {x : Int} : (fun j => I32 (upR f k x j)) = upd (fun j => I32 (f j)) k (I32 x) := by
  funext j
  by_cases e : j = k
  · subst e; simp [upR, upd]
  · simp [upR, upd, e]
/-! locals -/
def jL (ex : List (Nat × Value)) (ad : Nat → Nat) (lsC : Array Slot) (nL : Nat) (ls : List (Option AV)) : Prop := ls.length = nL ∧ ∃ lv, lv_has lsC nL lv ∧ (∀ (i : Nat) (v : AV), ls[i]? = some (some v) → (i, cV ad v) ∈ lv) ∧ ∀ q ∈ ex, q ∈ lv
/-- the places that an instruction stores into; places kept apart -/
def stK (i : Instr) : Option Nat := match i with
  | .istore_n k => some k.val
  | .istore k => some k
  | .astore_n k => some k.val
  | .astore k => some k
  | .iinc k _ => some k
  | _ => none
def exT (ex : List (Nat × Value)) (tb : TB) : Prop := ∀ (pc : Nat) (i : Instr) (n : Nat) (ts : List Nat), tb.lookup pc = some (i, n, ts) → ∀ k, stK i = some k → ∀ q ∈ ex, q.1 ≠ k ∧ q.1 + 1 ≠ k
theorem exT_nil {tb : TB} : exT [] tb := fun _ _ _ _ _ _ _ q hq => absurd hq List.not_mem_nil
theorem cV_cat {ad : Nat → Nat} (v : AV) : (cV ad v).category = 1 := by
  cases v <;> rfl
theorem jL_get {ex : List (Nat × Value)} {ad : Nat → Nat} {lsC : Array Slot} {nL : Nat} {ls : List (Option AV)} (h : jL ex ad lsC nL ls) {i : Nat} {v : AV} (hi : ls[i]? = some (some v)) : lsC[i]? = some (.val (cV ad v)) := by
  obtain ⟨-, lv, h1, h2, -⟩ := h
  exact h1.2.2 (i, cV ad v) (h2 i v hi)
theorem jL_set {ex : List (Nat × Value)} {ad : Nat → Nat} {lsC : Array Slot} {nL : Nat} {ls : List (Option AV)} {lv : List (Nat × Value)} {i : Nat} {v : AV} (hl : ls.length = nL) (hi : i < ls.length) (h2 : ∀ (i : Nat) (v : AV), ls[i]? = some (some v) → (i, cV ad v) ∈ lv) (h3 : ∀ q ∈ ex, q ∈ lv) (hex : ∀ q ∈ ex, q.1 ≠ i ∧ q.1 + 1 ≠ i)
    (h : lv_has lsC nL ((i, cV ad v) :: lv.filter (fun q => !(q.1 == i) && !(q.1 + 1 == i && q.2.category == 2)))) : jL ex ad lsC nL (ls.set i (some v)) := by
  refine ⟨by simp [hl], _, h, fun j w hj => ?_, fun q hq => ?_⟩
  rotate_left
  · refine List.mem_cons_of_mem _ (List.mem_filter.mpr ⟨h3 q hq, ?_⟩)
    obtain ⟨e1, e2⟩ := hex q hq
    have f1 : (q.1 == i) = false := by simpa using e1
    have f2 : (q.1 + 1 == i) = false := by simpa using e2
    simp [f1, f2]
  rw [List.getElem?_set] at hj
  by_cases e : i = j
  · subst e
    rw [if_pos rfl, if_pos hi] at hj
    cases hj
    exact List.mem_cons_self
  · rw [if_neg e] at hj
    refine List.mem_cons_of_mem _ (List.mem_filter.mpr ⟨h2 j w hj, ?_⟩)
    have e2 : (j == i) = false := by simp; exact fun z => e z.symm
    simp [e2, cV_cat]
theorem lv_args1 {ad : Nat → Nat} : ∀ (as : List AV) (n i : Nat) (v : AV), as[i]? = some v → (n + i, cV ad v) ∈ lv_args n (as.map (cV ad))
  | [], n, i, v, h => by simp at h
  | a :: r, n, i, v, h => by
    rw [List.map_cons, lv_args]
    cases i with
    | zero => cases h; exact List.mem_cons_self
    | succ i =>
      refine List.mem_cons_of_mem _ ?_
      rw [if_neg (by rw [cV_cat]; decide)]
      have := lv_args1 (ad := ad) r (n + 1) i v h
      rwa [show n + (i + 1) = n + 1 + i by omega]
theorem lg_len {ad : Nat → Nat} : ∀ (as : List AV), (lg_sl (as.map (cV ad))).length = as.length
  | [] => rfl
  | a :: r => by
    have h := lg_len (ad := ad) r
    have h1 : (cV ad a).category = 1 := cV_cat a
    simp only [List.map_cons, lg_sl, List.flatMap_cons, List.length_append, List.length_cons] at h ⊢
    rw [h]
    simp [h1]
    omega
theorem jL_entry {ad : Nat → Nat} {as : List AV} {n : Nat} (h : as.length ≤ n) : jL [] ad ((lg_sl (as.map (cV ad)) ++ List.replicate (n - (lg_sl (as.map (cV ad))).length) Slot.unset).toArray) n (as.map some ++ List.replicate (n - as.length) none) := by
  refine ⟨by simp; omega, _, lv_entry (as.map (cV ad)) (by rw [lg_len]; exact h), fun i v hi => ?_, fun q hq => absurd hq List.not_mem_nil⟩
  have h2 : as[i]? = some v := by
    by_cases hl : i < as.length
    · rw [List.getElem?_append_left (by simpa using hl), List.getElem?_map] at hi
      cases e : as[i]? with
      | none => rw [e] at hi; cases hi
      | some w => rw [e] at hi; cases hi; rfl
    · rw [List.getElem?_append_right (by simp; omega)] at hi
      have := List.eq_of_mem_replicate (List.mem_of_getElem? hi)
      cases this
  have := lv_args1 (ad := ad) as 0 i v h2
  rwa [Nat.zero_add] at this
theorem tbOK_of {code : ByteArray} {tb : TB} (h : tbOK code tb = true) {pc : Nat} {i : Instr} {n : Nat} {ts : List Nat} (hl : tb.lookup pc = some (i, n, ts)) : decode code pc = .ok (i, n) ∧ tgOK pc i ts = true := by
  have h1 := List.all_eq_true.mp h _ (lookup_mem hl)
  simp only [Bool.and_eq_true, decide_eq_true_eq] at h1
  exact h1
