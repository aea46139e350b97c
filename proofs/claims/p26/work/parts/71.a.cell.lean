/-! ===== the script, cell by cell ===== -/
abbrev rm_L_cell : Room := { frames := 0, cells := 0, slots := 0, locals := 0 }
theorem ca_L_cell : CalS yL_cell cL_cell 2 (some .int) 2 := ⟨⟨wcL_cell, wnL, by decide +kernel, by decide +kernel, by decide +kernel⟩, wsL_cell⟩
def jQK : Array Value → State → Outcome → State → Prop := fun _ st oc t => (∃ x : Int, inR x ∧ oc = .returned (some (.int (I32 x)))) ∧ va_F (fun _ => False) st t
theorem ok_L_cell (l : Launch) {b L : Nat} {xs : Nat → Int32} {k : Int} (hL : L ≤ 2048) (hk : 0 ≤ k ∧ k ≤ 100) :
    Met l yL_cell (Cond.code yL_cell cL_cell 2 (some .int) :: wtb) rm_L_cell (va_Pc [.ref b, .int (I32 k)] (fun U => va_X b L xs U U.heap ∧ b < U.heap.size)) jQK 0 0 (fun _ => False) := by
  refine Met.ofW (cc := cL_cell) (maxL := 2) (ret := some .int) (by decide) rfl ?_
  intro p e s m args below meth c s₁ B hml hv
  obtain ⟨rfl, hX, hbl⟩ := hv
  have hts := atoms_spec (ws := Cond.code yL_cell cL_cell 2 (some .int) :: wtb) B.pre
  have hown : s.vm.findClass RL = some m.cls := findClass_of_methodNamed B.named
  have hx := B.exec
  have hb := B.bytes
  have hlocks := B.notSynchronized
  have htw : ∀ w ∈ wtb, w.before ([.ref b, .int (I32 k)] : List Value).toArray s = true := fun w hw => hts w (List.mem_cons_of_mem _ hw)
  have hS : va_S (fun _ => False) s.heap s.heap [] := va_S.rf
  have rk : inR k := ⟨by omega, by omega⟩
  have rL : inR (L : Int) := ⟨by omega, by omega⟩
  have hl := lv_entry ([.ref b, .int (I32 k)]) (n := 2) (Nat.le_of_ble_eq_true rfl)
  rw [lg_entry_eq]
  generalize (lg_sl ([.ref b, .int (I32 k)]) ++ List.replicate (2 - (lg_sl ([.ref b, .int (I32 k)])).length) Slot.unset).toArray = ls at hl ⊢
  have hl : lv_has ls 2 [(0, .ref b), (1, .int (I32 k))] := hl
  have done : ∀ (x : Int32), W p l e rm_L_cell s m ([.ref b, .int (I32 k)] : List Value).toArray below meth c s.heap [] 0 0 (MQ below jQK ([.ref b, .int (I32 k)] : List Value).toArray s 0 0 (fun _ => False)) (F0 m 20 ls [.int x]) := fun x =>
    W.zret (ty := .int) hx hb B.returns rfl (fun t ht _ => ⟨⟨x.toInt, I32_inR x, by rw [I32_of]⟩, hS.F ht⟩) hS.2.2 dL_cell_20
  refine lv_iload_n hx hb dL_cell_0 rfl (lv_at hl 1 rfl) ?_
  refine lv_aload_n hx hb dL_cell_1 rfl (lv_at hl 0 rfl) ?_
  refine va_slen hx hb hX hbl (fun h => h) hS dL_cell_2 ?_
  rw [show Int32.ofNat L = I32 (L : Int) from Int32.ofInt_eq_ofNat.symm]
  refine lv_icmp_ge (tgt := 12) hx hb dL_cell_3 (by decide) (fun h => ?_) (fun h => ?_)
  · refine lv_ldc (own := RL) hx hb hown (htw _ (cstL_ok 7 (by decide)).1) dL_cell_12 ?_
    refine lv_iload_n hx hb dL_cell_14 rfl (lv_at hl 1 rfl) ?_
    refine lv_imul hx hb dL_cell_15 ?_
    refine lv_sipush (v := 173) hx hb dL_cell_16 (by decide) ?_
    refine lv_iadd hx hb dL_cell_19 ?_
    exact done _
  · have h2 : k < L := by
      have h3 : ¬ ((L : Int) ≤ k) := fun y => h ((I32_le rL rk).mpr y)
      omega
    refine lv_aload_n hx hb dL_cell_6 rfl (lv_at hl 0 rfl) ?_
    refine lv_iload_n hx hb dL_cell_7 rfl (lv_at hl 1 rfl) ?_
    refine va_sld hx hb hX hbl (fun h => h) hS (I32_vp rk hk.1 h2) dL_cell_8 ?_
    refine lv_goto (tgt := 20) hx hb dL_cell_9 (by decide) ?_
    exact done _
section JC
variable {p : Program} {l : Launch} {e : Env} {R : Room} {s : State} {m : MethodId} {args : Array Value} {below : List Frame} {meth : Method} {c : Code} {cc : ByteArray} {nL : Nat} {D : va_G} {cy : Nat → ClassId} {A : Nat → Prop} {cells slots : Nat} {Q : State → Prop} {b L : Nat} {xs : Nat → Int32}
theorem jw_cell (hE : jEnv p s m args c cc nL RL D cy) (hX : va_X b L xs s s.heap) (hbl : b < s.heap.size) (hL : L ≤ 2048) (hbA : ¬ A b) (hrm : 0 + 1 ≤ R.frames ∧ 8 + (2 + 11) + 0 ≤ R.locals) (hcs : cells ≤ R.cells ∧ slots ≤ R.slots)
    {pc : Nat} (hdg : decode cc pc = .ok (.invokestatic 100, 3)) {lsC : Array Slot} (hsz : lsC.size = nL) {k : Int} (hk : 0 ≤ k ∧ k ≤ 100) {ws : va_W} {H : Heap} {locs : List Loc} (hP : va_P D vwCl ws H) (hS : va_S A s.heap H locs)
    (kk : ∀ (x : Int) (H1 : Heap) (locs1 : List Loc), inR x → va_P D vwCl ws H1 → va_S A s.heap H1 locs1 → W p l e R s m args below meth c H1 locs1 cells slots Q (F0 m (pc + 3) lsC [.int (I32 x)])) :
    W p l e R s m args below meth c H locs cells slots Q (F0 m pc lsC [.int (I32 k), .ref b]) := by
  obtain ⟨⟨w1, w2, w3, w4, w5⟩, w6⟩ := ca_L_cell
  obtain ⟨hx, hb, hml, hown, hts, hKv⟩ := id hE
  have hT : GoodIn wtb (wsS RL 100 yL_cell (Cond.code yL_cell cL_cell 2 (some .int) :: wtb)) := by
    intro w hw
    unfold wsS at hw
    rcases List.mem_append.mp hw with hw | hw
    · simp only [List.mem_cons, List.not_mem_nil, or_false] at hw
      rcases hw with rfl | rfl | rfl
      · exact ⟨wtb_in mkL_100 rfl, good_of_word rfl⟩
      · exact ⟨wtb_in w6 rfl, good_of_word rfl⟩
      · exact ⟨wtb_in w2 rfl, good_of_word rfl⟩
    · exact good_cons (big := wtb) w1 w hw
  have hX2 := hX.kept (hS.2.1 b hbl hbA)
  have hrun := va_runS (p := p) (l := l) (e := e) (R := R) (s := s) (m := m) (args := args) (below := below) (meth := meth) (c := c) (H := H) (locs := locs) (cells := cells) (slots := slots) (mc := 0) (ms := 0) (As := [.ref b, .int (I32 k)]) (rest := []) (g := F0 m pc lsC [.int (I32 k), .ref b])
    ⟨hx, hb, hml, hown, hts⟩ (ok_L_cell l (b := b) (L := L) (xs := xs) hL hk) (cwS 2 hts hT rfl rfl rfl ⟨rfl, w3, w4, w5⟩ hrm)
    ⟨fun a U g mk q => ⟨q.1, va_X.moved (u := U) (U := U.calling g mk a) (Vm.Alike.refl U.vm) q.2.1, q.2.2⟩, fun U hU hW2 => ⟨rfl, by rw [hU]; exact hX2.moved hW2.alike, by rw [hU]; exact Nat.lt_of_lt_of_le hbl hS.1⟩⟩
    rfl rfl hsz rfl (by show 2 * 0 + 0 ≤ 8; decide) hdg hcs
  refine jn_go hrun hS (fun q h => h.elim) (fun st oc t hq => hq.2) (fun v st0 t locs1 h0 hq hS1 => ?_)
  obtain ⟨⟨x, rx, hv⟩, hz, hk2⟩ := hq
  have hv2 : v = some (.int (I32 x)) := Outcome.returned.inj hv
  subst hv2
  rw [h0] at hz hk2
  exact kk x t.heap locs1 rx (hP.kept (fun k q hq => hk2 _ (hP k q hq).lt (fun h => h))) hS1
end JC
