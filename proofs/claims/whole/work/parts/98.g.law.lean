/-! THE CLAIM OUT OF ONE WALK OF THE LAW'S BODY. Your part is whole_start (and what it stands on); all else here is the same for every law, but numbers. -/
def R_law : String := "SeamMapLaw"
def lw_P (b : Addr) (xs : List Int32) (args : Array Value) (s : State) : Prop := args = #[.ref b] ∧ s.IntsAt b xs ∧ xs.length ≤ 2048 ∧ (Jvm.Cond.and given_1 narrow_1).before args s = true
def lw_Q (_ : Array Value) (s : State) (o : Outcome) (t : State) : Prop := o = .returned (some (.int 1)) ∧ Framed s o t [] 600000 7302250
def lw_Z (below : List Frame) (a : Array Value) (s : State) : State → Prop := fun t => ∃ o, t.status = .running ∧ Ended t below o ∧ lw_Q a s o t
/-- the law's own end, with 1 on the stack, nothing written that was there before, its room as the claim has it -/
theorem lw_ret {p : Program} {l : Launch} {e : Env} {s : State} {m : MethodId} {below : List Frame} {meth : Method} {c : Code} {b : Nat} (hx : p.tables.exec = Jvm.exec) (hb : c.code = code) (hr : meth.sig.returnType = ret) (hlocks : meth.locks = false) {pc : Nat} {H : Heap} {ls : Array Slot} (hdg : decode code pc = .ok (.ireturn, 1)) : W p l e room_1 s m #[Value.ref b] below meth c H [] 600000 7302250 (lw_Z below #[Value.ref b] s) (F0 m pc ls [.int 1]) := by
  intro T hT X
  obtain ⟨fs, hret, hrun, hended, hW, hframe⟩ := X.leave (v := some (.int 1)) (hlocks := hlocks) (fun h => by rw [hr] at h; cases h)
  have hmeth' : T.vm.method? m = some meth := X.method'
  refine ⟨T.setFrames fs, ?_, .returned (some (.int 1)), hrun, hended, rfl, ⟨_, rfl⟩, hW, hframe⟩
  jvm_step X.here [X.here.top, hx, hb, hdg, hmeth', hr, ret, narrow_b1]
  (try refine ⟨rfl, ?_⟩); (try refine ⟨rfl, ?_⟩)
  first | (intro acts; rw [hret _ acts rfl rfl rfl]) | rw [hret _ _ rfl rfl rfl]
  exact Steps.refl _
/-- what holds at the law's entry: the machine, the code, the tables' words (any of lw_tbl by 'hts w (by decide +kernel)'), the script of L ints xs at the cell b, what the Statement gives of the start (any of its parts by flat_of_before) -/
def lw_At (p : Program) (s : State) (m : MethodId) (meth : Method) (c : Code) (b L : Nat) (xs : Nat → Int32) : Prop :=
  p.tables.exec = Jvm.exec ∧ c.code = code ∧ meth.sig.returnType = ret ∧ c.maxLocals = 4 ∧ s.vm.findClass R_law = some m.cls ∧ (∀ w ∈ lw_tbl, w.before #[Value.ref b] s = true) ∧ va_X b L xs s s.heap ∧ b < s.heap.size ∧ meth.locks = false ∧ (Jvm.Cond.and given_1 narrow_1).before #[Value.ref b] s = true
/-! ===== rows of the law ===== -/
abbrev lwA (s : State) : Nat → Prop := fun q => s.heap.size ≤ q
/-- the two worlds, at their addresses -/
def LW (D : va_G) (cy : Nat → ClassId) (adX adY : Nat → Nat) (MX MY : Mem) (H : Heap) : Prop := (va_P D vwCl (wld adX kdX lnX cy 46 MX) H ∧ va_P D vwCl (wld adY kdY lnY cy 12 MY) H) ∧ okM MX ∧ okM MY
def LA (s : State) (adX adY : Nat → Nat) : Prop := (jA adX 46 ∧ jA adY 12) ∧ (∀ a, a < 46 → s.heap.size ≤ adX a) ∧ (∀ a, a < 12 → s.heap.size ≤ adY a) ∧ ∀ a b, a < 46 → b < 12 → adX a ≠ adY b
theorem in_cons {x : Int} {r : List AV} (h : inR x) (hr : ∀ y, (Sum.inl y : AV) ∈ r → inR y) : ∀ y, (Sum.inl y : AV) ∈ (.inl x :: r : List AV) → inR y := fun y hy => by
  rcases List.mem_cons.mp hy with q | q
  · cases q; exact h
  · exact hr y q
theorem if01R (P : Prop) [Decidable P] : inR (if P then (0 : Int) else 1) := by
  split <;> decide
theorem i2c_b (x : Int32) : 0 ≤ ((x.toUInt32 % 65536).toInt32).toInt ∧ ((x.toUInt32 % 65536).toInt32).toInt < 65536 := by
  have h1 : (x.toUInt32 % 65536).toNat < 65536 := by
    rw [UInt32.toNat_mod]
    exact Nat.mod_lt _ (by decide)
  have h2 : ((x.toUInt32 % 65536).toInt32).toInt = ((x.toUInt32 % 65536).toNat : Int) := by
    show ((x.toUInt32 % 65536).toBitVec).toInt = ((x.toUInt32 % 65536).toBitVec.toNat : Int)
    rw [BitVec.toInt_eq_toNat_of_lt]
    have : (x.toUInt32 % 65536).toBitVec.toNat < 65536 := h1
    omega
  omega
theorem wld_kept {D : va_G} {ad kd ln : Nat → Nat} {cy : Nat → ClassId} {nc : Nat} {M : Mem} {H H1 : Heap} (h : va_P D vwCl (wld ad kd ln cy nc M) H) (hk : ∀ a, a < nc → ad a < H.size → H1[ad a]? = H[ad a]?) : va_P D vwCl (wld ad kd ln cy nc M) H1 := by
  refine h.kept (fun k q hq => ?_)
  have hl : k < nc := by
    have := (List.getElem?_eq_some_iff.mp hq).1
    simpa [wld] using this
  have hlt := (h k q hq).lt
  rw [wld_at hl] at hq
  cases hq
  exact hk k hl hlt
section LR
variable {p : Program} {l : Launch} {e : Env} {s : State} {m : MethodId} {below : List Frame} {meth : Method} {c : Code} {b L : Nat} {xs : Nat → Int32} {D : va_G} {cy : Nat → ClassId} {adX adY : Nat → Nat} {H : Heap} {locs : List Loc} {Q : State → Prop} {ls : Array Slot} {rest : List Value} {pc cells slots : Nat}
/-- a number of the script, k behind the place i -/
theorem law_arg {i k : Nat} (C0 : lw_At p s m meth c b L xs) (hL : L ≤ 2048) (hS : va_S (lwA s) s.heap H locs) (h0 : ls[0]? = some (.val (.ref b))) (h3 : ls[3]? = some (.val (.int (I32 i)))) (hi : i + k < L)
    (d0 : decode code pc = .ok (.aload_n 0, 1)) (d1 : decode code (pc + 1) = .ok (.iload_n 3, 1)) (d2 : decode code (pc + 1 + 1) = .ok (.iconst k, 1)) (d3 : decode code (pc + 1 + 1 + 1) = .ok (.iadd, 1)) (d4 : decode code (pc + 1 + 1 + 1 + 1) = .ok (.iaload, 1))
    (kk : W p l e room_1 s m #[Value.ref b] below meth c H locs cells slots Q (F0 m (pc + 1 + 1 + 1 + 1 + 1) ls (.int (xs (i + k)) :: rest))) : W p l e room_1 s m #[Value.ref b] below meth c H locs cells slots Q (F0 m pc ls rest) := by
  obtain ⟨hx, hb, hr, hml, hown, hts, hX, hbl, hlocks, hgv⟩ := id C0
  refine lv_aload_n hx hb d0 rfl h0 ?_
  refine lv_iload_n hx hb d1 rfl h3 ?_
  refine lv_iconst (v := I32 k) hx hb d2 rfl ?_
  refine lv_iadd hx hb d3 ?_
  rw [I32_add]
  have hr1 : inR ((i : Int) + k) := ⟨by omega, by omega⟩
  refine va_sld hx hb hX hbl (Nat.not_le.mpr hbl) hS (I32_vp hr1 (by omega) (by omega)) d4 ?_
  rw [I32_clamp hr1, show ((i : Int) + k).toNat = i + k by omega]
  exact kk
theorem law_bool {w : Int32} (C0 : lw_At p s m meth c b L xs) (d0 : decode code pc = .ok (.ifCond .eq 7, 3)) (d1 : decode code (pc + 3) = .ok (.iconst 1, 1)) (d2 : decode code (pc + 3 + 1) = .ok (.goto 4, 3)) (d3 : decode code (pc + 7) = .ok (.iconst 0, 1))
    (kk : W p l e room_1 s m #[Value.ref b] below meth c H locs cells slots Q (F0 m (pc + 8) ls (.int (I32 (if w = 0 then (0 : Int) else 1)) :: rest))) : W p l e room_1 s m #[Value.ref b] below meth c H locs cells slots Q (F0 m pc ls (.int w :: rest)) := by
  obtain ⟨hx, hb, hr, hml, hown, hts, hX, hbl, hlocks, hgv⟩ := id C0
  refine lv_if_eq (tgt := pc + 7) hx hb d0 (by omega) (fun h => ?_) (fun h => ?_)
  · rw [if_pos h] at kk
    exact lv_iconst (v := I32 0) hx hb d3 rfl kk
  · rw [if_neg h] at kk
    refine lv_iconst (v := I32 1) hx hb d1 rfl ?_
    exact lv_goto (tgt := pc + 8) hx hb d2 (by omega) kk
section CALLS
variable {y : MethodName} {cd : ByteArray} {maxL : Nat} {rm : Room} {Pm : List AV → Mem → Prop} {Cm : List AV → Mem → Int → Mem → Prop} {idx n : Nat} {As : List AV} {MX MY : Mem} {st0 : List Value}
theorem law_X (C0 : lw_At p s m meth c b L xs) (hK : va_K D vwCl (tysJ cy) s) (hA : LA s adX adY) (hW : LW D cy adX adY MX MY H) (hmet : MetA l D cy adX kdX lnX 46 y cd maxL (some .int) rm 1 Pm Cm) (hcal : CalV y cd maxL (some .int) n) (hlink : Cond.methodLink RL idx y ∈ lw_tbl) (hrm : RmOK rm maxL room_1)
    (hcls : RX8 = y.cls) (hAn : As.length = n) (hP1 : Pm (.inr 0 :: As) MX) (hin : ∀ x, Sum.inl x ∈ As → inR x) (hS : va_S (lwA s) s.heap H locs) (hsz : ls.size = 4) (hcat : (rest.map fun v => v.category).sum ≤ 8) (hdg : decode code pc = .ok (.invokevirtual idx, 3)) (hcs : cells ≤ room_1.cells ∧ slots ≤ room_1.slots) (hst : st0 = (As.map (cV adX)).reverse ++ .ref (adX 0) :: rest)
    (kk : ∀ (x : Int) (M' : Mem) (H1 : Heap) (locs1 : List Loc), Cm (.inr 0 :: As) MX x M' → LW D cy adX adY M' MY H1 → va_S (lwA s) s.heap H1 locs1 → W p l e room_1 s m #[Value.ref b] below meth c H1 locs1 cells slots Q (F0 m (pc + 3) ls (.int (I32 x) :: rest))) :
    W p l e room_1 s m #[Value.ref b] below meth c H locs cells slots Q (F0 m pc ls st0) := by
  obtain ⟨hx, hb, hr, hml, hown, hts, hX, hbl, hlocks, hgv⟩ := id C0
  obtain ⟨⟨jX, jY⟩, fX, fY, dis⟩ := hA
  obtain ⟨⟨pX, pY⟩, oX, oY⟩ := hW
  refine jc_inv (own := RL) (a := 0) (q := (RX8, TX8, 8)) hmet hcal hlink hrm hx hb hml hown (fun w hw => hts w (List.mem_filter.mp hw).1) hK hAn rfl hcls (by decide) hP1 oX hin pX hS fX hsz hcat hdg hcs hst (fun x M' H1 locs1 rx hM' hC hP1' hS1 hk1 => ?_)
  exact kk x M' H1 locs1 hC ⟨⟨hP1', wld_kept pY (fun a ha hlt => hk1 _ hlt (fun ⟨a', h1, h2⟩ => dis a' a h1 ha h2))⟩, hM', oY⟩ hS1
theorem law_Y (C0 : lw_At p s m meth c b L xs) (hK : va_K D vwCl (tysJ cy) s) (hA : LA s adX adY) (hW : LW D cy adX adY MX MY H) (hmet : MetA l D cy adY kdY lnY 12 y cd maxL (some .int) rm 1 Pm Cm) (hcal : CalV y cd maxL (some .int) n) (hlink : Cond.methodLink RL idx y ∈ lw_tbl) (hrm : RmOK rm maxL room_1)
    (hcls : RX9 = y.cls) (hAn : As.length = n) (hP1 : Pm (.inr 0 :: As) MY) (hin : ∀ x, Sum.inl x ∈ As → inR x) (hS : va_S (lwA s) s.heap H locs) (hsz : ls.size = 4) (hcat : (rest.map fun v => v.category).sum ≤ 8) (hdg : decode code pc = .ok (.invokevirtual idx, 3)) (hcs : cells ≤ room_1.cells ∧ slots ≤ room_1.slots) (hst : st0 = (As.map (cV adY)).reverse ++ .ref (adY 0) :: rest)
    (kk : ∀ (x : Int) (M' : Mem) (H1 : Heap) (locs1 : List Loc), Cm (.inr 0 :: As) MY x M' → LW D cy adX adY MX M' H1 → va_S (lwA s) s.heap H1 locs1 → W p l e room_1 s m #[Value.ref b] below meth c H1 locs1 cells slots Q (F0 m (pc + 3) ls (.int (I32 x) :: rest))) :
    W p l e room_1 s m #[Value.ref b] below meth c H locs cells slots Q (F0 m pc ls st0) := by
  obtain ⟨hx, hb, hr, hml, hown, hts, hX, hbl, hlocks, hgv⟩ := id C0
  obtain ⟨⟨jX, jY⟩, fX, fY, dis⟩ := hA
  obtain ⟨⟨pX, pY⟩, oX, oY⟩ := hW
  refine jc_inv (own := RL) (a := 0) (q := (RX9, TX9, 20)) hmet hcal hlink hrm hx hb hml hown (fun w hw => hts w (List.mem_filter.mp hw).1) hK hAn rfl hcls (by decide) hP1 oY hin pY hS fY hsz hcat hdg hcs hst (fun x M' H1 locs1 rx hM' hC hP1' hS1 hk1 => ?_)
  exact kk x M' H1 locs1 hC ⟨⟨wld_kept pX (fun a ha hlt => hk1 _ hlt (fun ⟨a', h1, h2⟩ => dis a a' ha h1 h2.symm)), hP1'⟩, oX, hM'⟩ hS1
end CALLS
end LR
