/-! ===== a small machine over whole numbers, and why its runs are runs of the bytecode ===== -/
abbrev AV : Type := Int ⊕ Nat
abbrev Mem : Type := Nat → Nat → Int
abbrev inR (x : Int) : Prop := -2147483648 ≤ x ∧ x ≤ 2147483647
/-- a row with another value at k; a memory with another row, another value -/
def upR (f : Nat → Int) (k : Nat) (v : Int) : Nat → Int := fun j => if j = k then v else f j
def upA (M : Mem) (a : Nat) (f : Nat → Int) : Mem := fun b => if b = a then f else M b
def up (M : Mem) (a k : Nat) (v : Int) : Mem := upA M a (upR (M a) k v)
def okM (M : Mem) : Prop := ∀ a k, inR (M a k)
def I32 (x : Int) : Int32 := Int32.ofInt x
/-- how a call is spoken of: how many arguments, what it answers (0 nothing, 1 a number, 2 a boolean, 3 a char, 4 a cell), what it wants, what it does -/
abbrev CS : Type := Nat × Nat × (List AV → Mem → Prop) × (List AV → Mem → Int → Mem → Prop)
theorem I32_toInt {x : Int} (h : inR x) : (I32 x).toInt = x := Int32.toInt_ofInt_of_le (by have := h.1; omega) (by have := h.2; omega)
theorem I32_inR (v : Int32) : inR v.toInt := ⟨by have := Int32.le_toInt v; omega, by have := Int32.toInt_lt v; omega⟩
theorem I32_of (v : Int32) : I32 v.toInt = v := Int32.ofInt_toInt v
theorem I32_clamp {x : Int} (h : inR x) : (I32 x).toNatClampNeg = x.toNat := by
  rw [← Int32.toNat_toInt, I32_toInt h]
theorem I32_eq {x y : Int} (hx : inR x) (hy : inR y) : I32 x = I32 y ↔ x = y := by
  rw [← Int32.toInt_inj, I32_toInt hx, I32_toInt hy]
theorem I32_lt {x y : Int} (hx : inR x) (hy : inR y) : I32 x < I32 y ↔ x < y := by
  rw [Int32.lt_iff_toInt_lt, I32_toInt hx, I32_toInt hy]
theorem I32_le {x y : Int} (hx : inR x) (hy : inR y) : I32 x ≤ I32 y ↔ x ≤ y := by
  rw [Int32.le_iff_toInt_le, I32_toInt hx, I32_toInt hy]
theorem I32_0 : I32 0 = 0 := by decide
theorem inR_0 : inR 0 := ⟨by decide, by decide⟩
theorem I32_vp {x : Int} {n : Nat} (h : inR x) (h0 : 0 ≤ x) (h1 : x < n) : vp_in (I32 x) n := by
  rw [vp_in_iff, I32_toInt h]; exact ⟨h0, h1⟩
theorem I32_add (x y : Int) : I32 x + I32 y = I32 (x + y) := (Int32.ofInt_add x y).symm
theorem I32_sub (x y : Int) : I32 x - I32 y = I32 (x - y) := (Int32.ofInt_sub x y).symm
theorem I32_mul (x y : Int) : I32 x * I32 y = I32 (x * y) := (Int32.ofInt_mul x y).symm
theorem I32_div {x y : Int} (hx : inR x) (hy : inR y) : I32 x / I32 y = I32 (x.tdiv y) := by
  unfold I32
  refine (Int32.ofInt_tdiv ?_ ?_ ?_ ?_).symm
  · exact Int.le_trans (by decide) hx.1
  · exact Int.le_trans hx.2 (by decide)
  · exact Int.le_trans (by decide) hy.1
  · exact Int.le_trans hy.2 (by decide)
theorem I32_rem {x y : Int} (hx : inR x) (hy : inR y) : I32 x - I32 x / I32 y * I32 y = I32 (x.tmod y) := by
  rw [I32_div hx hy, I32_mul, I32_sub]
  congr 1
  have := Int.tmod_add_mul_tdiv x y
  rw [Int.mul_comm] at this
  omega
def bAnd (x y : Int) : Int := (I32 x &&& I32 y).toInt
def bOr (x y : Int) : Int := (I32 x ||| I32 y).toInt
def bXor (x y : Int) : Int := (I32 x ^^^ I32 y).toInt
def bShl (x y : Int) : Int := (I32 x <<< (I32 y &&& 31)).toInt
def bShr (x y : Int) : Int := (I32 x >>> (I32 y &&& 31)).toInt
/-! the cells: how many fields a class has, which of them hold a cell, and which one -/
def nfs : List Nat := [3, 9, 2, 6, 2, 2, 7, 5, 8, 20]
def isRf (ci k : Nat) : Bool := match ci with
  | 0 => k == 0
  | 1 => Nat.ble k 7
  | 3 => Nat.ble k 3
  | 4 => k == 0
  | 5 => k == 0
  | 6 => Nat.ble k 1
  | 7 => true
  | 8 => true
  | 9 => k == 3 || k == 4 || k == 10 || k == 11 || k == 12 || k == 13 || k == 14 || k == 15 || k == 17 || k == 18 || k == 19
  | _ => false
def rfo (ci k a : Nat) (M : Mem) : Nat := match ci, k with
  | 0, _ => 17
  | 1, 0 => 1
  | 1, 1 => 6
  | 1, 2 => a + 1
  | 1, 3 => a + 2
  | 1, 4 => a + 3
  | 1, 5 => a + 4
  | 1, 6 => a + 5
  | 1, _ => a + 6
  | 3, 0 => 2
  | 3, 1 => 3
  | 3, 2 => 4
  | 3, _ => 5
  | 4, _ => 13
  | 5, _ => a + 1
  | 6, 0 => 1
  | 6, _ => 15
  | 7, 0 => 1
  | 7, 1 => 6
  | 7, 2 => 8
  | 7, 3 => 9
  | 7, _ => 10
  | 8, 0 => 1
  | 8, 1 => 6
  | 8, 2 => 7
  | 8, 3 => 12
  | 8, 4 => 14
  | 8, 5 => 16
  | 9, 3 => 1
  | 9, 4 => 2
  | 9, 10 => 3
  | 9, 11 => 4
  | 9, 12 => 5
  | 9, 13 => 6
  | 9, 14 => 7
  | 9, 15 => 8
  | 9, 17 => 9
  | 9, 18 => 10
  | 9, 19 => 11
  | _, _ => (M a k).toNat
def kdX (a : Nat) : Nat := [8, 3, 2, 2, 21, 21, 21, 7, 21, 21, 5, 21, 4, 20, 6, 22, 0, 23, 21, 21, 21, 21, 21, 21, 21, 21, 21, 21, 21, 21, 1, 21, 21, 21, 21, 22, 5, 21, 1, 21, 21, 21, 21, 22, 5, 21].getD a 99
def lnX (a : Nat) : Nat := [0, 0, 0, 0, 576, 576, 144, 0, 6, 144, 0, 144, 0, 160, 0, 144, 0, 12, 144, 144, 144, 144, 144, 144, 144, 144, 144, 144, 144, 144, 0, 144, 144, 144, 144, 144, 0, 144, 0, 144, 144, 144, 144, 144, 0, 144].getD a 0
def kdY (a : Nat) : Nat := [9, 21, 21, 20, 22, 21, 21, 21, 21, 21, 21, 21].getD a 99
def lnY (a : Nat) : Nat := [0, 144, 6, 160, 144, 144, 144, 144, 144, 1728, 144, 144].getD a 0
/-! one instruction -/
def vcmp (c : Jvm.ClassFile.Cond) (x y : Int) : Prop := match c with
  | .eq => x = y
  | .ne => ¬ x = y
  | .lt => x < y
  | .ge => y ≤ x
  | .gt => y < x
  | .le => x ≤ y
def vldI (ls : List (Option AV)) (k : Nat) (K : Int → Prop) : Prop := match ls[k]? with
  | some (some (.inl x)) => K x
  | _ => False
def vldA (ls : List (Option AV)) (k : Nat) (K : Nat → Prop) : Prop := match ls[k]? with
  | some (some (.inr a)) => K a
  | _ => False
def v2 (st : List AV) (K : Int → Int → List AV → Prop) : Prop := match st with
  | .inl y :: .inl x :: r => K x y r
  | _ => False
def v1 (st : List AV) (K : Int → List AV → Prop) : Prop := match st with
  | .inl x :: r => K x r
  | _ => False
def vA (st : List AV) (K : Nat → List AV → Prop) : Prop := match st with
  | .inr a :: r => K a r
  | _ => False
def vIA (st : List AV) (K : Int → Nat → List AV → Prop) : Prop := match st with
  | .inl i :: .inr a :: r => K i a r
  | _ => False
def vIIA (st : List AV) (K : Int → Int → Nat → List AV → Prop) : Prop := match st with
  | .inl x :: .inl i :: .inr a :: r => K x i a r
  | _ => False
def vtg (ts : List Nat) (K : Nat → Prop) : Prop := match ts with
  | [t] => K t
  | _ => False
def vtab (lo : Int) (us : List Nat) (x : Int) (K : Nat → Prop) : Prop := match us with
  | [] => True
  | u :: r => (x = lo → K u) ∧ vtab (lo + 1) r x K
def vput (ci k : Nat) (kd : Nat → Nat) (st : List AV) (M : Mem) (K : List AV → Mem → Prop) : Prop := match st with
  | .inl x :: .inr a :: r => kd a = ci ∧ bif isRf ci k then False else K r (up M a k x)
  | .inr b :: .inr a :: r => kd a = ci ∧ kd b = 1 ∧ b < 100 ∧ bif Nat.beq ci 8 && (Nat.beq k 6 || Nat.beq k 7) then K r (up M a k (b : Int)) else False
  | _ => False
def vpush (rt : Nat) (x : Int) (st : List AV) : List AV := match rt with
  | 0 => st
  | 4 => .inr x.toNat :: st
  | _ => .inl x :: st
def vret (rty : Nat) (x : Int) : Prop := match rty with
  | 1 => True
  | 2 => x = 0 ∨ x = 1
  | 3 => 0 ≤ x ∧ x < 65536
  | _ => False
def vcall (cs : Option CS) (st : List AV) (M : Mem) (K : List AV → Mem → Prop) : Prop := match cs with
  | some (k, rt, P, C) => bif Nat.ble k st.length && Nat.ble st.length (k + 8) then P (st.take k).reverse M ∧ ∀ (x : Int) (M' : Mem), inR x → okM M' → C (st.take k).reverse M x M' → K (vpush rt x (st.drop k)) M' else False
  | none => False
abbrev KT : Type := Nat → List (Option AV) → List AV → Mem → Prop
def vstep (kd ln : Nat → Nat) (ft : Nat → Nat × Nat) (cst : Nat → Int) (rty : Nat) (post : Int → Mem → Prop) (cs : Option CS) (K : KT)
    (pc : Nat) (i : Instr) (n : Nat) (ts : List Nat) (ls : List (Option AV)) (st : List AV) (M : Mem) : Prop := match i with
  | .iconst v => K (pc + n) ls (.inl v :: st) M
  | .bipush v => K (pc + n) ls (.inl v :: st) M
  | .sipush v => K (pc + n) ls (.inl v :: st) M
  | .ldc j => K (pc + n) ls (.inl (cst j) :: st) M
  | .iload_n k => vldI ls k.val fun x => K (pc + n) ls (.inl x :: st) M
  | .iload k => vldI ls k fun x => K (pc + n) ls (.inl x :: st) M
  | .aload_n k => vldA ls k.val fun a => K (pc + n) ls (.inr a :: st) M
  | .aload k => vldA ls k fun a => K (pc + n) ls (.inr a :: st) M
  | .istore_n k => bif Nat.blt k.val ls.length then v1 st fun x r => K (pc + n) (ls.set k.val (some (.inl x))) r M else False
  | .istore k => bif Nat.blt k ls.length then v1 st fun x r => K (pc + n) (ls.set k (some (.inl x))) r M else False
  | .astore_n k => bif Nat.blt k.val ls.length then vA st fun a r => K (pc + n) (ls.set k.val (some (.inr a))) r M else False
  | .astore k => bif Nat.blt k ls.length then vA st fun a r => K (pc + n) (ls.set k (some (.inr a))) r M else False
  | .iadd => v2 st fun x y r => inR (x + y) ∧ K (pc + n) ls (.inl (x + y) :: r) M
  | .isub => v2 st fun x y r => inR (x - y) ∧ K (pc + n) ls (.inl (x - y) :: r) M
  | .imul => v2 st fun x y r => inR (x * y) ∧ K (pc + n) ls (.inl (x * y) :: r) M
  | .idiv => v2 st fun x y r => (0 ≤ x ∧ 0 < y) ∧ K (pc + n) ls (.inl (x / y) :: r) M
  | .irem => v2 st fun x y r => 0 < y ∧ K (pc + n) ls (.inl (x.tmod y) :: r) M
  | .iand => v2 st fun x y r => K (pc + n) ls (.inl (bAnd x y) :: r) M
  | .ior => v2 st fun x y r => K (pc + n) ls (.inl (bOr x y) :: r) M
  | .ixor => v2 st fun x y r => K (pc + n) ls (.inl (bXor x y) :: r) M
  | .ishl => v2 st fun x y r => K (pc + n) ls (.inl (bShl x y) :: r) M
  | .ishr => v2 st fun x y r => K (pc + n) ls (.inl (bShr x y) :: r) M
  | .iinc k c => vldI ls k fun x => inR (x + c) ∧ K (pc + n) (ls.set k (some (.inl (x + c)))) st M
  | .i2c => v1 st fun x r => (0 ≤ x ∧ x < 65536) ∧ K (pc + n) ls (.inl x :: r) M
  | .dup => (match st with | v :: r => K (pc + n) ls (v :: v :: r) M | _ => False)
  | .pop => (match st with | _ :: r => K (pc + n) ls r M | _ => False)
  | .goto _ => vtg ts fun t => K t ls st M
  | .ifCond c _ => v1 st fun x r => vtg ts fun t => (vcmp c x 0 → K t ls r M) ∧ (¬ vcmp c x 0 → K (pc + n) ls r M)
  | .if_icmp c _ => v2 st fun x y r => vtg ts fun t => (vcmp c x y → K t ls r M) ∧ (¬ vcmp c x y → K (pc + n) ls r M)
  | .tableswitch _ lo hi _ => v1 st fun x r => (match ts with | d :: us => ((x < lo ∨ hi < x) → K d ls r M) ∧ vtab lo us x (fun t => K t ls r M) | _ => False)
  | .getfield j => vA st fun a r => kd a = (ft j).1 ∧ (bif isRf (ft j).1 (ft j).2 then K (pc + n) ls (.inr (rfo (ft j).1 (ft j).2 a M) :: r) M else K (pc + n) ls (.inl (M a (ft j).2) :: r) M)
  | .putfield j => vput (ft j).1 (ft j).2 kd st M fun r M' => K (pc + n) ls r M'
  | .iaload => vIA st fun i a r => kd a = 21 ∧ (0 ≤ i ∧ i < ln a) ∧ K (pc + n) ls (.inl (M a i.toNat) :: r) M
  | .caload => vIA st fun i a r => kd a = 20 ∧ (0 ≤ i ∧ i < ln a) ∧ K (pc + n) ls (.inl (M a i.toNat) :: r) M
  | .baload => vIA st fun i a r => kd a = 22 ∧ (0 ≤ i ∧ i < ln a) ∧ K (pc + n) ls (.inl (M a i.toNat) :: r) M
  | .aaload => vIA st fun i a r => kd a = 23 ∧ (0 ≤ i ∧ i < ln a) ∧ K (pc + n) ls (.inr (a + 1 + i.toNat) :: r) M
  | .iastore => vIIA st fun x i a r => kd a = 21 ∧ (0 ≤ i ∧ i < ln a) ∧ K (pc + n) ls r (up M a i.toNat x)
  | .castore => vIIA st fun x i a r => kd a = 20 ∧ (0 ≤ i ∧ i < ln a) ∧ (0 ≤ x ∧ x < 65536) ∧ K (pc + n) ls r (up M a i.toNat x)
  | .bastore => vIIA st fun x i a r => kd a = 22 ∧ (0 ≤ i ∧ i < ln a) ∧ (x = 0 ∨ x = 1) ∧ K (pc + n) ls r (up M a i.toNat x)
  | .ireturn => (match st with | [.inl x] => vret rty x ∧ post x M | _ => False)
  | .areturn => (match st with | [.inr a] => rty = 4 ∧ a < 1000 ∧ post a M | _ => False)
  | .return_ => (match st with | [] => rty = 0 ∧ post 0 M | _ => False)
  | .invokevirtual _ => vcall cs st M fun r M' => K (pc + n) ls r M'
  | .invokestatic _ => vcall cs st M fun r M' => K (pc + n) ls r M'
  | _ => False
/-- a run from pc to the next of the cuts, or to the method's end -/
def vc (kd ln : Nat → Nat) (tb : TB) (ft : Nat → Nat × Nat) (cst : Nat → Int) (rty : Nat) (post : Int → Mem → Prop) (ct : List (Nat × CS)) (cuts : List Nat) (J : KT) : Nat → KT
  | 0, _, _, _, _ => False
  | f + 1, pc, ls, st, M => match tb.lookup pc with
    | some (i, n, ts) => vstep kd ln ft cst rty post (ct.lookup pc) (fun pc' ls' st' M' => bif cuts.elem pc' then J pc' ls' st' M' else vc kd ln tb ft cst rty post ct cuts J f pc' ls' st' M') pc i n ts ls st M
    | none => False
