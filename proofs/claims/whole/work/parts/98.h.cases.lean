/-! ===== the cases of the law ===== -/
section LC
variable {p : Program} {l : Launch} {e : Env} {s : State} {m : MethodId} {below : List Frame} {meth : Method} {c : Code} {b L : Nat} {xs : Nat → Int32} {D : va_G} {cy : Nat → ClassId} {adX adY : Nat → Nat} {H : Heap} {locs : List Loc} {Q : State → Prop} {ls : Array Slot} {rest : List Value} {pc cells slots : Nat}
theorem law_case_0 (C0 : lw_At p s m meth c b L xs) (hL : L ≤ 2048) (hK : va_K D vwCl (tysJ cy) s) (hA : LA s adX adY) {i : Nat} (hi : i + 4 ≤ L) {σ MX MY : Mem} (hX : absX MX σ) (hY : absY MY σ) (hW : LW D cy adX adY MX MY H) (hS : va_S (lwA s) s.heap H locs) (hl : lv_has ls 4 [(3, .int (I32 i)), (2, .ref (adY 0)), (1, .ref (adX 0)), (0, .ref b)]) (hcs : cells ≤ room_1.cells ∧ slots ≤ room_1.slots)
    (kk : ∀ (σ MX MY : Mem) (H : Heap) (locs : List Loc), absX MX σ → absY MY σ → LW D cy adX adY MX MY H → va_S (lwA s) s.heap H locs → W p l e room_1 s m #[Value.ref b] below meth c H locs cells slots Q (F0 m 817 ls [])) :
    W p l e room_1 s m #[Value.ref b] below meth c H locs cells slots Q (F0 m 140 ls []) := by
  obtain ⟨hx, hb, hr, hml, hown, hts, hXs, hbl, hlocks, hgv⟩ := id C0
  refine lv_aload_n hx hb dL_law_140 rfl (lv_at hl 2 rfl) ?_
  refine law_arg (k := 1) C0 hL hS (lv_at hl 3 rfl) (lv_at hl 0 rfl) (by omega) dL_law_141 dL_law_142 dL_law_143 dL_law_144 dL_law_145 ?_
  refine law_arg (k := 2) C0 hL hS (lv_at hl 3 rfl) (lv_at hl 0 rfl) (by omega) dL_law_146 dL_law_147 dL_law_148 dL_law_149 dL_law_150 ?_
  refine law_X (As := [.inl ((xs (i + 1)).toInt), .inl ((xs (i + 2)).toInt)]) C0 hK hA hW (ok_X8_reset hA.1.1) ca_X8_reset mkL_13 ⟨rfl, rfl, Nat.le_of_ble_eq_true rfl, Nat.le_of_ble_eq_true rfl⟩ rfl rfl ⟨rfl, rfl, σ, hX⟩ (in_cons (I32_inR _) (in_cons (I32_inR _) (fun x hx => absurd hx List.not_mem_nil))) hS hl.1 (Nat.le_of_ble_eq_true rfl) dL_law_151 hcs (rest := []) (by simp [cV, I32_of]) (fun xX MX9 H locs hC hW hS => ?_)
  obtain ⟨eX, hX⟩ := (show c_X8_reset 0 ((xs (i + 1)).toInt) ((xs (i + 2)).toInt) MX xX MX9 from hC) σ hX
  refine lv_aload_n hx hb dL_law_154 rfl (lv_at hl 1 rfl) ?_
  refine law_arg (k := 1) C0 hL hS (lv_at hl 3 rfl) (lv_at hl 0 rfl) (by omega) dL_law_155 dL_law_156 dL_law_157 dL_law_158 dL_law_159 ?_
  refine law_arg (k := 2) C0 hL hS (lv_at hl 3 rfl) (lv_at hl 0 rfl) (by omega) dL_law_160 dL_law_161 dL_law_162 dL_law_163 dL_law_164 ?_
  refine law_Y (As := [.inl ((xs (i + 1)).toInt), .inl ((xs (i + 2)).toInt)]) C0 hK hA hW (ok_X9_reset hA.1.2) ca_X9_reset mkL_17 ⟨rfl, rfl, Nat.le_of_ble_eq_true rfl, Nat.le_of_ble_eq_true rfl⟩ rfl rfl ⟨rfl, rfl, σ, hY⟩ (in_cons (I32_inR _) (in_cons (I32_inR _) (fun x hx => absurd hx List.not_mem_nil))) hS hl.1 (Nat.le_of_ble_eq_true rfl) dL_law_165 hcs (rest := [.int (I32 xX)]) (by simp [cV, I32_of]) (fun xY MY9 H locs hC hW hS => ?_)
  obtain ⟨eY, hY⟩ := (show c_X9_reset 0 ((xs (i + 1)).toInt) ((xs (i + 2)).toInt) MY xY MY9 from hC) σ hY
  exact lv_icmp_eq (tgt := 817) hx hb dL_law_168 (by decide) (fun _ => kk _ _ _ _ _ hX hY hW hS) (fun h => absurd (by rw [eX, eY]) h)
theorem law_case_1 (C0 : lw_At p s m meth c b L xs) (hL : L ≤ 2048) (hK : va_K D vwCl (tysJ cy) s) (hA : LA s adX adY) {i : Nat} (hi : i + 4 ≤ L) {σ MX MY : Mem} (hX : absX MX σ) (hY : absY MY σ) (hW : LW D cy adX adY MX MY H) (hS : va_S (lwA s) s.heap H locs) (hl : lv_has ls 4 [(3, .int (I32 i)), (2, .ref (adY 0)), (1, .ref (adX 0)), (0, .ref b)]) (hcs : cells ≤ room_1.cells ∧ slots ≤ room_1.slots)
    (kk : ∀ (σ MX MY : Mem) (H : Heap) (locs : List Loc), absX MX σ → absY MY σ → LW D cy adX adY MX MY H → va_S (lwA s) s.heap H locs → W p l e room_1 s m #[Value.ref b] below meth c H locs cells slots Q (F0 m 817 ls [])) :
    W p l e room_1 s m #[Value.ref b] below meth c H locs cells slots Q (F0 m 173 ls []) := by
  obtain ⟨hx, hb, hr, hml, hown, hts, hXs, hbl, hlocks, hgv⟩ := id C0
  refine lv_aload_n hx hb dL_law_173 rfl (lv_at hl 2 rfl) ?_
  refine law_arg (k := 1) C0 hL hS (lv_at hl 3 rfl) (lv_at hl 0 rfl) (by omega) dL_law_174 dL_law_175 dL_law_176 dL_law_177 dL_law_178 ?_
  refine law_bool C0 dL_law_179 dL_law_182 dL_law_183 dL_law_186 ?_
  refine law_arg (k := 2) C0 hL hS (lv_at hl 3 rfl) (lv_at hl 0 rfl) (by omega) dL_law_187 dL_law_188 dL_law_189 dL_law_190 dL_law_191 ?_
  refine law_arg (k := 3) C0 hL hS (lv_at hl 3 rfl) (lv_at hl 0 rfl) (by omega) dL_law_192 dL_law_193 dL_law_194 dL_law_195 dL_law_196 ?_
  refine law_X (As := [.inl (if xs (i + 1) = 0 then (0 : Int) else 1), .inl ((xs (i + 2)).toInt), .inl ((xs (i + 3)).toInt)]) C0 hK hA hW (ok_X8_setSeam hA.1.1) ca_X8_setSeam mkL_18 ⟨rfl, rfl, Nat.le_of_ble_eq_true rfl, Nat.le_of_ble_eq_true rfl⟩ rfl rfl ⟨rfl, rfl, σ, hX⟩ (in_cons (if01R _) (in_cons (I32_inR _) (in_cons (I32_inR _) (fun x hx => absurd hx List.not_mem_nil)))) hS hl.1 (Nat.le_of_ble_eq_true rfl) dL_law_197 hcs (rest := []) (by simp [cV, I32_of]) (fun xX MX9 H locs hC hW hS => ?_)
  obtain ⟨eX, hX⟩ := (show c_X8_setSeam 0 (if xs (i + 1) = 0 then (0 : Int) else 1) ((xs (i + 2)).toInt) ((xs (i + 3)).toInt) MX xX MX9 from hC) σ hX
  refine lv_aload_n hx hb dL_law_200 rfl (lv_at hl 1 rfl) ?_
  refine law_arg (k := 1) C0 hL hS (lv_at hl 3 rfl) (lv_at hl 0 rfl) (by omega) dL_law_201 dL_law_202 dL_law_203 dL_law_204 dL_law_205 ?_
  refine law_bool C0 dL_law_206 dL_law_209 dL_law_210 dL_law_213 ?_
  refine law_arg (k := 2) C0 hL hS (lv_at hl 3 rfl) (lv_at hl 0 rfl) (by omega) dL_law_214 dL_law_215 dL_law_216 dL_law_217 dL_law_218 ?_
  refine law_arg (k := 3) C0 hL hS (lv_at hl 3 rfl) (lv_at hl 0 rfl) (by omega) dL_law_219 dL_law_220 dL_law_221 dL_law_222 dL_law_223 ?_
  refine law_Y (As := [.inl (if xs (i + 1) = 0 then (0 : Int) else 1), .inl ((xs (i + 2)).toInt), .inl ((xs (i + 3)).toInt)]) C0 hK hA hW (ok_X9_setSeam hA.1.2) ca_X9_setSeam mkL_22 ⟨rfl, rfl, Nat.le_of_ble_eq_true rfl, Nat.le_of_ble_eq_true rfl⟩ rfl rfl ⟨rfl, rfl, σ, hY⟩ (in_cons (if01R _) (in_cons (I32_inR _) (in_cons (I32_inR _) (fun x hx => absurd hx List.not_mem_nil)))) hS hl.1 (Nat.le_of_ble_eq_true rfl) dL_law_224 hcs (rest := [.int (I32 xX)]) (by simp [cV, I32_of]) (fun xY MY9 H locs hC hW hS => ?_)
  obtain ⟨eY, hY⟩ := (show c_X9_setSeam 0 (if xs (i + 1) = 0 then (0 : Int) else 1) ((xs (i + 2)).toInt) ((xs (i + 3)).toInt) MY xY MY9 from hC) σ hY
  exact lv_icmp_eq (tgt := 817) hx hb dL_law_227 (by decide) (fun _ => kk _ _ _ _ _ hX hY hW hS) (fun h => absurd (by rw [eX, eY]) h)
theorem law_case_2 (C0 : lw_At p s m meth c b L xs) (hL : L ≤ 2048) (hK : va_K D vwCl (tysJ cy) s) (hA : LA s adX adY) {i : Nat} (hi : i + 4 ≤ L) {σ MX MY : Mem} (hX : absX MX σ) (hY : absY MY σ) (hW : LW D cy adX adY MX MY H) (hS : va_S (lwA s) s.heap H locs) (hl : lv_has ls 4 [(3, .int (I32 i)), (2, .ref (adY 0)), (1, .ref (adX 0)), (0, .ref b)]) (hcs : cells ≤ room_1.cells ∧ slots ≤ room_1.slots)
    (kk : ∀ (σ MX MY : Mem) (H : Heap) (locs : List Loc), absX MX σ → absY MY σ → LW D cy adX adY MX MY H → va_S (lwA s) s.heap H locs → W p l e room_1 s m #[Value.ref b] below meth c H locs cells slots Q (F0 m 817 ls [])) :
    W p l e room_1 s m #[Value.ref b] below meth c H locs cells slots Q (F0 m 232 ls []) := by
  obtain ⟨hx, hb, hr, hml, hown, hts, hXs, hbl, hlocks, hgv⟩ := id C0
  refine lv_aload_n hx hb dL_law_232 rfl (lv_at hl 2 rfl) ?_
  refine law_arg (k := 1) C0 hL hS (lv_at hl 3 rfl) (lv_at hl 0 rfl) (by omega) dL_law_233 dL_law_234 dL_law_235 dL_law_236 dL_law_237 ?_
  refine law_X (As := [.inl ((xs (i + 1)).toInt)]) C0 hK hA hW (ok_X8_value hA.1.1) ca_X8_value mkL_23 ⟨rfl, rfl, Nat.le_of_ble_eq_true rfl, Nat.le_of_ble_eq_true rfl⟩ rfl rfl ⟨rfl, rfl, σ, hX⟩ (in_cons (I32_inR _) (fun x hx => absurd hx List.not_mem_nil)) hS hl.1 (Nat.le_of_ble_eq_true rfl) dL_law_238 hcs (rest := []) (by simp [cV, I32_of]) (fun xX MX9 H locs hC hW hS => ?_)
  obtain ⟨eX, hX⟩ := (show c_X8_value 0 ((xs (i + 1)).toInt) MX xX MX9 from hC) σ hX
  refine lv_aload_n hx hb dL_law_241 rfl (lv_at hl 1 rfl) ?_
  refine law_arg (k := 1) C0 hL hS (lv_at hl 3 rfl) (lv_at hl 0 rfl) (by omega) dL_law_242 dL_law_243 dL_law_244 dL_law_245 dL_law_246 ?_
  refine law_Y (As := [.inl ((xs (i + 1)).toInt)]) C0 hK hA hW (ok_X9_value hA.1.2) ca_X9_value mkL_27 ⟨rfl, rfl, Nat.le_of_ble_eq_true rfl, Nat.le_of_ble_eq_true rfl⟩ rfl rfl ⟨rfl, rfl, σ, hY⟩ (in_cons (I32_inR _) (fun x hx => absurd hx List.not_mem_nil)) hS hl.1 (Nat.le_of_ble_eq_true rfl) dL_law_247 hcs (rest := [.int (I32 xX)]) (by simp [cV, I32_of]) (fun xY MY9 H locs hC hW hS => ?_)
  obtain ⟨eY, hY⟩ := (show c_X9_value 0 ((xs (i + 1)).toInt) MY xY MY9 from hC) σ hY
  exact lv_icmp_eq (tgt := 817) hx hb dL_law_250 (by decide) (fun _ => kk _ _ _ _ _ hX hY hW hS) (fun h => absurd (by rw [eX, eY]) h)
theorem law_case_3 (C0 : lw_At p s m meth c b L xs) (hL : L ≤ 2048) (hK : va_K D vwCl (tysJ cy) s) (hA : LA s adX adY) {i : Nat} (hi : i + 4 ≤ L) {σ MX MY : Mem} (hX : absX MX σ) (hY : absY MY σ) (hW : LW D cy adX adY MX MY H) (hS : va_S (lwA s) s.heap H locs) (hl : lv_has ls 4 [(3, .int (I32 i)), (2, .ref (adY 0)), (1, .ref (adX 0)), (0, .ref b)]) (hcs : cells ≤ room_1.cells ∧ slots ≤ room_1.slots)
    (kk : ∀ (σ MX MY : Mem) (H : Heap) (locs : List Loc), absX MX σ → absY MY σ → LW D cy adX adY MX MY H → va_S (lwA s) s.heap H locs → W p l e room_1 s m #[Value.ref b] below meth c H locs cells slots Q (F0 m 817 ls [])) :
    W p l e room_1 s m #[Value.ref b] below meth c H locs cells slots Q (F0 m 255 ls []) := by
  obtain ⟨hx, hb, hr, hml, hown, hts, hXs, hbl, hlocks, hgv⟩ := id C0
  refine lv_aload_n hx hb dL_law_255 rfl (lv_at hl 2 rfl) ?_
  refine law_arg (k := 1) C0 hL hS (lv_at hl 3 rfl) (lv_at hl 0 rfl) (by omega) dL_law_256 dL_law_257 dL_law_258 dL_law_259 dL_law_260 ?_
  refine law_X (As := [.inl ((xs (i + 1)).toInt)]) C0 hK hA hW (ok_X8_kind hA.1.1) ca_X8_kind mkL_28 ⟨rfl, rfl, Nat.le_of_ble_eq_true rfl, Nat.le_of_ble_eq_true rfl⟩ rfl rfl ⟨rfl, rfl, σ, hX⟩ (in_cons (I32_inR _) (fun x hx => absurd hx List.not_mem_nil)) hS hl.1 (Nat.le_of_ble_eq_true rfl) dL_law_261 hcs (rest := []) (by simp [cV, I32_of]) (fun xX MX9 H locs hC hW hS => ?_)
  obtain ⟨eX, hX⟩ := (show c_X8_kind 0 ((xs (i + 1)).toInt) MX xX MX9 from hC) σ hX
  refine lv_aload_n hx hb dL_law_264 rfl (lv_at hl 1 rfl) ?_
  refine law_arg (k := 1) C0 hL hS (lv_at hl 3 rfl) (lv_at hl 0 rfl) (by omega) dL_law_265 dL_law_266 dL_law_267 dL_law_268 dL_law_269 ?_
  refine law_Y (As := [.inl ((xs (i + 1)).toInt)]) C0 hK hA hW (ok_X9_kind hA.1.2) ca_X9_kind mkL_31 ⟨rfl, rfl, Nat.le_of_ble_eq_true rfl, Nat.le_of_ble_eq_true rfl⟩ rfl rfl ⟨rfl, rfl, σ, hY⟩ (in_cons (I32_inR _) (fun x hx => absurd hx List.not_mem_nil)) hS hl.1 (Nat.le_of_ble_eq_true rfl) dL_law_270 hcs (rest := [.int (I32 xX)]) (by simp [cV, I32_of]) (fun xY MY9 H locs hC hW hS => ?_)
  obtain ⟨eY, hY⟩ := (show c_X9_kind 0 ((xs (i + 1)).toInt) MY xY MY9 from hC) σ hY
  exact lv_icmp_eq (tgt := 817) hx hb dL_law_273 (by decide) (fun _ => kk _ _ _ _ _ hX hY hW hS) (fun h => absurd (by rw [eX, eY]) h)
theorem law_case_4 (C0 : lw_At p s m meth c b L xs) (hL : L ≤ 2048) (hK : va_K D vwCl (tysJ cy) s) (hA : LA s adX adY) {i : Nat} (hi : i + 4 ≤ L) {σ MX MY : Mem} (hX : absX MX σ) (hY : absY MY σ) (hW : LW D cy adX adY MX MY H) (hS : va_S (lwA s) s.heap H locs) (hl : lv_has ls 4 [(3, .int (I32 i)), (2, .ref (adY 0)), (1, .ref (adX 0)), (0, .ref b)]) (hcs : cells ≤ room_1.cells ∧ slots ≤ room_1.slots)
    (kk : ∀ (σ MX MY : Mem) (H : Heap) (locs : List Loc), absX MX σ → absY MY σ → LW D cy adX adY MX MY H → va_S (lwA s) s.heap H locs → W p l e room_1 s m #[Value.ref b] below meth c H locs cells slots Q (F0 m 817 ls [])) :
    W p l e room_1 s m #[Value.ref b] below meth c H locs cells slots Q (F0 m 278 ls []) := by
  obtain ⟨hx, hb, hr, hml, hown, hts, hXs, hbl, hlocks, hgv⟩ := id C0
  refine lv_aload_n hx hb dL_law_278 rfl (lv_at hl 2 rfl) ?_
  refine law_arg (k := 1) C0 hL hS (lv_at hl 3 rfl) (lv_at hl 0 rfl) (by omega) dL_law_279 dL_law_280 dL_law_281 dL_law_282 dL_law_283 ?_
  refine law_arg (k := 2) C0 hL hS (lv_at hl 3 rfl) (lv_at hl 0 rfl) (by omega) dL_law_284 dL_law_285 dL_law_286 dL_law_287 dL_law_288 ?_
  refine law_X (As := [.inl ((xs (i + 1)).toInt), .inl ((xs (i + 2)).toInt)]) C0 hK hA hW (ok_X8_neighbour hA.1.1) ca_X8_neighbour mkL_32 ⟨rfl, rfl, Nat.le_of_ble_eq_true rfl, Nat.le_of_ble_eq_true rfl⟩ rfl rfl ⟨rfl, rfl, σ, hX⟩ (in_cons (I32_inR _) (in_cons (I32_inR _) (fun x hx => absurd hx List.not_mem_nil))) hS hl.1 (Nat.le_of_ble_eq_true rfl) dL_law_289 hcs (rest := []) (by simp [cV, I32_of]) (fun xX MX9 H locs hC hW hS => ?_)
  obtain ⟨eX, hX⟩ := (show c_X8_neighbour 0 ((xs (i + 1)).toInt) ((xs (i + 2)).toInt) MX xX MX9 from hC) σ hX
  refine lv_aload_n hx hb dL_law_292 rfl (lv_at hl 1 rfl) ?_
  refine law_arg (k := 1) C0 hL hS (lv_at hl 3 rfl) (lv_at hl 0 rfl) (by omega) dL_law_293 dL_law_294 dL_law_295 dL_law_296 dL_law_297 ?_
  refine law_arg (k := 2) C0 hL hS (lv_at hl 3 rfl) (lv_at hl 0 rfl) (by omega) dL_law_298 dL_law_299 dL_law_300 dL_law_301 dL_law_302 ?_
  refine law_Y (As := [.inl ((xs (i + 1)).toInt), .inl ((xs (i + 2)).toInt)]) C0 hK hA hW (ok_X9_neighbour hA.1.2) ca_X9_neighbour mkL_35 ⟨rfl, rfl, Nat.le_of_ble_eq_true rfl, Nat.le_of_ble_eq_true rfl⟩ rfl rfl ⟨rfl, rfl, σ, hY⟩ (in_cons (I32_inR _) (in_cons (I32_inR _) (fun x hx => absurd hx List.not_mem_nil))) hS hl.1 (Nat.le_of_ble_eq_true rfl) dL_law_303 hcs (rest := [.int (I32 xX)]) (by simp [cV, I32_of]) (fun xY MY9 H locs hC hW hS => ?_)
  obtain ⟨eY, hY⟩ := (show c_X9_neighbour 0 ((xs (i + 1)).toInt) ((xs (i + 2)).toInt) MY xY MY9 from hC) σ hY
  exact lv_icmp_eq (tgt := 817) hx hb dL_law_306 (by decide) (fun _ => kk _ _ _ _ _ hX hY hW hS) (fun h => absurd (by rw [eX, eY]) h)
theorem law_case_5 (C0 : lw_At p s m meth c b L xs) (hL : L ≤ 2048) (hK : va_K D vwCl (tysJ cy) s) (hA : LA s adX adY) {i : Nat} (hi : i + 4 ≤ L) {σ MX MY : Mem} (hX : absX MX σ) (hY : absY MY σ) (hW : LW D cy adX adY MX MY H) (hS : va_S (lwA s) s.heap H locs) (hl : lv_has ls 4 [(3, .int (I32 i)), (2, .ref (adY 0)), (1, .ref (adX 0)), (0, .ref b)]) (hcs : cells ≤ room_1.cells ∧ slots ≤ room_1.slots)
    (kk : ∀ (σ MX MY : Mem) (H : Heap) (locs : List Loc), absX MX σ → absY MY σ → LW D cy adX adY MX MY H → va_S (lwA s) s.heap H locs → W p l e room_1 s m #[Value.ref b] below meth c H locs cells slots Q (F0 m 817 ls [])) :
    W p l e room_1 s m #[Value.ref b] below meth c H locs cells slots Q (F0 m 311 ls []) := by
  obtain ⟨hx, hb, hr, hml, hown, hts, hXs, hbl, hlocks, hgv⟩ := id C0
  refine lv_aload_n hx hb dL_law_311 rfl (lv_at hl 2 rfl) ?_
  refine law_arg (k := 1) C0 hL hS (lv_at hl 3 rfl) (lv_at hl 0 rfl) (by omega) dL_law_312 dL_law_313 dL_law_314 dL_law_315 dL_law_316 ?_
  refine lv_i2c (v := ((xs (i + 1)).toUInt32 % 65536).toInt32) hx hb dL_law_317 rfl ?_
  refine law_X (As := [.inl ((((xs (i + 1)).toUInt32 % 65536).toInt32).toInt)]) C0 hK hA hW (ok_X8_type hA.1.1) ca_X8_type mkL_36 ⟨rfl, rfl, Nat.le_of_ble_eq_true rfl, Nat.le_of_ble_eq_true rfl⟩ rfl rfl ⟨rfl, rfl, ⟨σ, hX⟩, i2c_b _⟩ (in_cons (I32_inR _) (fun x hx => absurd hx List.not_mem_nil)) hS hl.1 (Nat.le_of_ble_eq_true rfl) dL_law_318 hcs (rest := []) (by simp [cV, I32_of]) (fun xX MX9 H locs hC hW hS => ?_)
  obtain ⟨eX, hX⟩ := (show c_X8_type 0 ((((xs (i + 1)).toUInt32 % 65536).toInt32).toInt) MX xX MX9 from hC) σ hX
  refine lv_aload_n hx hb dL_law_321 rfl (lv_at hl 1 rfl) ?_
  refine law_arg (k := 1) C0 hL hS (lv_at hl 3 rfl) (lv_at hl 0 rfl) (by omega) dL_law_322 dL_law_323 dL_law_324 dL_law_325 dL_law_326 ?_
  refine lv_i2c (v := ((xs (i + 1)).toUInt32 % 65536).toInt32) hx hb dL_law_327 rfl ?_
  refine law_Y (As := [.inl ((((xs (i + 1)).toUInt32 % 65536).toInt32).toInt)]) C0 hK hA hW (ok_X9_type hA.1.2) ca_X9_type mkL_40 ⟨rfl, rfl, Nat.le_of_ble_eq_true rfl, Nat.le_of_ble_eq_true rfl⟩ rfl rfl ⟨rfl, rfl, ⟨σ, hY⟩, i2c_b _⟩ (in_cons (I32_inR _) (fun x hx => absurd hx List.not_mem_nil)) hS hl.1 (Nat.le_of_ble_eq_true rfl) dL_law_328 hcs (rest := [.int (I32 xX)]) (by simp [cV, I32_of]) (fun xY MY9 H locs hC hW hS => ?_)
  obtain ⟨eY, hY⟩ := (show c_X9_type 0 ((((xs (i + 1)).toUInt32 % 65536).toInt32).toInt) MY xY MY9 from hC) σ hY
  exact lv_icmp_eq (tgt := 817) hx hb dL_law_331 (by decide) (fun _ => kk _ _ _ _ _ hX hY hW hS) (fun h => absurd (by rw [eX, eY]) h)
theorem law_case_6 (C0 : lw_At p s m meth c b L xs) (hL : L ≤ 2048) (hK : va_K D vwCl (tysJ cy) s) (hA : LA s adX adY) {i : Nat} (hi : i + 4 ≤ L) {σ MX MY : Mem} (hX : absX MX σ) (hY : absY MY σ) (hW : LW D cy adX adY MX MY H) (hS : va_S (lwA s) s.heap H locs) (hl : lv_has ls 4 [(3, .int (I32 i)), (2, .ref (adY 0)), (1, .ref (adX 0)), (0, .ref b)]) (hcs : cells ≤ room_1.cells ∧ slots ≤ room_1.slots)
    (kk : ∀ (σ MX MY : Mem) (H : Heap) (locs : List Loc), absX MX σ → absY MY σ → LW D cy adX adY MX MY H → va_S (lwA s) s.heap H locs → W p l e room_1 s m #[Value.ref b] below meth c H locs cells slots Q (F0 m 817 ls [])) :
    W p l e room_1 s m #[Value.ref b] below meth c H locs cells slots Q (F0 m 336 ls []) := by
  obtain ⟨hx, hb, hr, hml, hown, hts, hXs, hbl, hlocks, hgv⟩ := id C0
  refine lv_aload_n hx hb dL_law_336 rfl (lv_at hl 2 rfl) ?_
  refine law_X (As := []) C0 hK hA hW (ok_X8_clearText hA.1.1) ca_X8_clearText mkL_41 ⟨rfl, rfl, Nat.le_of_ble_eq_true rfl, Nat.le_of_ble_eq_true rfl⟩ rfl rfl ⟨rfl, rfl, σ, hX⟩ (fun x hx => absurd hx List.not_mem_nil) hS hl.1 (Nat.le_of_ble_eq_true rfl) dL_law_337 hcs (rest := []) (by simp [cV, I32_of]) (fun xX MX9 H locs hC hW hS => ?_)
  obtain ⟨eX, hX⟩ := (show c_X8_clearText 0  MX xX MX9 from hC) σ hX
  refine lv_aload_n hx hb dL_law_340 rfl (lv_at hl 1 rfl) ?_
  refine law_Y (As := []) C0 hK hA hW (ok_X9_clearText hA.1.2) ca_X9_clearText mkL_45 ⟨rfl, rfl, Nat.le_of_ble_eq_true rfl, Nat.le_of_ble_eq_true rfl⟩ rfl rfl ⟨rfl, rfl, σ, hY⟩ (fun x hx => absurd hx List.not_mem_nil) hS hl.1 (Nat.le_of_ble_eq_true rfl) dL_law_341 hcs (rest := [.int (I32 xX)]) (by simp [cV, I32_of]) (fun xY MY9 H locs hC hW hS => ?_)
  obtain ⟨eY, hY⟩ := (show c_X9_clearText 0  MY xY MY9 from hC) σ hY
  exact lv_icmp_eq (tgt := 817) hx hb dL_law_344 (by decide) (fun _ => kk _ _ _ _ _ hX hY hW hS) (fun h => absurd (by rw [eX, eY]) h)
theorem law_case_7 (C0 : lw_At p s m meth c b L xs) (hL : L ≤ 2048) (hK : va_K D vwCl (tysJ cy) s) (hA : LA s adX adY) {i : Nat} (hi : i + 4 ≤ L) {σ MX MY : Mem} (hX : absX MX σ) (hY : absY MY σ) (hW : LW D cy adX adY MX MY H) (hS : va_S (lwA s) s.heap H locs) (hl : lv_has ls 4 [(3, .int (I32 i)), (2, .ref (adY 0)), (1, .ref (adX 0)), (0, .ref b)]) (hcs : cells ≤ room_1.cells ∧ slots ≤ room_1.slots)
    (kk : ∀ (σ MX MY : Mem) (H : Heap) (locs : List Loc), absX MX σ → absY MY σ → LW D cy adX adY MX MY H → va_S (lwA s) s.heap H locs → W p l e room_1 s m #[Value.ref b] below meth c H locs cells slots Q (F0 m 817 ls [])) :
    W p l e room_1 s m #[Value.ref b] below meth c H locs cells slots Q (F0 m 349 ls []) := by
  obtain ⟨hx, hb, hr, hml, hown, hts, hXs, hbl, hlocks, hgv⟩ := id C0
  refine lv_aload_n hx hb dL_law_349 rfl (lv_at hl 2 rfl) ?_
  refine law_X (As := []) C0 hK hA hW (ok_X8_readTiles hA.1.1) ca_X8_readTiles mkL_46 ⟨rfl, rfl, Nat.le_of_ble_eq_true rfl, Nat.le_of_ble_eq_true rfl⟩ rfl rfl ⟨rfl, rfl, σ, hX⟩ (fun x hx => absurd hx List.not_mem_nil) hS hl.1 (Nat.le_of_ble_eq_true rfl) dL_law_350 hcs (rest := []) (by simp [cV, I32_of]) (fun xX MX9 H locs hC hW hS => ?_)
  obtain ⟨eX, hX⟩ := (show c_X8_readTiles 0  MX xX MX9 from hC) σ hX
  refine lv_aload_n hx hb dL_law_353 rfl (lv_at hl 1 rfl) ?_
  refine law_Y (As := []) C0 hK hA hW (ok_X9_readTiles hA.1.2) ca_X9_readTiles mkL_49 ⟨rfl, rfl, Nat.le_of_ble_eq_true rfl, Nat.le_of_ble_eq_true rfl⟩ rfl rfl ⟨rfl, rfl, σ, hY⟩ (fun x hx => absurd hx List.not_mem_nil) hS hl.1 (Nat.le_of_ble_eq_true rfl) dL_law_354 hcs (rest := [.int (I32 xX)]) (by simp [cV, I32_of]) (fun xY MY9 H locs hC hW hS => ?_)
  obtain ⟨eY, hY⟩ := (show c_X9_readTiles 0  MY xY MY9 from hC) σ hY
  exact lv_icmp_eq (tgt := 817) hx hb dL_law_357 (by decide) (fun _ => kk _ _ _ _ _ hX hY hW hS) (fun h => absurd (by rw [eX, eY]) h)
theorem law_case_8 (C0 : lw_At p s m meth c b L xs) (hL : L ≤ 2048) (hK : va_K D vwCl (tysJ cy) s) (hA : LA s adX adY) {i : Nat} (hi : i + 4 ≤ L) {σ MX MY : Mem} (hX : absX MX σ) (hY : absY MY σ) (hW : LW D cy adX adY MX MY H) (hS : va_S (lwA s) s.heap H locs) (hl : lv_has ls 4 [(3, .int (I32 i)), (2, .ref (adY 0)), (1, .ref (adX 0)), (0, .ref b)]) (hcs : cells ≤ room_1.cells ∧ slots ≤ room_1.slots)
    (kk : ∀ (σ MX MY : Mem) (H : Heap) (locs : List Loc), absX MX σ → absY MY σ → LW D cy adX adY MX MY H → va_S (lwA s) s.heap H locs → W p l e room_1 s m #[Value.ref b] below meth c H locs cells slots Q (F0 m 817 ls [])) :
    W p l e room_1 s m #[Value.ref b] below meth c H locs cells slots Q (F0 m 362 ls []) := by
  obtain ⟨hx, hb, hr, hml, hown, hts, hXs, hbl, hlocks, hgv⟩ := id C0
  refine lv_aload_n hx hb dL_law_362 rfl (lv_at hl 2 rfl) ?_
  refine law_arg (k := 1) C0 hL hS (lv_at hl 3 rfl) (lv_at hl 0 rfl) (by omega) dL_law_363 dL_law_364 dL_law_365 dL_law_366 dL_law_367 ?_
  refine law_arg (k := 2) C0 hL hS (lv_at hl 3 rfl) (lv_at hl 0 rfl) (by omega) dL_law_368 dL_law_369 dL_law_370 dL_law_371 dL_law_372 ?_
  refine law_arg (k := 3) C0 hL hS (lv_at hl 3 rfl) (lv_at hl 0 rfl) (by omega) dL_law_373 dL_law_374 dL_law_375 dL_law_376 dL_law_377 ?_
  refine law_X (As := [.inl ((xs (i + 1)).toInt), .inl ((xs (i + 2)).toInt), .inl ((xs (i + 3)).toInt)]) C0 hK hA hW (ok_X8_walk hA.1.1) ca_X8_walk mkL_50 ⟨rfl, rfl, Nat.le_of_ble_eq_true rfl, Nat.le_of_ble_eq_true rfl⟩ rfl rfl ⟨rfl, rfl, σ, hX⟩ (in_cons (I32_inR _) (in_cons (I32_inR _) (in_cons (I32_inR _) (fun x hx => absurd hx List.not_mem_nil)))) hS hl.1 (Nat.le_of_ble_eq_true rfl) dL_law_378 hcs (rest := []) (by simp [cV, I32_of]) (fun xX MX9 H locs hC hW hS => ?_)
  obtain ⟨eX, hX⟩ := (show c_X8_walk 0 ((xs (i + 1)).toInt) ((xs (i + 2)).toInt) ((xs (i + 3)).toInt) MX xX MX9 from hC) σ hX
  refine lv_aload_n hx hb dL_law_381 rfl (lv_at hl 1 rfl) ?_
  refine law_arg (k := 1) C0 hL hS (lv_at hl 3 rfl) (lv_at hl 0 rfl) (by omega) dL_law_382 dL_law_383 dL_law_384 dL_law_385 dL_law_386 ?_
  refine law_arg (k := 2) C0 hL hS (lv_at hl 3 rfl) (lv_at hl 0 rfl) (by omega) dL_law_387 dL_law_388 dL_law_389 dL_law_390 dL_law_391 ?_
  refine law_arg (k := 3) C0 hL hS (lv_at hl 3 rfl) (lv_at hl 0 rfl) (by omega) dL_law_392 dL_law_393 dL_law_394 dL_law_395 dL_law_396 ?_
  refine law_Y (As := [.inl ((xs (i + 1)).toInt), .inl ((xs (i + 2)).toInt), .inl ((xs (i + 3)).toInt)]) C0 hK hA hW (ok_X9_walk hA.1.2) ca_X9_walk mkL_54 ⟨rfl, rfl, Nat.le_of_ble_eq_true rfl, Nat.le_of_ble_eq_true rfl⟩ rfl rfl ⟨rfl, rfl, σ, hY⟩ (in_cons (I32_inR _) (in_cons (I32_inR _) (in_cons (I32_inR _) (fun x hx => absurd hx List.not_mem_nil)))) hS hl.1 (Nat.le_of_ble_eq_true rfl) dL_law_397 hcs (rest := [.int (I32 xX)]) (by simp [cV, I32_of]) (fun xY MY9 H locs hC hW hS => ?_)
  obtain ⟨eY, hY⟩ := (show c_X9_walk 0 ((xs (i + 1)).toInt) ((xs (i + 2)).toInt) ((xs (i + 3)).toInt) MY xY MY9 from hC) σ hY
  exact lv_icmp_eq (tgt := 817) hx hb dL_law_400 (by decide) (fun _ => kk _ _ _ _ _ hX hY hW hS) (fun h => absurd (by rw [eX, eY]) h)
theorem law_case_9 (C0 : lw_At p s m meth c b L xs) (hL : L ≤ 2048) (hK : va_K D vwCl (tysJ cy) s) (hA : LA s adX adY) {i : Nat} (hi : i + 4 ≤ L) {σ MX MY : Mem} (hX : absX MX σ) (hY : absY MY σ) (hW : LW D cy adX adY MX MY H) (hS : va_S (lwA s) s.heap H locs) (hl : lv_has ls 4 [(3, .int (I32 i)), (2, .ref (adY 0)), (1, .ref (adX 0)), (0, .ref b)]) (hcs : cells ≤ room_1.cells ∧ slots ≤ room_1.slots)
    (kk : ∀ (σ MX MY : Mem) (H : Heap) (locs : List Loc), absX MX σ → absY MY σ → LW D cy adX adY MX MY H → va_S (lwA s) s.heap H locs → W p l e room_1 s m #[Value.ref b] below meth c H locs cells slots Q (F0 m 817 ls [])) :
    W p l e room_1 s m #[Value.ref b] below meth c H locs cells slots Q (F0 m 405 ls []) := by
  obtain ⟨hx, hb, hr, hml, hown, hts, hXs, hbl, hlocks, hgv⟩ := id C0
  refine lv_aload_n hx hb dL_law_405 rfl (lv_at hl 2 rfl) ?_
  refine law_arg (k := 1) C0 hL hS (lv_at hl 3 rfl) (lv_at hl 0 rfl) (by omega) dL_law_406 dL_law_407 dL_law_408 dL_law_409 dL_law_410 ?_
  refine law_arg (k := 2) C0 hL hS (lv_at hl 3 rfl) (lv_at hl 0 rfl) (by omega) dL_law_411 dL_law_412 dL_law_413 dL_law_414 dL_law_415 ?_
  refine law_X (As := [.inl ((xs (i + 1)).toInt), .inl ((xs (i + 2)).toInt)]) C0 hK hA hW (ok_X8_setTile hA.1.1) ca_X8_setTile mkL_55 ⟨rfl, rfl, Nat.le_of_ble_eq_true rfl, Nat.le_of_ble_eq_true rfl⟩ rfl rfl ⟨rfl, rfl, σ, hX⟩ (in_cons (I32_inR _) (in_cons (I32_inR _) (fun x hx => absurd hx List.not_mem_nil))) hS hl.1 (Nat.le_of_ble_eq_true rfl) dL_law_416 hcs (rest := []) (by simp [cV, I32_of]) (fun xX MX9 H locs hC hW hS => ?_)
  obtain ⟨eX, hX⟩ := (show c_X8_setTile 0 ((xs (i + 1)).toInt) ((xs (i + 2)).toInt) MX xX MX9 from hC) σ hX
  refine lv_aload_n hx hb dL_law_419 rfl (lv_at hl 1 rfl) ?_
  refine law_arg (k := 1) C0 hL hS (lv_at hl 3 rfl) (lv_at hl 0 rfl) (by omega) dL_law_420 dL_law_421 dL_law_422 dL_law_423 dL_law_424 ?_
  refine law_arg (k := 2) C0 hL hS (lv_at hl 3 rfl) (lv_at hl 0 rfl) (by omega) dL_law_425 dL_law_426 dL_law_427 dL_law_428 dL_law_429 ?_
  refine law_Y (As := [.inl ((xs (i + 1)).toInt), .inl ((xs (i + 2)).toInt)]) C0 hK hA hW (ok_X9_setTile hA.1.2) ca_X9_setTile mkL_58 ⟨rfl, rfl, Nat.le_of_ble_eq_true rfl, Nat.le_of_ble_eq_true rfl⟩ rfl rfl ⟨rfl, rfl, σ, hY⟩ (in_cons (I32_inR _) (in_cons (I32_inR _) (fun x hx => absurd hx List.not_mem_nil))) hS hl.1 (Nat.le_of_ble_eq_true rfl) dL_law_430 hcs (rest := [.int (I32 xX)]) (by simp [cV, I32_of]) (fun xY MY9 H locs hC hW hS => ?_)
  obtain ⟨eY, hY⟩ := (show c_X9_setTile 0 ((xs (i + 1)).toInt) ((xs (i + 2)).toInt) MY xY MY9 from hC) σ hY
  exact lv_icmp_eq (tgt := 817) hx hb dL_law_433 (by decide) (fun _ => kk _ _ _ _ _ hX hY hW hS) (fun h => absurd (by rw [eX, eY]) h)
theorem law_case_10 (C0 : lw_At p s m meth c b L xs) (hL : L ≤ 2048) (hK : va_K D vwCl (tysJ cy) s) (hA : LA s adX adY) {i : Nat} (hi : i + 4 ≤ L) {σ MX MY : Mem} (hX : absX MX σ) (hY : absY MY σ) (hW : LW D cy adX adY MX MY H) (hS : va_S (lwA s) s.heap H locs) (hl : lv_has ls 4 [(3, .int (I32 i)), (2, .ref (adY 0)), (1, .ref (adX 0)), (0, .ref b)]) (hcs : cells ≤ room_1.cells ∧ slots ≤ room_1.slots)
    (kk : ∀ (σ MX MY : Mem) (H : Heap) (locs : List Loc), absX MX σ → absY MY σ → LW D cy adX adY MX MY H → va_S (lwA s) s.heap H locs → W p l e room_1 s m #[Value.ref b] below meth c H locs cells slots Q (F0 m 817 ls [])) :
    W p l e room_1 s m #[Value.ref b] below meth c H locs cells slots Q (F0 m 438 ls []) := by
  obtain ⟨hx, hb, hr, hml, hown, hts, hXs, hbl, hlocks, hgv⟩ := id C0
  refine lv_aload_n hx hb dL_law_438 rfl (lv_at hl 2 rfl) ?_
  refine law_arg (k := 1) C0 hL hS (lv_at hl 3 rfl) (lv_at hl 0 rfl) (by omega) dL_law_439 dL_law_440 dL_law_441 dL_law_442 dL_law_443 ?_
  refine law_arg (k := 2) C0 hL hS (lv_at hl 3 rfl) (lv_at hl 0 rfl) (by omega) dL_law_444 dL_law_445 dL_law_446 dL_law_447 dL_law_448 ?_
  refine law_X (As := [.inl ((xs (i + 1)).toInt), .inl ((xs (i + 2)).toInt)]) C0 hK hA hW (ok_X8_fill hA.1.1) ca_X8_fill mkL_59 ⟨rfl, rfl, Nat.le_of_ble_eq_true rfl, Nat.le_of_ble_eq_true rfl⟩ rfl rfl ⟨rfl, rfl, σ, hX⟩ (in_cons (I32_inR _) (in_cons (I32_inR _) (fun x hx => absurd hx List.not_mem_nil))) hS hl.1 (Nat.le_of_ble_eq_true rfl) dL_law_449 hcs (rest := []) (by simp [cV, I32_of]) (fun xX MX9 H locs hC hW hS => ?_)
  obtain ⟨eX, hX⟩ := (show c_X8_fill 0 ((xs (i + 1)).toInt) ((xs (i + 2)).toInt) MX xX MX9 from hC) σ hX
  refine lv_aload_n hx hb dL_law_452 rfl (lv_at hl 1 rfl) ?_
  refine law_arg (k := 1) C0 hL hS (lv_at hl 3 rfl) (lv_at hl 0 rfl) (by omega) dL_law_453 dL_law_454 dL_law_455 dL_law_456 dL_law_457 ?_
  refine law_arg (k := 2) C0 hL hS (lv_at hl 3 rfl) (lv_at hl 0 rfl) (by omega) dL_law_458 dL_law_459 dL_law_460 dL_law_461 dL_law_462 ?_
  refine law_Y (As := [.inl ((xs (i + 1)).toInt), .inl ((xs (i + 2)).toInt)]) C0 hK hA hW (ok_X9_fill hA.1.2) ca_X9_fill mkL_62 ⟨rfl, rfl, Nat.le_of_ble_eq_true rfl, Nat.le_of_ble_eq_true rfl⟩ rfl rfl ⟨rfl, rfl, σ, hY⟩ (in_cons (I32_inR _) (in_cons (I32_inR _) (fun x hx => absurd hx List.not_mem_nil))) hS hl.1 (Nat.le_of_ble_eq_true rfl) dL_law_463 hcs (rest := [.int (I32 xX)]) (by simp [cV, I32_of]) (fun xY MY9 H locs hC hW hS => ?_)
  obtain ⟨eY, hY⟩ := (show c_X9_fill 0 ((xs (i + 1)).toInt) ((xs (i + 2)).toInt) MY xY MY9 from hC) σ hY
  exact lv_icmp_eq (tgt := 817) hx hb dL_law_466 (by decide) (fun _ => kk _ _ _ _ _ hX hY hW hS) (fun h => absurd (by rw [eX, eY]) h)
theorem law_case_11 (C0 : lw_At p s m meth c b L xs) (hL : L ≤ 2048) (hK : va_K D vwCl (tysJ cy) s) (hA : LA s adX adY) {i : Nat} (hi : i + 4 ≤ L) {σ MX MY : Mem} (hX : absX MX σ) (hY : absY MY σ) (hW : LW D cy adX adY MX MY H) (hS : va_S (lwA s) s.heap H locs) (hl : lv_has ls 4 [(3, .int (I32 i)), (2, .ref (adY 0)), (1, .ref (adX 0)), (0, .ref b)]) (hcs : cells ≤ room_1.cells ∧ slots ≤ room_1.slots)
    (kk : ∀ (σ MX MY : Mem) (H : Heap) (locs : List Loc), absX MX σ → absY MY σ → LW D cy adX adY MX MY H → va_S (lwA s) s.heap H locs → W p l e room_1 s m #[Value.ref b] below meth c H locs cells slots Q (F0 m 817 ls [])) :
    W p l e room_1 s m #[Value.ref b] below meth c H locs cells slots Q (F0 m 471 ls []) := by
  obtain ⟨hx, hb, hr, hml, hown, hts, hXs, hbl, hlocks, hgv⟩ := id C0
  refine lv_aload_n hx hb dL_law_471 rfl (lv_at hl 2 rfl) ?_
  refine law_X (As := []) C0 hK hA hW (ok_X8_undo hA.1.1) ca_X8_undo mkL_63 ⟨rfl, rfl, Nat.le_of_ble_eq_true rfl, Nat.le_of_ble_eq_true rfl⟩ rfl rfl ⟨rfl, rfl, σ, hX⟩ (fun x hx => absurd hx List.not_mem_nil) hS hl.1 (Nat.le_of_ble_eq_true rfl) dL_law_472 hcs (rest := []) (by simp [cV, I32_of]) (fun xX MX9 H locs hC hW hS => ?_)
  obtain ⟨eX, hX⟩ := (show c_X8_undo 0  MX xX MX9 from hC) σ hX
  refine lv_aload_n hx hb dL_law_475 rfl (lv_at hl 1 rfl) ?_
  refine law_Y (As := []) C0 hK hA hW (ok_X9_undo hA.1.2) ca_X9_undo mkL_66 ⟨rfl, rfl, Nat.le_of_ble_eq_true rfl, Nat.le_of_ble_eq_true rfl⟩ rfl rfl ⟨rfl, rfl, σ, hY⟩ (fun x hx => absurd hx List.not_mem_nil) hS hl.1 (Nat.le_of_ble_eq_true rfl) dL_law_476 hcs (rest := [.int (I32 xX)]) (by simp [cV, I32_of]) (fun xY MY9 H locs hC hW hS => ?_)
  obtain ⟨eY, hY⟩ := (show c_X9_undo 0  MY xY MY9 from hC) σ hY
  exact lv_icmp_eq (tgt := 817) hx hb dL_law_479 (by decide) (fun _ => kk _ _ _ _ _ hX hY hW hS) (fun h => absurd (by rw [eX, eY]) h)
theorem law_case_12 (C0 : lw_At p s m meth c b L xs) (hL : L ≤ 2048) (hK : va_K D vwCl (tysJ cy) s) (hA : LA s adX adY) {i : Nat} (hi : i + 4 ≤ L) {σ MX MY : Mem} (hX : absX MX σ) (hY : absY MY σ) (hW : LW D cy adX adY MX MY H) (hS : va_S (lwA s) s.heap H locs) (hl : lv_has ls 4 [(3, .int (I32 i)), (2, .ref (adY 0)), (1, .ref (adX 0)), (0, .ref b)]) (hcs : cells ≤ room_1.cells ∧ slots ≤ room_1.slots)
    (kk : ∀ (σ MX MY : Mem) (H : Heap) (locs : List Loc), absX MX σ → absY MY σ → LW D cy adX adY MX MY H → va_S (lwA s) s.heap H locs → W p l e room_1 s m #[Value.ref b] below meth c H locs cells slots Q (F0 m 817 ls [])) :
    W p l e room_1 s m #[Value.ref b] below meth c H locs cells slots Q (F0 m 484 ls []) := by
  obtain ⟨hx, hb, hr, hml, hown, hts, hXs, hbl, hlocks, hgv⟩ := id C0
  refine lv_aload_n hx hb dL_law_484 rfl (lv_at hl 2 rfl) ?_
  refine law_arg (k := 1) C0 hL hS (lv_at hl 3 rfl) (lv_at hl 0 rfl) (by omega) dL_law_485 dL_law_486 dL_law_487 dL_law_488 dL_law_489 ?_
  refine law_X (As := [.inl ((xs (i + 1)).toInt)]) C0 hK hA hW (ok_X8_label hA.1.1) ca_X8_label mkL_67 ⟨rfl, rfl, Nat.le_of_ble_eq_true rfl, Nat.le_of_ble_eq_true rfl⟩ rfl rfl ⟨rfl, rfl, σ, hX⟩ (in_cons (I32_inR _) (fun x hx => absurd hx List.not_mem_nil)) hS hl.1 (Nat.le_of_ble_eq_true rfl) dL_law_490 hcs (rest := []) (by simp [cV, I32_of]) (fun xX MX9 H locs hC hW hS => ?_)
  obtain ⟨eX, hX⟩ := (show c_X8_label 0 ((xs (i + 1)).toInt) MX xX MX9 from hC) σ hX
  refine lv_aload_n hx hb dL_law_493 rfl (lv_at hl 1 rfl) ?_
  refine law_arg (k := 1) C0 hL hS (lv_at hl 3 rfl) (lv_at hl 0 rfl) (by omega) dL_law_494 dL_law_495 dL_law_496 dL_law_497 dL_law_498 ?_
  refine law_Y (As := [.inl ((xs (i + 1)).toInt)]) C0 hK hA hW (ok_X9_label hA.1.2) ca_X9_label mkL_70 ⟨rfl, rfl, Nat.le_of_ble_eq_true rfl, Nat.le_of_ble_eq_true rfl⟩ rfl rfl ⟨rfl, rfl, σ, hY⟩ (in_cons (I32_inR _) (fun x hx => absurd hx List.not_mem_nil)) hS hl.1 (Nat.le_of_ble_eq_true rfl) dL_law_499 hcs (rest := [.int (I32 xX)]) (by simp [cV, I32_of]) (fun xY MY9 H locs hC hW hS => ?_)
  obtain ⟨eY, hY⟩ := (show c_X9_label 0 ((xs (i + 1)).toInt) MY xY MY9 from hC) σ hY
  exact lv_icmp_eq (tgt := 817) hx hb dL_law_502 (by decide) (fun _ => kk _ _ _ _ _ hX hY hW hS) (fun h => absurd (by rw [eX, eY]) h)
theorem law_case_13 (C0 : lw_At p s m meth c b L xs) (hL : L ≤ 2048) (hK : va_K D vwCl (tysJ cy) s) (hA : LA s adX adY) {i : Nat} (hi : i + 4 ≤ L) {σ MX MY : Mem} (hX : absX MX σ) (hY : absY MY σ) (hW : LW D cy adX adY MX MY H) (hS : va_S (lwA s) s.heap H locs) (hl : lv_has ls 4 [(3, .int (I32 i)), (2, .ref (adY 0)), (1, .ref (adX 0)), (0, .ref b)]) (hcs : cells ≤ room_1.cells ∧ slots ≤ room_1.slots)
    (kk : ∀ (σ MX MY : Mem) (H : Heap) (locs : List Loc), absX MX σ → absY MY σ → LW D cy adX adY MX MY H → va_S (lwA s) s.heap H locs → W p l e room_1 s m #[Value.ref b] below meth c H locs cells slots Q (F0 m 817 ls [])) :
    W p l e room_1 s m #[Value.ref b] below meth c H locs cells slots Q (F0 m 507 ls []) := by
  obtain ⟨hx, hb, hr, hml, hown, hts, hXs, hbl, hlocks, hgv⟩ := id C0
  refine lv_aload_n hx hb dL_law_507 rfl (lv_at hl 2 rfl) ?_
  refine law_arg (k := 1) C0 hL hS (lv_at hl 3 rfl) (lv_at hl 0 rfl) (by omega) dL_law_508 dL_law_509 dL_law_510 dL_law_511 dL_law_512 ?_
  refine law_X (As := [.inl ((xs (i + 1)).toInt)]) C0 hK hA hW (ok_X8_part hA.1.1) ca_X8_part mkL_71 ⟨rfl, rfl, Nat.le_of_ble_eq_true rfl, Nat.le_of_ble_eq_true rfl⟩ rfl rfl ⟨rfl, rfl, σ, hX⟩ (in_cons (I32_inR _) (fun x hx => absurd hx List.not_mem_nil)) hS hl.1 (Nat.le_of_ble_eq_true rfl) dL_law_513 hcs (rest := []) (by simp [cV, I32_of]) (fun xX MX9 H locs hC hW hS => ?_)
  obtain ⟨eX, hX⟩ := (show c_X8_part 0 ((xs (i + 1)).toInt) MX xX MX9 from hC) σ hX
  refine lv_aload_n hx hb dL_law_516 rfl (lv_at hl 1 rfl) ?_
  refine law_arg (k := 1) C0 hL hS (lv_at hl 3 rfl) (lv_at hl 0 rfl) (by omega) dL_law_517 dL_law_518 dL_law_519 dL_law_520 dL_law_521 ?_
  refine law_Y (As := [.inl ((xs (i + 1)).toInt)]) C0 hK hA hW (ok_X9_part hA.1.2) ca_X9_part mkL_74 ⟨rfl, rfl, Nat.le_of_ble_eq_true rfl, Nat.le_of_ble_eq_true rfl⟩ rfl rfl ⟨rfl, rfl, σ, hY⟩ (in_cons (I32_inR _) (fun x hx => absurd hx List.not_mem_nil)) hS hl.1 (Nat.le_of_ble_eq_true rfl) dL_law_522 hcs (rest := [.int (I32 xX)]) (by simp [cV, I32_of]) (fun xY MY9 H locs hC hW hS => ?_)
  obtain ⟨eY, hY⟩ := (show c_X9_part 0 ((xs (i + 1)).toInt) MY xY MY9 from hC) σ hY
  exact lv_icmp_eq (tgt := 817) hx hb dL_law_525 (by decide) (fun _ => kk _ _ _ _ _ hX hY hW hS) (fun h => absurd (by rw [eX, eY]) h)
theorem law_case_14 (C0 : lw_At p s m meth c b L xs) (hL : L ≤ 2048) (hK : va_K D vwCl (tysJ cy) s) (hA : LA s adX adY) {i : Nat} (hi : i + 4 ≤ L) {σ MX MY : Mem} (hX : absX MX σ) (hY : absY MY σ) (hW : LW D cy adX adY MX MY H) (hS : va_S (lwA s) s.heap H locs) (hl : lv_has ls 4 [(3, .int (I32 i)), (2, .ref (adY 0)), (1, .ref (adX 0)), (0, .ref b)]) (hcs : cells ≤ room_1.cells ∧ slots ≤ room_1.slots)
    (kk : ∀ (σ MX MY : Mem) (H : Heap) (locs : List Loc), absX MX σ → absY MY σ → LW D cy adX adY MX MY H → va_S (lwA s) s.heap H locs → W p l e room_1 s m #[Value.ref b] below meth c H locs cells slots Q (F0 m 817 ls [])) :
    W p l e room_1 s m #[Value.ref b] below meth c H locs cells slots Q (F0 m 530 ls []) := by
  obtain ⟨hx, hb, hr, hml, hown, hts, hXs, hbl, hlocks, hgv⟩ := id C0
  refine lv_aload_n hx hb dL_law_530 rfl (lv_at hl 2 rfl) ?_
  refine law_arg (k := 1) C0 hL hS (lv_at hl 3 rfl) (lv_at hl 0 rfl) (by omega) dL_law_531 dL_law_532 dL_law_533 dL_law_534 dL_law_535 ?_
  refine law_arg (k := 2) C0 hL hS (lv_at hl 3 rfl) (lv_at hl 0 rfl) (by omega) dL_law_536 dL_law_537 dL_law_538 dL_law_539 dL_law_540 ?_
  refine law_X (As := [.inl ((xs (i + 1)).toInt), .inl ((xs (i + 2)).toInt)]) C0 hK hA hW (ok_X8_ofPart hA.1.1) ca_X8_ofPart mkL_75 ⟨rfl, rfl, Nat.le_of_ble_eq_true rfl, Nat.le_of_ble_eq_true rfl⟩ rfl rfl ⟨rfl, rfl, σ, hX⟩ (in_cons (I32_inR _) (in_cons (I32_inR _) (fun x hx => absurd hx List.not_mem_nil))) hS hl.1 (Nat.le_of_ble_eq_true rfl) dL_law_541 hcs (rest := []) (by simp [cV, I32_of]) (fun xX MX9 H locs hC hW hS => ?_)
  obtain ⟨eX, hX⟩ := (show c_X8_ofPart 0 ((xs (i + 1)).toInt) ((xs (i + 2)).toInt) MX xX MX9 from hC) σ hX
  refine lv_aload_n hx hb dL_law_544 rfl (lv_at hl 1 rfl) ?_
  refine law_arg (k := 1) C0 hL hS (lv_at hl 3 rfl) (lv_at hl 0 rfl) (by omega) dL_law_545 dL_law_546 dL_law_547 dL_law_548 dL_law_549 ?_
  refine law_arg (k := 2) C0 hL hS (lv_at hl 3 rfl) (lv_at hl 0 rfl) (by omega) dL_law_550 dL_law_551 dL_law_552 dL_law_553 dL_law_554 ?_
  refine law_Y (As := [.inl ((xs (i + 1)).toInt), .inl ((xs (i + 2)).toInt)]) C0 hK hA hW (ok_X9_ofPart hA.1.2) ca_X9_ofPart mkL_78 ⟨rfl, rfl, Nat.le_of_ble_eq_true rfl, Nat.le_of_ble_eq_true rfl⟩ rfl rfl ⟨rfl, rfl, σ, hY⟩ (in_cons (I32_inR _) (in_cons (I32_inR _) (fun x hx => absurd hx List.not_mem_nil))) hS hl.1 (Nat.le_of_ble_eq_true rfl) dL_law_555 hcs (rest := [.int (I32 xX)]) (by simp [cV, I32_of]) (fun xY MY9 H locs hC hW hS => ?_)
  obtain ⟨eY, hY⟩ := (show c_X9_ofPart 0 ((xs (i + 1)).toInt) ((xs (i + 2)).toInt) MY xY MY9 from hC) σ hY
  exact lv_icmp_eq (tgt := 817) hx hb dL_law_558 (by decide) (fun _ => kk _ _ _ _ _ hX hY hW hS) (fun h => absurd (by rw [eX, eY]) h)
theorem law_case_15 (C0 : lw_At p s m meth c b L xs) (hL : L ≤ 2048) (hK : va_K D vwCl (tysJ cy) s) (hA : LA s adX adY) {i : Nat} (hi : i + 4 ≤ L) {σ MX MY : Mem} (hX : absX MX σ) (hY : absY MY σ) (hW : LW D cy adX adY MX MY H) (hS : va_S (lwA s) s.heap H locs) (hl : lv_has ls 4 [(3, .int (I32 i)), (2, .ref (adY 0)), (1, .ref (adX 0)), (0, .ref b)]) (hcs : cells ≤ room_1.cells ∧ slots ≤ room_1.slots)
    (kk : ∀ (σ MX MY : Mem) (H : Heap) (locs : List Loc), absX MX σ → absY MY σ → LW D cy adX adY MX MY H → va_S (lwA s) s.heap H locs → W p l e room_1 s m #[Value.ref b] below meth c H locs cells slots Q (F0 m 817 ls [])) :
    W p l e room_1 s m #[Value.ref b] below meth c H locs cells slots Q (F0 m 563 ls []) := by
  obtain ⟨hx, hb, hr, hml, hown, hts, hXs, hbl, hlocks, hgv⟩ := id C0
  refine lv_aload_n hx hb dL_law_563 rfl (lv_at hl 2 rfl) ?_
  refine law_arg (k := 1) C0 hL hS (lv_at hl 3 rfl) (lv_at hl 0 rfl) (by omega) dL_law_564 dL_law_565 dL_law_566 dL_law_567 dL_law_568 ?_
  refine law_X (As := [.inl ((xs (i + 1)).toInt)]) C0 hK hA hW (ok_X8_greatestPart hA.1.1) ca_X8_greatestPart mkL_79 ⟨rfl, rfl, Nat.le_of_ble_eq_true rfl, Nat.le_of_ble_eq_true rfl⟩ rfl rfl ⟨rfl, rfl, σ, hX⟩ (in_cons (I32_inR _) (fun x hx => absurd hx List.not_mem_nil)) hS hl.1 (Nat.le_of_ble_eq_true rfl) dL_law_569 hcs (rest := []) (by simp [cV, I32_of]) (fun xX MX9 H locs hC hW hS => ?_)
  obtain ⟨eX, hX⟩ := (show c_X8_greatestPart 0 ((xs (i + 1)).toInt) MX xX MX9 from hC) σ hX
  refine lv_aload_n hx hb dL_law_572 rfl (lv_at hl 1 rfl) ?_
  refine law_arg (k := 1) C0 hL hS (lv_at hl 3 rfl) (lv_at hl 0 rfl) (by omega) dL_law_573 dL_law_574 dL_law_575 dL_law_576 dL_law_577 ?_
  refine law_Y (As := [.inl ((xs (i + 1)).toInt)]) C0 hK hA hW (ok_X9_greatestPart hA.1.2) ca_X9_greatestPart mkL_82 ⟨rfl, rfl, Nat.le_of_ble_eq_true rfl, Nat.le_of_ble_eq_true rfl⟩ rfl rfl ⟨rfl, rfl, σ, hY⟩ (in_cons (I32_inR _) (fun x hx => absurd hx List.not_mem_nil)) hS hl.1 (Nat.le_of_ble_eq_true rfl) dL_law_578 hcs (rest := [.int (I32 xX)]) (by simp [cV, I32_of]) (fun xY MY9 H locs hC hW hS => ?_)
  obtain ⟨eY, hY⟩ := (show c_X9_greatestPart 0 ((xs (i + 1)).toInt) MY xY MY9 from hC) σ hY
  exact lv_icmp_eq (tgt := 817) hx hb dL_law_581 (by decide) (fun _ => kk _ _ _ _ _ hX hY hW hS) (fun h => absurd (by rw [eX, eY]) h)
theorem law_case_16 (C0 : lw_At p s m meth c b L xs) (hL : L ≤ 2048) (hK : va_K D vwCl (tysJ cy) s) (hA : LA s adX adY) {i : Nat} (hi : i + 4 ≤ L) {σ MX MY : Mem} (hX : absX MX σ) (hY : absY MY σ) (hW : LW D cy adX adY MX MY H) (hS : va_S (lwA s) s.heap H locs) (hl : lv_has ls 4 [(3, .int (I32 i)), (2, .ref (adY 0)), (1, .ref (adX 0)), (0, .ref b)]) (hcs : cells ≤ room_1.cells ∧ slots ≤ room_1.slots)
    (kk : ∀ (σ MX MY : Mem) (H : Heap) (locs : List Loc), absX MX σ → absY MY σ → LW D cy adX adY MX MY H → va_S (lwA s) s.heap H locs → W p l e room_1 s m #[Value.ref b] below meth c H locs cells slots Q (F0 m 817 ls [])) :
    W p l e room_1 s m #[Value.ref b] below meth c H locs cells slots Q (F0 m 586 ls []) := by
  obtain ⟨hx, hb, hr, hml, hown, hts, hXs, hbl, hlocks, hgv⟩ := id C0
  refine lv_aload_n hx hb dL_law_586 rfl (lv_at hl 2 rfl) ?_
  refine law_arg (k := 1) C0 hL hS (lv_at hl 3 rfl) (lv_at hl 0 rfl) (by omega) dL_law_587 dL_law_588 dL_law_589 dL_law_590 dL_law_591 ?_
  refine law_arg (k := 2) C0 hL hS (lv_at hl 3 rfl) (lv_at hl 0 rfl) (by omega) dL_law_592 dL_law_593 dL_law_594 dL_law_595 dL_law_596 ?_
  refine law_X (As := [.inl ((xs (i + 1)).toInt), .inl ((xs (i + 2)).toInt)]) C0 hK hA hW (ok_X8_partsIf hA.1.1) ca_X8_partsIf mkL_83 ⟨rfl, rfl, Nat.le_of_ble_eq_true rfl, Nat.le_of_ble_eq_true rfl⟩ rfl rfl ⟨rfl, rfl, σ, hX⟩ (in_cons (I32_inR _) (in_cons (I32_inR _) (fun x hx => absurd hx List.not_mem_nil))) hS hl.1 (Nat.le_of_ble_eq_true rfl) dL_law_597 hcs (rest := []) (by simp [cV, I32_of]) (fun xX MX9 H locs hC hW hS => ?_)
  obtain ⟨eX, hX⟩ := (show c_X8_partsIf 0 ((xs (i + 1)).toInt) ((xs (i + 2)).toInt) MX xX MX9 from hC) σ hX
  refine lv_aload_n hx hb dL_law_600 rfl (lv_at hl 1 rfl) ?_
  refine law_arg (k := 1) C0 hL hS (lv_at hl 3 rfl) (lv_at hl 0 rfl) (by omega) dL_law_601 dL_law_602 dL_law_603 dL_law_604 dL_law_605 ?_
  refine law_arg (k := 2) C0 hL hS (lv_at hl 3 rfl) (lv_at hl 0 rfl) (by omega) dL_law_606 dL_law_607 dL_law_608 dL_law_609 dL_law_610 ?_
  refine law_Y (As := [.inl ((xs (i + 1)).toInt), .inl ((xs (i + 2)).toInt)]) C0 hK hA hW (ok_X9_partsIf hA.1.2) ca_X9_partsIf mkL_86 ⟨rfl, rfl, Nat.le_of_ble_eq_true rfl, Nat.le_of_ble_eq_true rfl⟩ rfl rfl ⟨rfl, rfl, σ, hY⟩ (in_cons (I32_inR _) (in_cons (I32_inR _) (fun x hx => absurd hx List.not_mem_nil))) hS hl.1 (Nat.le_of_ble_eq_true rfl) dL_law_611 hcs (rest := [.int (I32 xX)]) (by simp [cV, I32_of]) (fun xY MY9 H locs hC hW hS => ?_)
  obtain ⟨eY, hY⟩ := (show c_X9_partsIf 0 ((xs (i + 1)).toInt) ((xs (i + 2)).toInt) MY xY MY9 from hC) σ hY
  exact lv_icmp_eq (tgt := 817) hx hb dL_law_614 (by decide) (fun _ => kk _ _ _ _ _ hX hY hW hS) (fun h => absurd (by rw [eX, eY]) h)
theorem law_case_17 (C0 : lw_At p s m meth c b L xs) (hL : L ≤ 2048) (hK : va_K D vwCl (tysJ cy) s) (hA : LA s adX adY) {i : Nat} (hi : i + 4 ≤ L) {σ MX MY : Mem} (hX : absX MX σ) (hY : absY MY σ) (hW : LW D cy adX adY MX MY H) (hS : va_S (lwA s) s.heap H locs) (hl : lv_has ls 4 [(3, .int (I32 i)), (2, .ref (adY 0)), (1, .ref (adX 0)), (0, .ref b)]) (hcs : cells ≤ room_1.cells ∧ slots ≤ room_1.slots)
    (kk : ∀ (σ MX MY : Mem) (H : Heap) (locs : List Loc), absX MX σ → absY MY σ → LW D cy adX adY MX MY H → va_S (lwA s) s.heap H locs → W p l e room_1 s m #[Value.ref b] below meth c H locs cells slots Q (F0 m 817 ls [])) :
    W p l e room_1 s m #[Value.ref b] below meth c H locs cells slots Q (F0 m 619 ls []) := by
  obtain ⟨hx, hb, hr, hml, hown, hts, hXs, hbl, hlocks, hgv⟩ := id C0
  refine lv_aload_n hx hb dL_law_619 rfl (lv_at hl 2 rfl) ?_
  refine law_arg (k := 1) C0 hL hS (lv_at hl 3 rfl) (lv_at hl 0 rfl) (by omega) dL_law_620 dL_law_621 dL_law_622 dL_law_623 dL_law_624 ?_
  refine law_arg (k := 2) C0 hL hS (lv_at hl 3 rfl) (lv_at hl 0 rfl) (by omega) dL_law_625 dL_law_626 dL_law_627 dL_law_628 dL_law_629 ?_
  refine law_X (As := [.inl ((xs (i + 1)).toInt), .inl ((xs (i + 2)).toInt)]) C0 hK hA hW (ok_X8_setWeight hA.1.1) ca_X8_setWeight mkL_87 ⟨rfl, rfl, Nat.le_of_ble_eq_true rfl, Nat.le_of_ble_eq_true rfl⟩ rfl rfl ⟨rfl, rfl, σ, hX⟩ (in_cons (I32_inR _) (in_cons (I32_inR _) (fun x hx => absurd hx List.not_mem_nil))) hS hl.1 (Nat.le_of_ble_eq_true rfl) dL_law_630 hcs (rest := []) (by simp [cV, I32_of]) (fun xX MX9 H locs hC hW hS => ?_)
  obtain ⟨eX, hX⟩ := (show c_X8_setWeight 0 ((xs (i + 1)).toInt) ((xs (i + 2)).toInt) MX xX MX9 from hC) σ hX
  refine lv_aload_n hx hb dL_law_633 rfl (lv_at hl 1 rfl) ?_
  refine law_arg (k := 1) C0 hL hS (lv_at hl 3 rfl) (lv_at hl 0 rfl) (by omega) dL_law_634 dL_law_635 dL_law_636 dL_law_637 dL_law_638 ?_
  refine law_arg (k := 2) C0 hL hS (lv_at hl 3 rfl) (lv_at hl 0 rfl) (by omega) dL_law_639 dL_law_640 dL_law_641 dL_law_642 dL_law_643 ?_
  refine law_Y (As := [.inl ((xs (i + 1)).toInt), .inl ((xs (i + 2)).toInt)]) C0 hK hA hW (ok_X9_setWeight hA.1.2) ca_X9_setWeight mkL_90 ⟨rfl, rfl, Nat.le_of_ble_eq_true rfl, Nat.le_of_ble_eq_true rfl⟩ rfl rfl ⟨rfl, rfl, σ, hY⟩ (in_cons (I32_inR _) (in_cons (I32_inR _) (fun x hx => absurd hx List.not_mem_nil))) hS hl.1 (Nat.le_of_ble_eq_true rfl) dL_law_644 hcs (rest := [.int (I32 xX)]) (by simp [cV, I32_of]) (fun xY MY9 H locs hC hW hS => ?_)
  obtain ⟨eY, hY⟩ := (show c_X9_setWeight 0 ((xs (i + 1)).toInt) ((xs (i + 2)).toInt) MY xY MY9 from hC) σ hY
  exact lv_icmp_eq (tgt := 817) hx hb dL_law_647 (by decide) (fun _ => kk _ _ _ _ _ hX hY hW hS) (fun h => absurd (by rw [eX, eY]) h)
theorem law_case_18 (C0 : lw_At p s m meth c b L xs) (hL : L ≤ 2048) (hK : va_K D vwCl (tysJ cy) s) (hA : LA s adX adY) {i : Nat} (hi : i + 4 ≤ L) {σ MX MY : Mem} (hX : absX MX σ) (hY : absY MY σ) (hW : LW D cy adX adY MX MY H) (hS : va_S (lwA s) s.heap H locs) (hl : lv_has ls 4 [(3, .int (I32 i)), (2, .ref (adY 0)), (1, .ref (adX 0)), (0, .ref b)]) (hcs : cells ≤ room_1.cells ∧ slots ≤ room_1.slots)
    (kk : ∀ (σ MX MY : Mem) (H : Heap) (locs : List Loc), absX MX σ → absY MY σ → LW D cy adX adY MX MY H → va_S (lwA s) s.heap H locs → W p l e room_1 s m #[Value.ref b] below meth c H locs cells slots Q (F0 m 817 ls [])) :
    W p l e room_1 s m #[Value.ref b] below meth c H locs cells slots Q (F0 m 652 ls []) := by
  obtain ⟨hx, hb, hr, hml, hown, hts, hXs, hbl, hlocks, hgv⟩ := id C0
  refine lv_aload_n hx hb dL_law_652 rfl (lv_at hl 2 rfl) ?_
  refine law_arg (k := 1) C0 hL hS (lv_at hl 3 rfl) (lv_at hl 0 rfl) (by omega) dL_law_653 dL_law_654 dL_law_655 dL_law_656 dL_law_657 ?_
  refine law_arg (k := 2) C0 hL hS (lv_at hl 3 rfl) (lv_at hl 0 rfl) (by omega) dL_law_658 dL_law_659 dL_law_660 dL_law_661 dL_law_662 ?_
  refine law_X (As := [.inl ((xs (i + 1)).toInt), .inl ((xs (i + 2)).toInt)]) C0 hK hA hW (ok_X8_distance hA.1.1) ca_X8_distance mkL_91 ⟨rfl, rfl, Nat.le_of_ble_eq_true rfl, Nat.le_of_ble_eq_true rfl⟩ rfl rfl ⟨rfl, rfl, σ, hX⟩ (in_cons (I32_inR _) (in_cons (I32_inR _) (fun x hx => absurd hx List.not_mem_nil))) hS hl.1 (Nat.le_of_ble_eq_true rfl) dL_law_663 hcs (rest := []) (by simp [cV, I32_of]) (fun xX MX9 H locs hC hW hS => ?_)
  obtain ⟨eX, hX⟩ := (show c_X8_distance 0 ((xs (i + 1)).toInt) ((xs (i + 2)).toInt) MX xX MX9 from hC) σ hX
  refine lv_aload_n hx hb dL_law_666 rfl (lv_at hl 1 rfl) ?_
  refine law_arg (k := 1) C0 hL hS (lv_at hl 3 rfl) (lv_at hl 0 rfl) (by omega) dL_law_667 dL_law_668 dL_law_669 dL_law_670 dL_law_671 ?_
  refine law_arg (k := 2) C0 hL hS (lv_at hl 3 rfl) (lv_at hl 0 rfl) (by omega) dL_law_672 dL_law_673 dL_law_674 dL_law_675 dL_law_676 ?_
  refine law_Y (As := [.inl ((xs (i + 1)).toInt), .inl ((xs (i + 2)).toInt)]) C0 hK hA hW (ok_X9_distance hA.1.2) ca_X9_distance mkL_94 ⟨rfl, rfl, Nat.le_of_ble_eq_true rfl, Nat.le_of_ble_eq_true rfl⟩ rfl rfl ⟨rfl, rfl, σ, hY⟩ (in_cons (I32_inR _) (in_cons (I32_inR _) (fun x hx => absurd hx List.not_mem_nil))) hS hl.1 (Nat.le_of_ble_eq_true rfl) dL_law_677 hcs (rest := [.int (I32 xX)]) (by simp [cV, I32_of]) (fun xY MY9 H locs hC hW hS => ?_)
  obtain ⟨eY, hY⟩ := (show c_X9_distance 0 ((xs (i + 1)).toInt) ((xs (i + 2)).toInt) MY xY MY9 from hC) σ hY
  exact lv_icmp_eq (tgt := 817) hx hb dL_law_680 (by decide) (fun _ => kk _ _ _ _ _ hX hY hW hS) (fun h => absurd (by rw [eX, eY]) h)
theorem law_case_19 (C0 : lw_At p s m meth c b L xs) (hL : L ≤ 2048) (hK : va_K D vwCl (tysJ cy) s) (hA : LA s adX adY) {i : Nat} (hi : i + 4 ≤ L) {σ MX MY : Mem} (hX : absX MX σ) (hY : absY MY σ) (hW : LW D cy adX adY MX MY H) (hS : va_S (lwA s) s.heap H locs) (hl : lv_has ls 4 [(3, .int (I32 i)), (2, .ref (adY 0)), (1, .ref (adX 0)), (0, .ref b)]) (hcs : cells ≤ room_1.cells ∧ slots ≤ room_1.slots)
    (kk : ∀ (σ MX MY : Mem) (H : Heap) (locs : List Loc), absX MX σ → absY MY σ → LW D cy adX adY MX MY H → va_S (lwA s) s.heap H locs → W p l e room_1 s m #[Value.ref b] below meth c H locs cells slots Q (F0 m 817 ls [])) :
    W p l e room_1 s m #[Value.ref b] below meth c H locs cells slots Q (F0 m 685 ls []) := by
  obtain ⟨hx, hb, hr, hml, hown, hts, hXs, hbl, hlocks, hgv⟩ := id C0
  refine lv_aload_n hx hb dL_law_685 rfl (lv_at hl 2 rfl) ?_
  refine law_arg (k := 1) C0 hL hS (lv_at hl 3 rfl) (lv_at hl 0 rfl) (by omega) dL_law_686 dL_law_687 dL_law_688 dL_law_689 dL_law_690 ?_
  refine law_arg (k := 2) C0 hL hS (lv_at hl 3 rfl) (lv_at hl 0 rfl) (by omega) dL_law_691 dL_law_692 dL_law_693 dL_law_694 dL_law_695 ?_
  refine law_arg (k := 3) C0 hL hS (lv_at hl 3 rfl) (lv_at hl 0 rfl) (by omega) dL_law_696 dL_law_697 dL_law_698 dL_law_699 dL_law_700 ?_
  refine law_X (As := [.inl ((xs (i + 1)).toInt), .inl ((xs (i + 2)).toInt), .inl ((xs (i + 3)).toInt)]) C0 hK hA hW (ok_X8_route hA.1.1) ca_X8_route mkL_95 ⟨rfl, rfl, Nat.le_of_ble_eq_true rfl, Nat.le_of_ble_eq_true rfl⟩ rfl rfl ⟨rfl, rfl, σ, hX⟩ (in_cons (I32_inR _) (in_cons (I32_inR _) (in_cons (I32_inR _) (fun x hx => absurd hx List.not_mem_nil)))) hS hl.1 (Nat.le_of_ble_eq_true rfl) dL_law_701 hcs (rest := []) (by simp [cV, I32_of]) (fun xX MX9 H locs hC hW hS => ?_)
  obtain ⟨eX, hX⟩ := (show c_X8_route 0 ((xs (i + 1)).toInt) ((xs (i + 2)).toInt) ((xs (i + 3)).toInt) MX xX MX9 from hC) σ hX
  refine lv_aload_n hx hb dL_law_704 rfl (lv_at hl 1 rfl) ?_
  refine law_arg (k := 1) C0 hL hS (lv_at hl 3 rfl) (lv_at hl 0 rfl) (by omega) dL_law_705 dL_law_706 dL_law_707 dL_law_708 dL_law_709 ?_
  refine law_arg (k := 2) C0 hL hS (lv_at hl 3 rfl) (lv_at hl 0 rfl) (by omega) dL_law_710 dL_law_711 dL_law_712 dL_law_713 dL_law_714 ?_
  refine law_arg (k := 3) C0 hL hS (lv_at hl 3 rfl) (lv_at hl 0 rfl) (by omega) dL_law_715 dL_law_716 dL_law_717 dL_law_718 dL_law_719 ?_
  refine law_Y (As := [.inl ((xs (i + 1)).toInt), .inl ((xs (i + 2)).toInt), .inl ((xs (i + 3)).toInt)]) C0 hK hA hW (ok_X9_route hA.1.2) ca_X9_route mkL_98 ⟨rfl, rfl, Nat.le_of_ble_eq_true rfl, Nat.le_of_ble_eq_true rfl⟩ rfl rfl ⟨rfl, rfl, σ, hY⟩ (in_cons (I32_inR _) (in_cons (I32_inR _) (in_cons (I32_inR _) (fun x hx => absurd hx List.not_mem_nil)))) hS hl.1 (Nat.le_of_ble_eq_true rfl) dL_law_720 hcs (rest := [.int (I32 xX)]) (by simp [cV, I32_of]) (fun xY MY9 H locs hC hW hS => ?_)
  obtain ⟨eY, hY⟩ := (show c_X9_route 0 ((xs (i + 1)).toInt) ((xs (i + 2)).toInt) ((xs (i + 3)).toInt) MY xY MY9 from hC) σ hY
  exact lv_icmp_eq (tgt := 817) hx hb dL_law_723 (by decide) (fun _ => kk _ _ _ _ _ hX hY hW hS) (fun h => absurd (by rw [eX, eY]) h)
theorem law_case_20 (C0 : lw_At p s m meth c b L xs) (hL : L ≤ 2048) (hK : va_K D vwCl (tysJ cy) s) (hA : LA s adX adY) {i : Nat} (hi : i + 4 ≤ L) {σ MX MY : Mem} (hX : absX MX σ) (hY : absY MY σ) (hW : LW D cy adX adY MX MY H) (hS : va_S (lwA s) s.heap H locs) (hl : lv_has ls 4 [(3, .int (I32 i)), (2, .ref (adY 0)), (1, .ref (adX 0)), (0, .ref b)]) (hcs : cells ≤ room_1.cells ∧ slots ≤ room_1.slots)
    (kk : ∀ (σ MX MY : Mem) (H : Heap) (locs : List Loc), absX MX σ → absY MY σ → LW D cy adX adY MX MY H → va_S (lwA s) s.heap H locs → W p l e room_1 s m #[Value.ref b] below meth c H locs cells slots Q (F0 m 817 ls [])) :
    W p l e room_1 s m #[Value.ref b] below meth c H locs cells slots Q (F0 m 728 ls []) := by
  obtain ⟨hx, hb, hr, hml, hown, hts, hXs, hbl, hlocks, hgv⟩ := id C0
  refine lv_aload_n hx hb dL_law_728 rfl (lv_at hl 2 rfl) ?_
  refine law_arg (k := 1) C0 hL hS (lv_at hl 3 rfl) (lv_at hl 0 rfl) (by omega) dL_law_729 dL_law_730 dL_law_731 dL_law_732 dL_law_733 ?_
  refine law_X (As := [.inl ((xs (i + 1)).toInt)]) C0 hK hA hW (ok_X8_farthest hA.1.1) ca_X8_farthest mkL_99 ⟨rfl, rfl, Nat.le_of_ble_eq_true rfl, Nat.le_of_ble_eq_true rfl⟩ rfl rfl ⟨rfl, rfl, σ, hX⟩ (in_cons (I32_inR _) (fun x hx => absurd hx List.not_mem_nil)) hS hl.1 (Nat.le_of_ble_eq_true rfl) dL_law_734 hcs (rest := []) (by simp [cV, I32_of]) (fun xX MX9 H locs hC hW hS => ?_)
  obtain ⟨eX, hX⟩ := (show c_X8_farthest 0 ((xs (i + 1)).toInt) MX xX MX9 from hC) σ hX
  refine lv_aload_n hx hb dL_law_737 rfl (lv_at hl 1 rfl) ?_
  refine law_arg (k := 1) C0 hL hS (lv_at hl 3 rfl) (lv_at hl 0 rfl) (by omega) dL_law_738 dL_law_739 dL_law_740 dL_law_741 dL_law_742 ?_
  refine law_Y (As := [.inl ((xs (i + 1)).toInt)]) C0 hK hA hW (ok_X9_farthest hA.1.2) ca_X9_farthest mkL_102 ⟨rfl, rfl, Nat.le_of_ble_eq_true rfl, Nat.le_of_ble_eq_true rfl⟩ rfl rfl ⟨rfl, rfl, σ, hY⟩ (in_cons (I32_inR _) (fun x hx => absurd hx List.not_mem_nil)) hS hl.1 (Nat.le_of_ble_eq_true rfl) dL_law_743 hcs (rest := [.int (I32 xX)]) (by simp [cV, I32_of]) (fun xY MY9 H locs hC hW hS => ?_)
  obtain ⟨eY, hY⟩ := (show c_X9_farthest 0 ((xs (i + 1)).toInt) MY xY MY9 from hC) σ hY
  exact lv_icmp_eq (tgt := 817) hx hb dL_law_746 (by decide) (fun _ => kk _ _ _ _ _ hX hY hW hS) (fun h => absurd (by rw [eX, eY]) h)
theorem law_case_21 (C0 : lw_At p s m meth c b L xs) (hL : L ≤ 2048) (hK : va_K D vwCl (tysJ cy) s) (hA : LA s adX adY) {i : Nat} (hi : i + 4 ≤ L) {σ MX MY : Mem} (hX : absX MX σ) (hY : absY MY σ) (hW : LW D cy adX adY MX MY H) (hS : va_S (lwA s) s.heap H locs) (hl : lv_has ls 4 [(3, .int (I32 i)), (2, .ref (adY 0)), (1, .ref (adX 0)), (0, .ref b)]) (hcs : cells ≤ room_1.cells ∧ slots ≤ room_1.slots)
    (kk : ∀ (σ MX MY : Mem) (H : Heap) (locs : List Loc), absX MX σ → absY MY σ → LW D cy adX adY MX MY H → va_S (lwA s) s.heap H locs → W p l e room_1 s m #[Value.ref b] below meth c H locs cells slots Q (F0 m 817 ls [])) :
    W p l e room_1 s m #[Value.ref b] below meth c H locs cells slots Q (F0 m 751 ls []) := by
  obtain ⟨hx, hb, hr, hml, hown, hts, hXs, hbl, hlocks, hgv⟩ := id C0
  refine lv_aload_n hx hb dL_law_751 rfl (lv_at hl 2 rfl) ?_
  refine law_arg (k := 1) C0 hL hS (lv_at hl 3 rfl) (lv_at hl 0 rfl) (by omega) dL_law_752 dL_law_753 dL_law_754 dL_law_755 dL_law_756 ?_
  refine law_arg (k := 2) C0 hL hS (lv_at hl 3 rfl) (lv_at hl 0 rfl) (by omega) dL_law_757 dL_law_758 dL_law_759 dL_law_760 dL_law_761 ?_
  refine law_X (As := [.inl ((xs (i + 1)).toInt), .inl ((xs (i + 2)).toInt)]) C0 hK hA hW (ok_X8_within hA.1.1) ca_X8_within mkL_103 ⟨rfl, rfl, Nat.le_of_ble_eq_true rfl, Nat.le_of_ble_eq_true rfl⟩ rfl rfl ⟨rfl, rfl, σ, hX⟩ (in_cons (I32_inR _) (in_cons (I32_inR _) (fun x hx => absurd hx List.not_mem_nil))) hS hl.1 (Nat.le_of_ble_eq_true rfl) dL_law_762 hcs (rest := []) (by simp [cV, I32_of]) (fun xX MX9 H locs hC hW hS => ?_)
  obtain ⟨eX, hX⟩ := (show c_X8_within 0 ((xs (i + 1)).toInt) ((xs (i + 2)).toInt) MX xX MX9 from hC) σ hX
  refine lv_aload_n hx hb dL_law_765 rfl (lv_at hl 1 rfl) ?_
  refine law_arg (k := 1) C0 hL hS (lv_at hl 3 rfl) (lv_at hl 0 rfl) (by omega) dL_law_766 dL_law_767 dL_law_768 dL_law_769 dL_law_770 ?_
  refine law_arg (k := 2) C0 hL hS (lv_at hl 3 rfl) (lv_at hl 0 rfl) (by omega) dL_law_771 dL_law_772 dL_law_773 dL_law_774 dL_law_775 ?_
  refine law_Y (As := [.inl ((xs (i + 1)).toInt), .inl ((xs (i + 2)).toInt)]) C0 hK hA hW (ok_X9_within hA.1.2) ca_X9_within mkL_106 ⟨rfl, rfl, Nat.le_of_ble_eq_true rfl, Nat.le_of_ble_eq_true rfl⟩ rfl rfl ⟨rfl, rfl, σ, hY⟩ (in_cons (I32_inR _) (in_cons (I32_inR _) (fun x hx => absurd hx List.not_mem_nil))) hS hl.1 (Nat.le_of_ble_eq_true rfl) dL_law_776 hcs (rest := [.int (I32 xX)]) (by simp [cV, I32_of]) (fun xY MY9 H locs hC hW hS => ?_)
  obtain ⟨eY, hY⟩ := (show c_X9_within 0 ((xs (i + 1)).toInt) ((xs (i + 2)).toInt) MY xY MY9 from hC) σ hY
  exact lv_icmp_eq (tgt := 817) hx hb dL_law_779 (by decide) (fun _ => kk _ _ _ _ _ hX hY hW hS) (fun h => absurd (by rw [eX, eY]) h)
theorem law_case_22 (C0 : lw_At p s m meth c b L xs) (hL : L ≤ 2048) (hK : va_K D vwCl (tysJ cy) s) (hA : LA s adX adY) {i : Nat} (hi : i + 4 ≤ L) {σ MX MY : Mem} (hX : absX MX σ) (hY : absY MY σ) (hW : LW D cy adX adY MX MY H) (hS : va_S (lwA s) s.heap H locs) (hl : lv_has ls 4 [(3, .int (I32 i)), (2, .ref (adY 0)), (1, .ref (adX 0)), (0, .ref b)]) (hcs : cells ≤ room_1.cells ∧ slots ≤ room_1.slots)
    (kk : ∀ (σ MX MY : Mem) (H : Heap) (locs : List Loc), absX MX σ → absY MY σ → LW D cy adX adY MX MY H → va_S (lwA s) s.heap H locs → W p l e room_1 s m #[Value.ref b] below meth c H locs cells slots Q (F0 m 817 ls [])) :
    W p l e room_1 s m #[Value.ref b] below meth c H locs cells slots Q (F0 m 784 ls []) := by
  obtain ⟨hx, hb, hr, hml, hown, hts, hXs, hbl, hlocks, hgv⟩ := id C0
  refine lv_aload_n hx hb dL_law_784 rfl (lv_at hl 2 rfl) ?_
  refine law_arg (k := 1) C0 hL hS (lv_at hl 3 rfl) (lv_at hl 0 rfl) (by omega) dL_law_785 dL_law_786 dL_law_787 dL_law_788 dL_law_789 ?_
  refine law_arg (k := 2) C0 hL hS (lv_at hl 3 rfl) (lv_at hl 0 rfl) (by omega) dL_law_790 dL_law_791 dL_law_792 dL_law_793 dL_law_794 ?_
  refine law_X (As := [.inl ((xs (i + 1)).toInt), .inl ((xs (i + 2)).toInt)]) C0 hK hA hW (ok_X8_nearest hA.1.1) ca_X8_nearest mkL_107 ⟨rfl, rfl, Nat.le_of_ble_eq_true rfl, Nat.le_of_ble_eq_true rfl⟩ rfl rfl ⟨rfl, rfl, σ, hX⟩ (in_cons (I32_inR _) (in_cons (I32_inR _) (fun x hx => absurd hx List.not_mem_nil))) hS hl.1 (Nat.le_of_ble_eq_true rfl) dL_law_795 hcs (rest := []) (by simp [cV, I32_of]) (fun xX MX9 H locs hC hW hS => ?_)
  obtain ⟨eX, hX⟩ := (show c_X8_nearest 0 ((xs (i + 1)).toInt) ((xs (i + 2)).toInt) MX xX MX9 from hC) σ hX
  refine lv_aload_n hx hb dL_law_798 rfl (lv_at hl 1 rfl) ?_
  refine law_arg (k := 1) C0 hL hS (lv_at hl 3 rfl) (lv_at hl 0 rfl) (by omega) dL_law_799 dL_law_800 dL_law_801 dL_law_802 dL_law_803 ?_
  refine law_arg (k := 2) C0 hL hS (lv_at hl 3 rfl) (lv_at hl 0 rfl) (by omega) dL_law_804 dL_law_805 dL_law_806 dL_law_807 dL_law_808 ?_
  refine law_Y (As := [.inl ((xs (i + 1)).toInt), .inl ((xs (i + 2)).toInt)]) C0 hK hA hW (ok_X9_nearest hA.1.2) ca_X9_nearest mkL_110 ⟨rfl, rfl, Nat.le_of_ble_eq_true rfl, Nat.le_of_ble_eq_true rfl⟩ rfl rfl ⟨rfl, rfl, σ, hY⟩ (in_cons (I32_inR _) (in_cons (I32_inR _) (fun x hx => absurd hx List.not_mem_nil))) hS hl.1 (Nat.le_of_ble_eq_true rfl) dL_law_809 hcs (rest := [.int (I32 xX)]) (by simp [cV, I32_of]) (fun xY MY9 H locs hC hW hS => ?_)
  obtain ⟨eY, hY⟩ := (show c_X9_nearest 0 ((xs (i + 1)).toInt) ((xs (i + 2)).toInt) MY xY MY9 from hC) σ hY
  exact lv_icmp_eq (tgt := 817) hx hb dL_law_812 (by decide) (fun _ => kk _ _ _ _ _ hX hY hW hS) (fun h => absurd (by rw [eX, eY]) h)
end LC
