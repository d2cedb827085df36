def sg (L : Nat) (xs : Nat → Int32) (i : Int32) : Option Int32 := if ib i L = true then some (xs i.toNatClampNeg) else none
theorem r_sld {p : Program} {l : Launch} {e : Env} {R : Room} {s : State} {m : MethodId} {args : Array Value} {below : List Frame} {meth : Method} {c : Code} {H : Heap} {locs : List Loc} {cells slots : Nat} {Q : State → Prop} {cc : ByteArray} {pc : Nat} {ls : Array Slot} {rest : List Value} {A : Nat → Prop} (hx : p.tables.exec = Jvm.exec) (hb : c.code = cc) {b L : Nat} {xs : Nat → Int32} (hX : va_X b L xs s s.heap) (hbl : b < s.heap.size) (hbA : ¬ A b) (hS : va_S A s.heap H locs) {i v : Int32} (e1 : sg L xs i = some v) (hdg : decode cc pc = .ok (.iaload, 1)) (kk : W p l e R s m args below meth c H locs cells slots Q (F0 m (pc + 1) ls (.int v :: rest))) : W p l e R s m args below meth c H locs cells slots Q (F0 m pc ls (.int i :: .ref b :: rest)) := by
  unfold sg at e1
  by_cases hi : ib i L = true
  · rw [if_pos hi] at e1
    have e2 := Option.some.inj e1
    subst e2
    exact va_sld hx hb hX hbl hbA hS (ib_in hi) hdg kk
  · rw [if_neg hi] at e1; cases e1
def f_L_law_208 (L : Nat) (xs : Nat → Int32) (k18 : Int32 → PH → Option Int32) (x3 : Int32) (h : PH) : Option Int32 := bO (sg L xs (x3 + 1)) (fun v213 => bO (sg L xs (x3 + 2)) (fun v218 => bO (sg L xs (x3 + 3)) (fun v227 => bP (f_X8_feed v213 (((v218 : Int32).toInt64 <<< ((32 : Int32).toInt64 &&& 63)) ||| ((v227 : Int32).toInt64 &&& 4294967295)) h) (fun r234 h234 => bO (sg L xs (x3 + 1)) (fun v242 => bO (sg L xs (x3 + 2)) (fun v247 => bO (sg L xs (x3 + 3)) (fun v256 => bP (f_X9_feed v242 (((v247 : Int32).toInt64 <<< ((32 : Int32).toInt64 &&& 63)) ||| ((v256 : Int32).toInt64 &&& 4294967295)) h234) (fun r263 h263 => if r234 = r263 then (k18 (x3 + 5) h263) else (some 0)))))))))
set_option maxHeartbeats 4000000 in
set_option maxRecDepth 100000 in
theorem w_L_law_208 {l : Launch} {G : GC} (hG : GOK G) {p : Program} {e : Env} {s : State} {m : MethodId} {below : List Frame} {meth : Method} {c : Code} {b L : Nat} {xs : Nat → Int32} (C : lw_At p s m meth c b L xs) (hbA : ¬ gA G b) (hA0 : ∀ q, gA G q → s.heap.size ≤ q) (hK : KW G s) (k18 : Int32 → PH → Option Int32) (hk18 : ∀ (x3 : Int32) (h : PH) (H : Heap) (locs : List Loc) (ls : Array Slot), lv_has ls 4 [(0, .ref b), (1, .ref (gB G 0)), (2, .ref (gB G 66)), (3, .int x3)] → WP G h H → SP G s H locs → k18 x3 h = some 1 → W p l e room_1 s m #[Value.ref b] below meth c H locs 98 12102 (lw_Z below #[Value.ref b] s) (F0 m 18 ls [])) : ∀ (x3 : Int32) (h : PH) (H : Heap) (locs : List Loc) (ls : Array Slot), lv_has ls 4 [(0, .ref b), (1, .ref (gB G 0)), (2, .ref (gB G 66)), (3, .int x3)] → WP G h H → SP G s H locs → f_L_law_208 L xs k18 x3 h = some 1 → W p l e room_1 s m #[Value.ref b] below meth c H locs 98 12102 (lw_Z below #[Value.ref b] s) (F0 m 208 ls []) := by
  obtain ⟨hx, hb, hr, hml, hown, hts0, hX, hbl, hlocks, -⟩ := id C
  have hts : ∀ w ∈ GW, w.before #[Value.ref b] s = true := fun w hw => hts0 w (gw_tbl w hw)
  intro x3 h H locs ls hl hP hS hf
  rw [f_L_law_208] at hf
  refine lv_aload_n hx hb dL_law_208 rfl (lv_at hl 1 rfl) ?_
  refine lv_aload_n hx hb dL_law_209 rfl (lv_at hl 0 rfl) ?_
  refine lv_iload_n hx hb dL_law_210 rfl (lv_at hl 3 rfl) ?_
  refine lv_iconst (v := 1) hx hb dL_law_211 (by decide) ?_
  refine lv_iadd hx hb dL_law_212 ?_
  obtain ⟨v213, ev213, hf⟩ := bO_s hf
  refine r_sld hx hb hX hbl hbA hS ev213 dL_law_213 ?_
  refine lv_aload_n hx hb dL_law_214 rfl (lv_at hl 0 rfl) ?_
  refine lv_iload_n hx hb dL_law_215 rfl (lv_at hl 3 rfl) ?_
  refine lv_iconst (v := 2) hx hb dL_law_216 (by decide) ?_
  refine lv_iadd hx hb dL_law_217 ?_
  obtain ⟨v218, ev218, hf⟩ := bO_s hf
  refine r_sld hx hb hX hbl hbA hS ev218 dL_law_218 ?_
  refine lv_i2l hx hb dL_law_219 rfl ?_
  refine lv_bipush (v := 32) hx hb dL_law_220 (by decide) ?_
  refine lv_lshl hx hb dL_law_222 rfl ?_
  refine lv_aload_n hx hb dL_law_223 rfl (lv_at hl 0 rfl) ?_
  refine lv_iload_n hx hb dL_law_224 rfl (lv_at hl 3 rfl) ?_
  refine lv_iconst (v := 3) hx hb dL_law_225 (by decide) ?_
  refine lv_iadd hx hb dL_law_226 ?_
  obtain ⟨v227, ev227, hf⟩ := bO_s hf
  refine r_sld hx hb hX hbl hbA hS ev227 dL_law_227 ?_
  refine lv_i2l hx hb dL_law_228 rfl ?_
  refine lv_ldc2 (v := 4294967295) hx hb hown (hts _ wd1577) dL_law_229 ?_
  refine lv_land hx hb dL_law_232 ?_
  refine lv_lor hx hb dL_law_233 ?_
  obtain ⟨r234, h234, er234, hf⟩ := bP_s hf
  refine r_callI (va_runV (As := [.int v213, .long (((v218 : Int32).toInt64 <<< ((32 : Int32).toInt64 &&& 63)) ||| ((v227 : Int32).toInt64 &&& 4294967295))]) (rest := []) ⟨hx, hb, hml, hown, hts⟩ (k_X8_feed l hG er234) (cwV 2 hts (gV wd405 wd406 wd407 wd73 wd408) rfl rfl rfl (by decide +kernel) ⟨Nat.le_of_ble_eq_true rfl, Nat.le_of_ble_eq_true rfl⟩) (r_pv hK hP hS (ltX8 rfl) (ceX8 rfl) rfl) rfl rfl hl.1 rfl (lv_room (Nat.le_of_ble_eq_true rfl)) dL_law_234 ⟨Nat.le_of_ble_eq_true rfl, Nat.le_of_ble_eq_true rfl⟩) hS (fun H locs hP hS => ?_)
  refine lv_aload_n hx hb dL_law_237 rfl (lv_at hl 2 rfl) ?_
  refine lv_aload_n hx hb dL_law_238 rfl (lv_at hl 0 rfl) ?_
  refine lv_iload_n hx hb dL_law_239 rfl (lv_at hl 3 rfl) ?_
  refine lv_iconst (v := 1) hx hb dL_law_240 (by decide) ?_
  refine lv_iadd hx hb dL_law_241 ?_
  obtain ⟨v242, ev242, hf⟩ := bO_s hf
  refine r_sld hx hb hX hbl hbA hS ev242 dL_law_242 ?_
  refine lv_aload_n hx hb dL_law_243 rfl (lv_at hl 0 rfl) ?_
  refine lv_iload_n hx hb dL_law_244 rfl (lv_at hl 3 rfl) ?_
  refine lv_iconst (v := 2) hx hb dL_law_245 (by decide) ?_
  refine lv_iadd hx hb dL_law_246 ?_
  obtain ⟨v247, ev247, hf⟩ := bO_s hf
  refine r_sld hx hb hX hbl hbA hS ev247 dL_law_247 ?_
  refine lv_i2l hx hb dL_law_248 rfl ?_
  refine lv_bipush (v := 32) hx hb dL_law_249 (by decide) ?_
  refine lv_lshl hx hb dL_law_251 rfl ?_
  refine lv_aload_n hx hb dL_law_252 rfl (lv_at hl 0 rfl) ?_
  refine lv_iload_n hx hb dL_law_253 rfl (lv_at hl 3 rfl) ?_
  refine lv_iconst (v := 3) hx hb dL_law_254 (by decide) ?_
  refine lv_iadd hx hb dL_law_255 ?_
  obtain ⟨v256, ev256, hf⟩ := bO_s hf
  refine r_sld hx hb hX hbl hbA hS ev256 dL_law_256 ?_
  refine lv_i2l hx hb dL_law_257 rfl ?_
  refine lv_ldc2 (v := 4294967295) hx hb hown (hts _ wd1577) dL_law_258 ?_
  refine lv_land hx hb dL_law_261 ?_
  refine lv_lor hx hb dL_law_262 ?_
  obtain ⟨r263, h263, er263, hf⟩ := bP_s hf
  refine r_callI (va_runV (As := [.int v242, .long (((v247 : Int32).toInt64 <<< ((32 : Int32).toInt64 &&& 63)) ||| ((v256 : Int32).toInt64 &&& 4294967295))]) (rest := [.int r234]) ⟨hx, hb, hml, hown, hts⟩ (k_X9_feed l hG er263) (cwV 2 hts (gV wd1201 wd1202 wd1203 wd82 wd1204) rfl rfl rfl (by decide +kernel) ⟨Nat.le_of_ble_eq_true rfl, Nat.le_of_ble_eq_true rfl⟩) (r_pv hK hP hS (ltX9 rfl) (ceX9 rfl) rfl) rfl rfl hl.1 rfl (lv_room (Nat.le_of_ble_eq_true rfl)) dL_law_263 ⟨Nat.le_of_ble_eq_true rfl, Nat.le_of_ble_eq_true rfl⟩) hS (fun H locs hP hS => ?_)
  refine lv_icmp_eq (tgt := 1584) hx hb dL_law_266 (by decide) (fun c266 => ?_) (fun c266 => ?_)
  · replace hf := if_t c266 hf
    refine lv_iinc (v := (x3 + 5)) (lv' := [(3, .int (x3 + 5)), (0, .ref b), (1, .ref (gB G 0)), (2, .ref (gB G 66))]) hx hb dL_law_1584 hl (k := 3) rfl rfl (by decide) rfl (fun ls hl => ?_)
    refine lv_goto (tgt := 18) hx hb dL_law_1587 (by decide) ?_
    exact hk18 (x3 + 5) h263 _ _ _ (lv_sub hl [1, 2, 3, 0] rfl) hP hS hf
  · replace hf := if_f c266 hf
    refine lv_iconst (v := 0) hx hb dL_law_269 (by decide) ?_
    exact absurd (Option.some.inj hf) (by decide)
def f_L_law_271 (L : Nat) (xs : Nat → Int32) (k18 : Int32 → PH → Option Int32) (x3 : Int32) (h : PH) : Option Int32 := bP (f_X8_trunk h) (fun r272 h272 => bP (f_X9_trunk h272) (fun r276 h276 => if r272 = r276 then (k18 (x3 + 5) h276) else (some 0)))
set_option maxHeartbeats 4000000 in
set_option maxRecDepth 100000 in
theorem w_L_law_271 {l : Launch} {G : GC} (hG : GOK G) {p : Program} {e : Env} {s : State} {m : MethodId} {below : List Frame} {meth : Method} {c : Code} {b L : Nat} {xs : Nat → Int32} (C : lw_At p s m meth c b L xs) (hbA : ¬ gA G b) (hA0 : ∀ q, gA G q → s.heap.size ≤ q) (hK : KW G s) (k18 : Int32 → PH → Option Int32) (hk18 : ∀ (x3 : Int32) (h : PH) (H : Heap) (locs : List Loc) (ls : Array Slot), lv_has ls 4 [(0, .ref b), (1, .ref (gB G 0)), (2, .ref (gB G 66)), (3, .int x3)] → WP G h H → SP G s H locs → k18 x3 h = some 1 → W p l e room_1 s m #[Value.ref b] below meth c H locs 98 12102 (lw_Z below #[Value.ref b] s) (F0 m 18 ls [])) : ∀ (x3 : Int32) (h : PH) (H : Heap) (locs : List Loc) (ls : Array Slot), lv_has ls 4 [(0, .ref b), (1, .ref (gB G 0)), (2, .ref (gB G 66)), (3, .int x3)] → WP G h H → SP G s H locs → f_L_law_271 L xs k18 x3 h = some 1 → W p l e room_1 s m #[Value.ref b] below meth c H locs 98 12102 (lw_Z below #[Value.ref b] s) (F0 m 271 ls []) := by
  obtain ⟨hx, hb, hr, hml, hown, hts0, hX, hbl, hlocks, -⟩ := id C
  have hts : ∀ w ∈ GW, w.before #[Value.ref b] s = true := fun w hw => hts0 w (gw_tbl w hw)
  intro x3 h H locs ls hl hP hS hf
  rw [f_L_law_271] at hf
  refine lv_aload_n hx hb dL_law_271 rfl (lv_at hl 1 rfl) ?_
  obtain ⟨r272, h272, er272, hf⟩ := bP_s hf
  refine r_callI (va_runV (As := []) (rest := []) ⟨hx, hb, hml, hown, hts⟩ (k_X8_trunk l hG er272) (cwV 0 hts (gV wd413 wd414 wd415 wd73 wd416) rfl rfl rfl (by decide +kernel) ⟨Nat.le_of_ble_eq_true rfl, Nat.le_of_ble_eq_true rfl⟩) (r_pv hK hP hS (ltX8 rfl) (ceX8 rfl) rfl) rfl rfl hl.1 rfl (lv_room (Nat.le_of_ble_eq_true rfl)) dL_law_272 ⟨Nat.le_of_ble_eq_true rfl, Nat.le_of_ble_eq_true rfl⟩) hS (fun H locs hP hS => ?_)
  refine lv_aload_n hx hb dL_law_275 rfl (lv_at hl 2 rfl) ?_
  obtain ⟨r276, h276, er276, hf⟩ := bP_s hf
  refine r_callI (va_runV (As := []) (rest := [.int r272]) ⟨hx, hb, hml, hown, hts⟩ (k_X9_trunk l hG er276) (cwV 0 hts (gV wd1210 wd1211 wd1212 wd82 wd1213) rfl rfl rfl (by decide +kernel) ⟨Nat.le_of_ble_eq_true rfl, Nat.le_of_ble_eq_true rfl⟩) (r_pv hK hP hS (ltX9 rfl) (ceX9 rfl) rfl) rfl rfl hl.1 rfl (lv_room (Nat.le_of_ble_eq_true rfl)) dL_law_276 ⟨Nat.le_of_ble_eq_true rfl, Nat.le_of_ble_eq_true rfl⟩) hS (fun H locs hP hS => ?_)
  refine lv_icmp_eq (tgt := 1584) hx hb dL_law_279 (by decide) (fun c279 => ?_) (fun c279 => ?_)
  · replace hf := if_t c279 hf
    refine lv_iinc (v := (x3 + 5)) (lv' := [(3, .int (x3 + 5)), (0, .ref b), (1, .ref (gB G 0)), (2, .ref (gB G 66))]) hx hb dL_law_1584 hl (k := 3) rfl rfl (by decide) rfl (fun ls hl => ?_)
    refine lv_goto (tgt := 18) hx hb dL_law_1587 (by decide) ?_
    exact hk18 (x3 + 5) h276 _ _ _ (lv_sub hl [1, 2, 3, 0] rfl) hP hS hf
  · replace hf := if_f c279 hf
    refine lv_iconst (v := 0) hx hb dL_law_282 (by decide) ?_
    exact absurd (Option.some.inj hf) (by decide)
def f_L_law_284 (L : Nat) (xs : Nat → Int32) (k18 : Int32 → PH → Option Int32) (x3 : Int32) (h : PH) : Option Int32 := bP (f_X8_policy h) (fun r285 h285 => bP (f_X9_policy h285) (fun r289 h289 => if r285 = r289 then (k18 (x3 + 5) h289) else (some 0)))
set_option maxHeartbeats 4000000 in
set_option maxRecDepth 100000 in
theorem w_L_law_284 {l : Launch} {G : GC} (hG : GOK G) {p : Program} {e : Env} {s : State} {m : MethodId} {below : List Frame} {meth : Method} {c : Code} {b L : Nat} {xs : Nat → Int32} (C : lw_At p s m meth c b L xs) (hbA : ¬ gA G b) (hA0 : ∀ q, gA G q → s.heap.size ≤ q) (hK : KW G s) (k18 : Int32 → PH → Option Int32) (hk18 : ∀ (x3 : Int32) (h : PH) (H : Heap) (locs : List Loc) (ls : Array Slot), lv_has ls 4 [(0, .ref b), (1, .ref (gB G 0)), (2, .ref (gB G 66)), (3, .int x3)] → WP G h H → SP G s H locs → k18 x3 h = some 1 → W p l e room_1 s m #[Value.ref b] below meth c H locs 98 12102 (lw_Z below #[Value.ref b] s) (F0 m 18 ls [])) : ∀ (x3 : Int32) (h : PH) (H : Heap) (locs : List Loc) (ls : Array Slot), lv_has ls 4 [(0, .ref b), (1, .ref (gB G 0)), (2, .ref (gB G 66)), (3, .int x3)] → WP G h H → SP G s H locs → f_L_law_284 L xs k18 x3 h = some 1 → W p l e room_1 s m #[Value.ref b] below meth c H locs 98 12102 (lw_Z below #[Value.ref b] s) (F0 m 284 ls []) := by
  obtain ⟨hx, hb, hr, hml, hown, hts0, hX, hbl, hlocks, -⟩ := id C
  have hts : ∀ w ∈ GW, w.before #[Value.ref b] s = true := fun w hw => hts0 w (gw_tbl w hw)
  intro x3 h H locs ls hl hP hS hf
  rw [f_L_law_284] at hf
  refine lv_aload_n hx hb dL_law_284 rfl (lv_at hl 1 rfl) ?_
  obtain ⟨r285, h285, er285, hf⟩ := bP_s hf
  refine r_callI (va_runV (As := []) (rest := []) ⟨hx, hb, hml, hown, hts⟩ (k_X8_policy l hG er285) (cwV 0 hts (gV wd576 wd577 wd578 wd73 wd579) rfl rfl rfl (by decide +kernel) ⟨Nat.le_of_ble_eq_true rfl, Nat.le_of_ble_eq_true rfl⟩) (r_pv hK hP hS (ltX8 rfl) (ceX8 rfl) rfl) rfl rfl hl.1 rfl (lv_room (Nat.le_of_ble_eq_true rfl)) dL_law_285 ⟨Nat.le_of_ble_eq_true rfl, Nat.le_of_ble_eq_true rfl⟩) hS (fun H locs hP hS => ?_)
  refine lv_aload_n hx hb dL_law_288 rfl (lv_at hl 2 rfl) ?_
  obtain ⟨r289, h289, er289, hf⟩ := bP_s hf
  refine r_callI (va_runV (As := []) (rest := [.int r285]) ⟨hx, hb, hml, hown, hts⟩ (k_X9_policy l hG er289) (cwV 0 hts (gV wd1549 wd1550 wd1551 wd82 wd1552) rfl rfl rfl (by decide +kernel) ⟨Nat.le_of_ble_eq_true rfl, Nat.le_of_ble_eq_true rfl⟩) (r_pv hK hP hS (ltX9 rfl) (ceX9 rfl) rfl) rfl rfl hl.1 rfl (lv_room (Nat.le_of_ble_eq_true rfl)) dL_law_289 ⟨Nat.le_of_ble_eq_true rfl, Nat.le_of_ble_eq_true rfl⟩) hS (fun H locs hP hS => ?_)
  refine lv_icmp_eq (tgt := 1584) hx hb dL_law_292 (by decide) (fun c292 => ?_) (fun c292 => ?_)
  · replace hf := if_t c292 hf
    refine lv_iinc (v := (x3 + 5)) (lv' := [(3, .int (x3 + 5)), (0, .ref b), (1, .ref (gB G 0)), (2, .ref (gB G 66))]) hx hb dL_law_1584 hl (k := 3) rfl rfl (by decide) rfl (fun ls hl => ?_)
    refine lv_goto (tgt := 18) hx hb dL_law_1587 (by decide) ?_
    exact hk18 (x3 + 5) h289 _ _ _ (lv_sub hl [1, 2, 3, 0] rfl) hP hS hf
  · replace hf := if_f c292 hf
    refine lv_iconst (v := 0) hx hb dL_law_295 (by decide) ?_
    exact absurd (Option.some.inj hf) (by decide)
def f_L_law_297 (L : Nat) (xs : Nat → Int32) (k18 : Int32 → PH → Option Int32) (x3 : Int32) (h : PH) : Option Int32 := bP (f_X8_breach h) (fun r298 h298 => bP (f_X9_breach h298) (fun r302 h302 => if r298 = r302 then (k18 (x3 + 5) h302) else (some 0)))
set_option maxHeartbeats 4000000 in
set_option maxRecDepth 100000 in
theorem w_L_law_297 {l : Launch} {G : GC} (hG : GOK G) {p : Program} {e : Env} {s : State} {m : MethodId} {below : List Frame} {meth : Method} {c : Code} {b L : Nat} {xs : Nat → Int32} (C : lw_At p s m meth c b L xs) (hbA : ¬ gA G b) (hA0 : ∀ q, gA G q → s.heap.size ≤ q) (hK : KW G s) (k18 : Int32 → PH → Option Int32) (hk18 : ∀ (x3 : Int32) (h : PH) (H : Heap) (locs : List Loc) (ls : Array Slot), lv_has ls 4 [(0, .ref b), (1, .ref (gB G 0)), (2, .ref (gB G 66)), (3, .int x3)] → WP G h H → SP G s H locs → k18 x3 h = some 1 → W p l e room_1 s m #[Value.ref b] below meth c H locs 98 12102 (lw_Z below #[Value.ref b] s) (F0 m 18 ls [])) : ∀ (x3 : Int32) (h : PH) (H : Heap) (locs : List Loc) (ls : Array Slot), lv_has ls 4 [(0, .ref b), (1, .ref (gB G 0)), (2, .ref (gB G 66)), (3, .int x3)] → WP G h H → SP G s H locs → f_L_law_297 L xs k18 x3 h = some 1 → W p l e room_1 s m #[Value.ref b] below meth c H locs 98 12102 (lw_Z below #[Value.ref b] s) (F0 m 297 ls []) := by
  obtain ⟨hx, hb, hr, hml, hown, hts0, hX, hbl, hlocks, -⟩ := id C
  have hts : ∀ w ∈ GW, w.before #[Value.ref b] s = true := fun w hw => hts0 w (gw_tbl w hw)
  intro x3 h H locs ls hl hP hS hf
  rw [f_L_law_297] at hf
  refine lv_aload_n hx hb dL_law_297 rfl (lv_at hl 1 rfl) ?_
  obtain ⟨r298, h298, er298, hf⟩ := bP_s hf
  refine r_callI (va_runV (As := []) (rest := []) ⟨hx, hb, hml, hown, hts⟩ (k_X8_breach l hG er298) (cwV 0 hts (gV wd621 wd622 wd623 wd73 wd624) rfl rfl rfl (by decide +kernel) ⟨Nat.le_of_ble_eq_true rfl, Nat.le_of_ble_eq_true rfl⟩) (r_pv hK hP hS (ltX8 rfl) (ceX8 rfl) rfl) rfl rfl hl.1 rfl (lv_room (Nat.le_of_ble_eq_true rfl)) dL_law_298 ⟨Nat.le_of_ble_eq_true rfl, Nat.le_of_ble_eq_true rfl⟩) hS (fun H locs hP hS => ?_)
  refine lv_aload_n hx hb dL_law_301 rfl (lv_at hl 2 rfl) ?_
  obtain ⟨r302, h302, er302, hf⟩ := bP_s hf
  refine r_callI (va_runV (As := []) (rest := [.int r298]) ⟨hx, hb, hml, hown, hts⟩ (k_X9_breach l hG er302) (cwV 0 hts (gV wd1291 wd1292 wd1293 wd82 wd1294) rfl rfl rfl (by decide +kernel) ⟨Nat.le_of_ble_eq_true rfl, Nat.le_of_ble_eq_true rfl⟩) (r_pv hK hP hS (ltX9 rfl) (ceX9 rfl) rfl) rfl rfl hl.1 rfl (lv_room (Nat.le_of_ble_eq_true rfl)) dL_law_302 ⟨Nat.le_of_ble_eq_true rfl, Nat.le_of_ble_eq_true rfl⟩) hS (fun H locs hP hS => ?_)
  refine lv_icmp_eq (tgt := 1584) hx hb dL_law_305 (by decide) (fun c305 => ?_) (fun c305 => ?_)
  · replace hf := if_t c305 hf
    refine lv_iinc (v := (x3 + 5)) (lv' := [(3, .int (x3 + 5)), (0, .ref b), (1, .ref (gB G 0)), (2, .ref (gB G 66))]) hx hb dL_law_1584 hl (k := 3) rfl rfl (by decide) rfl (fun ls hl => ?_)
    refine lv_goto (tgt := 18) hx hb dL_law_1587 (by decide) ?_
    exact hk18 (x3 + 5) h302 _ _ _ (lv_sub hl [1, 2, 3, 0] rfl) hP hS hf
  · replace hf := if_f c305 hf
    refine lv_iconst (v := 0) hx hb dL_law_308 (by decide) ?_
    exact absurd (Option.some.inj hf) (by decide)
def f_L_law_310 (L : Nat) (xs : Nat → Int32) (k18 : Int32 → PH → Option Int32) (x3 : Int32) (h : PH) : Option Int32 := bO (sg L xs (x3 + 1)) (fun v315 => bO (sg L xs (x3 + 2)) (fun v320 => bP (f_X8_change v315 v320 h) (fun r321 h321 => bO (sg L xs (x3 + 1)) (fun v329 => bO (sg L xs (x3 + 2)) (fun v334 => bP (f_X9_change v329 v334 h321) (fun r335 h335 => if r321 = r335 then (k18 (x3 + 5) h335) else (some 0)))))))
set_option maxHeartbeats 4000000 in
set_option maxRecDepth 100000 in
theorem w_L_law_310 {l : Launch} {G : GC} (hG : GOK G) {p : Program} {e : Env} {s : State} {m : MethodId} {below : List Frame} {meth : Method} {c : Code} {b L : Nat} {xs : Nat → Int32} (C : lw_At p s m meth c b L xs) (hbA : ¬ gA G b) (hA0 : ∀ q, gA G q → s.heap.size ≤ q) (hK : KW G s) (k18 : Int32 → PH → Option Int32) (hk18 : ∀ (x3 : Int32) (h : PH) (H : Heap) (locs : List Loc) (ls : Array Slot), lv_has ls 4 [(0, .ref b), (1, .ref (gB G 0)), (2, .ref (gB G 66)), (3, .int x3)] → WP G h H → SP G s H locs → k18 x3 h = some 1 → W p l e room_1 s m #[Value.ref b] below meth c H locs 98 12102 (lw_Z below #[Value.ref b] s) (F0 m 18 ls [])) : ∀ (x3 : Int32) (h : PH) (H : Heap) (locs : List Loc) (ls : Array Slot), lv_has ls 4 [(0, .ref b), (1, .ref (gB G 0)), (2, .ref (gB G 66)), (3, .int x3)] → WP G h H → SP G s H locs → f_L_law_310 L xs k18 x3 h = some 1 → W p l e room_1 s m #[Value.ref b] below meth c H locs 98 12102 (lw_Z below #[Value.ref b] s) (F0 m 310 ls []) := by
  obtain ⟨hx, hb, hr, hml, hown, hts0, hX, hbl, hlocks, -⟩ := id C
  have hts : ∀ w ∈ GW, w.before #[Value.ref b] s = true := fun w hw => hts0 w (gw_tbl w hw)
  intro x3 h H locs ls hl hP hS hf
  rw [f_L_law_310] at hf
  refine lv_aload_n hx hb dL_law_310 rfl (lv_at hl 1 rfl) ?_
  refine lv_aload_n hx hb dL_law_311 rfl (lv_at hl 0 rfl) ?_
  refine lv_iload_n hx hb dL_law_312 rfl (lv_at hl 3 rfl) ?_
  refine lv_iconst (v := 1) hx hb dL_law_313 (by decide) ?_
  refine lv_iadd hx hb dL_law_314 ?_
  obtain ⟨v315, ev315, hf⟩ := bO_s hf
  refine r_sld hx hb hX hbl hbA hS ev315 dL_law_315 ?_
  refine lv_aload_n hx hb dL_law_316 rfl (lv_at hl 0 rfl) ?_
  refine lv_iload_n hx hb dL_law_317 rfl (lv_at hl 3 rfl) ?_
  refine lv_iconst (v := 2) hx hb dL_law_318 (by decide) ?_
  refine lv_iadd hx hb dL_law_319 ?_
  obtain ⟨v320, ev320, hf⟩ := bO_s hf
  refine r_sld hx hb hX hbl hbA hS ev320 dL_law_320 ?_
  obtain ⟨r321, h321, er321, hf⟩ := bP_s hf
  refine r_callI (va_runV (As := [.int v315, .int v320]) (rest := []) ⟨hx, hb, hml, hown, hts⟩ (k_X8_change l hG er321) (cwV 2 hts (gV wd625 wd626 wd627 wd73 wd628) rfl rfl rfl (by decide +kernel) ⟨Nat.le_of_ble_eq_true rfl, Nat.le_of_ble_eq_true rfl⟩) (r_pv hK hP hS (ltX8 rfl) (ceX8 rfl) rfl) rfl rfl hl.1 rfl (lv_room (Nat.le_of_ble_eq_true rfl)) dL_law_321 ⟨Nat.le_of_ble_eq_true rfl, Nat.le_of_ble_eq_true rfl⟩) hS (fun H locs hP hS => ?_)
  refine lv_aload_n hx hb dL_law_324 rfl (lv_at hl 2 rfl) ?_
  refine lv_aload_n hx hb dL_law_325 rfl (lv_at hl 0 rfl) ?_
  refine lv_iload_n hx hb dL_law_326 rfl (lv_at hl 3 rfl) ?_
  refine lv_iconst (v := 1) hx hb dL_law_327 (by decide) ?_
  refine lv_iadd hx hb dL_law_328 ?_
  obtain ⟨v329, ev329, hf⟩ := bO_s hf
  refine r_sld hx hb hX hbl hbA hS ev329 dL_law_329 ?_
  refine lv_aload_n hx hb dL_law_330 rfl (lv_at hl 0 rfl) ?_
  refine lv_iload_n hx hb dL_law_331 rfl (lv_at hl 3 rfl) ?_
  refine lv_iconst (v := 2) hx hb dL_law_332 (by decide) ?_
  refine lv_iadd hx hb dL_law_333 ?_
  obtain ⟨v334, ev334, hf⟩ := bO_s hf
  refine r_sld hx hb hX hbl hbA hS ev334 dL_law_334 ?_
  obtain ⟨r335, h335, er335, hf⟩ := bP_s hf
  refine r_callI (va_runV (As := [.int v329, .int v334]) (rest := [.int r321]) ⟨hx, hb, hml, hown, hts⟩ (k_X9_change l hG er335) (cwV 2 hts (gV wd1295 wd1296 wd1297 wd82 wd1298) rfl rfl rfl (by decide +kernel) ⟨Nat.le_of_ble_eq_true rfl, Nat.le_of_ble_eq_true rfl⟩) (r_pv hK hP hS (ltX9 rfl) (ceX9 rfl) rfl) rfl rfl hl.1 rfl (lv_room (Nat.le_of_ble_eq_true rfl)) dL_law_335 ⟨Nat.le_of_ble_eq_true rfl, Nat.le_of_ble_eq_true rfl⟩) hS (fun H locs hP hS => ?_)
  refine lv_icmp_eq (tgt := 1584) hx hb dL_law_338 (by decide) (fun c338 => ?_) (fun c338 => ?_)
  · replace hf := if_t c338 hf
    refine lv_iinc (v := (x3 + 5)) (lv' := [(3, .int (x3 + 5)), (0, .ref b), (1, .ref (gB G 0)), (2, .ref (gB G 66))]) hx hb dL_law_1584 hl (k := 3) rfl rfl (by decide) rfl (fun ls hl => ?_)
    refine lv_goto (tgt := 18) hx hb dL_law_1587 (by decide) ?_
    exact hk18 (x3 + 5) h335 _ _ _ (lv_sub hl [1, 2, 3, 0] rfl) hP hS hf
  · replace hf := if_f c338 hf
    refine lv_iconst (v := 0) hx hb dL_law_341 (by decide) ?_
    exact absurd (Option.some.inj hf) (by decide)
def f_L_law_343 (L : Nat) (xs : Nat → Int32) (k18 : Int32 → PH → Option Int32) (x3 : Int32) (h : PH) : Option Int32 := bO (sg L xs (x3 + 1)) (fun v348 => bO (sg L xs (x3 + 2)) (fun v353 => bP (f_X8_sets v348 v353 h) (fun r354 h354 => bO (sg L xs (x3 + 1)) (fun v362 => bO (sg L xs (x3 + 2)) (fun v367 => bP (f_X9_sets v362 v367 h354) (fun r368 h368 => if r354 = r368 then (k18 (x3 + 5) h368) else (some 0)))))))
set_option maxHeartbeats 4000000 in
set_option maxRecDepth 100000 in
theorem w_L_law_343 {l : Launch} {G : GC} (hG : GOK G) {p : Program} {e : Env} {s : State} {m : MethodId} {below : List Frame} {meth : Method} {c : Code} {b L : Nat} {xs : Nat → Int32} (C : lw_At p s m meth c b L xs) (hbA : ¬ gA G b) (hA0 : ∀ q, gA G q → s.heap.size ≤ q) (hK : KW G s) (k18 : Int32 → PH → Option Int32) (hk18 : ∀ (x3 : Int32) (h : PH) (H : Heap) (locs : List Loc) (ls : Array Slot), lv_has ls 4 [(0, .ref b), (1, .ref (gB G 0)), (2, .ref (gB G 66)), (3, .int x3)] → WP G h H → SP G s H locs → k18 x3 h = some 1 → W p l e room_1 s m #[Value.ref b] below meth c H locs 98 12102 (lw_Z below #[Value.ref b] s) (F0 m 18 ls [])) : ∀ (x3 : Int32) (h : PH) (H : Heap) (locs : List Loc) (ls : Array Slot), lv_has ls 4 [(0, .ref b), (1, .ref (gB G 0)), (2, .ref (gB G 66)), (3, .int x3)] → WP G h H → SP G s H locs → f_L_law_343 L xs k18 x3 h = some 1 → W p l e room_1 s m #[Value.ref b] below meth c H locs 98 12102 (lw_Z below #[Value.ref b] s) (F0 m 343 ls []) := by
  obtain ⟨hx, hb, hr, hml, hown, hts0, hX, hbl, hlocks, -⟩ := id C
  have hts : ∀ w ∈ GW, w.before #[Value.ref b] s = true := fun w hw => hts0 w (gw_tbl w hw)
  intro x3 h H locs ls hl hP hS hf
  rw [f_L_law_343] at hf
  refine lv_aload_n hx hb dL_law_343 rfl (lv_at hl 1 rfl) ?_
  refine lv_aload_n hx hb dL_law_344 rfl (lv_at hl 0 rfl) ?_
  refine lv_iload_n hx hb dL_law_345 rfl (lv_at hl 3 rfl) ?_
  refine lv_iconst (v := 1) hx hb dL_law_346 (by decide) ?_
  refine lv_iadd hx hb dL_law_347 ?_
  obtain ⟨v348, ev348, hf⟩ := bO_s hf
  refine r_sld hx hb hX hbl hbA hS ev348 dL_law_348 ?_
  refine lv_aload_n hx hb dL_law_349 rfl (lv_at hl 0 rfl) ?_
  refine lv_iload_n hx hb dL_law_350 rfl (lv_at hl 3 rfl) ?_
  refine lv_iconst (v := 2) hx hb dL_law_351 (by decide) ?_
  refine lv_iadd hx hb dL_law_352 ?_
  obtain ⟨v353, ev353, hf⟩ := bO_s hf
  refine r_sld hx hb hX hbl hbA hS ev353 dL_law_353 ?_
  obtain ⟨r354, h354, er354, hf⟩ := bP_s hf
  refine r_callI (va_runV (As := [.int v348, .int v353]) (rest := []) ⟨hx, hb, hml, hown, hts⟩ (k_X8_sets l hG er354) (cwV 2 hts (gV wd645 wd646 wd647 wd73 wd648) rfl rfl rfl (by decide +kernel) ⟨Nat.le_of_ble_eq_true rfl, Nat.le_of_ble_eq_true rfl⟩) (r_pv hK hP hS (ltX8 rfl) (ceX8 rfl) rfl) rfl rfl hl.1 rfl (lv_room (Nat.le_of_ble_eq_true rfl)) dL_law_354 ⟨Nat.le_of_ble_eq_true rfl, Nat.le_of_ble_eq_true rfl⟩) hS (fun H locs hP hS => ?_)
  refine lv_aload_n hx hb dL_law_357 rfl (lv_at hl 2 rfl) ?_
  refine lv_aload_n hx hb dL_law_358 rfl (lv_at hl 0 rfl) ?_
  refine lv_iload_n hx hb dL_law_359 rfl (lv_at hl 3 rfl) ?_
  refine lv_iconst (v := 1) hx hb dL_law_360 (by decide) ?_
  refine lv_iadd hx hb dL_law_361 ?_
  obtain ⟨v362, ev362, hf⟩ := bO_s hf
  refine r_sld hx hb hX hbl hbA hS ev362 dL_law_362 ?_
  refine lv_aload_n hx hb dL_law_363 rfl (lv_at hl 0 rfl) ?_
  refine lv_iload_n hx hb dL_law_364 rfl (lv_at hl 3 rfl) ?_
  refine lv_iconst (v := 2) hx hb dL_law_365 (by decide) ?_
  refine lv_iadd hx hb dL_law_366 ?_
  obtain ⟨v367, ev367, hf⟩ := bO_s hf
  refine r_sld hx hb hX hbl hbA hS ev367 dL_law_367 ?_
  obtain ⟨r368, h368, er368, hf⟩ := bP_s hf
  refine r_callI (va_runV (As := [.int v362, .int v367]) (rest := [.int r354]) ⟨hx, hb, hml, hown, hts⟩ (k_X9_sets l hG er368) (cwV 2 hts (gV wd1311 wd1312 wd1313 wd82 wd1314) rfl rfl rfl (by decide +kernel) ⟨Nat.le_of_ble_eq_true rfl, Nat.le_of_ble_eq_true rfl⟩) (r_pv hK hP hS (ltX9 rfl) (ceX9 rfl) rfl) rfl rfl hl.1 rfl (lv_room (Nat.le_of_ble_eq_true rfl)) dL_law_368 ⟨Nat.le_of_ble_eq_true rfl, Nat.le_of_ble_eq_true rfl⟩) hS (fun H locs hP hS => ?_)
  refine lv_icmp_eq (tgt := 1584) hx hb dL_law_371 (by decide) (fun c371 => ?_) (fun c371 => ?_)
  · replace hf := if_t c371 hf
    refine lv_iinc (v := (x3 + 5)) (lv' := [(3, .int (x3 + 5)), (0, .ref b), (1, .ref (gB G 0)), (2, .ref (gB G 66))]) hx hb dL_law_1584 hl (k := 3) rfl rfl (by decide) rfl (fun ls hl => ?_)
    refine lv_goto (tgt := 18) hx hb dL_law_1587 (by decide) ?_
    exact hk18 (x3 + 5) h368 _ _ _ (lv_sub hl [1, 2, 3, 0] rfl) hP hS hf
  · replace hf := if_f c371 hf
    refine lv_iconst (v := 0) hx hb dL_law_374 (by decide) ?_
    exact absurd (Option.some.inj hf) (by decide)
def f_L_law_376 (L : Nat) (xs : Nat → Int32) (k18 : Int32 → PH → Option Int32) (x3 : Int32) (h : PH) : Option Int32 := bO (sg L xs (x3 + 1)) (fun v381 => bO (sg L xs (x3 + 2)) (fun v386 => bP (f_X8_ahead v381 v386 h) (fun r387 h387 => bO (sg L xs (x3 + 1)) (fun v395 => bO (sg L xs (x3 + 2)) (fun v400 => bP (f_X9_ahead v395 v400 h387) (fun r401 h401 => if r387 = r401 then (k18 (x3 + 5) h401) else (some 0)))))))
set_option maxHeartbeats 4000000 in
set_option maxRecDepth 100000 in
theorem w_L_law_376 {l : Launch} {G : GC} (hG : GOK G) {p : Program} {e : Env} {s : State} {m : MethodId} {below : List Frame} {meth : Method} {c : Code} {b L : Nat} {xs : Nat → Int32} (C : lw_At p s m meth c b L xs) (hbA : ¬ gA G b) (hA0 : ∀ q, gA G q → s.heap.size ≤ q) (hK : KW G s) (k18 : Int32 → PH → Option Int32) (hk18 : ∀ (x3 : Int32) (h : PH) (H : Heap) (locs : List Loc) (ls : Array Slot), lv_has ls 4 [(0, .ref b), (1, .ref (gB G 0)), (2, .ref (gB G 66)), (3, .int x3)] → WP G h H → SP G s H locs → k18 x3 h = some 1 → W p l e room_1 s m #[Value.ref b] below meth c H locs 98 12102 (lw_Z below #[Value.ref b] s) (F0 m 18 ls [])) : ∀ (x3 : Int32) (h : PH) (H : Heap) (locs : List Loc) (ls : Array Slot), lv_has ls 4 [(0, .ref b), (1, .ref (gB G 0)), (2, .ref (gB G 66)), (3, .int x3)] → WP G h H → SP G s H locs → f_L_law_376 L xs k18 x3 h = some 1 → W p l e room_1 s m #[Value.ref b] below meth c H locs 98 12102 (lw_Z below #[Value.ref b] s) (F0 m 376 ls []) := by
  obtain ⟨hx, hb, hr, hml, hown, hts0, hX, hbl, hlocks, -⟩ := id C
  have hts : ∀ w ∈ GW, w.before #[Value.ref b] s = true := fun w hw => hts0 w (gw_tbl w hw)
  intro x3 h H locs ls hl hP hS hf
  rw [f_L_law_376] at hf
  refine lv_aload_n hx hb dL_law_376 rfl (lv_at hl 1 rfl) ?_
  refine lv_aload_n hx hb dL_law_377 rfl (lv_at hl 0 rfl) ?_
  refine lv_iload_n hx hb dL_law_378 rfl (lv_at hl 3 rfl) ?_
  refine lv_iconst (v := 1) hx hb dL_law_379 (by decide) ?_
  refine lv_iadd hx hb dL_law_380 ?_
  obtain ⟨v381, ev381, hf⟩ := bO_s hf
  refine r_sld hx hb hX hbl hbA hS ev381 dL_law_381 ?_
  refine lv_aload_n hx hb dL_law_382 rfl (lv_at hl 0 rfl) ?_
  refine lv_iload_n hx hb dL_law_383 rfl (lv_at hl 3 rfl) ?_
  refine lv_iconst (v := 2) hx hb dL_law_384 (by decide) ?_
  refine lv_iadd hx hb dL_law_385 ?_
  obtain ⟨v386, ev386, hf⟩ := bO_s hf
  refine r_sld hx hb hX hbl hbA hS ev386 dL_law_386 ?_
  obtain ⟨r387, h387, er387, hf⟩ := bP_s hf
  refine r_callI (va_runV (As := [.int v381, .int v386]) (rest := []) ⟨hx, hb, hml, hown, hts⟩ (k_X8_ahead l hG er387) (cwV 2 hts (gV wd652 wd653 wd654 wd73 wd655) rfl rfl rfl (by decide +kernel) ⟨Nat.le_of_ble_eq_true rfl, Nat.le_of_ble_eq_true rfl⟩) (r_pv hK hP hS (ltX8 rfl) (ceX8 rfl) rfl) rfl rfl hl.1 rfl (lv_room (Nat.le_of_ble_eq_true rfl)) dL_law_387 ⟨Nat.le_of_ble_eq_true rfl, Nat.le_of_ble_eq_true rfl⟩) hS (fun H locs hP hS => ?_)
  refine lv_aload_n hx hb dL_law_390 rfl (lv_at hl 2 rfl) ?_
  refine lv_aload_n hx hb dL_law_391 rfl (lv_at hl 0 rfl) ?_
  refine lv_iload_n hx hb dL_law_392 rfl (lv_at hl 3 rfl) ?_
  refine lv_iconst (v := 1) hx hb dL_law_393 (by decide) ?_
  refine lv_iadd hx hb dL_law_394 ?_
  obtain ⟨v395, ev395, hf⟩ := bO_s hf
  refine r_sld hx hb hX hbl hbA hS ev395 dL_law_395 ?_
  refine lv_aload_n hx hb dL_law_396 rfl (lv_at hl 0 rfl) ?_
  refine lv_iload_n hx hb dL_law_397 rfl (lv_at hl 3 rfl) ?_
  refine lv_iconst (v := 2) hx hb dL_law_398 (by decide) ?_
  refine lv_iadd hx hb dL_law_399 ?_
  obtain ⟨v400, ev400, hf⟩ := bO_s hf
  refine r_sld hx hb hX hbl hbA hS ev400 dL_law_400 ?_
  obtain ⟨r401, h401, er401, hf⟩ := bP_s hf
  refine r_callI (va_runV (As := [.int v395, .int v400]) (rest := [.int r387]) ⟨hx, hb, hml, hown, hts⟩ (k_X9_ahead l hG er401) (cwV 2 hts (gV wd1319 wd1320 wd1321 wd82 wd1322) rfl rfl rfl (by decide +kernel) ⟨Nat.le_of_ble_eq_true rfl, Nat.le_of_ble_eq_true rfl⟩) (r_pv hK hP hS (ltX9 rfl) (ceX9 rfl) rfl) rfl rfl hl.1 rfl (lv_room (Nat.le_of_ble_eq_true rfl)) dL_law_401 ⟨Nat.le_of_ble_eq_true rfl, Nat.le_of_ble_eq_true rfl⟩) hS (fun H locs hP hS => ?_)
  refine lv_icmp_eq (tgt := 1584) hx hb dL_law_404 (by decide) (fun c404 => ?_) (fun c404 => ?_)
  · replace hf := if_t c404 hf
    refine lv_iinc (v := (x3 + 5)) (lv' := [(3, .int (x3 + 5)), (0, .ref b), (1, .ref (gB G 0)), (2, .ref (gB G 66))]) hx hb dL_law_1584 hl (k := 3) rfl rfl (by decide) rfl (fun ls hl => ?_)
    refine lv_goto (tgt := 18) hx hb dL_law_1587 (by decide) ?_
    exact hk18 (x3 + 5) h401 _ _ _ (lv_sub hl [1, 2, 3, 0] rfl) hP hS hf
  · replace hf := if_f c404 hf
    refine lv_iconst (v := 0) hx hb dL_law_407 (by decide) ?_
    exact absurd (Option.some.inj hf) (by decide)
def f_L_law_409 (L : Nat) (xs : Nat → Int32) (k18 : Int32 → PH → Option Int32) (x3 : Int32) (h : PH) : Option Int32 := bO (sg L xs (x3 + 1)) (fun v414 => bO (sg L xs (x3 + 2)) (fun v419 => bP (f_X8_fault v414 v419 h) (fun r420 h420 => bO (sg L xs (x3 + 1)) (fun v428 => bO (sg L xs (x3 + 2)) (fun v433 => bP (f_X9_fault v428 v433 h420) (fun r434 h434 => if r420 = r434 then (k18 (x3 + 5) h434) else (some 0)))))))
set_option maxHeartbeats 4000000 in
set_option maxRecDepth 100000 in
theorem w_L_law_409 {l : Launch} {G : GC} (hG : GOK G) {p : Program} {e : Env} {s : State} {m : MethodId} {below : List Frame} {meth : Method} {c : Code} {b L : Nat} {xs : Nat → Int32} (C : lw_At p s m meth c b L xs) (hbA : ¬ gA G b) (hA0 : ∀ q, gA G q → s.heap.size ≤ q) (hK : KW G s) (k18 : Int32 → PH → Option Int32) (hk18 : ∀ (x3 : Int32) (h : PH) (H : Heap) (locs : List Loc) (ls : Array Slot), lv_has ls 4 [(0, .ref b), (1, .ref (gB G 0)), (2, .ref (gB G 66)), (3, .int x3)] → WP G h H → SP G s H locs → k18 x3 h = some 1 → W p l e room_1 s m #[Value.ref b] below meth c H locs 98 12102 (lw_Z below #[Value.ref b] s) (F0 m 18 ls [])) : ∀ (x3 : Int32) (h : PH) (H : Heap) (locs : List Loc) (ls : Array Slot), lv_has ls 4 [(0, .ref b), (1, .ref (gB G 0)), (2, .ref (gB G 66)), (3, .int x3)] → WP G h H → SP G s H locs → f_L_law_409 L xs k18 x3 h = some 1 → W p l e room_1 s m #[Value.ref b] below meth c H locs 98 12102 (lw_Z below #[Value.ref b] s) (F0 m 409 ls []) := by
  obtain ⟨hx, hb, hr, hml, hown, hts0, hX, hbl, hlocks, -⟩ := id C
  have hts : ∀ w ∈ GW, w.before #[Value.ref b] s = true := fun w hw => hts0 w (gw_tbl w hw)
  intro x3 h H locs ls hl hP hS hf
  rw [f_L_law_409] at hf
  refine lv_aload_n hx hb dL_law_409 rfl (lv_at hl 1 rfl) ?_
  refine lv_aload_n hx hb dL_law_410 rfl (lv_at hl 0 rfl) ?_
  refine lv_iload_n hx hb dL_law_411 rfl (lv_at hl 3 rfl) ?_
  refine lv_iconst (v := 1) hx hb dL_law_412 (by decide) ?_
  refine lv_iadd hx hb dL_law_413 ?_
  obtain ⟨v414, ev414, hf⟩ := bO_s hf
  refine r_sld hx hb hX hbl hbA hS ev414 dL_law_414 ?_
  refine lv_aload_n hx hb dL_law_415 rfl (lv_at hl 0 rfl) ?_
  refine lv_iload_n hx hb dL_law_416 rfl (lv_at hl 3 rfl) ?_
  refine lv_iconst (v := 2) hx hb dL_law_417 (by decide) ?_
  refine lv_iadd hx hb dL_law_418 ?_
  obtain ⟨v419, ev419, hf⟩ := bO_s hf
  refine r_sld hx hb hX hbl hbA hS ev419 dL_law_419 ?_
  obtain ⟨r420, h420, er420, hf⟩ := bP_s hf
  refine r_callI (va_runV (As := [.int v414, .int v419]) (rest := []) ⟨hx, hb, hml, hown, hts⟩ (k_X8_fault l hG er420) (cwV 2 hts (gV wd656 wd657 wd658 wd73 wd659) rfl rfl rfl (by decide +kernel) ⟨Nat.le_of_ble_eq_true rfl, Nat.le_of_ble_eq_true rfl⟩) (r_pv hK hP hS (ltX8 rfl) (ceX8 rfl) rfl) rfl rfl hl.1 rfl (lv_room (Nat.le_of_ble_eq_true rfl)) dL_law_420 ⟨Nat.le_of_ble_eq_true rfl, Nat.le_of_ble_eq_true rfl⟩) hS (fun H locs hP hS => ?_)
  refine lv_aload_n hx hb dL_law_423 rfl (lv_at hl 2 rfl) ?_
  refine lv_aload_n hx hb dL_law_424 rfl (lv_at hl 0 rfl) ?_
  refine lv_iload_n hx hb dL_law_425 rfl (lv_at hl 3 rfl) ?_
  refine lv_iconst (v := 1) hx hb dL_law_426 (by decide) ?_
  refine lv_iadd hx hb dL_law_427 ?_
  obtain ⟨v428, ev428, hf⟩ := bO_s hf
  refine r_sld hx hb hX hbl hbA hS ev428 dL_law_428 ?_
  refine lv_aload_n hx hb dL_law_429 rfl (lv_at hl 0 rfl) ?_
  refine lv_iload_n hx hb dL_law_430 rfl (lv_at hl 3 rfl) ?_
  refine lv_iconst (v := 2) hx hb dL_law_431 (by decide) ?_
  refine lv_iadd hx hb dL_law_432 ?_
  obtain ⟨v433, ev433, hf⟩ := bO_s hf
  refine r_sld hx hb hX hbl hbA hS ev433 dL_law_433 ?_
  obtain ⟨r434, h434, er434, hf⟩ := bP_s hf
  refine r_callI (va_runV (As := [.int v428, .int v433]) (rest := [.int r420]) ⟨hx, hb, hml, hown, hts⟩ (k_X9_fault l hG er434) (cwV 2 hts (gV wd1327 wd1328 wd1329 wd82 wd1330) rfl rfl rfl (by decide +kernel) ⟨Nat.le_of_ble_eq_true rfl, Nat.le_of_ble_eq_true rfl⟩) (r_pv hK hP hS (ltX9 rfl) (ceX9 rfl) rfl) rfl rfl hl.1 rfl (lv_room (Nat.le_of_ble_eq_true rfl)) dL_law_434 ⟨Nat.le_of_ble_eq_true rfl, Nat.le_of_ble_eq_true rfl⟩) hS (fun H locs hP hS => ?_)
  refine lv_icmp_eq (tgt := 1584) hx hb dL_law_437 (by decide) (fun c437 => ?_) (fun c437 => ?_)
  · replace hf := if_t c437 hf
    refine lv_iinc (v := (x3 + 5)) (lv' := [(3, .int (x3 + 5)), (0, .ref b), (1, .ref (gB G 0)), (2, .ref (gB G 66))]) hx hb dL_law_1584 hl (k := 3) rfl rfl (by decide) rfl (fun ls hl => ?_)
    refine lv_goto (tgt := 18) hx hb dL_law_1587 (by decide) ?_
    exact hk18 (x3 + 5) h434 _ _ _ (lv_sub hl [1, 2, 3, 0] rfl) hP hS hf
  · replace hf := if_f c437 hf
    refine lv_iconst (v := 0) hx hb dL_law_440 (by decide) ?_
    exact absurd (Option.some.inj hf) (by decide)
def f_L_law_442 (L : Nat) (xs : Nat → Int32) (k18 : Int32 → PH → Option Int32) (x3 : Int32) (h : PH) : Option Int32 := bO (sg L xs (x3 + 1)) (fun v447 => bP (f_X8_count v447 h) (fun r448 h448 => bO (sg L xs (x3 + 1)) (fun v456 => bP (f_X9_count v456 h448) (fun r457 h457 => if r448 = r457 then (k18 (x3 + 5) h457) else (some 0)))))
set_option maxHeartbeats 4000000 in
set_option maxRecDepth 100000 in
theorem w_L_law_442 {l : Launch} {G : GC} (hG : GOK G) {p : Program} {e : Env} {s : State} {m : MethodId} {below : List Frame} {meth : Method} {c : Code} {b L : Nat} {xs : Nat → Int32} (C : lw_At p s m meth c b L xs) (hbA : ¬ gA G b) (hA0 : ∀ q, gA G q → s.heap.size ≤ q) (hK : KW G s) (k18 : Int32 → PH → Option Int32) (hk18 : ∀ (x3 : Int32) (h : PH) (H : Heap) (locs : List Loc) (ls : Array Slot), lv_has ls 4 [(0, .ref b), (1, .ref (gB G 0)), (2, .ref (gB G 66)), (3, .int x3)] → WP G h H → SP G s H locs → k18 x3 h = some 1 → W p l e room_1 s m #[Value.ref b] below meth c H locs 98 12102 (lw_Z below #[Value.ref b] s) (F0 m 18 ls [])) : ∀ (x3 : Int32) (h : PH) (H : Heap) (locs : List Loc) (ls : Array Slot), lv_has ls 4 [(0, .ref b), (1, .ref (gB G 0)), (2, .ref (gB G 66)), (3, .int x3)] → WP G h H → SP G s H locs → f_L_law_442 L xs k18 x3 h = some 1 → W p l e room_1 s m #[Value.ref b] below meth c H locs 98 12102 (lw_Z below #[Value.ref b] s) (F0 m 442 ls []) := by
  obtain ⟨hx, hb, hr, hml, hown, hts0, hX, hbl, hlocks, -⟩ := id C
  have hts : ∀ w ∈ GW, w.before #[Value.ref b] s = true := fun w hw => hts0 w (gw_tbl w hw)
  intro x3 h H locs ls hl hP hS hf
  rw [f_L_law_442] at hf
  refine lv_aload_n hx hb dL_law_442 rfl (lv_at hl 1 rfl) ?_
  refine lv_aload_n hx hb dL_law_443 rfl (lv_at hl 0 rfl) ?_
  refine lv_iload_n hx hb dL_law_444 rfl (lv_at hl 3 rfl) ?_
  refine lv_iconst (v := 1) hx hb dL_law_445 (by decide) ?_
  refine lv_iadd hx hb dL_law_446 ?_
  obtain ⟨v447, ev447, hf⟩ := bO_s hf
  refine r_sld hx hb hX hbl hbA hS ev447 dL_law_447 ?_
  obtain ⟨r448, h448, er448, hf⟩ := bP_s hf
  refine r_callI (va_runV (As := [.int v447]) (rest := []) ⟨hx, hb, hml, hown, hts⟩ (k_X8_count l hG er448) (cwV 1 hts (gV wd664 wd665 wd666 wd73 wd667) rfl rfl rfl (by decide +kernel) ⟨Nat.le_of_ble_eq_true rfl, Nat.le_of_ble_eq_true rfl⟩) (r_pv hK hP hS (ltX8 rfl) (ceX8 rfl) rfl) rfl rfl hl.1 rfl (lv_room (Nat.le_of_ble_eq_true rfl)) dL_law_448 ⟨Nat.le_of_ble_eq_true rfl, Nat.le_of_ble_eq_true rfl⟩) hS (fun H locs hP hS => ?_)
  refine lv_aload_n hx hb dL_law_451 rfl (lv_at hl 2 rfl) ?_
  refine lv_aload_n hx hb dL_law_452 rfl (lv_at hl 0 rfl) ?_
  refine lv_iload_n hx hb dL_law_453 rfl (lv_at hl 3 rfl) ?_
  refine lv_iconst (v := 1) hx hb dL_law_454 (by decide) ?_
  refine lv_iadd hx hb dL_law_455 ?_
  obtain ⟨v456, ev456, hf⟩ := bO_s hf
  refine r_sld hx hb hX hbl hbA hS ev456 dL_law_456 ?_
  obtain ⟨r457, h457, er457, hf⟩ := bP_s hf
  refine r_callI (va_runV (As := [.int v456]) (rest := [.int r448]) ⟨hx, hb, hml, hown, hts⟩ (k_X9_count l hG er457) (cwV 1 hts (gV wd1335 wd1336 wd1337 wd82 wd1338) rfl rfl rfl (by decide +kernel) ⟨Nat.le_of_ble_eq_true rfl, Nat.le_of_ble_eq_true rfl⟩) (r_pv hK hP hS (ltX9 rfl) (ceX9 rfl) rfl) rfl rfl hl.1 rfl (lv_room (Nat.le_of_ble_eq_true rfl)) dL_law_457 ⟨Nat.le_of_ble_eq_true rfl, Nat.le_of_ble_eq_true rfl⟩) hS (fun H locs hP hS => ?_)
  refine lv_icmp_eq (tgt := 1584) hx hb dL_law_460 (by decide) (fun c460 => ?_) (fun c460 => ?_)
  · replace hf := if_t c460 hf
    refine lv_iinc (v := (x3 + 5)) (lv' := [(3, .int (x3 + 5)), (0, .ref b), (1, .ref (gB G 0)), (2, .ref (gB G 66))]) hx hb dL_law_1584 hl (k := 3) rfl rfl (by decide) rfl (fun ls hl => ?_)
    refine lv_goto (tgt := 18) hx hb dL_law_1587 (by decide) ?_
    exact hk18 (x3 + 5) h457 _ _ _ (lv_sub hl [1, 2, 3, 0] rfl) hP hS hf
  · replace hf := if_f c460 hf
    refine lv_iconst (v := 0) hx hb dL_law_463 (by decide) ?_
    exact absurd (Option.some.inj hf) (by decide)
def f_L_law_465 (L : Nat) (xs : Nat → Int32) (k18 : Int32 → PH → Option Int32) (x3 : Int32) (h : PH) : Option Int32 := bO (sg L xs (x3 + 1)) (fun v470 => bP (f_X8_cut v470 h) (fun r471 h471 => bO (sg L xs (x3 + 1)) (fun v479 => bP (f_X9_cut v479 h471) (fun r480 h480 => if r471 = r480 then (k18 (x3 + 5) h480) else (some 0)))))
set_option maxHeartbeats 4000000 in
set_option maxRecDepth 100000 in
theorem w_L_law_465 {l : Launch} {G : GC} (hG : GOK G) {p : Program} {e : Env} {s : State} {m : MethodId} {below : List Frame} {meth : Method} {c : Code} {b L : Nat} {xs : Nat → Int32} (C : lw_At p s m meth c b L xs) (hbA : ¬ gA G b) (hA0 : ∀ q, gA G q → s.heap.size ≤ q) (hK : KW G s) (k18 : Int32 → PH → Option Int32) (hk18 : ∀ (x3 : Int32) (h : PH) (H : Heap) (locs : List Loc) (ls : Array Slot), lv_has ls 4 [(0, .ref b), (1, .ref (gB G 0)), (2, .ref (gB G 66)), (3, .int x3)] → WP G h H → SP G s H locs → k18 x3 h = some 1 → W p l e room_1 s m #[Value.ref b] below meth c H locs 98 12102 (lw_Z below #[Value.ref b] s) (F0 m 18 ls [])) : ∀ (x3 : Int32) (h : PH) (H : Heap) (locs : List Loc) (ls : Array Slot), lv_has ls 4 [(0, .ref b), (1, .ref (gB G 0)), (2, .ref (gB G 66)), (3, .int x3)] → WP G h H → SP G s H locs → f_L_law_465 L xs k18 x3 h = some 1 → W p l e room_1 s m #[Value.ref b] below meth c H locs 98 12102 (lw_Z below #[Value.ref b] s) (F0 m 465 ls []) := by
  obtain ⟨hx, hb, hr, hml, hown, hts0, hX, hbl, hlocks, -⟩ := id C
  have hts : ∀ w ∈ GW, w.before #[Value.ref b] s = true := fun w hw => hts0 w (gw_tbl w hw)
  intro x3 h H locs ls hl hP hS hf
  rw [f_L_law_465] at hf
  refine lv_aload_n hx hb dL_law_465 rfl (lv_at hl 1 rfl) ?_
  refine lv_aload_n hx hb dL_law_466 rfl (lv_at hl 0 rfl) ?_
  refine lv_iload_n hx hb dL_law_467 rfl (lv_at hl 3 rfl) ?_
  refine lv_iconst (v := 1) hx hb dL_law_468 (by decide) ?_
  refine lv_iadd hx hb dL_law_469 ?_
  obtain ⟨v470, ev470, hf⟩ := bO_s hf
  refine r_sld hx hb hX hbl hbA hS ev470 dL_law_470 ?_
  obtain ⟨r471, h471, er471, hf⟩ := bP_s hf
  refine r_callI (va_runV (As := [.int v470]) (rest := []) ⟨hx, hb, hml, hown, hts⟩ (k_X8_cut l hG er471) (cwV 1 hts (gV wd668 wd669 wd670 wd73 wd671) rfl rfl rfl (by decide +kernel) ⟨Nat.le_of_ble_eq_true rfl, Nat.le_of_ble_eq_true rfl⟩) (r_pv hK hP hS (ltX8 rfl) (ceX8 rfl) rfl) rfl rfl hl.1 rfl (lv_room (Nat.le_of_ble_eq_true rfl)) dL_law_471 ⟨Nat.le_of_ble_eq_true rfl, Nat.le_of_ble_eq_true rfl⟩) hS (fun H locs hP hS => ?_)
  refine lv_aload_n hx hb dL_law_474 rfl (lv_at hl 2 rfl) ?_
  refine lv_aload_n hx hb dL_law_475 rfl (lv_at hl 0 rfl) ?_
  refine lv_iload_n hx hb dL_law_476 rfl (lv_at hl 3 rfl) ?_
  refine lv_iconst (v := 1) hx hb dL_law_477 (by decide) ?_
  refine lv_iadd hx hb dL_law_478 ?_
  obtain ⟨v479, ev479, hf⟩ := bO_s hf
  refine r_sld hx hb hX hbl hbA hS ev479 dL_law_479 ?_
  obtain ⟨r480, h480, er480, hf⟩ := bP_s hf
  refine r_callI (va_runV (As := [.int v479]) (rest := [.int r471]) ⟨hx, hb, hml, hown, hts⟩ (k_X9_cut l hG er480) (cwV 1 hts (gV wd1339 wd1340 wd1341 wd82 wd1342) rfl rfl rfl (by decide +kernel) ⟨Nat.le_of_ble_eq_true rfl, Nat.le_of_ble_eq_true rfl⟩) (r_pv hK hP hS (ltX9 rfl) (ceX9 rfl) rfl) rfl rfl hl.1 rfl (lv_room (Nat.le_of_ble_eq_true rfl)) dL_law_480 ⟨Nat.le_of_ble_eq_true rfl, Nat.le_of_ble_eq_true rfl⟩) hS (fun H locs hP hS => ?_)
  refine lv_icmp_eq (tgt := 1584) hx hb dL_law_483 (by decide) (fun c483 => ?_) (fun c483 => ?_)
  · replace hf := if_t c483 hf
    refine lv_iinc (v := (x3 + 5)) (lv' := [(3, .int (x3 + 5)), (0, .ref b), (1, .ref (gB G 0)), (2, .ref (gB G 66))]) hx hb dL_law_1584 hl (k := 3) rfl rfl (by decide) rfl (fun ls hl => ?_)
    refine lv_goto (tgt := 18) hx hb dL_law_1587 (by decide) ?_
    exact hk18 (x3 + 5) h480 _ _ _ (lv_sub hl [1, 2, 3, 0] rfl) hP hS hf
  · replace hf := if_f c483 hf
    refine lv_iconst (v := 0) hx hb dL_law_486 (by decide) ?_
    exact absurd (Option.some.inj hf) (by decide)
def f_L_law_488 (L : Nat) (xs : Nat → Int32) (k18 : Int32 → PH → Option Int32) (x3 : Int32) (h : PH) : Option Int32 := bO (sg L xs (x3 + 1)) (fun v493 => bO (sg L xs (x3 + 2)) (fun v498 => bP (f_X8_line v493 v498 h) (fun r499 h499 => bO (sg L xs (x3 + 1)) (fun v507 => bO (sg L xs (x3 + 2)) (fun v512 => bP (f_X9_line v507 v512 h499) (fun r513 h513 => if r499 = r513 then (k18 (x3 + 5) h513) else (some 0)))))))
set_option maxHeartbeats 4000000 in
set_option maxRecDepth 100000 in
theorem w_L_law_488 {l : Launch} {G : GC} (hG : GOK G) {p : Program} {e : Env} {s : State} {m : MethodId} {below : List Frame} {meth : Method} {c : Code} {b L : Nat} {xs : Nat → Int32} (C : lw_At p s m meth c b L xs) (hbA : ¬ gA G b) (hA0 : ∀ q, gA G q → s.heap.size ≤ q) (hK : KW G s) (k18 : Int32 → PH → Option Int32) (hk18 : ∀ (x3 : Int32) (h : PH) (H : Heap) (locs : List Loc) (ls : Array Slot), lv_has ls 4 [(0, .ref b), (1, .ref (gB G 0)), (2, .ref (gB G 66)), (3, .int x3)] → WP G h H → SP G s H locs → k18 x3 h = some 1 → W p l e room_1 s m #[Value.ref b] below meth c H locs 98 12102 (lw_Z below #[Value.ref b] s) (F0 m 18 ls [])) : ∀ (x3 : Int32) (h : PH) (H : Heap) (locs : List Loc) (ls : Array Slot), lv_has ls 4 [(0, .ref b), (1, .ref (gB G 0)), (2, .ref (gB G 66)), (3, .int x3)] → WP G h H → SP G s H locs → f_L_law_488 L xs k18 x3 h = some 1 → W p l e room_1 s m #[Value.ref b] below meth c H locs 98 12102 (lw_Z below #[Value.ref b] s) (F0 m 488 ls []) := by
  obtain ⟨hx, hb, hr, hml, hown, hts0, hX, hbl, hlocks, -⟩ := id C
  have hts : ∀ w ∈ GW, w.before #[Value.ref b] s = true := fun w hw => hts0 w (gw_tbl w hw)
  intro x3 h H locs ls hl hP hS hf
  rw [f_L_law_488] at hf
  refine lv_aload_n hx hb dL_law_488 rfl (lv_at hl 1 rfl) ?_
  refine lv_aload_n hx hb dL_law_489 rfl (lv_at hl 0 rfl) ?_
  refine lv_iload_n hx hb dL_law_490 rfl (lv_at hl 3 rfl) ?_
  refine lv_iconst (v := 1) hx hb dL_law_491 (by decide) ?_
  refine lv_iadd hx hb dL_law_492 ?_
  obtain ⟨v493, ev493, hf⟩ := bO_s hf
  refine r_sld hx hb hX hbl hbA hS ev493 dL_law_493 ?_
  refine lv_aload_n hx hb dL_law_494 rfl (lv_at hl 0 rfl) ?_
  refine lv_iload_n hx hb dL_law_495 rfl (lv_at hl 3 rfl) ?_
  refine lv_iconst (v := 2) hx hb dL_law_496 (by decide) ?_
  refine lv_iadd hx hb dL_law_497 ?_
  obtain ⟨v498, ev498, hf⟩ := bO_s hf
  refine r_sld hx hb hX hbl hbA hS ev498 dL_law_498 ?_
  obtain ⟨r499, h499, er499, hf⟩ := bP_s hf
  refine r_callI (va_runV (As := [.int v493, .int v498]) (rest := []) ⟨hx, hb, hml, hown, hts⟩ (k_X8_line l hG er499) (cwV 2 hts (gV wd680 wd681 wd682 wd73 wd683) rfl rfl rfl (by decide +kernel) ⟨Nat.le_of_ble_eq_true rfl, Nat.le_of_ble_eq_true rfl⟩) (r_pv hK hP hS (ltX8 rfl) (ceX8 rfl) rfl) rfl rfl hl.1 rfl (lv_room (Nat.le_of_ble_eq_true rfl)) dL_law_499 ⟨Nat.le_of_ble_eq_true rfl, Nat.le_of_ble_eq_true rfl⟩) hS (fun H locs hP hS => ?_)
  refine lv_aload_n hx hb dL_law_502 rfl (lv_at hl 2 rfl) ?_
  refine lv_aload_n hx hb dL_law_503 rfl (lv_at hl 0 rfl) ?_
  refine lv_iload_n hx hb dL_law_504 rfl (lv_at hl 3 rfl) ?_
  refine lv_iconst (v := 1) hx hb dL_law_505 (by decide) ?_
  refine lv_iadd hx hb dL_law_506 ?_
  obtain ⟨v507, ev507, hf⟩ := bO_s hf
  refine r_sld hx hb hX hbl hbA hS ev507 dL_law_507 ?_
  refine lv_aload_n hx hb dL_law_508 rfl (lv_at hl 0 rfl) ?_
  refine lv_iload_n hx hb dL_law_509 rfl (lv_at hl 3 rfl) ?_
  refine lv_iconst (v := 2) hx hb dL_law_510 (by decide) ?_
  refine lv_iadd hx hb dL_law_511 ?_
  obtain ⟨v512, ev512, hf⟩ := bO_s hf
  refine r_sld hx hb hX hbl hbA hS ev512 dL_law_512 ?_
  obtain ⟨r513, h513, er513, hf⟩ := bP_s hf
  refine r_callI (va_runV (As := [.int v507, .int v512]) (rest := [.int r499]) ⟨hx, hb, hml, hown, hts⟩ (k_X9_line l hG er513) (cwV 2 hts (gV wd1343 wd1344 wd1345 wd82 wd1346) rfl rfl rfl (by decide +kernel) ⟨Nat.le_of_ble_eq_true rfl, Nat.le_of_ble_eq_true rfl⟩) (r_pv hK hP hS (ltX9 rfl) (ceX9 rfl) rfl) rfl rfl hl.1 rfl (lv_room (Nat.le_of_ble_eq_true rfl)) dL_law_513 ⟨Nat.le_of_ble_eq_true rfl, Nat.le_of_ble_eq_true rfl⟩) hS (fun H locs hP hS => ?_)
  refine lv_icmp_eq (tgt := 1584) hx hb dL_law_516 (by decide) (fun c516 => ?_) (fun c516 => ?_)
  · replace hf := if_t c516 hf
    refine lv_iinc (v := (x3 + 5)) (lv' := [(3, .int (x3 + 5)), (0, .ref b), (1, .ref (gB G 0)), (2, .ref (gB G 66))]) hx hb dL_law_1584 hl (k := 3) rfl rfl (by decide) rfl (fun ls hl => ?_)
    refine lv_goto (tgt := 18) hx hb dL_law_1587 (by decide) ?_
    exact hk18 (x3 + 5) h513 _ _ _ (lv_sub hl [1, 2, 3, 0] rfl) hP hS hf
  · replace hf := if_f c516 hf
    refine lv_iconst (v := 0) hx hb dL_law_519 (by decide) ?_
    exact absurd (Option.some.inj hf) (by decide)
def f_L_law_521 (L : Nat) (xs : Nat → Int32) (k18 : Int32 → PH → Option Int32) (x3 : Int32) (h : PH) : Option Int32 := bO (sg L xs (x3 + 1)) (fun v526 => bO (sg L xs (x3 + 2)) (fun v531 => bP (f_X8_value v526 v531 h) (fun r532 h532 => bO (sg L xs (x3 + 1)) (fun v540 => bO (sg L xs (x3 + 2)) (fun v545 => bP (f_X9_value v540 v545 h532) (fun r546 h546 => if r532 = r546 then (k18 (x3 + 5) h546) else (some 0)))))))
set_option maxHeartbeats 4000000 in
set_option maxRecDepth 100000 in
theorem w_L_law_521 {l : Launch} {G : GC} (hG : GOK G) {p : Program} {e : Env} {s : State} {m : MethodId} {below : List Frame} {meth : Method} {c : Code} {b L : Nat} {xs : Nat → Int32} (C : lw_At p s m meth c b L xs) (hbA : ¬ gA G b) (hA0 : ∀ q, gA G q → s.heap.size ≤ q) (hK : KW G s) (k18 : Int32 → PH → Option Int32) (hk18 : ∀ (x3 : Int32) (h : PH) (H : Heap) (locs : List Loc) (ls : Array Slot), lv_has ls 4 [(0, .ref b), (1, .ref (gB G 0)), (2, .ref (gB G 66)), (3, .int x3)] → WP G h H → SP G s H locs → k18 x3 h = some 1 → W p l e room_1 s m #[Value.ref b] below meth c H locs 98 12102 (lw_Z below #[Value.ref b] s) (F0 m 18 ls [])) : ∀ (x3 : Int32) (h : PH) (H : Heap) (locs : List Loc) (ls : Array Slot), lv_has ls 4 [(0, .ref b), (1, .ref (gB G 0)), (2, .ref (gB G 66)), (3, .int x3)] → WP G h H → SP G s H locs → f_L_law_521 L xs k18 x3 h = some 1 → W p l e room_1 s m #[Value.ref b] below meth c H locs 98 12102 (lw_Z below #[Value.ref b] s) (F0 m 521 ls []) := by
  obtain ⟨hx, hb, hr, hml, hown, hts0, hX, hbl, hlocks, -⟩ := id C
  have hts : ∀ w ∈ GW, w.before #[Value.ref b] s = true := fun w hw => hts0 w (gw_tbl w hw)
  intro x3 h H locs ls hl hP hS hf
  rw [f_L_law_521] at hf
  refine lv_aload_n hx hb dL_law_521 rfl (lv_at hl 1 rfl) ?_
  refine lv_aload_n hx hb dL_law_522 rfl (lv_at hl 0 rfl) ?_
  refine lv_iload_n hx hb dL_law_523 rfl (lv_at hl 3 rfl) ?_
  refine lv_iconst (v := 1) hx hb dL_law_524 (by decide) ?_
  refine lv_iadd hx hb dL_law_525 ?_
  obtain ⟨v526, ev526, hf⟩ := bO_s hf
  refine r_sld hx hb hX hbl hbA hS ev526 dL_law_526 ?_
  refine lv_aload_n hx hb dL_law_527 rfl (lv_at hl 0 rfl) ?_
  refine lv_iload_n hx hb dL_law_528 rfl (lv_at hl 3 rfl) ?_
  refine lv_iconst (v := 2) hx hb dL_law_529 (by decide) ?_
  refine lv_iadd hx hb dL_law_530 ?_
  obtain ⟨v531, ev531, hf⟩ := bO_s hf
  refine r_sld hx hb hX hbl hbA hS ev531 dL_law_531 ?_
  obtain ⟨r532, h532, er532, hf⟩ := bP_s hf
  refine r_callI (va_runV (As := [.int v526, .int v531]) (rest := []) ⟨hx, hb, hml, hown, hts⟩ (k_X8_value l hG er532) (cwV 2 hts (gV wd696 wd697 wd698 wd73 wd699) rfl rfl rfl (by decide +kernel) ⟨Nat.le_of_ble_eq_true rfl, Nat.le_of_ble_eq_true rfl⟩) (r_pv hK hP hS (ltX8 rfl) (ceX8 rfl) rfl) rfl rfl hl.1 rfl (lv_room (Nat.le_of_ble_eq_true rfl)) dL_law_532 ⟨Nat.le_of_ble_eq_true rfl, Nat.le_of_ble_eq_true rfl⟩) hS (fun H locs hP hS => ?_)
  refine lv_aload_n hx hb dL_law_535 rfl (lv_at hl 2 rfl) ?_
  refine lv_aload_n hx hb dL_law_536 rfl (lv_at hl 0 rfl) ?_
  refine lv_iload_n hx hb dL_law_537 rfl (lv_at hl 3 rfl) ?_
  refine lv_iconst (v := 1) hx hb dL_law_538 (by decide) ?_
  refine lv_iadd hx hb dL_law_539 ?_
  obtain ⟨v540, ev540, hf⟩ := bO_s hf
  refine r_sld hx hb hX hbl hbA hS ev540 dL_law_540 ?_
  refine lv_aload_n hx hb dL_law_541 rfl (lv_at hl 0 rfl) ?_
  refine lv_iload_n hx hb dL_law_542 rfl (lv_at hl 3 rfl) ?_
  refine lv_iconst (v := 2) hx hb dL_law_543 (by decide) ?_
  refine lv_iadd hx hb dL_law_544 ?_
  obtain ⟨v545, ev545, hf⟩ := bO_s hf
  refine r_sld hx hb hX hbl hbA hS ev545 dL_law_545 ?_
  obtain ⟨r546, h546, er546, hf⟩ := bP_s hf
  refine r_callI (va_runV (As := [.int v540, .int v545]) (rest := [.int r532]) ⟨hx, hb, hml, hown, hts⟩ (k_X9_value l hG er546) (cwV 2 hts (gV wd1359 wd1360 wd1361 wd82 wd1362) rfl rfl rfl (by decide +kernel) ⟨Nat.le_of_ble_eq_true rfl, Nat.le_of_ble_eq_true rfl⟩) (r_pv hK hP hS (ltX9 rfl) (ceX9 rfl) rfl) rfl rfl hl.1 rfl (lv_room (Nat.le_of_ble_eq_true rfl)) dL_law_546 ⟨Nat.le_of_ble_eq_true rfl, Nat.le_of_ble_eq_true rfl⟩) hS (fun H locs hP hS => ?_)
  refine lv_icmp_eq (tgt := 1584) hx hb dL_law_549 (by decide) (fun c549 => ?_) (fun c549 => ?_)
  · replace hf := if_t c549 hf
    refine lv_iinc (v := (x3 + 5)) (lv' := [(3, .int (x3 + 5)), (0, .ref b), (1, .ref (gB G 0)), (2, .ref (gB G 66))]) hx hb dL_law_1584 hl (k := 3) rfl rfl (by decide) rfl (fun ls hl => ?_)
    refine lv_goto (tgt := 18) hx hb dL_law_1587 (by decide) ?_
    exact hk18 (x3 + 5) h546 _ _ _ (lv_sub hl [1, 2, 3, 0] rfl) hP hS hf
  · replace hf := if_f c549 hf
    refine lv_iconst (v := 0) hx hb dL_law_552 (by decide) ?_
    exact absurd (Option.some.inj hf) (by decide)
def f_L_law_554 (L : Nat) (xs : Nat → Int32) (k18 : Int32 → PH → Option Int32) (x3 : Int32) (h : PH) : Option Int32 := bO (sg L xs (x3 + 1)) (fun v559 => bO (sg L xs (x3 + 2)) (fun v564 => bP (f_X8_clash v559 v564 h) (fun r565 h565 => bO (sg L xs (x3 + 1)) (fun v573 => bO (sg L xs (x3 + 2)) (fun v578 => bP (f_X9_clash v573 v578 h565) (fun r579 h579 => if r565 = r579 then (k18 (x3 + 5) h579) else (some 0)))))))
set_option maxHeartbeats 4000000 in
set_option maxRecDepth 100000 in
theorem w_L_law_554 {l : Launch} {G : GC} (hG : GOK G) {p : Program} {e : Env} {s : State} {m : MethodId} {below : List Frame} {meth : Method} {c : Code} {b L : Nat} {xs : Nat → Int32} (C : lw_At p s m meth c b L xs) (hbA : ¬ gA G b) (hA0 : ∀ q, gA G q → s.heap.size ≤ q) (hK : KW G s) (k18 : Int32 → PH → Option Int32) (hk18 : ∀ (x3 : Int32) (h : PH) (H : Heap) (locs : List Loc) (ls : Array Slot), lv_has ls 4 [(0, .ref b), (1, .ref (gB G 0)), (2, .ref (gB G 66)), (3, .int x3)] → WP G h H → SP G s H locs → k18 x3 h = some 1 → W p l e room_1 s m #[Value.ref b] below meth c H locs 98 12102 (lw_Z below #[Value.ref b] s) (F0 m 18 ls [])) : ∀ (x3 : Int32) (h : PH) (H : Heap) (locs : List Loc) (ls : Array Slot), lv_has ls 4 [(0, .ref b), (1, .ref (gB G 0)), (2, .ref (gB G 66)), (3, .int x3)] → WP G h H → SP G s H locs → f_L_law_554 L xs k18 x3 h = some 1 → W p l e room_1 s m #[Value.ref b] below meth c H locs 98 12102 (lw_Z below #[Value.ref b] s) (F0 m 554 ls []) := by
  obtain ⟨hx, hb, hr, hml, hown, hts0, hX, hbl, hlocks, -⟩ := id C
  have hts : ∀ w ∈ GW, w.before #[Value.ref b] s = true := fun w hw => hts0 w (gw_tbl w hw)
  intro x3 h H locs ls hl hP hS hf
  rw [f_L_law_554] at hf
  refine lv_aload_n hx hb dL_law_554 rfl (lv_at hl 1 rfl) ?_
  refine lv_aload_n hx hb dL_law_555 rfl (lv_at hl 0 rfl) ?_
  refine lv_iload_n hx hb dL_law_556 rfl (lv_at hl 3 rfl) ?_
  refine lv_iconst (v := 1) hx hb dL_law_557 (by decide) ?_
  refine lv_iadd hx hb dL_law_558 ?_
  obtain ⟨v559, ev559, hf⟩ := bO_s hf
  refine r_sld hx hb hX hbl hbA hS ev559 dL_law_559 ?_
  refine lv_aload_n hx hb dL_law_560 rfl (lv_at hl 0 rfl) ?_
  refine lv_iload_n hx hb dL_law_561 rfl (lv_at hl 3 rfl) ?_
  refine lv_iconst (v := 2) hx hb dL_law_562 (by decide) ?_
  refine lv_iadd hx hb dL_law_563 ?_
  obtain ⟨v564, ev564, hf⟩ := bO_s hf
  refine r_sld hx hb hX hbl hbA hS ev564 dL_law_564 ?_
  obtain ⟨r565, h565, er565, hf⟩ := bP_s hf
  refine r_callI (va_runV (As := [.int v559, .int v564]) (rest := []) ⟨hx, hb, hml, hown, hts⟩ (k_X8_clash l hG er565) (cwV 2 hts (gV wd700 wd701 wd702 wd73 wd703) rfl rfl rfl (by decide +kernel) ⟨Nat.le_of_ble_eq_true rfl, Nat.le_of_ble_eq_true rfl⟩) (r_pv hK hP hS (ltX8 rfl) (ceX8 rfl) rfl) rfl rfl hl.1 rfl (lv_room (Nat.le_of_ble_eq_true rfl)) dL_law_565 ⟨Nat.le_of_ble_eq_true rfl, Nat.le_of_ble_eq_true rfl⟩) hS (fun H locs hP hS => ?_)
  refine lv_aload_n hx hb dL_law_568 rfl (lv_at hl 2 rfl) ?_
  refine lv_aload_n hx hb dL_law_569 rfl (lv_at hl 0 rfl) ?_
  refine lv_iload_n hx hb dL_law_570 rfl (lv_at hl 3 rfl) ?_
  refine lv_iconst (v := 1) hx hb dL_law_571 (by decide) ?_
  refine lv_iadd hx hb dL_law_572 ?_
  obtain ⟨v573, ev573, hf⟩ := bO_s hf
  refine r_sld hx hb hX hbl hbA hS ev573 dL_law_573 ?_
  refine lv_aload_n hx hb dL_law_574 rfl (lv_at hl 0 rfl) ?_
  refine lv_iload_n hx hb dL_law_575 rfl (lv_at hl 3 rfl) ?_
  refine lv_iconst (v := 2) hx hb dL_law_576 (by decide) ?_
  refine lv_iadd hx hb dL_law_577 ?_
  obtain ⟨v578, ev578, hf⟩ := bO_s hf
  refine r_sld hx hb hX hbl hbA hS ev578 dL_law_578 ?_
  obtain ⟨r579, h579, er579, hf⟩ := bP_s hf
  refine r_callI (va_runV (As := [.int v573, .int v578]) (rest := [.int r565]) ⟨hx, hb, hml, hown, hts⟩ (k_X9_clash l hG er579) (cwV 2 hts (gV wd1363 wd1364 wd1365 wd82 wd1366) rfl rfl rfl (by decide +kernel) ⟨Nat.le_of_ble_eq_true rfl, Nat.le_of_ble_eq_true rfl⟩) (r_pv hK hP hS (ltX9 rfl) (ceX9 rfl) rfl) rfl rfl hl.1 rfl (lv_room (Nat.le_of_ble_eq_true rfl)) dL_law_579 ⟨Nat.le_of_ble_eq_true rfl, Nat.le_of_ble_eq_true rfl⟩) hS (fun H locs hP hS => ?_)
  refine lv_icmp_eq (tgt := 1584) hx hb dL_law_582 (by decide) (fun c582 => ?_) (fun c582 => ?_)
  · replace hf := if_t c582 hf
    refine lv_iinc (v := (x3 + 5)) (lv' := [(3, .int (x3 + 5)), (0, .ref b), (1, .ref (gB G 0)), (2, .ref (gB G 66))]) hx hb dL_law_1584 hl (k := 3) rfl rfl (by decide) rfl (fun ls hl => ?_)
    refine lv_goto (tgt := 18) hx hb dL_law_1587 (by decide) ?_
    exact hk18 (x3 + 5) h579 _ _ _ (lv_sub hl [1, 2, 3, 0] rfl) hP hS hf
  · replace hf := if_f c582 hf
    refine lv_iconst (v := 0) hx hb dL_law_585 (by decide) ?_
    exact absurd (Option.some.inj hf) (by decide)
def f_L_law_587 (L : Nat) (xs : Nat → Int32) (k18 : Int32 → PH → Option Int32) (x3 : Int32) (h : PH) : Option Int32 := bO (sg L xs (x3 + 1)) (fun v592 => bO (sg L xs (x3 + 2)) (fun v597 => bP (f_X8_pick v592 v597 h) (fun r598 h598 => bO (sg L xs (x3 + 1)) (fun v606 => bO (sg L xs (x3 + 2)) (fun v611 => bP (f_X9_pick v606 v611 h598) (fun r612 h612 => if r598 = r612 then (k18 (x3 + 5) h612) else (some 0)))))))
set_option maxHeartbeats 4000000 in
set_option maxRecDepth 100000 in
theorem w_L_law_587 {l : Launch} {G : GC} (hG : GOK G) {p : Program} {e : Env} {s : State} {m : MethodId} {below : List Frame} {meth : Method} {c : Code} {b L : Nat} {xs : Nat → Int32} (C : lw_At p s m meth c b L xs) (hbA : ¬ gA G b) (hA0 : ∀ q, gA G q → s.heap.size ≤ q) (hK : KW G s) (k18 : Int32 → PH → Option Int32) (hk18 : ∀ (x3 : Int32) (h : PH) (H : Heap) (locs : List Loc) (ls : Array Slot), lv_has ls 4 [(0, .ref b), (1, .ref (gB G 0)), (2, .ref (gB G 66)), (3, .int x3)] → WP G h H → SP G s H locs → k18 x3 h = some 1 → W p l e room_1 s m #[Value.ref b] below meth c H locs 98 12102 (lw_Z below #[Value.ref b] s) (F0 m 18 ls [])) : ∀ (x3 : Int32) (h : PH) (H : Heap) (locs : List Loc) (ls : Array Slot), lv_has ls 4 [(0, .ref b), (1, .ref (gB G 0)), (2, .ref (gB G 66)), (3, .int x3)] → WP G h H → SP G s H locs → f_L_law_587 L xs k18 x3 h = some 1 → W p l e room_1 s m #[Value.ref b] below meth c H locs 98 12102 (lw_Z below #[Value.ref b] s) (F0 m 587 ls []) := by
  obtain ⟨hx, hb, hr, hml, hown, hts0, hX, hbl, hlocks, -⟩ := id C
  have hts : ∀ w ∈ GW, w.before #[Value.ref b] s = true := fun w hw => hts0 w (gw_tbl w hw)
  intro x3 h H locs ls hl hP hS hf
  rw [f_L_law_587] at hf
  refine lv_aload_n hx hb dL_law_587 rfl (lv_at hl 1 rfl) ?_
  refine lv_aload_n hx hb dL_law_588 rfl (lv_at hl 0 rfl) ?_
  refine lv_iload_n hx hb dL_law_589 rfl (lv_at hl 3 rfl) ?_
  refine lv_iconst (v := 1) hx hb dL_law_590 (by decide) ?_
  refine lv_iadd hx hb dL_law_591 ?_
  obtain ⟨v592, ev592, hf⟩ := bO_s hf
  refine r_sld hx hb hX hbl hbA hS ev592 dL_law_592 ?_
  refine lv_aload_n hx hb dL_law_593 rfl (lv_at hl 0 rfl) ?_
  refine lv_iload_n hx hb dL_law_594 rfl (lv_at hl 3 rfl) ?_
  refine lv_iconst (v := 2) hx hb dL_law_595 (by decide) ?_
  refine lv_iadd hx hb dL_law_596 ?_
  obtain ⟨v597, ev597, hf⟩ := bO_s hf
  refine r_sld hx hb hX hbl hbA hS ev597 dL_law_597 ?_
  obtain ⟨r598, h598, er598, hf⟩ := bP_s hf
  refine r_callI (va_runV (As := [.int v592, .int v597]) (rest := []) ⟨hx, hb, hml, hown, hts⟩ (k_X8_pick l hG er598) (cwV 2 hts (gV wd709 wd710 wd711 wd73 wd712) rfl rfl rfl (by decide +kernel) ⟨Nat.le_of_ble_eq_true rfl, Nat.le_of_ble_eq_true rfl⟩) (r_pv hK hP hS (ltX8 rfl) (ceX8 rfl) rfl) rfl rfl hl.1 rfl (lv_room (Nat.le_of_ble_eq_true rfl)) dL_law_598 ⟨Nat.le_of_ble_eq_true rfl, Nat.le_of_ble_eq_true rfl⟩) hS (fun H locs hP hS => ?_)
  refine lv_aload_n hx hb dL_law_601 rfl (lv_at hl 2 rfl) ?_
  refine lv_aload_n hx hb dL_law_602 rfl (lv_at hl 0 rfl) ?_
  refine lv_iload_n hx hb dL_law_603 rfl (lv_at hl 3 rfl) ?_
  refine lv_iconst (v := 1) hx hb dL_law_604 (by decide) ?_
  refine lv_iadd hx hb dL_law_605 ?_
  obtain ⟨v606, ev606, hf⟩ := bO_s hf
  refine r_sld hx hb hX hbl hbA hS ev606 dL_law_606 ?_
  refine lv_aload_n hx hb dL_law_607 rfl (lv_at hl 0 rfl) ?_
  refine lv_iload_n hx hb dL_law_608 rfl (lv_at hl 3 rfl) ?_
  refine lv_iconst (v := 2) hx hb dL_law_609 (by decide) ?_
  refine lv_iadd hx hb dL_law_610 ?_
  obtain ⟨v611, ev611, hf⟩ := bO_s hf
  refine r_sld hx hb hX hbl hbA hS ev611 dL_law_611 ?_
  obtain ⟨r612, h612, er612, hf⟩ := bP_s hf
  refine r_callI (va_runV (As := [.int v606, .int v611]) (rest := [.int r598]) ⟨hx, hb, hml, hown, hts⟩ (k_X9_pick l hG er612) (cwV 2 hts (gV wd1375 wd1376 wd1377 wd82 wd1378) rfl rfl rfl (by decide +kernel) ⟨Nat.le_of_ble_eq_true rfl, Nat.le_of_ble_eq_true rfl⟩) (r_pv hK hP hS (ltX9 rfl) (ceX9 rfl) rfl) rfl rfl hl.1 rfl (lv_room (Nat.le_of_ble_eq_true rfl)) dL_law_612 ⟨Nat.le_of_ble_eq_true rfl, Nat.le_of_ble_eq_true rfl⟩) hS (fun H locs hP hS => ?_)
  refine lv_icmp_eq (tgt := 1584) hx hb dL_law_615 (by decide) (fun c615 => ?_) (fun c615 => ?_)
  · replace hf := if_t c615 hf
    refine lv_iinc (v := (x3 + 5)) (lv' := [(3, .int (x3 + 5)), (0, .ref b), (1, .ref (gB G 0)), (2, .ref (gB G 66))]) hx hb dL_law_1584 hl (k := 3) rfl rfl (by decide) rfl (fun ls hl => ?_)
    refine lv_goto (tgt := 18) hx hb dL_law_1587 (by decide) ?_
    exact hk18 (x3 + 5) h612 _ _ _ (lv_sub hl [1, 2, 3, 0] rfl) hP hS hf
  · replace hf := if_f c615 hf
    refine lv_iconst (v := 0) hx hb dL_law_618 (by decide) ?_
    exact absurd (Option.some.inj hf) (by decide)
def f_L_law_620 (L : Nat) (xs : Nat → Int32) (k18 : Int32 → PH → Option Int32) (x3 : Int32) (h : PH) : Option Int32 := bO (sg L xs (x3 + 1)) (fun v625 => bO (sg L xs (x3 + 2)) (fun v630 => bP (f_X8_undo v625 v630 h) (fun r631 h631 => bO (sg L xs (x3 + 1)) (fun v639 => bO (sg L xs (x3 + 2)) (fun v644 => bP (f_X9_undo v639 v644 h631) (fun r645 h645 => if r631 = r645 then (k18 (x3 + 5) h645) else (some 0)))))))
set_option maxHeartbeats 4000000 in
set_option maxRecDepth 100000 in
theorem w_L_law_620 {l : Launch} {G : GC} (hG : GOK G) {p : Program} {e : Env} {s : State} {m : MethodId} {below : List Frame} {meth : Method} {c : Code} {b L : Nat} {xs : Nat → Int32} (C : lw_At p s m meth c b L xs) (hbA : ¬ gA G b) (hA0 : ∀ q, gA G q → s.heap.size ≤ q) (hK : KW G s) (k18 : Int32 → PH → Option Int32) (hk18 : ∀ (x3 : Int32) (h : PH) (H : Heap) (locs : List Loc) (ls : Array Slot), lv_has ls 4 [(0, .ref b), (1, .ref (gB G 0)), (2, .ref (gB G 66)), (3, .int x3)] → WP G h H → SP G s H locs → k18 x3 h = some 1 → W p l e room_1 s m #[Value.ref b] below meth c H locs 98 12102 (lw_Z below #[Value.ref b] s) (F0 m 18 ls [])) : ∀ (x3 : Int32) (h : PH) (H : Heap) (locs : List Loc) (ls : Array Slot), lv_has ls 4 [(0, .ref b), (1, .ref (gB G 0)), (2, .ref (gB G 66)), (3, .int x3)] → WP G h H → SP G s H locs → f_L_law_620 L xs k18 x3 h = some 1 → W p l e room_1 s m #[Value.ref b] below meth c H locs 98 12102 (lw_Z below #[Value.ref b] s) (F0 m 620 ls []) := by
  obtain ⟨hx, hb, hr, hml, hown, hts0, hX, hbl, hlocks, -⟩ := id C
  have hts : ∀ w ∈ GW, w.before #[Value.ref b] s = true := fun w hw => hts0 w (gw_tbl w hw)
  intro x3 h H locs ls hl hP hS hf
  rw [f_L_law_620] at hf
  refine lv_aload_n hx hb dL_law_620 rfl (lv_at hl 1 rfl) ?_
  refine lv_aload_n hx hb dL_law_621 rfl (lv_at hl 0 rfl) ?_
  refine lv_iload_n hx hb dL_law_622 rfl (lv_at hl 3 rfl) ?_
  refine lv_iconst (v := 1) hx hb dL_law_623 (by decide) ?_
  refine lv_iadd hx hb dL_law_624 ?_
  obtain ⟨v625, ev625, hf⟩ := bO_s hf
  refine r_sld hx hb hX hbl hbA hS ev625 dL_law_625 ?_
  refine lv_aload_n hx hb dL_law_626 rfl (lv_at hl 0 rfl) ?_
  refine lv_iload_n hx hb dL_law_627 rfl (lv_at hl 3 rfl) ?_
  refine lv_iconst (v := 2) hx hb dL_law_628 (by decide) ?_
  refine lv_iadd hx hb dL_law_629 ?_
  obtain ⟨v630, ev630, hf⟩ := bO_s hf
  refine r_sld hx hb hX hbl hbA hS ev630 dL_law_630 ?_
  obtain ⟨r631, h631, er631, hf⟩ := bP_s hf
  refine r_callI (va_runV (As := [.int v625, .int v630]) (rest := []) ⟨hx, hb, hml, hown, hts⟩ (k_X8_undo l hG er631) (cwV 2 hts (gV wd724 wd725 wd726 wd73 wd727) rfl rfl rfl (by decide +kernel) ⟨Nat.le_of_ble_eq_true rfl, Nat.le_of_ble_eq_true rfl⟩) (r_pv hK hP hS (ltX8 rfl) (ceX8 rfl) rfl) rfl rfl hl.1 rfl (lv_room (Nat.le_of_ble_eq_true rfl)) dL_law_631 ⟨Nat.le_of_ble_eq_true rfl, Nat.le_of_ble_eq_true rfl⟩) hS (fun H locs hP hS => ?_)
  refine lv_aload_n hx hb dL_law_634 rfl (lv_at hl 2 rfl) ?_
  refine lv_aload_n hx hb dL_law_635 rfl (lv_at hl 0 rfl) ?_
  refine lv_iload_n hx hb dL_law_636 rfl (lv_at hl 3 rfl) ?_
  refine lv_iconst (v := 1) hx hb dL_law_637 (by decide) ?_
  refine lv_iadd hx hb dL_law_638 ?_
  obtain ⟨v639, ev639, hf⟩ := bO_s hf
  refine r_sld hx hb hX hbl hbA hS ev639 dL_law_639 ?_
  refine lv_aload_n hx hb dL_law_640 rfl (lv_at hl 0 rfl) ?_
  refine lv_iload_n hx hb dL_law_641 rfl (lv_at hl 3 rfl) ?_
  refine lv_iconst (v := 2) hx hb dL_law_642 (by decide) ?_
  refine lv_iadd hx hb dL_law_643 ?_
  obtain ⟨v644, ev644, hf⟩ := bO_s hf
  refine r_sld hx hb hX hbl hbA hS ev644 dL_law_644 ?_
  obtain ⟨r645, h645, er645, hf⟩ := bP_s hf
  refine r_callI (va_runV (As := [.int v639, .int v644]) (rest := [.int r631]) ⟨hx, hb, hml, hown, hts⟩ (k_X9_undo l hG er645) (cwV 2 hts (gV wd1390 wd1391 wd1392 wd82 wd1393) rfl rfl rfl (by decide +kernel) ⟨Nat.le_of_ble_eq_true rfl, Nat.le_of_ble_eq_true rfl⟩) (r_pv hK hP hS (ltX9 rfl) (ceX9 rfl) rfl) rfl rfl hl.1 rfl (lv_room (Nat.le_of_ble_eq_true rfl)) dL_law_645 ⟨Nat.le_of_ble_eq_true rfl, Nat.le_of_ble_eq_true rfl⟩) hS (fun H locs hP hS => ?_)
  refine lv_icmp_eq (tgt := 1584) hx hb dL_law_648 (by decide) (fun c648 => ?_) (fun c648 => ?_)
  · replace hf := if_t c648 hf
    refine lv_iinc (v := (x3 + 5)) (lv' := [(3, .int (x3 + 5)), (0, .ref b), (1, .ref (gB G 0)), (2, .ref (gB G 66))]) hx hb dL_law_1584 hl (k := 3) rfl rfl (by decide) rfl (fun ls hl => ?_)
    refine lv_goto (tgt := 18) hx hb dL_law_1587 (by decide) ?_
    exact hk18 (x3 + 5) h645 _ _ _ (lv_sub hl [1, 2, 3, 0] rfl) hP hS hf
  · replace hf := if_f c648 hf
    refine lv_iconst (v := 0) hx hb dL_law_651 (by decide) ?_
    exact absurd (Option.some.inj hf) (by decide)
def f_L_law_653 (L : Nat) (xs : Nat → Int32) (k18 : Int32 → PH → Option Int32) (x3 : Int32) (h : PH) : Option Int32 := bO (sg L xs (x3 + 1)) (fun v658 => bO (sg L xs (x3 + 2)) (fun v663 => bP (f_X8_needs v658 v663 h) (fun r664 h664 => bO (sg L xs (x3 + 1)) (fun v672 => bO (sg L xs (x3 + 2)) (fun v677 => bP (f_X9_needs v672 v677 h664) (fun r678 h678 => if r664 = r678 then (k18 (x3 + 5) h678) else (some 0)))))))
set_option maxHeartbeats 4000000 in
set_option maxRecDepth 100000 in
theorem w_L_law_653 {l : Launch} {G : GC} (hG : GOK G) {p : Program} {e : Env} {s : State} {m : MethodId} {below : List Frame} {meth : Method} {c : Code} {b L : Nat} {xs : Nat → Int32} (C : lw_At p s m meth c b L xs) (hbA : ¬ gA G b) (hA0 : ∀ q, gA G q → s.heap.size ≤ q) (hK : KW G s) (k18 : Int32 → PH → Option Int32) (hk18 : ∀ (x3 : Int32) (h : PH) (H : Heap) (locs : List Loc) (ls : Array Slot), lv_has ls 4 [(0, .ref b), (1, .ref (gB G 0)), (2, .ref (gB G 66)), (3, .int x3)] → WP G h H → SP G s H locs → k18 x3 h = some 1 → W p l e room_1 s m #[Value.ref b] below meth c H locs 98 12102 (lw_Z below #[Value.ref b] s) (F0 m 18 ls [])) : ∀ (x3 : Int32) (h : PH) (H : Heap) (locs : List Loc) (ls : Array Slot), lv_has ls 4 [(0, .ref b), (1, .ref (gB G 0)), (2, .ref (gB G 66)), (3, .int x3)] → WP G h H → SP G s H locs → f_L_law_653 L xs k18 x3 h = some 1 → W p l e room_1 s m #[Value.ref b] below meth c H locs 98 12102 (lw_Z below #[Value.ref b] s) (F0 m 653 ls []) := by
  obtain ⟨hx, hb, hr, hml, hown, hts0, hX, hbl, hlocks, -⟩ := id C
  have hts : ∀ w ∈ GW, w.before #[Value.ref b] s = true := fun w hw => hts0 w (gw_tbl w hw)
  intro x3 h H locs ls hl hP hS hf
  rw [f_L_law_653] at hf
  refine lv_aload_n hx hb dL_law_653 rfl (lv_at hl 1 rfl) ?_
  refine lv_aload_n hx hb dL_law_654 rfl (lv_at hl 0 rfl) ?_
  refine lv_iload_n hx hb dL_law_655 rfl (lv_at hl 3 rfl) ?_
  refine lv_iconst (v := 1) hx hb dL_law_656 (by decide) ?_
  refine lv_iadd hx hb dL_law_657 ?_
  obtain ⟨v658, ev658, hf⟩ := bO_s hf
  refine r_sld hx hb hX hbl hbA hS ev658 dL_law_658 ?_
  refine lv_aload_n hx hb dL_law_659 rfl (lv_at hl 0 rfl) ?_
  refine lv_iload_n hx hb dL_law_660 rfl (lv_at hl 3 rfl) ?_
  refine lv_iconst (v := 2) hx hb dL_law_661 (by decide) ?_
  refine lv_iadd hx hb dL_law_662 ?_
  obtain ⟨v663, ev663, hf⟩ := bO_s hf
  refine r_sld hx hb hX hbl hbA hS ev663 dL_law_663 ?_
  obtain ⟨r664, h664, er664, hf⟩ := bP_s hf
  refine r_callI (va_runV (As := [.int v658, .int v663]) (rest := []) ⟨hx, hb, hml, hown, hts⟩ (k_X8_needs l hG er664) (cwV 2 hts (gV wd740 wd741 wd742 wd73 wd743) rfl rfl rfl (by decide +kernel) ⟨Nat.le_of_ble_eq_true rfl, Nat.le_of_ble_eq_true rfl⟩) (r_pv hK hP hS (ltX8 rfl) (ceX8 rfl) rfl) rfl rfl hl.1 rfl (lv_room (Nat.le_of_ble_eq_true rfl)) dL_law_664 ⟨Nat.le_of_ble_eq_true rfl, Nat.le_of_ble_eq_true rfl⟩) hS (fun H locs hP hS => ?_)
  refine lv_aload_n hx hb dL_law_667 rfl (lv_at hl 2 rfl) ?_
  refine lv_aload_n hx hb dL_law_668 rfl (lv_at hl 0 rfl) ?_
  refine lv_iload_n hx hb dL_law_669 rfl (lv_at hl 3 rfl) ?_
  refine lv_iconst (v := 1) hx hb dL_law_670 (by decide) ?_
  refine lv_iadd hx hb dL_law_671 ?_
  obtain ⟨v672, ev672, hf⟩ := bO_s hf
  refine r_sld hx hb hX hbl hbA hS ev672 dL_law_672 ?_
  refine lv_aload_n hx hb dL_law_673 rfl (lv_at hl 0 rfl) ?_
  refine lv_iload_n hx hb dL_law_674 rfl (lv_at hl 3 rfl) ?_
  refine lv_iconst (v := 2) hx hb dL_law_675 (by decide) ?_
  refine lv_iadd hx hb dL_law_676 ?_
  obtain ⟨v677, ev677, hf⟩ := bO_s hf
  refine r_sld hx hb hX hbl hbA hS ev677 dL_law_677 ?_
  obtain ⟨r678, h678, er678, hf⟩ := bP_s hf
  refine r_callI (va_runV (As := [.int v672, .int v677]) (rest := [.int r664]) ⟨hx, hb, hml, hown, hts⟩ (k_X9_needs l hG er678) (cwV 2 hts (gV wd1394 wd1395 wd1396 wd82 wd1397) rfl rfl rfl (by decide +kernel) ⟨Nat.le_of_ble_eq_true rfl, Nat.le_of_ble_eq_true rfl⟩) (r_pv hK hP hS (ltX9 rfl) (ceX9 rfl) rfl) rfl rfl hl.1 rfl (lv_room (Nat.le_of_ble_eq_true rfl)) dL_law_678 ⟨Nat.le_of_ble_eq_true rfl, Nat.le_of_ble_eq_true rfl⟩) hS (fun H locs hP hS => ?_)
  refine lv_icmp_eq (tgt := 1584) hx hb dL_law_681 (by decide) (fun c681 => ?_) (fun c681 => ?_)
  · replace hf := if_t c681 hf
    refine lv_iinc (v := (x3 + 5)) (lv' := [(3, .int (x3 + 5)), (0, .ref b), (1, .ref (gB G 0)), (2, .ref (gB G 66))]) hx hb dL_law_1584 hl (k := 3) rfl rfl (by decide) rfl (fun ls hl => ?_)
    refine lv_goto (tgt := 18) hx hb dL_law_1587 (by decide) ?_
    exact hk18 (x3 + 5) h678 _ _ _ (lv_sub hl [1, 2, 3, 0] rfl) hP hS hf
  · replace hf := if_f c681 hf
    refine lv_iconst (v := 0) hx hb dL_law_684 (by decide) ?_
    exact absurd (Option.some.inj hf) (by decide)
def f_L_law_686 (L : Nat) (xs : Nat → Int32) (k18 : Int32 → PH → Option Int32) (x3 : Int32) (h : PH) : Option Int32 := bO (sg L xs (x3 + 1)) (fun v691 => bO (sg L xs (x3 + 2)) (fun v696 => bP (f_X8_carry v691 v696 h) (fun r697 h697 => bO (sg L xs (x3 + 1)) (fun v705 => bO (sg L xs (x3 + 2)) (fun v710 => bP (f_X9_carry v705 v710 h697) (fun r711 h711 => if r697 = r711 then (k18 (x3 + 5) h711) else (some 0)))))))
set_option maxHeartbeats 4000000 in
set_option maxRecDepth 100000 in
theorem w_L_law_686 {l : Launch} {G : GC} (hG : GOK G) {p : Program} {e : Env} {s : State} {m : MethodId} {below : List Frame} {meth : Method} {c : Code} {b L : Nat} {xs : Nat → Int32} (C : lw_At p s m meth c b L xs) (hbA : ¬ gA G b) (hA0 : ∀ q, gA G q → s.heap.size ≤ q) (hK : KW G s) (k18 : Int32 → PH → Option Int32) (hk18 : ∀ (x3 : Int32) (h : PH) (H : Heap) (locs : List Loc) (ls : Array Slot), lv_has ls 4 [(0, .ref b), (1, .ref (gB G 0)), (2, .ref (gB G 66)), (3, .int x3)] → WP G h H → SP G s H locs → k18 x3 h = some 1 → W p l e room_1 s m #[Value.ref b] below meth c H locs 98 12102 (lw_Z below #[Value.ref b] s) (F0 m 18 ls [])) : ∀ (x3 : Int32) (h : PH) (H : Heap) (locs : List Loc) (ls : Array Slot), lv_has ls 4 [(0, .ref b), (1, .ref (gB G 0)), (2, .ref (gB G 66)), (3, .int x3)] → WP G h H → SP G s H locs → f_L_law_686 L xs k18 x3 h = some 1 → W p l e room_1 s m #[Value.ref b] below meth c H locs 98 12102 (lw_Z below #[Value.ref b] s) (F0 m 686 ls []) := by
  obtain ⟨hx, hb, hr, hml, hown, hts0, hX, hbl, hlocks, -⟩ := id C
  have hts : ∀ w ∈ GW, w.before #[Value.ref b] s = true := fun w hw => hts0 w (gw_tbl w hw)
  intro x3 h H locs ls hl hP hS hf
  rw [f_L_law_686] at hf
  refine lv_aload_n hx hb dL_law_686 rfl (lv_at hl 1 rfl) ?_
  refine lv_aload_n hx hb dL_law_687 rfl (lv_at hl 0 rfl) ?_
  refine lv_iload_n hx hb dL_law_688 rfl (lv_at hl 3 rfl) ?_
  refine lv_iconst (v := 1) hx hb dL_law_689 (by decide) ?_
  refine lv_iadd hx hb dL_law_690 ?_
  obtain ⟨v691, ev691, hf⟩ := bO_s hf
  refine r_sld hx hb hX hbl hbA hS ev691 dL_law_691 ?_
  refine lv_aload_n hx hb dL_law_692 rfl (lv_at hl 0 rfl) ?_
  refine lv_iload_n hx hb dL_law_693 rfl (lv_at hl 3 rfl) ?_
  refine lv_iconst (v := 2) hx hb dL_law_694 (by decide) ?_
  refine lv_iadd hx hb dL_law_695 ?_
  obtain ⟨v696, ev696, hf⟩ := bO_s hf
  refine r_sld hx hb hX hbl hbA hS ev696 dL_law_696 ?_
  obtain ⟨r697, h697, er697, hf⟩ := bP_s hf
  refine r_callI (va_runV (As := [.int v691, .int v696]) (rest := []) ⟨hx, hb, hml, hown, hts⟩ (k_X8_carry l hG er697) (cwV 2 hts (gV wd768 wd769 wd770 wd73 wd771) rfl rfl rfl (by decide +kernel) ⟨Nat.le_of_ble_eq_true rfl, Nat.le_of_ble_eq_true rfl⟩) (r_pv hK hP hS (ltX8 rfl) (ceX8 rfl) rfl) rfl rfl hl.1 rfl (lv_room (Nat.le_of_ble_eq_true rfl)) dL_law_697 ⟨Nat.le_of_ble_eq_true rfl, Nat.le_of_ble_eq_true rfl⟩) hS (fun H locs hP hS => ?_)
  refine lv_aload_n hx hb dL_law_700 rfl (lv_at hl 2 rfl) ?_
  refine lv_aload_n hx hb dL_law_701 rfl (lv_at hl 0 rfl) ?_
  refine lv_iload_n hx hb dL_law_702 rfl (lv_at hl 3 rfl) ?_
  refine lv_iconst (v := 1) hx hb dL_law_703 (by decide) ?_
  refine lv_iadd hx hb dL_law_704 ?_
  obtain ⟨v705, ev705, hf⟩ := bO_s hf
  refine r_sld hx hb hX hbl hbA hS ev705 dL_law_705 ?_
  refine lv_aload_n hx hb dL_law_706 rfl (lv_at hl 0 rfl) ?_
  refine lv_iload_n hx hb dL_law_707 rfl (lv_at hl 3 rfl) ?_
  refine lv_iconst (v := 2) hx hb dL_law_708 (by decide) ?_
  refine lv_iadd hx hb dL_law_709 ?_
  obtain ⟨v710, ev710, hf⟩ := bO_s hf
  refine r_sld hx hb hX hbl hbA hS ev710 dL_law_710 ?_
  obtain ⟨r711, h711, er711, hf⟩ := bP_s hf
  refine r_callI (va_runV (As := [.int v705, .int v710]) (rest := [.int r697]) ⟨hx, hb, hml, hown, hts⟩ (k_X9_carry l hG er711) (cwV 2 hts (gV wd1406 wd1407 wd1408 wd82 wd1409) rfl rfl rfl (by decide +kernel) ⟨Nat.le_of_ble_eq_true rfl, Nat.le_of_ble_eq_true rfl⟩) (r_pv hK hP hS (ltX9 rfl) (ceX9 rfl) rfl) rfl rfl hl.1 rfl (lv_room (Nat.le_of_ble_eq_true rfl)) dL_law_711 ⟨Nat.le_of_ble_eq_true rfl, Nat.le_of_ble_eq_true rfl⟩) hS (fun H locs hP hS => ?_)
  refine lv_icmp_eq (tgt := 1584) hx hb dL_law_714 (by decide) (fun c714 => ?_) (fun c714 => ?_)
  · replace hf := if_t c714 hf
    refine lv_iinc (v := (x3 + 5)) (lv' := [(3, .int (x3 + 5)), (0, .ref b), (1, .ref (gB G 0)), (2, .ref (gB G 66))]) hx hb dL_law_1584 hl (k := 3) rfl rfl (by decide) rfl (fun ls hl => ?_)
    refine lv_goto (tgt := 18) hx hb dL_law_1587 (by decide) ?_
    exact hk18 (x3 + 5) h711 _ _ _ (lv_sub hl [1, 2, 3, 0] rfl) hP hS hf
  · replace hf := if_f c714 hf
    refine lv_iconst (v := 0) hx hb dL_law_717 (by decide) ?_
    exact absurd (Option.some.inj hf) (by decide)
def f_L_law_719 (L : Nat) (xs : Nat → Int32) (k18 : Int32 → PH → Option Int32) (x3 : Int32) (h : PH) : Option Int32 := bO (sg L xs (x3 + 1)) (fun v724 => bO (sg L xs (x3 + 2)) (fun v729 => bO (sg L xs (x3 + 3)) (fun v734 => bP (f_X8_apart v724 v729 v734 h) (fun r735 h735 => bO (sg L xs (x3 + 1)) (fun v743 => bO (sg L xs (x3 + 2)) (fun v748 => bO (sg L xs (x3 + 3)) (fun v753 => bP (f_X9_apart v743 v748 v753 h735) (fun r754 h754 => if r735 = r754 then (k18 (x3 + 5) h754) else (some 0)))))))))
set_option maxHeartbeats 4000000 in
set_option maxRecDepth 100000 in
theorem w_L_law_719 {l : Launch} {G : GC} (hG : GOK G) {p : Program} {e : Env} {s : State} {m : MethodId} {below : List Frame} {meth : Method} {c : Code} {b L : Nat} {xs : Nat → Int32} (C : lw_At p s m meth c b L xs) (hbA : ¬ gA G b) (hA0 : ∀ q, gA G q → s.heap.size ≤ q) (hK : KW G s) (k18 : Int32 → PH → Option Int32) (hk18 : ∀ (x3 : Int32) (h : PH) (H : Heap) (locs : List Loc) (ls : Array Slot), lv_has ls 4 [(0, .ref b), (1, .ref (gB G 0)), (2, .ref (gB G 66)), (3, .int x3)] → WP G h H → SP G s H locs → k18 x3 h = some 1 → W p l e room_1 s m #[Value.ref b] below meth c H locs 98 12102 (lw_Z below #[Value.ref b] s) (F0 m 18 ls [])) : ∀ (x3 : Int32) (h : PH) (H : Heap) (locs : List Loc) (ls : Array Slot), lv_has ls 4 [(0, .ref b), (1, .ref (gB G 0)), (2, .ref (gB G 66)), (3, .int x3)] → WP G h H → SP G s H locs → f_L_law_719 L xs k18 x3 h = some 1 → W p l e room_1 s m #[Value.ref b] below meth c H locs 98 12102 (lw_Z below #[Value.ref b] s) (F0 m 719 ls []) := by
  obtain ⟨hx, hb, hr, hml, hown, hts0, hX, hbl, hlocks, -⟩ := id C
  have hts : ∀ w ∈ GW, w.before #[Value.ref b] s = true := fun w hw => hts0 w (gw_tbl w hw)
  intro x3 h H locs ls hl hP hS hf
  rw [f_L_law_719] at hf
  refine lv_aload_n hx hb dL_law_719 rfl (lv_at hl 1 rfl) ?_
  refine lv_aload_n hx hb dL_law_720 rfl (lv_at hl 0 rfl) ?_
  refine lv_iload_n hx hb dL_law_721 rfl (lv_at hl 3 rfl) ?_
  refine lv_iconst (v := 1) hx hb dL_law_722 (by decide) ?_
  refine lv_iadd hx hb dL_law_723 ?_
  obtain ⟨v724, ev724, hf⟩ := bO_s hf
  refine r_sld hx hb hX hbl hbA hS ev724 dL_law_724 ?_
  refine lv_aload_n hx hb dL_law_725 rfl (lv_at hl 0 rfl) ?_
  refine lv_iload_n hx hb dL_law_726 rfl (lv_at hl 3 rfl) ?_
  refine lv_iconst (v := 2) hx hb dL_law_727 (by decide) ?_
  refine lv_iadd hx hb dL_law_728 ?_
  obtain ⟨v729, ev729, hf⟩ := bO_s hf
  refine r_sld hx hb hX hbl hbA hS ev729 dL_law_729 ?_
  refine lv_aload_n hx hb dL_law_730 rfl (lv_at hl 0 rfl) ?_
  refine lv_iload_n hx hb dL_law_731 rfl (lv_at hl 3 rfl) ?_
  refine lv_iconst (v := 3) hx hb dL_law_732 (by decide) ?_
  refine lv_iadd hx hb dL_law_733 ?_
  obtain ⟨v734, ev734, hf⟩ := bO_s hf
  refine r_sld hx hb hX hbl hbA hS ev734 dL_law_734 ?_
  obtain ⟨r735, h735, er735, hf⟩ := bP_s hf
  refine r_callI (va_runV (As := [.int v724, .int v729, .int v734]) (rest := []) ⟨hx, hb, hml, hown, hts⟩ (k_X8_apart l hG er735) (cwV 3 hts (gV wd772 wd773 wd774 wd73 wd775) rfl rfl rfl (by decide +kernel) ⟨Nat.le_of_ble_eq_true rfl, Nat.le_of_ble_eq_true rfl⟩) (r_pv hK hP hS (ltX8 rfl) (ceX8 rfl) rfl) rfl rfl hl.1 rfl (lv_room (Nat.le_of_ble_eq_true rfl)) dL_law_735 ⟨Nat.le_of_ble_eq_true rfl, Nat.le_of_ble_eq_true rfl⟩) hS (fun H locs hP hS => ?_)
  refine lv_aload_n hx hb dL_law_738 rfl (lv_at hl 2 rfl) ?_
  refine lv_aload_n hx hb dL_law_739 rfl (lv_at hl 0 rfl) ?_
  refine lv_iload_n hx hb dL_law_740 rfl (lv_at hl 3 rfl) ?_
  refine lv_iconst (v := 1) hx hb dL_law_741 (by decide) ?_
  refine lv_iadd hx hb dL_law_742 ?_
  obtain ⟨v743, ev743, hf⟩ := bO_s hf
  refine r_sld hx hb hX hbl hbA hS ev743 dL_law_743 ?_
  refine lv_aload_n hx hb dL_law_744 rfl (lv_at hl 0 rfl) ?_
  refine lv_iload_n hx hb dL_law_745 rfl (lv_at hl 3 rfl) ?_
  refine lv_iconst (v := 2) hx hb dL_law_746 (by decide) ?_
  refine lv_iadd hx hb dL_law_747 ?_
  obtain ⟨v748, ev748, hf⟩ := bO_s hf
  refine r_sld hx hb hX hbl hbA hS ev748 dL_law_748 ?_
  refine lv_aload_n hx hb dL_law_749 rfl (lv_at hl 0 rfl) ?_
  refine lv_iload_n hx hb dL_law_750 rfl (lv_at hl 3 rfl) ?_
  refine lv_iconst (v := 3) hx hb dL_law_751 (by decide) ?_
  refine lv_iadd hx hb dL_law_752 ?_
  obtain ⟨v753, ev753, hf⟩ := bO_s hf
  refine r_sld hx hb hX hbl hbA hS ev753 dL_law_753 ?_
  obtain ⟨r754, h754, er754, hf⟩ := bP_s hf
  refine r_callI (va_runV (As := [.int v743, .int v748, .int v753]) (rest := [.int r735]) ⟨hx, hb, hml, hown, hts⟩ (k_X9_apart l hG er754) (cwV 3 hts (gV wd1410 wd1411 wd1412 wd82 wd1413) rfl rfl rfl (by decide +kernel) ⟨Nat.le_of_ble_eq_true rfl, Nat.le_of_ble_eq_true rfl⟩) (r_pv hK hP hS (ltX9 rfl) (ceX9 rfl) rfl) rfl rfl hl.1 rfl (lv_room (Nat.le_of_ble_eq_true rfl)) dL_law_754 ⟨Nat.le_of_ble_eq_true rfl, Nat.le_of_ble_eq_true rfl⟩) hS (fun H locs hP hS => ?_)
  refine lv_icmp_eq (tgt := 1584) hx hb dL_law_757 (by decide) (fun c757 => ?_) (fun c757 => ?_)
  · replace hf := if_t c757 hf
    refine lv_iinc (v := (x3 + 5)) (lv' := [(3, .int (x3 + 5)), (0, .ref b), (1, .ref (gB G 0)), (2, .ref (gB G 66))]) hx hb dL_law_1584 hl (k := 3) rfl rfl (by decide) rfl (fun ls hl => ?_)
    refine lv_goto (tgt := 18) hx hb dL_law_1587 (by decide) ?_
    exact hk18 (x3 + 5) h754 _ _ _ (lv_sub hl [1, 2, 3, 0] rfl) hP hS hf
  · replace hf := if_f c757 hf
    refine lv_iconst (v := 0) hx hb dL_law_760 (by decide) ?_
    exact absurd (Option.some.inj hf) (by decide)
def f_L_law_762 (L : Nat) (xs : Nat → Int32) (k18 : Int32 → PH → Option Int32) (x3 : Int32) (h : PH) : Option Int32 := bO (sg L xs (x3 + 1)) (fun v767 => bO (sg L xs (x3 + 2)) (fun v772 => bP (f_X8_cost v767 v772 h) (fun r773 h773 => bO (sg L xs (x3 + 1)) (fun v781 => bO (sg L xs (x3 + 2)) (fun v786 => bP (f_X9_cost v781 v786 h773) (fun r787 h787 => if r773 = r787 then (k18 (x3 + 5) h787) else (some 0)))))))
set_option maxHeartbeats 4000000 in
set_option maxRecDepth 100000 in
theorem w_L_law_762 {l : Launch} {G : GC} (hG : GOK G) {p : Program} {e : Env} {s : State} {m : MethodId} {below : List Frame} {meth : Method} {c : Code} {b L : Nat} {xs : Nat → Int32} (C : lw_At p s m meth c b L xs) (hbA : ¬ gA G b) (hA0 : ∀ q, gA G q → s.heap.size ≤ q) (hK : KW G s) (k18 : Int32 → PH → Option Int32) (hk18 : ∀ (x3 : Int32) (h : PH) (H : Heap) (locs : List Loc) (ls : Array Slot), lv_has ls 4 [(0, .ref b), (1, .ref (gB G 0)), (2, .ref (gB G 66)), (3, .int x3)] → WP G h H → SP G s H locs → k18 x3 h = some 1 → W p l e room_1 s m #[Value.ref b] below meth c H locs 98 12102 (lw_Z below #[Value.ref b] s) (F0 m 18 ls [])) : ∀ (x3 : Int32) (h : PH) (H : Heap) (locs : List Loc) (ls : Array Slot), lv_has ls 4 [(0, .ref b), (1, .ref (gB G 0)), (2, .ref (gB G 66)), (3, .int x3)] → WP G h H → SP G s H locs → f_L_law_762 L xs k18 x3 h = some 1 → W p l e room_1 s m #[Value.ref b] below meth c H locs 98 12102 (lw_Z below #[Value.ref b] s) (F0 m 762 ls []) := by
  obtain ⟨hx, hb, hr, hml, hown, hts0, hX, hbl, hlocks, -⟩ := id C
  have hts : ∀ w ∈ GW, w.before #[Value.ref b] s = true := fun w hw => hts0 w (gw_tbl w hw)
  intro x3 h H locs ls hl hP hS hf
  rw [f_L_law_762] at hf
  refine lv_aload_n hx hb dL_law_762 rfl (lv_at hl 1 rfl) ?_
  refine lv_aload_n hx hb dL_law_763 rfl (lv_at hl 0 rfl) ?_
  refine lv_iload_n hx hb dL_law_764 rfl (lv_at hl 3 rfl) ?_
  refine lv_iconst (v := 1) hx hb dL_law_765 (by decide) ?_
  refine lv_iadd hx hb dL_law_766 ?_
  obtain ⟨v767, ev767, hf⟩ := bO_s hf
  refine r_sld hx hb hX hbl hbA hS ev767 dL_law_767 ?_
  refine lv_aload_n hx hb dL_law_768 rfl (lv_at hl 0 rfl) ?_
  refine lv_iload_n hx hb dL_law_769 rfl (lv_at hl 3 rfl) ?_
  refine lv_iconst (v := 2) hx hb dL_law_770 (by decide) ?_
  refine lv_iadd hx hb dL_law_771 ?_
  obtain ⟨v772, ev772, hf⟩ := bO_s hf
  refine r_sld hx hb hX hbl hbA hS ev772 dL_law_772 ?_
  obtain ⟨r773, h773, er773, hf⟩ := bP_s hf
  refine r_callI (va_runV (As := [.int v767, .int v772]) (rest := []) ⟨hx, hb, hml, hown, hts⟩ (k_X8_cost l hG er773) (cwV 2 hts (gV wd784 wd785 wd786 wd73 wd787) rfl rfl rfl (by decide +kernel) ⟨Nat.le_of_ble_eq_true rfl, Nat.le_of_ble_eq_true rfl⟩) (r_pv hK hP hS (ltX8 rfl) (ceX8 rfl) rfl) rfl rfl hl.1 rfl (lv_room (Nat.le_of_ble_eq_true rfl)) dL_law_773 ⟨Nat.le_of_ble_eq_true rfl, Nat.le_of_ble_eq_true rfl⟩) hS (fun H locs hP hS => ?_)
  refine lv_aload_n hx hb dL_law_776 rfl (lv_at hl 2 rfl) ?_
  refine lv_aload_n hx hb dL_law_777 rfl (lv_at hl 0 rfl) ?_
  refine lv_iload_n hx hb dL_law_778 rfl (lv_at hl 3 rfl) ?_
  refine lv_iconst (v := 1) hx hb dL_law_779 (by decide) ?_
  refine lv_iadd hx hb dL_law_780 ?_
  obtain ⟨v781, ev781, hf⟩ := bO_s hf
  refine r_sld hx hb hX hbl hbA hS ev781 dL_law_781 ?_
  refine lv_aload_n hx hb dL_law_782 rfl (lv_at hl 0 rfl) ?_
  refine lv_iload_n hx hb dL_law_783 rfl (lv_at hl 3 rfl) ?_
  refine lv_iconst (v := 2) hx hb dL_law_784 (by decide) ?_
  refine lv_iadd hx hb dL_law_785 ?_
  obtain ⟨v786, ev786, hf⟩ := bO_s hf
  refine r_sld hx hb hX hbl hbA hS ev786 dL_law_786 ?_
  obtain ⟨r787, h787, er787, hf⟩ := bP_s hf
  refine r_callI (va_runV (As := [.int v781, .int v786]) (rest := [.int r773]) ⟨hx, hb, hml, hown, hts⟩ (k_X9_cost l hG er787) (cwV 2 hts (gV wd1418 wd1419 wd1420 wd82 wd1421) rfl rfl rfl (by decide +kernel) ⟨Nat.le_of_ble_eq_true rfl, Nat.le_of_ble_eq_true rfl⟩) (r_pv hK hP hS (ltX9 rfl) (ceX9 rfl) rfl) rfl rfl hl.1 rfl (lv_room (Nat.le_of_ble_eq_true rfl)) dL_law_787 ⟨Nat.le_of_ble_eq_true rfl, Nat.le_of_ble_eq_true rfl⟩) hS (fun H locs hP hS => ?_)
  refine lv_icmp_eq (tgt := 1584) hx hb dL_law_790 (by decide) (fun c790 => ?_) (fun c790 => ?_)
  · replace hf := if_t c790 hf
    refine lv_iinc (v := (x3 + 5)) (lv' := [(3, .int (x3 + 5)), (0, .ref b), (1, .ref (gB G 0)), (2, .ref (gB G 66))]) hx hb dL_law_1584 hl (k := 3) rfl rfl (by decide) rfl (fun ls hl => ?_)
    refine lv_goto (tgt := 18) hx hb dL_law_1587 (by decide) ?_
    exact hk18 (x3 + 5) h787 _ _ _ (lv_sub hl [1, 2, 3, 0] rfl) hP hS hf
  · replace hf := if_f c790 hf
    refine lv_iconst (v := 0) hx hb dL_law_793 (by decide) ?_
    exact absurd (Option.some.inj hf) (by decide)
def f_L_law_795 (L : Nat) (xs : Nat → Int32) (k18 : Int32 → PH → Option Int32) (x3 : Int32) (h : PH) : Option Int32 := bO (sg L xs (x3 + 1)) (fun v800 => bO (sg L xs (x3 + 2)) (fun v805 => bO (sg L xs (x3 + 3)) (fun v810 => bO (sg L xs (x3 + 4)) (fun v815 => bP (f_X8_best v800 v805 v810 v815 h) (fun r816 h816 => bO (sg L xs (x3 + 1)) (fun v824 => bO (sg L xs (x3 + 2)) (fun v829 => bO (sg L xs (x3 + 3)) (fun v834 => bO (sg L xs (x3 + 4)) (fun v839 => bP (f_X9_best v824 v829 v834 v839 h816) (fun r840 h840 => if r816 = r840 then (k18 (x3 + 5) h840) else (some 0)))))))))))
set_option maxHeartbeats 4000000 in
set_option maxRecDepth 100000 in
theorem w_L_law_795 {l : Launch} {G : GC} (hG : GOK G) {p : Program} {e : Env} {s : State} {m : MethodId} {below : List Frame} {meth : Method} {c : Code} {b L : Nat} {xs : Nat → Int32} (C : lw_At p s m meth c b L xs) (hbA : ¬ gA G b) (hA0 : ∀ q, gA G q → s.heap.size ≤ q) (hK : KW G s) (k18 : Int32 → PH → Option Int32) (hk18 : ∀ (x3 : Int32) (h : PH) (H : Heap) (locs : List Loc) (ls : Array Slot), lv_has ls 4 [(0, .ref b), (1, .ref (gB G 0)), (2, .ref (gB G 66)), (3, .int x3)] → WP G h H → SP G s H locs → k18 x3 h = some 1 → W p l e room_1 s m #[Value.ref b] below meth c H locs 98 12102 (lw_Z below #[Value.ref b] s) (F0 m 18 ls [])) : ∀ (x3 : Int32) (h : PH) (H : Heap) (locs : List Loc) (ls : Array Slot), lv_has ls 4 [(0, .ref b), (1, .ref (gB G 0)), (2, .ref (gB G 66)), (3, .int x3)] → WP G h H → SP G s H locs → f_L_law_795 L xs k18 x3 h = some 1 → W p l e room_1 s m #[Value.ref b] below meth c H locs 98 12102 (lw_Z below #[Value.ref b] s) (F0 m 795 ls []) := by
  obtain ⟨hx, hb, hr, hml, hown, hts0, hX, hbl, hlocks, -⟩ := id C
  have hts : ∀ w ∈ GW, w.before #[Value.ref b] s = true := fun w hw => hts0 w (gw_tbl w hw)
  intro x3 h H locs ls hl hP hS hf
  rw [f_L_law_795] at hf
  refine lv_aload_n hx hb dL_law_795 rfl (lv_at hl 1 rfl) ?_
  refine lv_aload_n hx hb dL_law_796 rfl (lv_at hl 0 rfl) ?_
  refine lv_iload_n hx hb dL_law_797 rfl (lv_at hl 3 rfl) ?_
  refine lv_iconst (v := 1) hx hb dL_law_798 (by decide) ?_
  refine lv_iadd hx hb dL_law_799 ?_
  obtain ⟨v800, ev800, hf⟩ := bO_s hf
  refine r_sld hx hb hX hbl hbA hS ev800 dL_law_800 ?_
  refine lv_aload_n hx hb dL_law_801 rfl (lv_at hl 0 rfl) ?_
  refine lv_iload_n hx hb dL_law_802 rfl (lv_at hl 3 rfl) ?_
  refine lv_iconst (v := 2) hx hb dL_law_803 (by decide) ?_
  refine lv_iadd hx hb dL_law_804 ?_
  obtain ⟨v805, ev805, hf⟩ := bO_s hf
  refine r_sld hx hb hX hbl hbA hS ev805 dL_law_805 ?_
  refine lv_aload_n hx hb dL_law_806 rfl (lv_at hl 0 rfl) ?_
  refine lv_iload_n hx hb dL_law_807 rfl (lv_at hl 3 rfl) ?_
  refine lv_iconst (v := 3) hx hb dL_law_808 (by decide) ?_
  refine lv_iadd hx hb dL_law_809 ?_
  obtain ⟨v810, ev810, hf⟩ := bO_s hf
  refine r_sld hx hb hX hbl hbA hS ev810 dL_law_810 ?_
  refine lv_aload_n hx hb dL_law_811 rfl (lv_at hl 0 rfl) ?_
  refine lv_iload_n hx hb dL_law_812 rfl (lv_at hl 3 rfl) ?_
  refine lv_iconst (v := 4) hx hb dL_law_813 (by decide) ?_
  refine lv_iadd hx hb dL_law_814 ?_
  obtain ⟨v815, ev815, hf⟩ := bO_s hf
  refine r_sld hx hb hX hbl hbA hS ev815 dL_law_815 ?_
  obtain ⟨r816, h816, er816, hf⟩ := bP_s hf
  refine r_callI (va_runV (As := [.int v800, .int v805, .int v810, .int v815]) (rest := []) ⟨hx, hb, hml, hown, hts⟩ (k_X8_best l hG er816) (cwV 4 hts (gV wd809 wd810 wd811 wd73 wd812) rfl rfl rfl (by decide +kernel) ⟨Nat.le_of_ble_eq_true rfl, Nat.le_of_ble_eq_true rfl⟩) (r_pv hK hP hS (ltX8 rfl) (ceX8 rfl) rfl) rfl rfl hl.1 rfl (lv_room (Nat.le_of_ble_eq_true rfl)) dL_law_816 ⟨Nat.le_of_ble_eq_true rfl, Nat.le_of_ble_eq_true rfl⟩) hS (fun H locs hP hS => ?_)
  refine lv_aload_n hx hb dL_law_819 rfl (lv_at hl 2 rfl) ?_
  refine lv_aload_n hx hb dL_law_820 rfl (lv_at hl 0 rfl) ?_
  refine lv_iload_n hx hb dL_law_821 rfl (lv_at hl 3 rfl) ?_
  refine lv_iconst (v := 1) hx hb dL_law_822 (by decide) ?_
  refine lv_iadd hx hb dL_law_823 ?_
  obtain ⟨v824, ev824, hf⟩ := bO_s hf
  refine r_sld hx hb hX hbl hbA hS ev824 dL_law_824 ?_
  refine lv_aload_n hx hb dL_law_825 rfl (lv_at hl 0 rfl) ?_
  refine lv_iload_n hx hb dL_law_826 rfl (lv_at hl 3 rfl) ?_
  refine lv_iconst (v := 2) hx hb dL_law_827 (by decide) ?_
  refine lv_iadd hx hb dL_law_828 ?_
  obtain ⟨v829, ev829, hf⟩ := bO_s hf
  refine r_sld hx hb hX hbl hbA hS ev829 dL_law_829 ?_
  refine lv_aload_n hx hb dL_law_830 rfl (lv_at hl 0 rfl) ?_
  refine lv_iload_n hx hb dL_law_831 rfl (lv_at hl 3 rfl) ?_
  refine lv_iconst (v := 3) hx hb dL_law_832 (by decide) ?_
  refine lv_iadd hx hb dL_law_833 ?_
  obtain ⟨v834, ev834, hf⟩ := bO_s hf
  refine r_sld hx hb hX hbl hbA hS ev834 dL_law_834 ?_
  refine lv_aload_n hx hb dL_law_835 rfl (lv_at hl 0 rfl) ?_
  refine lv_iload_n hx hb dL_law_836 rfl (lv_at hl 3 rfl) ?_
  refine lv_iconst (v := 4) hx hb dL_law_837 (by decide) ?_
  refine lv_iadd hx hb dL_law_838 ?_
  obtain ⟨v839, ev839, hf⟩ := bO_s hf
  refine r_sld hx hb hX hbl hbA hS ev839 dL_law_839 ?_
  obtain ⟨r840, h840, er840, hf⟩ := bP_s hf
  refine r_callI (va_runV (As := [.int v824, .int v829, .int v834, .int v839]) (rest := [.int r816]) ⟨hx, hb, hml, hown, hts⟩ (k_X9_best l hG er840) (cwV 4 hts (gV wd1430 wd1431 wd1432 wd82 wd1433) rfl rfl rfl (by decide +kernel) ⟨Nat.le_of_ble_eq_true rfl, Nat.le_of_ble_eq_true rfl⟩) (r_pv hK hP hS (ltX9 rfl) (ceX9 rfl) rfl) rfl rfl hl.1 rfl (lv_room (Nat.le_of_ble_eq_true rfl)) dL_law_840 ⟨Nat.le_of_ble_eq_true rfl, Nat.le_of_ble_eq_true rfl⟩) hS (fun H locs hP hS => ?_)
  refine lv_icmp_eq (tgt := 1584) hx hb dL_law_843 (by decide) (fun c843 => ?_) (fun c843 => ?_)
  · replace hf := if_t c843 hf
    refine lv_iinc (v := (x3 + 5)) (lv' := [(3, .int (x3 + 5)), (0, .ref b), (1, .ref (gB G 0)), (2, .ref (gB G 66))]) hx hb dL_law_1584 hl (k := 3) rfl rfl (by decide) rfl (fun ls hl => ?_)
    refine lv_goto (tgt := 18) hx hb dL_law_1587 (by decide) ?_
    exact hk18 (x3 + 5) h840 _ _ _ (lv_sub hl [1, 2, 3, 0] rfl) hP hS hf
  · replace hf := if_f c843 hf
    refine lv_iconst (v := 0) hx hb dL_law_846 (by decide) ?_
    exact absurd (Option.some.inj hf) (by decide)
def f_L_law_848 (L : Nat) (xs : Nat → Int32) (k18 : Int32 → PH → Option Int32) (x3 : Int32) (h : PH) : Option Int32 := bO (sg L xs (x3 + 1)) (fun v853 => bO (sg L xs (x3 + 2)) (fun v858 => bP (f_X8_later v853 v858 h) (fun r859 h859 => bO (sg L xs (x3 + 1)) (fun v867 => bO (sg L xs (x3 + 2)) (fun v872 => bP (f_X9_later v867 v872 h859) (fun r873 h873 => if r859 = r873 then (k18 (x3 + 5) h873) else (some 0)))))))
set_option maxHeartbeats 4000000 in
set_option maxRecDepth 100000 in
theorem w_L_law_848 {l : Launch} {G : GC} (hG : GOK G) {p : Program} {e : Env} {s : State} {m : MethodId} {below : List Frame} {meth : Method} {c : Code} {b L : Nat} {xs : Nat → Int32} (C : lw_At p s m meth c b L xs) (hbA : ¬ gA G b) (hA0 : ∀ q, gA G q → s.heap.size ≤ q) (hK : KW G s) (k18 : Int32 → PH → Option Int32) (hk18 : ∀ (x3 : Int32) (h : PH) (H : Heap) (locs : List Loc) (ls : Array Slot), lv_has ls 4 [(0, .ref b), (1, .ref (gB G 0)), (2, .ref (gB G 66)), (3, .int x3)] → WP G h H → SP G s H locs → k18 x3 h = some 1 → W p l e room_1 s m #[Value.ref b] below meth c H locs 98 12102 (lw_Z below #[Value.ref b] s) (F0 m 18 ls [])) : ∀ (x3 : Int32) (h : PH) (H : Heap) (locs : List Loc) (ls : Array Slot), lv_has ls 4 [(0, .ref b), (1, .ref (gB G 0)), (2, .ref (gB G 66)), (3, .int x3)] → WP G h H → SP G s H locs → f_L_law_848 L xs k18 x3 h = some 1 → W p l e room_1 s m #[Value.ref b] below meth c H locs 98 12102 (lw_Z below #[Value.ref b] s) (F0 m 848 ls []) := by
  obtain ⟨hx, hb, hr, hml, hown, hts0, hX, hbl, hlocks, -⟩ := id C
  have hts : ∀ w ∈ GW, w.before #[Value.ref b] s = true := fun w hw => hts0 w (gw_tbl w hw)
  intro x3 h H locs ls hl hP hS hf
  rw [f_L_law_848] at hf
  refine lv_aload_n hx hb dL_law_848 rfl (lv_at hl 1 rfl) ?_
  refine lv_aload_n hx hb dL_law_849 rfl (lv_at hl 0 rfl) ?_
  refine lv_iload_n hx hb dL_law_850 rfl (lv_at hl 3 rfl) ?_
  refine lv_iconst (v := 1) hx hb dL_law_851 (by decide) ?_
  refine lv_iadd hx hb dL_law_852 ?_
  obtain ⟨v853, ev853, hf⟩ := bO_s hf
  refine r_sld hx hb hX hbl hbA hS ev853 dL_law_853 ?_
  refine lv_aload_n hx hb dL_law_854 rfl (lv_at hl 0 rfl) ?_
  refine lv_iload_n hx hb dL_law_855 rfl (lv_at hl 3 rfl) ?_
  refine lv_iconst (v := 2) hx hb dL_law_856 (by decide) ?_
  refine lv_iadd hx hb dL_law_857 ?_
  obtain ⟨v858, ev858, hf⟩ := bO_s hf
  refine r_sld hx hb hX hbl hbA hS ev858 dL_law_858 ?_
  obtain ⟨r859, h859, er859, hf⟩ := bP_s hf
  refine r_callI (va_runV (As := [.int v853, .int v858]) (rest := []) ⟨hx, hb, hml, hown, hts⟩ (k_X8_later l hG er859) (cwV 2 hts (gV wd830 wd831 wd832 wd73 wd833) rfl rfl rfl (by decide +kernel) ⟨Nat.le_of_ble_eq_true rfl, Nat.le_of_ble_eq_true rfl⟩) (r_pv hK hP hS (ltX8 rfl) (ceX8 rfl) rfl) rfl rfl hl.1 rfl (lv_room (Nat.le_of_ble_eq_true rfl)) dL_law_859 ⟨Nat.le_of_ble_eq_true rfl, Nat.le_of_ble_eq_true rfl⟩) hS (fun H locs hP hS => ?_)
  refine lv_aload_n hx hb dL_law_862 rfl (lv_at hl 2 rfl) ?_
  refine lv_aload_n hx hb dL_law_863 rfl (lv_at hl 0 rfl) ?_
  refine lv_iload_n hx hb dL_law_864 rfl (lv_at hl 3 rfl) ?_
  refine lv_iconst (v := 1) hx hb dL_law_865 (by decide) ?_
  refine lv_iadd hx hb dL_law_866 ?_
  obtain ⟨v867, ev867, hf⟩ := bO_s hf
  refine r_sld hx hb hX hbl hbA hS ev867 dL_law_867 ?_
  refine lv_aload_n hx hb dL_law_868 rfl (lv_at hl 0 rfl) ?_
  refine lv_iload_n hx hb dL_law_869 rfl (lv_at hl 3 rfl) ?_
  refine lv_iconst (v := 2) hx hb dL_law_870 (by decide) ?_
  refine lv_iadd hx hb dL_law_871 ?_
  obtain ⟨v872, ev872, hf⟩ := bO_s hf
  refine r_sld hx hb hX hbl hbA hS ev872 dL_law_872 ?_
  obtain ⟨r873, h873, er873, hf⟩ := bP_s hf
  refine r_callI (va_runV (As := [.int v867, .int v872]) (rest := [.int r859]) ⟨hx, hb, hml, hown, hts⟩ (k_X9_later l hG er873) (cwV 2 hts (gV wd1441 wd1442 wd1443 wd82 wd1444) rfl rfl rfl (by decide +kernel) ⟨Nat.le_of_ble_eq_true rfl, Nat.le_of_ble_eq_true rfl⟩) (r_pv hK hP hS (ltX9 rfl) (ceX9 rfl) rfl) rfl rfl hl.1 rfl (lv_room (Nat.le_of_ble_eq_true rfl)) dL_law_873 ⟨Nat.le_of_ble_eq_true rfl, Nat.le_of_ble_eq_true rfl⟩) hS (fun H locs hP hS => ?_)
  refine lv_icmp_eq (tgt := 1584) hx hb dL_law_876 (by decide) (fun c876 => ?_) (fun c876 => ?_)
  · replace hf := if_t c876 hf
    refine lv_iinc (v := (x3 + 5)) (lv' := [(3, .int (x3 + 5)), (0, .ref b), (1, .ref (gB G 0)), (2, .ref (gB G 66))]) hx hb dL_law_1584 hl (k := 3) rfl rfl (by decide) rfl (fun ls hl => ?_)
    refine lv_goto (tgt := 18) hx hb dL_law_1587 (by decide) ?_
    exact hk18 (x3 + 5) h873 _ _ _ (lv_sub hl [1, 2, 3, 0] rfl) hP hS hf
  · replace hf := if_f c876 hf
    refine lv_iconst (v := 0) hx hb dL_law_879 (by decide) ?_
    exact absurd (Option.some.inj hf) (by decide)
def f_L_law_881 (L : Nat) (xs : Nat → Int32) (k18 : Int32 → PH → Option Int32) (x3 : Int32) (h : PH) : Option Int32 := bO (sg L xs (x3 + 1)) (fun v886 => bO (sg L xs (x3 + 2)) (fun v891 => bP (f_X8_release v886 v891 h) (fun r892 h892 => bO (sg L xs (x3 + 1)) (fun v900 => bO (sg L xs (x3 + 2)) (fun v905 => bP (f_X9_release v900 v905 h892) (fun r906 h906 => if r892 = r906 then (k18 (x3 + 5) h906) else (some 0)))))))
set_option maxHeartbeats 4000000 in
set_option maxRecDepth 100000 in
theorem w_L_law_881 {l : Launch} {G : GC} (hG : GOK G) {p : Program} {e : Env} {s : State} {m : MethodId} {below : List Frame} {meth : Method} {c : Code} {b L : Nat} {xs : Nat → Int32} (C : lw_At p s m meth c b L xs) (hbA : ¬ gA G b) (hA0 : ∀ q, gA G q → s.heap.size ≤ q) (hK : KW G s) (k18 : Int32 → PH → Option Int32) (hk18 : ∀ (x3 : Int32) (h : PH) (H : Heap) (locs : List Loc) (ls : Array Slot), lv_has ls 4 [(0, .ref b), (1, .ref (gB G 0)), (2, .ref (gB G 66)), (3, .int x3)] → WP G h H → SP G s H locs → k18 x3 h = some 1 → W p l e room_1 s m #[Value.ref b] below meth c H locs 98 12102 (lw_Z below #[Value.ref b] s) (F0 m 18 ls [])) : ∀ (x3 : Int32) (h : PH) (H : Heap) (locs : List Loc) (ls : Array Slot), lv_has ls 4 [(0, .ref b), (1, .ref (gB G 0)), (2, .ref (gB G 66)), (3, .int x3)] → WP G h H → SP G s H locs → f_L_law_881 L xs k18 x3 h = some 1 → W p l e room_1 s m #[Value.ref b] below meth c H locs 98 12102 (lw_Z below #[Value.ref b] s) (F0 m 881 ls []) := by
  obtain ⟨hx, hb, hr, hml, hown, hts0, hX, hbl, hlocks, -⟩ := id C
  have hts : ∀ w ∈ GW, w.before #[Value.ref b] s = true := fun w hw => hts0 w (gw_tbl w hw)
  intro x3 h H locs ls hl hP hS hf
  rw [f_L_law_881] at hf
  refine lv_aload_n hx hb dL_law_881 rfl (lv_at hl 1 rfl) ?_
  refine lv_aload_n hx hb dL_law_882 rfl (lv_at hl 0 rfl) ?_
  refine lv_iload_n hx hb dL_law_883 rfl (lv_at hl 3 rfl) ?_
  refine lv_iconst (v := 1) hx hb dL_law_884 (by decide) ?_
  refine lv_iadd hx hb dL_law_885 ?_
  obtain ⟨v886, ev886, hf⟩ := bO_s hf
  refine r_sld hx hb hX hbl hbA hS ev886 dL_law_886 ?_
  refine lv_aload_n hx hb dL_law_887 rfl (lv_at hl 0 rfl) ?_
  refine lv_iload_n hx hb dL_law_888 rfl (lv_at hl 3 rfl) ?_
  refine lv_iconst (v := 2) hx hb dL_law_889 (by decide) ?_
  refine lv_iadd hx hb dL_law_890 ?_
  obtain ⟨v891, ev891, hf⟩ := bO_s hf
  refine r_sld hx hb hX hbl hbA hS ev891 dL_law_891 ?_
  obtain ⟨r892, h892, er892, hf⟩ := bP_s hf
  refine r_callI (va_runV (As := [.int v886, .int v891]) (rest := []) ⟨hx, hb, hml, hown, hts⟩ (k_X8_release l hG er892) (cwV 2 hts (gV wd843 wd844 wd845 wd73 wd846) rfl rfl rfl (by decide +kernel) ⟨Nat.le_of_ble_eq_true rfl, Nat.le_of_ble_eq_true rfl⟩) (r_pv hK hP hS (ltX8 rfl) (ceX8 rfl) rfl) rfl rfl hl.1 rfl (lv_room (Nat.le_of_ble_eq_true rfl)) dL_law_892 ⟨Nat.le_of_ble_eq_true rfl, Nat.le_of_ble_eq_true rfl⟩) hS (fun H locs hP hS => ?_)
  refine lv_aload_n hx hb dL_law_895 rfl (lv_at hl 2 rfl) ?_
  refine lv_aload_n hx hb dL_law_896 rfl (lv_at hl 0 rfl) ?_
  refine lv_iload_n hx hb dL_law_897 rfl (lv_at hl 3 rfl) ?_
  refine lv_iconst (v := 1) hx hb dL_law_898 (by decide) ?_
  refine lv_iadd hx hb dL_law_899 ?_
  obtain ⟨v900, ev900, hf⟩ := bO_s hf
  refine r_sld hx hb hX hbl hbA hS ev900 dL_law_900 ?_
  refine lv_aload_n hx hb dL_law_901 rfl (lv_at hl 0 rfl) ?_
  refine lv_iload_n hx hb dL_law_902 rfl (lv_at hl 3 rfl) ?_
  refine lv_iconst (v := 2) hx hb dL_law_903 (by decide) ?_
  refine lv_iadd hx hb dL_law_904 ?_
  obtain ⟨v905, ev905, hf⟩ := bO_s hf
  refine r_sld hx hb hX hbl hbA hS ev905 dL_law_905 ?_
  obtain ⟨r906, h906, er906, hf⟩ := bP_s hf
  refine r_callI (va_runV (As := [.int v900, .int v905]) (rest := [.int r892]) ⟨hx, hb, hml, hown, hts⟩ (k_X9_release l hG er906) (cwV 2 hts (gV wd1445 wd1446 wd1447 wd82 wd1448) rfl rfl rfl (by decide +kernel) ⟨Nat.le_of_ble_eq_true rfl, Nat.le_of_ble_eq_true rfl⟩) (r_pv hK hP hS (ltX9 rfl) (ceX9 rfl) rfl) rfl rfl hl.1 rfl (lv_room (Nat.le_of_ble_eq_true rfl)) dL_law_906 ⟨Nat.le_of_ble_eq_true rfl, Nat.le_of_ble_eq_true rfl⟩) hS (fun H locs hP hS => ?_)
  refine lv_icmp_eq (tgt := 1584) hx hb dL_law_909 (by decide) (fun c909 => ?_) (fun c909 => ?_)
  · replace hf := if_t c909 hf
    refine lv_iinc (v := (x3 + 5)) (lv' := [(3, .int (x3 + 5)), (0, .ref b), (1, .ref (gB G 0)), (2, .ref (gB G 66))]) hx hb dL_law_1584 hl (k := 3) rfl rfl (by decide) rfl (fun ls hl => ?_)
    refine lv_goto (tgt := 18) hx hb dL_law_1587 (by decide) ?_
    exact hk18 (x3 + 5) h906 _ _ _ (lv_sub hl [1, 2, 3, 0] rfl) hP hS hf
  · replace hf := if_f c909 hf
    refine lv_iconst (v := 0) hx hb dL_law_912 (by decide) ?_
    exact absurd (Option.some.inj hf) (by decide)
def f_L_law_914 (L : Nat) (xs : Nat → Int32) (k18 : Int32 → PH → Option Int32) (x3 : Int32) (h : PH) : Option Int32 := bO (sg L xs (x3 + 1)) (fun v919 => bO (sg L xs (x3 + 2)) (fun v924 => bP (f_X8_released v919 v924 h) (fun r925 h925 => bO (sg L xs (x3 + 1)) (fun v933 => bO (sg L xs (x3 + 2)) (fun v938 => bP (f_X9_released v933 v938 h925) (fun r939 h939 => if r925 = r939 then (k18 (x3 + 5) h939) else (some 0)))))))
set_option maxHeartbeats 4000000 in
set_option maxRecDepth 100000 in
theorem w_L_law_914 {l : Launch} {G : GC} (hG : GOK G) {p : Program} {e : Env} {s : State} {m : MethodId} {below : List Frame} {meth : Method} {c : Code} {b L : Nat} {xs : Nat → Int32} (C : lw_At p s m meth c b L xs) (hbA : ¬ gA G b) (hA0 : ∀ q, gA G q → s.heap.size ≤ q) (hK : KW G s) (k18 : Int32 → PH → Option Int32) (hk18 : ∀ (x3 : Int32) (h : PH) (H : Heap) (locs : List Loc) (ls : Array Slot), lv_has ls 4 [(0, .ref b), (1, .ref (gB G 0)), (2, .ref (gB G 66)), (3, .int x3)] → WP G h H → SP G s H locs → k18 x3 h = some 1 → W p l e room_1 s m #[Value.ref b] below meth c H locs 98 12102 (lw_Z below #[Value.ref b] s) (F0 m 18 ls [])) : ∀ (x3 : Int32) (h : PH) (H : Heap) (locs : List Loc) (ls : Array Slot), lv_has ls 4 [(0, .ref b), (1, .ref (gB G 0)), (2, .ref (gB G 66)), (3, .int x3)] → WP G h H → SP G s H locs → f_L_law_914 L xs k18 x3 h = some 1 → W p l e room_1 s m #[Value.ref b] below meth c H locs 98 12102 (lw_Z below #[Value.ref b] s) (F0 m 914 ls []) := by
  obtain ⟨hx, hb, hr, hml, hown, hts0, hX, hbl, hlocks, -⟩ := id C
  have hts : ∀ w ∈ GW, w.before #[Value.ref b] s = true := fun w hw => hts0 w (gw_tbl w hw)
  intro x3 h H locs ls hl hP hS hf
  rw [f_L_law_914] at hf
  refine lv_aload_n hx hb dL_law_914 rfl (lv_at hl 1 rfl) ?_
  refine lv_aload_n hx hb dL_law_915 rfl (lv_at hl 0 rfl) ?_
  refine lv_iload_n hx hb dL_law_916 rfl (lv_at hl 3 rfl) ?_
  refine lv_iconst (v := 1) hx hb dL_law_917 (by decide) ?_
  refine lv_iadd hx hb dL_law_918 ?_
  obtain ⟨v919, ev919, hf⟩ := bO_s hf
  refine r_sld hx hb hX hbl hbA hS ev919 dL_law_919 ?_
  refine lv_aload_n hx hb dL_law_920 rfl (lv_at hl 0 rfl) ?_
  refine lv_iload_n hx hb dL_law_921 rfl (lv_at hl 3 rfl) ?_
  refine lv_iconst (v := 2) hx hb dL_law_922 (by decide) ?_
  refine lv_iadd hx hb dL_law_923 ?_
  obtain ⟨v924, ev924, hf⟩ := bO_s hf
  refine r_sld hx hb hX hbl hbA hS ev924 dL_law_924 ?_
  obtain ⟨r925, h925, er925, hf⟩ := bP_s hf
  refine r_callI (va_runV (As := [.int v919, .int v924]) (rest := []) ⟨hx, hb, hml, hown, hts⟩ (k_X8_released l hG er925) (cwV 2 hts (gV wd858 wd859 wd860 wd73 wd861) rfl rfl rfl (by decide +kernel) ⟨Nat.le_of_ble_eq_true rfl, Nat.le_of_ble_eq_true rfl⟩) (r_pv hK hP hS (ltX8 rfl) (ceX8 rfl) rfl) rfl rfl hl.1 rfl (lv_room (Nat.le_of_ble_eq_true rfl)) dL_law_925 ⟨Nat.le_of_ble_eq_true rfl, Nat.le_of_ble_eq_true rfl⟩) hS (fun H locs hP hS => ?_)
  refine lv_aload_n hx hb dL_law_928 rfl (lv_at hl 2 rfl) ?_
  refine lv_aload_n hx hb dL_law_929 rfl (lv_at hl 0 rfl) ?_
  refine lv_iload_n hx hb dL_law_930 rfl (lv_at hl 3 rfl) ?_
  refine lv_iconst (v := 1) hx hb dL_law_931 (by decide) ?_
  refine lv_iadd hx hb dL_law_932 ?_
  obtain ⟨v933, ev933, hf⟩ := bO_s hf
  refine r_sld hx hb hX hbl hbA hS ev933 dL_law_933 ?_
  refine lv_aload_n hx hb dL_law_934 rfl (lv_at hl 0 rfl) ?_
  refine lv_iload_n hx hb dL_law_935 rfl (lv_at hl 3 rfl) ?_
  refine lv_iconst (v := 2) hx hb dL_law_936 (by decide) ?_
  refine lv_iadd hx hb dL_law_937 ?_
  obtain ⟨v938, ev938, hf⟩ := bO_s hf
  refine r_sld hx hb hX hbl hbA hS ev938 dL_law_938 ?_
  obtain ⟨r939, h939, er939, hf⟩ := bP_s hf
  refine r_callI (va_runV (As := [.int v933, .int v938]) (rest := [.int r925]) ⟨hx, hb, hml, hown, hts⟩ (k_X9_released l hG er939) (cwV 2 hts (gV wd1453 wd1454 wd1455 wd82 wd1456) rfl rfl rfl (by decide +kernel) ⟨Nat.le_of_ble_eq_true rfl, Nat.le_of_ble_eq_true rfl⟩) (r_pv hK hP hS (ltX9 rfl) (ceX9 rfl) rfl) rfl rfl hl.1 rfl (lv_room (Nat.le_of_ble_eq_true rfl)) dL_law_939 ⟨Nat.le_of_ble_eq_true rfl, Nat.le_of_ble_eq_true rfl⟩) hS (fun H locs hP hS => ?_)
  refine lv_icmp_eq (tgt := 1584) hx hb dL_law_942 (by decide) (fun c942 => ?_) (fun c942 => ?_)
  · replace hf := if_t c942 hf
    refine lv_iinc (v := (x3 + 5)) (lv' := [(3, .int (x3 + 5)), (0, .ref b), (1, .ref (gB G 0)), (2, .ref (gB G 66))]) hx hb dL_law_1584 hl (k := 3) rfl rfl (by decide) rfl (fun ls hl => ?_)
    refine lv_goto (tgt := 18) hx hb dL_law_1587 (by decide) ?_
    exact hk18 (x3 + 5) h939 _ _ _ (lv_sub hl [1, 2, 3, 0] rfl) hP hS hf
  · replace hf := if_f c942 hf
    refine lv_iconst (v := 0) hx hb dL_law_945 (by decide) ?_
    exact absurd (Option.some.inj hf) (by decide)
def f_L_law_947 (L : Nat) (xs : Nat → Int32) (k18 : Int32 → PH → Option Int32) (x3 : Int32) (h : PH) : Option Int32 := bO (sg L xs (x3 + 1)) (fun v952 => bO (sg L xs (x3 + 2)) (fun v957 => bO (sg L xs (x3 + 3)) (fun v962 => bP (f_X8_notes v952 v957 v962 h) (fun r963 h963 => bO (sg L xs (x3 + 1)) (fun v971 => bO (sg L xs (x3 + 2)) (fun v976 => bO (sg L xs (x3 + 3)) (fun v981 => bP (f_X9_notes v971 v976 v981 h963) (fun r982 h982 => if r963 = r982 then (k18 (x3 + 5) h982) else (some 0)))))))))
set_option maxHeartbeats 4000000 in
set_option maxRecDepth 100000 in
theorem w_L_law_947 {l : Launch} {G : GC} (hG : GOK G) {p : Program} {e : Env} {s : State} {m : MethodId} {below : List Frame} {meth : Method} {c : Code} {b L : Nat} {xs : Nat → Int32} (C : lw_At p s m meth c b L xs) (hbA : ¬ gA G b) (hA0 : ∀ q, gA G q → s.heap.size ≤ q) (hK : KW G s) (k18 : Int32 → PH → Option Int32) (hk18 : ∀ (x3 : Int32) (h : PH) (H : Heap) (locs : List Loc) (ls : Array Slot), lv_has ls 4 [(0, .ref b), (1, .ref (gB G 0)), (2, .ref (gB G 66)), (3, .int x3)] → WP G h H → SP G s H locs → k18 x3 h = some 1 → W p l e room_1 s m #[Value.ref b] below meth c H locs 98 12102 (lw_Z below #[Value.ref b] s) (F0 m 18 ls [])) : ∀ (x3 : Int32) (h : PH) (H : Heap) (locs : List Loc) (ls : Array Slot), lv_has ls 4 [(0, .ref b), (1, .ref (gB G 0)), (2, .ref (gB G 66)), (3, .int x3)] → WP G h H → SP G s H locs → f_L_law_947 L xs k18 x3 h = some 1 → W p l e room_1 s m #[Value.ref b] below meth c H locs 98 12102 (lw_Z below #[Value.ref b] s) (F0 m 947 ls []) := by
  obtain ⟨hx, hb, hr, hml, hown, hts0, hX, hbl, hlocks, -⟩ := id C
  have hts : ∀ w ∈ GW, w.before #[Value.ref b] s = true := fun w hw => hts0 w (gw_tbl w hw)
  intro x3 h H locs ls hl hP hS hf
  rw [f_L_law_947] at hf
  refine lv_aload_n hx hb dL_law_947 rfl (lv_at hl 1 rfl) ?_
  refine lv_aload_n hx hb dL_law_948 rfl (lv_at hl 0 rfl) ?_
  refine lv_iload_n hx hb dL_law_949 rfl (lv_at hl 3 rfl) ?_
  refine lv_iconst (v := 1) hx hb dL_law_950 (by decide) ?_
  refine lv_iadd hx hb dL_law_951 ?_
  obtain ⟨v952, ev952, hf⟩ := bO_s hf
  refine r_sld hx hb hX hbl hbA hS ev952 dL_law_952 ?_
  refine lv_aload_n hx hb dL_law_953 rfl (lv_at hl 0 rfl) ?_
  refine lv_iload_n hx hb dL_law_954 rfl (lv_at hl 3 rfl) ?_
  refine lv_iconst (v := 2) hx hb dL_law_955 (by decide) ?_
  refine lv_iadd hx hb dL_law_956 ?_
  obtain ⟨v957, ev957, hf⟩ := bO_s hf
  refine r_sld hx hb hX hbl hbA hS ev957 dL_law_957 ?_
  refine lv_aload_n hx hb dL_law_958 rfl (lv_at hl 0 rfl) ?_
  refine lv_iload_n hx hb dL_law_959 rfl (lv_at hl 3 rfl) ?_
  refine lv_iconst (v := 3) hx hb dL_law_960 (by decide) ?_
  refine lv_iadd hx hb dL_law_961 ?_
  obtain ⟨v962, ev962, hf⟩ := bO_s hf
  refine r_sld hx hb hX hbl hbA hS ev962 dL_law_962 ?_
  obtain ⟨r963, h963, er963, hf⟩ := bP_s hf
  refine r_callI (va_runV (As := [.int v952, .int v957, .int v962]) (rest := []) ⟨hx, hb, hml, hown, hts⟩ (k_X8_notes l hG er963) (cwV 3 hts (gV wd866 wd867 wd868 wd73 wd869) rfl rfl rfl (by decide +kernel) ⟨Nat.le_of_ble_eq_true rfl, Nat.le_of_ble_eq_true rfl⟩) (r_pv hK hP hS (ltX8 rfl) (ceX8 rfl) rfl) rfl rfl hl.1 rfl (lv_room (Nat.le_of_ble_eq_true rfl)) dL_law_963 ⟨Nat.le_of_ble_eq_true rfl, Nat.le_of_ble_eq_true rfl⟩) hS (fun H locs hP hS => ?_)
  refine lv_aload_n hx hb dL_law_966 rfl (lv_at hl 2 rfl) ?_
  refine lv_aload_n hx hb dL_law_967 rfl (lv_at hl 0 rfl) ?_
  refine lv_iload_n hx hb dL_law_968 rfl (lv_at hl 3 rfl) ?_
  refine lv_iconst (v := 1) hx hb dL_law_969 (by decide) ?_
  refine lv_iadd hx hb dL_law_970 ?_
  obtain ⟨v971, ev971, hf⟩ := bO_s hf
  refine r_sld hx hb hX hbl hbA hS ev971 dL_law_971 ?_
  refine lv_aload_n hx hb dL_law_972 rfl (lv_at hl 0 rfl) ?_
  refine lv_iload_n hx hb dL_law_973 rfl (lv_at hl 3 rfl) ?_
  refine lv_iconst (v := 2) hx hb dL_law_974 (by decide) ?_
  refine lv_iadd hx hb dL_law_975 ?_
  obtain ⟨v976, ev976, hf⟩ := bO_s hf
  refine r_sld hx hb hX hbl hbA hS ev976 dL_law_976 ?_
  refine lv_aload_n hx hb dL_law_977 rfl (lv_at hl 0 rfl) ?_
  refine lv_iload_n hx hb dL_law_978 rfl (lv_at hl 3 rfl) ?_
  refine lv_iconst (v := 3) hx hb dL_law_979 (by decide) ?_
  refine lv_iadd hx hb dL_law_980 ?_
  obtain ⟨v981, ev981, hf⟩ := bO_s hf
  refine r_sld hx hb hX hbl hbA hS ev981 dL_law_981 ?_
  obtain ⟨r982, h982, er982, hf⟩ := bP_s hf
  refine r_callI (va_runV (As := [.int v971, .int v976, .int v981]) (rest := [.int r963]) ⟨hx, hb, hml, hown, hts⟩ (k_X9_notes l hG er982) (cwV 3 hts (gV wd1461 wd1462 wd1463 wd82 wd1464) rfl rfl rfl (by decide +kernel) ⟨Nat.le_of_ble_eq_true rfl, Nat.le_of_ble_eq_true rfl⟩) (r_pv hK hP hS (ltX9 rfl) (ceX9 rfl) rfl) rfl rfl hl.1 rfl (lv_room (Nat.le_of_ble_eq_true rfl)) dL_law_982 ⟨Nat.le_of_ble_eq_true rfl, Nat.le_of_ble_eq_true rfl⟩) hS (fun H locs hP hS => ?_)
  refine lv_icmp_eq (tgt := 1584) hx hb dL_law_985 (by decide) (fun c985 => ?_) (fun c985 => ?_)
  · replace hf := if_t c985 hf
    refine lv_iinc (v := (x3 + 5)) (lv' := [(3, .int (x3 + 5)), (0, .ref b), (1, .ref (gB G 0)), (2, .ref (gB G 66))]) hx hb dL_law_1584 hl (k := 3) rfl rfl (by decide) rfl (fun ls hl => ?_)
    refine lv_goto (tgt := 18) hx hb dL_law_1587 (by decide) ?_
    exact hk18 (x3 + 5) h982 _ _ _ (lv_sub hl [1, 2, 3, 0] rfl) hP hS hf
  · replace hf := if_f c985 hf
    refine lv_iconst (v := 0) hx hb dL_law_988 (by decide) ?_
    exact absurd (Option.some.inj hf) (by decide)
def f_L_law_990 (L : Nat) (xs : Nat → Int32) (k18 : Int32 → PH → Option Int32) (x3 : Int32) (h : PH) : Option Int32 := bO (sg L xs (x3 + 1)) (fun v995 => bO (sg L xs (x3 + 2)) (fun v1000 => bP (f_X8_differs v995 v1000 h) (fun r1001 h1001 => bO (sg L xs (x3 + 1)) (fun v1009 => bO (sg L xs (x3 + 2)) (fun v1014 => bP (f_X9_differs v1009 v1014 h1001) (fun r1015 h1015 => if r1001 = r1015 then (k18 (x3 + 5) h1015) else (some 0)))))))
set_option maxHeartbeats 4000000 in
set_option maxRecDepth 100000 in
theorem w_L_law_990 {l : Launch} {G : GC} (hG : GOK G) {p : Program} {e : Env} {s : State} {m : MethodId} {below : List Frame} {meth : Method} {c : Code} {b L : Nat} {xs : Nat → Int32} (C : lw_At p s m meth c b L xs) (hbA : ¬ gA G b) (hA0 : ∀ q, gA G q → s.heap.size ≤ q) (hK : KW G s) (k18 : Int32 → PH → Option Int32) (hk18 : ∀ (x3 : Int32) (h : PH) (H : Heap) (locs : List Loc) (ls : Array Slot), lv_has ls 4 [(0, .ref b), (1, .ref (gB G 0)), (2, .ref (gB G 66)), (3, .int x3)] → WP G h H → SP G s H locs → k18 x3 h = some 1 → W p l e room_1 s m #[Value.ref b] below meth c H locs 98 12102 (lw_Z below #[Value.ref b] s) (F0 m 18 ls [])) : ∀ (x3 : Int32) (h : PH) (H : Heap) (locs : List Loc) (ls : Array Slot), lv_has ls 4 [(0, .ref b), (1, .ref (gB G 0)), (2, .ref (gB G 66)), (3, .int x3)] → WP G h H → SP G s H locs → f_L_law_990 L xs k18 x3 h = some 1 → W p l e room_1 s m #[Value.ref b] below meth c H locs 98 12102 (lw_Z below #[Value.ref b] s) (F0 m 990 ls []) := by
  obtain ⟨hx, hb, hr, hml, hown, hts0, hX, hbl, hlocks, -⟩ := id C
  have hts : ∀ w ∈ GW, w.before #[Value.ref b] s = true := fun w hw => hts0 w (gw_tbl w hw)
  intro x3 h H locs ls hl hP hS hf
  rw [f_L_law_990] at hf
  refine lv_aload_n hx hb dL_law_990 rfl (lv_at hl 1 rfl) ?_
  refine lv_aload_n hx hb dL_law_991 rfl (lv_at hl 0 rfl) ?_
  refine lv_iload_n hx hb dL_law_992 rfl (lv_at hl 3 rfl) ?_
  refine lv_iconst (v := 1) hx hb dL_law_993 (by decide) ?_
  refine lv_iadd hx hb dL_law_994 ?_
  obtain ⟨v995, ev995, hf⟩ := bO_s hf
  refine r_sld hx hb hX hbl hbA hS ev995 dL_law_995 ?_
  refine lv_aload_n hx hb dL_law_996 rfl (lv_at hl 0 rfl) ?_
  refine lv_iload_n hx hb dL_law_997 rfl (lv_at hl 3 rfl) ?_
  refine lv_iconst (v := 2) hx hb dL_law_998 (by decide) ?_
  refine lv_iadd hx hb dL_law_999 ?_
  obtain ⟨v1000, ev1000, hf⟩ := bO_s hf
  refine r_sld hx hb hX hbl hbA hS ev1000 dL_law_1000 ?_
  obtain ⟨r1001, h1001, er1001, hf⟩ := bP_s hf
  refine r_callI (va_runV (As := [.int v995, .int v1000]) (rest := []) ⟨hx, hb, hml, hown, hts⟩ (k_X8_differs l hG er1001) (cwV 2 hts (gV wd870 wd871 wd872 wd73 wd873) rfl rfl rfl (by decide +kernel) ⟨Nat.le_of_ble_eq_true rfl, Nat.le_of_ble_eq_true rfl⟩) (r_pv hK hP hS (ltX8 rfl) (ceX8 rfl) rfl) rfl rfl hl.1 rfl (lv_room (Nat.le_of_ble_eq_true rfl)) dL_law_1001 ⟨Nat.le_of_ble_eq_true rfl, Nat.le_of_ble_eq_true rfl⟩) hS (fun H locs hP hS => ?_)
  refine lv_aload_n hx hb dL_law_1004 rfl (lv_at hl 2 rfl) ?_
  refine lv_aload_n hx hb dL_law_1005 rfl (lv_at hl 0 rfl) ?_
  refine lv_iload_n hx hb dL_law_1006 rfl (lv_at hl 3 rfl) ?_
  refine lv_iconst (v := 1) hx hb dL_law_1007 (by decide) ?_
  refine lv_iadd hx hb dL_law_1008 ?_
  obtain ⟨v1009, ev1009, hf⟩ := bO_s hf
  refine r_sld hx hb hX hbl hbA hS ev1009 dL_law_1009 ?_
  refine lv_aload_n hx hb dL_law_1010 rfl (lv_at hl 0 rfl) ?_
  refine lv_iload_n hx hb dL_law_1011 rfl (lv_at hl 3 rfl) ?_
  refine lv_iconst (v := 2) hx hb dL_law_1012 (by decide) ?_
  refine lv_iadd hx hb dL_law_1013 ?_
  obtain ⟨v1014, ev1014, hf⟩ := bO_s hf
  refine r_sld hx hb hX hbl hbA hS ev1014 dL_law_1014 ?_
  obtain ⟨r1015, h1015, er1015, hf⟩ := bP_s hf
  refine r_callI (va_runV (As := [.int v1009, .int v1014]) (rest := [.int r1001]) ⟨hx, hb, hml, hown, hts⟩ (k_X9_differs l hG er1015) (cwV 2 hts (gV wd1465 wd1466 wd1467 wd82 wd1468) rfl rfl rfl (by decide +kernel) ⟨Nat.le_of_ble_eq_true rfl, Nat.le_of_ble_eq_true rfl⟩) (r_pv hK hP hS (ltX9 rfl) (ceX9 rfl) rfl) rfl rfl hl.1 rfl (lv_room (Nat.le_of_ble_eq_true rfl)) dL_law_1015 ⟨Nat.le_of_ble_eq_true rfl, Nat.le_of_ble_eq_true rfl⟩) hS (fun H locs hP hS => ?_)
  refine lv_icmp_eq (tgt := 1584) hx hb dL_law_1018 (by decide) (fun c1018 => ?_) (fun c1018 => ?_)
  · replace hf := if_t c1018 hf
    refine lv_iinc (v := (x3 + 5)) (lv' := [(3, .int (x3 + 5)), (0, .ref b), (1, .ref (gB G 0)), (2, .ref (gB G 66))]) hx hb dL_law_1584 hl (k := 3) rfl rfl (by decide) rfl (fun ls hl => ?_)
    refine lv_goto (tgt := 18) hx hb dL_law_1587 (by decide) ?_
    exact hk18 (x3 + 5) h1015 _ _ _ (lv_sub hl [1, 2, 3, 0] rfl) hP hS hf
  · replace hf := if_f c1018 hf
    refine lv_iconst (v := 0) hx hb dL_law_1021 (by decide) ?_
    exact absurd (Option.some.inj hf) (by decide)
def f_L_law_1023 (L : Nat) (xs : Nat → Int32) (k18 : Int32 → PH → Option Int32) (x3 : Int32) (h : PH) : Option Int32 := bO (sg L xs (x3 + 1)) (fun v1028 => bO (sg L xs (x3 + 2)) (fun v1033 => bP (f_X8_freed v1028 v1033 h) (fun r1034 h1034 => bO (sg L xs (x3 + 1)) (fun v1042 => bO (sg L xs (x3 + 2)) (fun v1047 => bP (f_X9_freed v1042 v1047 h1034) (fun r1048 h1048 => if r1034 = r1048 then (k18 (x3 + 5) h1048) else (some 0)))))))
set_option maxHeartbeats 4000000 in
set_option maxRecDepth 100000 in
theorem w_L_law_1023 {l : Launch} {G : GC} (hG : GOK G) {p : Program} {e : Env} {s : State} {m : MethodId} {below : List Frame} {meth : Method} {c : Code} {b L : Nat} {xs : Nat → Int32} (C : lw_At p s m meth c b L xs) (hbA : ¬ gA G b) (hA0 : ∀ q, gA G q → s.heap.size ≤ q) (hK : KW G s) (k18 : Int32 → PH → Option Int32) (hk18 : ∀ (x3 : Int32) (h : PH) (H : Heap) (locs : List Loc) (ls : Array Slot), lv_has ls 4 [(0, .ref b), (1, .ref (gB G 0)), (2, .ref (gB G 66)), (3, .int x3)] → WP G h H → SP G s H locs → k18 x3 h = some 1 → W p l e room_1 s m #[Value.ref b] below meth c H locs 98 12102 (lw_Z below #[Value.ref b] s) (F0 m 18 ls [])) : ∀ (x3 : Int32) (h : PH) (H : Heap) (locs : List Loc) (ls : Array Slot), lv_has ls 4 [(0, .ref b), (1, .ref (gB G 0)), (2, .ref (gB G 66)), (3, .int x3)] → WP G h H → SP G s H locs → f_L_law_1023 L xs k18 x3 h = some 1 → W p l e room_1 s m #[Value.ref b] below meth c H locs 98 12102 (lw_Z below #[Value.ref b] s) (F0 m 1023 ls []) := by
  obtain ⟨hx, hb, hr, hml, hown, hts0, hX, hbl, hlocks, -⟩ := id C
  have hts : ∀ w ∈ GW, w.before #[Value.ref b] s = true := fun w hw => hts0 w (gw_tbl w hw)
  intro x3 h H locs ls hl hP hS hf
  rw [f_L_law_1023] at hf
  refine lv_aload_n hx hb dL_law_1023 rfl (lv_at hl 1 rfl) ?_
  refine lv_aload_n hx hb dL_law_1024 rfl (lv_at hl 0 rfl) ?_
  refine lv_iload_n hx hb dL_law_1025 rfl (lv_at hl 3 rfl) ?_
  refine lv_iconst (v := 1) hx hb dL_law_1026 (by decide) ?_
  refine lv_iadd hx hb dL_law_1027 ?_
  obtain ⟨v1028, ev1028, hf⟩ := bO_s hf
  refine r_sld hx hb hX hbl hbA hS ev1028 dL_law_1028 ?_
  refine lv_aload_n hx hb dL_law_1029 rfl (lv_at hl 0 rfl) ?_
  refine lv_iload_n hx hb dL_law_1030 rfl (lv_at hl 3 rfl) ?_
  refine lv_iconst (v := 2) hx hb dL_law_1031 (by decide) ?_
  refine lv_iadd hx hb dL_law_1032 ?_
  obtain ⟨v1033, ev1033, hf⟩ := bO_s hf
  refine r_sld hx hb hX hbl hbA hS ev1033 dL_law_1033 ?_
  obtain ⟨r1034, h1034, er1034, hf⟩ := bP_s hf
  refine r_callI (va_runV (As := [.int v1028, .int v1033]) (rest := []) ⟨hx, hb, hml, hown, hts⟩ (k_X8_freed l hG er1034) (cwV 2 hts (gV wd874 wd875 wd876 wd73 wd877) rfl rfl rfl (by decide +kernel) ⟨Nat.le_of_ble_eq_true rfl, Nat.le_of_ble_eq_true rfl⟩) (r_pv hK hP hS (ltX8 rfl) (ceX8 rfl) rfl) rfl rfl hl.1 rfl (lv_room (Nat.le_of_ble_eq_true rfl)) dL_law_1034 ⟨Nat.le_of_ble_eq_true rfl, Nat.le_of_ble_eq_true rfl⟩) hS (fun H locs hP hS => ?_)
  refine lv_aload_n hx hb dL_law_1037 rfl (lv_at hl 2 rfl) ?_
  refine lv_aload_n hx hb dL_law_1038 rfl (lv_at hl 0 rfl) ?_
  refine lv_iload_n hx hb dL_law_1039 rfl (lv_at hl 3 rfl) ?_
  refine lv_iconst (v := 1) hx hb dL_law_1040 (by decide) ?_
  refine lv_iadd hx hb dL_law_1041 ?_
  obtain ⟨v1042, ev1042, hf⟩ := bO_s hf
  refine r_sld hx hb hX hbl hbA hS ev1042 dL_law_1042 ?_
  refine lv_aload_n hx hb dL_law_1043 rfl (lv_at hl 0 rfl) ?_
  refine lv_iload_n hx hb dL_law_1044 rfl (lv_at hl 3 rfl) ?_
  refine lv_iconst (v := 2) hx hb dL_law_1045 (by decide) ?_
  refine lv_iadd hx hb dL_law_1046 ?_
  obtain ⟨v1047, ev1047, hf⟩ := bO_s hf
  refine r_sld hx hb hX hbl hbA hS ev1047 dL_law_1047 ?_
  obtain ⟨r1048, h1048, er1048, hf⟩ := bP_s hf
  refine r_callI (va_runV (As := [.int v1042, .int v1047]) (rest := [.int r1034]) ⟨hx, hb, hml, hown, hts⟩ (k_X9_freed l hG er1048) (cwV 2 hts (gV wd1469 wd1470 wd1471 wd82 wd1472) rfl rfl rfl (by decide +kernel) ⟨Nat.le_of_ble_eq_true rfl, Nat.le_of_ble_eq_true rfl⟩) (r_pv hK hP hS (ltX9 rfl) (ceX9 rfl) rfl) rfl rfl hl.1 rfl (lv_room (Nat.le_of_ble_eq_true rfl)) dL_law_1048 ⟨Nat.le_of_ble_eq_true rfl, Nat.le_of_ble_eq_true rfl⟩) hS (fun H locs hP hS => ?_)
  refine lv_icmp_eq (tgt := 1584) hx hb dL_law_1051 (by decide) (fun c1051 => ?_) (fun c1051 => ?_)
  · replace hf := if_t c1051 hf
    refine lv_iinc (v := (x3 + 5)) (lv' := [(3, .int (x3 + 5)), (0, .ref b), (1, .ref (gB G 0)), (2, .ref (gB G 66))]) hx hb dL_law_1584 hl (k := 3) rfl rfl (by decide) rfl (fun ls hl => ?_)
    refine lv_goto (tgt := 18) hx hb dL_law_1587 (by decide) ?_
    exact hk18 (x3 + 5) h1048 _ _ _ (lv_sub hl [1, 2, 3, 0] rfl) hP hS hf
  · replace hf := if_f c1051 hf
    refine lv_iconst (v := 0) hx hb dL_law_1054 (by decide) ?_
    exact absurd (Option.some.inj hf) (by decide)
def f_L_law_1056 (L : Nat) (xs : Nat → Int32) (k18 : Int32 → PH → Option Int32) (x3 : Int32) (h : PH) : Option Int32 := bO (sg L xs (x3 + 1)) (fun v1061 => bO (sg L xs (x3 + 2)) (fun v1066 => bO (sg L xs (x3 + 3)) (fun v1071 => bP (f_X8_danger v1061 v1066 v1071 h) (fun r1072 h1072 => bO (sg L xs (x3 + 1)) (fun v1080 => bO (sg L xs (x3 + 2)) (fun v1085 => bO (sg L xs (x3 + 3)) (fun v1090 => bP (f_X9_danger v1080 v1085 v1090 h1072) (fun r1091 h1091 => if r1072 = r1091 then (k18 (x3 + 5) h1091) else (some 0)))))))))
set_option maxHeartbeats 4000000 in
set_option maxRecDepth 100000 in
theorem w_L_law_1056 {l : Launch} {G : GC} (hG : GOK G) {p : Program} {e : Env} {s : State} {m : MethodId} {below : List Frame} {meth : Method} {c : Code} {b L : Nat} {xs : Nat → Int32} (C : lw_At p s m meth c b L xs) (hbA : ¬ gA G b) (hA0 : ∀ q, gA G q → s.heap.size ≤ q) (hK : KW G s) (k18 : Int32 → PH → Option Int32) (hk18 : ∀ (x3 : Int32) (h : PH) (H : Heap) (locs : List Loc) (ls : Array Slot), lv_has ls 4 [(0, .ref b), (1, .ref (gB G 0)), (2, .ref (gB G 66)), (3, .int x3)] → WP G h H → SP G s H locs → k18 x3 h = some 1 → W p l e room_1 s m #[Value.ref b] below meth c H locs 98 12102 (lw_Z below #[Value.ref b] s) (F0 m 18 ls [])) : ∀ (x3 : Int32) (h : PH) (H : Heap) (locs : List Loc) (ls : Array Slot), lv_has ls 4 [(0, .ref b), (1, .ref (gB G 0)), (2, .ref (gB G 66)), (3, .int x3)] → WP G h H → SP G s H locs → f_L_law_1056 L xs k18 x3 h = some 1 → W p l e room_1 s m #[Value.ref b] below meth c H locs 98 12102 (lw_Z below #[Value.ref b] s) (F0 m 1056 ls []) := by
  obtain ⟨hx, hb, hr, hml, hown, hts0, hX, hbl, hlocks, -⟩ := id C
  have hts : ∀ w ∈ GW, w.before #[Value.ref b] s = true := fun w hw => hts0 w (gw_tbl w hw)
  intro x3 h H locs ls hl hP hS hf
  rw [f_L_law_1056] at hf
  refine lv_aload_n hx hb dL_law_1056 rfl (lv_at hl 1 rfl) ?_
  refine lv_aload_n hx hb dL_law_1057 rfl (lv_at hl 0 rfl) ?_
  refine lv_iload_n hx hb dL_law_1058 rfl (lv_at hl 3 rfl) ?_
  refine lv_iconst (v := 1) hx hb dL_law_1059 (by decide) ?_
  refine lv_iadd hx hb dL_law_1060 ?_
  obtain ⟨v1061, ev1061, hf⟩ := bO_s hf
  refine r_sld hx hb hX hbl hbA hS ev1061 dL_law_1061 ?_
  refine lv_aload_n hx hb dL_law_1062 rfl (lv_at hl 0 rfl) ?_
  refine lv_iload_n hx hb dL_law_1063 rfl (lv_at hl 3 rfl) ?_
  refine lv_iconst (v := 2) hx hb dL_law_1064 (by decide) ?_
  refine lv_iadd hx hb dL_law_1065 ?_
  obtain ⟨v1066, ev1066, hf⟩ := bO_s hf
  refine r_sld hx hb hX hbl hbA hS ev1066 dL_law_1066 ?_
  refine lv_aload_n hx hb dL_law_1067 rfl (lv_at hl 0 rfl) ?_
  refine lv_iload_n hx hb dL_law_1068 rfl (lv_at hl 3 rfl) ?_
  refine lv_iconst (v := 3) hx hb dL_law_1069 (by decide) ?_
  refine lv_iadd hx hb dL_law_1070 ?_
  obtain ⟨v1071, ev1071, hf⟩ := bO_s hf
  refine r_sld hx hb hX hbl hbA hS ev1071 dL_law_1071 ?_
  obtain ⟨r1072, h1072, er1072, hf⟩ := bP_s hf
  refine r_callI (va_runV (As := [.int v1061, .int v1066, .int v1071]) (rest := []) ⟨hx, hb, hml, hown, hts⟩ (k_X8_danger l hG er1072) (cwV 3 hts (gV wd882 wd883 wd884 wd73 wd885) rfl rfl rfl (by decide +kernel) ⟨Nat.le_of_ble_eq_true rfl, Nat.le_of_ble_eq_true rfl⟩) (r_pv hK hP hS (ltX8 rfl) (ceX8 rfl) rfl) rfl rfl hl.1 rfl (lv_room (Nat.le_of_ble_eq_true rfl)) dL_law_1072 ⟨Nat.le_of_ble_eq_true rfl, Nat.le_of_ble_eq_true rfl⟩) hS (fun H locs hP hS => ?_)
  refine lv_aload_n hx hb dL_law_1075 rfl (lv_at hl 2 rfl) ?_
  refine lv_aload_n hx hb dL_law_1076 rfl (lv_at hl 0 rfl) ?_
  refine lv_iload_n hx hb dL_law_1077 rfl (lv_at hl 3 rfl) ?_
  refine lv_iconst (v := 1) hx hb dL_law_1078 (by decide) ?_
  refine lv_iadd hx hb dL_law_1079 ?_
  obtain ⟨v1080, ev1080, hf⟩ := bO_s hf
  refine r_sld hx hb hX hbl hbA hS ev1080 dL_law_1080 ?_
  refine lv_aload_n hx hb dL_law_1081 rfl (lv_at hl 0 rfl) ?_
  refine lv_iload_n hx hb dL_law_1082 rfl (lv_at hl 3 rfl) ?_
  refine lv_iconst (v := 2) hx hb dL_law_1083 (by decide) ?_
  refine lv_iadd hx hb dL_law_1084 ?_
  obtain ⟨v1085, ev1085, hf⟩ := bO_s hf
  refine r_sld hx hb hX hbl hbA hS ev1085 dL_law_1085 ?_
  refine lv_aload_n hx hb dL_law_1086 rfl (lv_at hl 0 rfl) ?_
  refine lv_iload_n hx hb dL_law_1087 rfl (lv_at hl 3 rfl) ?_
  refine lv_iconst (v := 3) hx hb dL_law_1088 (by decide) ?_
  refine lv_iadd hx hb dL_law_1089 ?_
  obtain ⟨v1090, ev1090, hf⟩ := bO_s hf
  refine r_sld hx hb hX hbl hbA hS ev1090 dL_law_1090 ?_
  obtain ⟨r1091, h1091, er1091, hf⟩ := bP_s hf
  refine r_callI (va_runV (As := [.int v1080, .int v1085, .int v1090]) (rest := [.int r1072]) ⟨hx, hb, hml, hown, hts⟩ (k_X9_danger l hG er1091) (cwV 3 hts (gV wd1477 wd1478 wd1479 wd82 wd1480) rfl rfl rfl (by decide +kernel) ⟨Nat.le_of_ble_eq_true rfl, Nat.le_of_ble_eq_true rfl⟩) (r_pv hK hP hS (ltX9 rfl) (ceX9 rfl) rfl) rfl rfl hl.1 rfl (lv_room (Nat.le_of_ble_eq_true rfl)) dL_law_1091 ⟨Nat.le_of_ble_eq_true rfl, Nat.le_of_ble_eq_true rfl⟩) hS (fun H locs hP hS => ?_)
  refine lv_icmp_eq (tgt := 1584) hx hb dL_law_1094 (by decide) (fun c1094 => ?_) (fun c1094 => ?_)
  · replace hf := if_t c1094 hf
    refine lv_iinc (v := (x3 + 5)) (lv' := [(3, .int (x3 + 5)), (0, .ref b), (1, .ref (gB G 0)), (2, .ref (gB G 66))]) hx hb dL_law_1584 hl (k := 3) rfl rfl (by decide) rfl (fun ls hl => ?_)
    refine lv_goto (tgt := 18) hx hb dL_law_1587 (by decide) ?_
    exact hk18 (x3 + 5) h1091 _ _ _ (lv_sub hl [1, 2, 3, 0] rfl) hP hS hf
  · replace hf := if_f c1094 hf
    refine lv_iconst (v := 0) hx hb dL_law_1097 (by decide) ?_
    exact absurd (Option.some.inj hf) (by decide)
def f_L_law_1099 (L : Nat) (xs : Nat → Int32) (k18 : Int32 → PH → Option Int32) (x3 : Int32) (h : PH) : Option Int32 := bO (sg L xs (x3 + 1)) (fun v1104 => bO (sg L xs (x3 + 2)) (fun v1109 => bP (f_X8_every v1104 v1109 h) (fun r1110 h1110 => bO (sg L xs (x3 + 1)) (fun v1118 => bO (sg L xs (x3 + 2)) (fun v1123 => bP (f_X9_every v1118 v1123 h1110) (fun r1124 h1124 => if r1110 = r1124 then (k18 (x3 + 5) h1124) else (some 0)))))))
set_option maxHeartbeats 4000000 in
set_option maxRecDepth 100000 in
theorem w_L_law_1099 {l : Launch} {G : GC} (hG : GOK G) {p : Program} {e : Env} {s : State} {m : MethodId} {below : List Frame} {meth : Method} {c : Code} {b L : Nat} {xs : Nat → Int32} (C : lw_At p s m meth c b L xs) (hbA : ¬ gA G b) (hA0 : ∀ q, gA G q → s.heap.size ≤ q) (hK : KW G s) (k18 : Int32 → PH → Option Int32) (hk18 : ∀ (x3 : Int32) (h : PH) (H : Heap) (locs : List Loc) (ls : Array Slot), lv_has ls 4 [(0, .ref b), (1, .ref (gB G 0)), (2, .ref (gB G 66)), (3, .int x3)] → WP G h H → SP G s H locs → k18 x3 h = some 1 → W p l e room_1 s m #[Value.ref b] below meth c H locs 98 12102 (lw_Z below #[Value.ref b] s) (F0 m 18 ls [])) : ∀ (x3 : Int32) (h : PH) (H : Heap) (locs : List Loc) (ls : Array Slot), lv_has ls 4 [(0, .ref b), (1, .ref (gB G 0)), (2, .ref (gB G 66)), (3, .int x3)] → WP G h H → SP G s H locs → f_L_law_1099 L xs k18 x3 h = some 1 → W p l e room_1 s m #[Value.ref b] below meth c H locs 98 12102 (lw_Z below #[Value.ref b] s) (F0 m 1099 ls []) := by
  obtain ⟨hx, hb, hr, hml, hown, hts0, hX, hbl, hlocks, -⟩ := id C
  have hts : ∀ w ∈ GW, w.before #[Value.ref b] s = true := fun w hw => hts0 w (gw_tbl w hw)
  intro x3 h H locs ls hl hP hS hf
  rw [f_L_law_1099] at hf
  refine lv_aload_n hx hb dL_law_1099 rfl (lv_at hl 1 rfl) ?_
  refine lv_aload_n hx hb dL_law_1100 rfl (lv_at hl 0 rfl) ?_
  refine lv_iload_n hx hb dL_law_1101 rfl (lv_at hl 3 rfl) ?_
  refine lv_iconst (v := 1) hx hb dL_law_1102 (by decide) ?_
  refine lv_iadd hx hb dL_law_1103 ?_
  obtain ⟨v1104, ev1104, hf⟩ := bO_s hf
  refine r_sld hx hb hX hbl hbA hS ev1104 dL_law_1104 ?_
  refine lv_aload_n hx hb dL_law_1105 rfl (lv_at hl 0 rfl) ?_
  refine lv_iload_n hx hb dL_law_1106 rfl (lv_at hl 3 rfl) ?_
  refine lv_iconst (v := 2) hx hb dL_law_1107 (by decide) ?_
  refine lv_iadd hx hb dL_law_1108 ?_
  obtain ⟨v1109, ev1109, hf⟩ := bO_s hf
  refine r_sld hx hb hX hbl hbA hS ev1109 dL_law_1109 ?_
  obtain ⟨r1110, h1110, er1110, hf⟩ := bP_s hf
  refine r_callI (va_runV (As := [.int v1104, .int v1109]) (rest := []) ⟨hx, hb, hml, hown, hts⟩ (k_X8_every l hG er1110) (cwV 2 hts (gV wd893 wd894 wd895 wd73 wd896) rfl rfl rfl (by decide +kernel) ⟨Nat.le_of_ble_eq_true rfl, Nat.le_of_ble_eq_true rfl⟩) (r_pv hK hP hS (ltX8 rfl) (ceX8 rfl) rfl) rfl rfl hl.1 rfl (lv_room (Nat.le_of_ble_eq_true rfl)) dL_law_1110 ⟨Nat.le_of_ble_eq_true rfl, Nat.le_of_ble_eq_true rfl⟩) hS (fun H locs hP hS => ?_)
  refine lv_aload_n hx hb dL_law_1113 rfl (lv_at hl 2 rfl) ?_
  refine lv_aload_n hx hb dL_law_1114 rfl (lv_at hl 0 rfl) ?_
  refine lv_iload_n hx hb dL_law_1115 rfl (lv_at hl 3 rfl) ?_
  refine lv_iconst (v := 1) hx hb dL_law_1116 (by decide) ?_
  refine lv_iadd hx hb dL_law_1117 ?_
  obtain ⟨v1118, ev1118, hf⟩ := bO_s hf
  refine r_sld hx hb hX hbl hbA hS ev1118 dL_law_1118 ?_
  refine lv_aload_n hx hb dL_law_1119 rfl (lv_at hl 0 rfl) ?_
  refine lv_iload_n hx hb dL_law_1120 rfl (lv_at hl 3 rfl) ?_
  refine lv_iconst (v := 2) hx hb dL_law_1121 (by decide) ?_
  refine lv_iadd hx hb dL_law_1122 ?_
  obtain ⟨v1123, ev1123, hf⟩ := bO_s hf
  refine r_sld hx hb hX hbl hbA hS ev1123 dL_law_1123 ?_
  obtain ⟨r1124, h1124, er1124, hf⟩ := bP_s hf
  refine r_callI (va_runV (As := [.int v1118, .int v1123]) (rest := [.int r1110]) ⟨hx, hb, hml, hown, hts⟩ (k_X9_every l hG er1124) (cwV 2 hts (gV wd1481 wd1482 wd1483 wd82 wd1484) rfl rfl rfl (by decide +kernel) ⟨Nat.le_of_ble_eq_true rfl, Nat.le_of_ble_eq_true rfl⟩) (r_pv hK hP hS (ltX9 rfl) (ceX9 rfl) rfl) rfl rfl hl.1 rfl (lv_room (Nat.le_of_ble_eq_true rfl)) dL_law_1124 ⟨Nat.le_of_ble_eq_true rfl, Nat.le_of_ble_eq_true rfl⟩) hS (fun H locs hP hS => ?_)
  refine lv_icmp_eq (tgt := 1584) hx hb dL_law_1127 (by decide) (fun c1127 => ?_) (fun c1127 => ?_)
  · replace hf := if_t c1127 hf
    refine lv_iinc (v := (x3 + 5)) (lv' := [(3, .int (x3 + 5)), (0, .ref b), (1, .ref (gB G 0)), (2, .ref (gB G 66))]) hx hb dL_law_1584 hl (k := 3) rfl rfl (by decide) rfl (fun ls hl => ?_)
    refine lv_goto (tgt := 18) hx hb dL_law_1587 (by decide) ?_
    exact hk18 (x3 + 5) h1124 _ _ _ (lv_sub hl [1, 2, 3, 0] rfl) hP hS hf
  · replace hf := if_f c1127 hf
    refine lv_iconst (v := 0) hx hb dL_law_1130 (by decide) ?_
    exact absurd (Option.some.inj hf) (by decide)
def f_L_law_1132 (L : Nat) (xs : Nat → Int32) (k18 : Int32 → PH → Option Int32) (x3 : Int32) (h : PH) : Option Int32 := bO (sg L xs (x3 + 1)) (fun v1137 => bO (sg L xs (x3 + 2)) (fun v1142 => bP (f_X8_soonest v1137 v1142 h) (fun r1143 h1143 => bO (sg L xs (x3 + 1)) (fun v1151 => bO (sg L xs (x3 + 2)) (fun v1156 => bP (f_X9_soonest v1151 v1156 h1143) (fun r1157 h1157 => if r1143 = r1157 then (k18 (x3 + 5) h1157) else (some 0)))))))
set_option maxHeartbeats 4000000 in
set_option maxRecDepth 100000 in
theorem w_L_law_1132 {l : Launch} {G : GC} (hG : GOK G) {p : Program} {e : Env} {s : State} {m : MethodId} {below : List Frame} {meth : Method} {c : Code} {b L : Nat} {xs : Nat → Int32} (C : lw_At p s m meth c b L xs) (hbA : ¬ gA G b) (hA0 : ∀ q, gA G q → s.heap.size ≤ q) (hK : KW G s) (k18 : Int32 → PH → Option Int32) (hk18 : ∀ (x3 : Int32) (h : PH) (H : Heap) (locs : List Loc) (ls : Array Slot), lv_has ls 4 [(0, .ref b), (1, .ref (gB G 0)), (2, .ref (gB G 66)), (3, .int x3)] → WP G h H → SP G s H locs → k18 x3 h = some 1 → W p l e room_1 s m #[Value.ref b] below meth c H locs 98 12102 (lw_Z below #[Value.ref b] s) (F0 m 18 ls [])) : ∀ (x3 : Int32) (h : PH) (H : Heap) (locs : List Loc) (ls : Array Slot), lv_has ls 4 [(0, .ref b), (1, .ref (gB G 0)), (2, .ref (gB G 66)), (3, .int x3)] → WP G h H → SP G s H locs → f_L_law_1132 L xs k18 x3 h = some 1 → W p l e room_1 s m #[Value.ref b] below meth c H locs 98 12102 (lw_Z below #[Value.ref b] s) (F0 m 1132 ls []) := by
  obtain ⟨hx, hb, hr, hml, hown, hts0, hX, hbl, hlocks, -⟩ := id C
  have hts : ∀ w ∈ GW, w.before #[Value.ref b] s = true := fun w hw => hts0 w (gw_tbl w hw)
  intro x3 h H locs ls hl hP hS hf
  rw [f_L_law_1132] at hf
  refine lv_aload_n hx hb dL_law_1132 rfl (lv_at hl 1 rfl) ?_
  refine lv_aload_n hx hb dL_law_1133 rfl (lv_at hl 0 rfl) ?_
  refine lv_iload_n hx hb dL_law_1134 rfl (lv_at hl 3 rfl) ?_
  refine lv_iconst (v := 1) hx hb dL_law_1135 (by decide) ?_
  refine lv_iadd hx hb dL_law_1136 ?_
  obtain ⟨v1137, ev1137, hf⟩ := bO_s hf
  refine r_sld hx hb hX hbl hbA hS ev1137 dL_law_1137 ?_
  refine lv_aload_n hx hb dL_law_1138 rfl (lv_at hl 0 rfl) ?_
  refine lv_iload_n hx hb dL_law_1139 rfl (lv_at hl 3 rfl) ?_
  refine lv_iconst (v := 2) hx hb dL_law_1140 (by decide) ?_
  refine lv_iadd hx hb dL_law_1141 ?_
  obtain ⟨v1142, ev1142, hf⟩ := bO_s hf
  refine r_sld hx hb hX hbl hbA hS ev1142 dL_law_1142 ?_
  obtain ⟨r1143, h1143, er1143, hf⟩ := bP_s hf
  refine r_callI (va_runV (As := [.int v1137, .int v1142]) (rest := []) ⟨hx, hb, hml, hown, hts⟩ (k_X8_soonest l hG er1143) (cwV 2 hts (gV wd897 wd898 wd899 wd73 wd900) rfl rfl rfl (by decide +kernel) ⟨Nat.le_of_ble_eq_true rfl, Nat.le_of_ble_eq_true rfl⟩) (r_pv hK hP hS (ltX8 rfl) (ceX8 rfl) rfl) rfl rfl hl.1 rfl (lv_room (Nat.le_of_ble_eq_true rfl)) dL_law_1143 ⟨Nat.le_of_ble_eq_true rfl, Nat.le_of_ble_eq_true rfl⟩) hS (fun H locs hP hS => ?_)
  refine lv_aload_n hx hb dL_law_1146 rfl (lv_at hl 2 rfl) ?_
  refine lv_aload_n hx hb dL_law_1147 rfl (lv_at hl 0 rfl) ?_
  refine lv_iload_n hx hb dL_law_1148 rfl (lv_at hl 3 rfl) ?_
  refine lv_iconst (v := 1) hx hb dL_law_1149 (by decide) ?_
  refine lv_iadd hx hb dL_law_1150 ?_
  obtain ⟨v1151, ev1151, hf⟩ := bO_s hf
  refine r_sld hx hb hX hbl hbA hS ev1151 dL_law_1151 ?_
  refine lv_aload_n hx hb dL_law_1152 rfl (lv_at hl 0 rfl) ?_
  refine lv_iload_n hx hb dL_law_1153 rfl (lv_at hl 3 rfl) ?_
  refine lv_iconst (v := 2) hx hb dL_law_1154 (by decide) ?_
  refine lv_iadd hx hb dL_law_1155 ?_
  obtain ⟨v1156, ev1156, hf⟩ := bO_s hf
  refine r_sld hx hb hX hbl hbA hS ev1156 dL_law_1156 ?_
  obtain ⟨r1157, h1157, er1157, hf⟩ := bP_s hf
  refine r_callI (va_runV (As := [.int v1151, .int v1156]) (rest := [.int r1143]) ⟨hx, hb, hml, hown, hts⟩ (k_X9_soonest l hG er1157) (cwV 2 hts (gV wd1485 wd1486 wd1487 wd82 wd1488) rfl rfl rfl (by decide +kernel) ⟨Nat.le_of_ble_eq_true rfl, Nat.le_of_ble_eq_true rfl⟩) (r_pv hK hP hS (ltX9 rfl) (ceX9 rfl) rfl) rfl rfl hl.1 rfl (lv_room (Nat.le_of_ble_eq_true rfl)) dL_law_1157 ⟨Nat.le_of_ble_eq_true rfl, Nat.le_of_ble_eq_true rfl⟩) hS (fun H locs hP hS => ?_)
  refine lv_icmp_eq (tgt := 1584) hx hb dL_law_1160 (by decide) (fun c1160 => ?_) (fun c1160 => ?_)
  · replace hf := if_t c1160 hf
    refine lv_iinc (v := (x3 + 5)) (lv' := [(3, .int (x3 + 5)), (0, .ref b), (1, .ref (gB G 0)), (2, .ref (gB G 66))]) hx hb dL_law_1584 hl (k := 3) rfl rfl (by decide) rfl (fun ls hl => ?_)
    refine lv_goto (tgt := 18) hx hb dL_law_1587 (by decide) ?_
    exact hk18 (x3 + 5) h1157 _ _ _ (lv_sub hl [1, 2, 3, 0] rfl) hP hS hf
  · replace hf := if_f c1160 hf
    refine lv_iconst (v := 0) hx hb dL_law_1163 (by decide) ?_
    exact absurd (Option.some.inj hf) (by decide)
def f_L_law_1165 (L : Nat) (xs : Nat → Int32) (k18 : Int32 → PH → Option Int32) (x3 : Int32) (h : PH) : Option Int32 := bO (sg L xs (x3 + 1)) (fun v1170 => bO (sg L xs (x3 + 2)) (fun v1175 => if v1175 = 0 then (bP (f_X8_ready v1170 0 h) (fun r1184 h1184 => bO (sg L xs (x3 + 1)) (fun v1192 => bO (sg L xs (x3 + 2)) (fun v1197 => if v1197 = 0 then (bP (f_X9_ready v1192 0 h1184) (fun r1206 h1206 => if r1184 = r1206 then (k18 (x3 + 5) h1206) else (some 0))) else (bP (f_X9_ready v1192 1 h1184) (fun r1206 h1206 => if r1184 = r1206 then (k18 (x3 + 5) h1206) else (some 0))))))) else (bP (f_X8_ready v1170 1 h) (fun r1184 h1184 => bO (sg L xs (x3 + 1)) (fun v1192 => bO (sg L xs (x3 + 2)) (fun v1197 => if v1197 = 0 then (bP (f_X9_ready v1192 0 h1184) (fun r1206 h1206 => if r1184 = r1206 then (k18 (x3 + 5) h1206) else (some 0))) else (bP (f_X9_ready v1192 1 h1184) (fun r1206 h1206 => if r1184 = r1206 then (k18 (x3 + 5) h1206) else (some 0)))))))))
set_option maxHeartbeats 4000000 in
set_option maxRecDepth 100000 in
theorem w_L_law_1165 {l : Launch} {G : GC} (hG : GOK G) {p : Program} {e : Env} {s : State} {m : MethodId} {below : List Frame} {meth : Method} {c : Code} {b L : Nat} {xs : Nat → Int32} (C : lw_At p s m meth c b L xs) (hbA : ¬ gA G b) (hA0 : ∀ q, gA G q → s.heap.size ≤ q) (hK : KW G s) (k18 : Int32 → PH → Option Int32) (hk18 : ∀ (x3 : Int32) (h : PH) (H : Heap) (locs : List Loc) (ls : Array Slot), lv_has ls 4 [(0, .ref b), (1, .ref (gB G 0)), (2, .ref (gB G 66)), (3, .int x3)] → WP G h H → SP G s H locs → k18 x3 h = some 1 → W p l e room_1 s m #[Value.ref b] below meth c H locs 98 12102 (lw_Z below #[Value.ref b] s) (F0 m 18 ls [])) : ∀ (x3 : Int32) (h : PH) (H : Heap) (locs : List Loc) (ls : Array Slot), lv_has ls 4 [(0, .ref b), (1, .ref (gB G 0)), (2, .ref (gB G 66)), (3, .int x3)] → WP G h H → SP G s H locs → f_L_law_1165 L xs k18 x3 h = some 1 → W p l e room_1 s m #[Value.ref b] below meth c H locs 98 12102 (lw_Z below #[Value.ref b] s) (F0 m 1165 ls []) := by
  obtain ⟨hx, hb, hr, hml, hown, hts0, hX, hbl, hlocks, -⟩ := id C
  have hts : ∀ w ∈ GW, w.before #[Value.ref b] s = true := fun w hw => hts0 w (gw_tbl w hw)
  intro x3 h H locs ls hl hP hS hf
  rw [f_L_law_1165] at hf
  refine lv_aload_n hx hb dL_law_1165 rfl (lv_at hl 1 rfl) ?_
  refine lv_aload_n hx hb dL_law_1166 rfl (lv_at hl 0 rfl) ?_
  refine lv_iload_n hx hb dL_law_1167 rfl (lv_at hl 3 rfl) ?_
  refine lv_iconst (v := 1) hx hb dL_law_1168 (by decide) ?_
  refine lv_iadd hx hb dL_law_1169 ?_
  obtain ⟨v1170, ev1170, hf⟩ := bO_s hf
  refine r_sld hx hb hX hbl hbA hS ev1170 dL_law_1170 ?_
  refine lv_aload_n hx hb dL_law_1171 rfl (lv_at hl 0 rfl) ?_
  refine lv_iload_n hx hb dL_law_1172 rfl (lv_at hl 3 rfl) ?_
  refine lv_iconst (v := 2) hx hb dL_law_1173 (by decide) ?_
  refine lv_iadd hx hb dL_law_1174 ?_
  obtain ⟨v1175, ev1175, hf⟩ := bO_s hf
  refine r_sld hx hb hX hbl hbA hS ev1175 dL_law_1175 ?_
  refine lv_if_eq (tgt := 1183) hx hb dL_law_1176 (by decide) (fun c1176 => ?_) (fun c1176 => ?_)
  · replace hf := if_t c1176 hf
    refine lv_iconst (v := 0) hx hb dL_law_1183 (by decide) ?_
    obtain ⟨r1184, h1184, er1184, hf⟩ := bP_s hf
    refine r_callI (va_runV (As := [.int v1170, .int 0]) (rest := []) ⟨hx, hb, hml, hown, hts⟩ (k_X8_ready l hG er1184) (cwV 2 hts (gV wd905 wd906 wd907 wd73 wd908) rfl rfl rfl (by decide +kernel) ⟨Nat.le_of_ble_eq_true rfl, Nat.le_of_ble_eq_true rfl⟩) (r_pv hK hP hS (ltX8 rfl) (ceX8 rfl) rfl) rfl rfl hl.1 rfl (lv_room (Nat.le_of_ble_eq_true rfl)) dL_law_1184 ⟨Nat.le_of_ble_eq_true rfl, Nat.le_of_ble_eq_true rfl⟩) hS (fun H locs hP hS => ?_)
    refine lv_aload_n hx hb dL_law_1187 rfl (lv_at hl 2 rfl) ?_
    refine lv_aload_n hx hb dL_law_1188 rfl (lv_at hl 0 rfl) ?_
    refine lv_iload_n hx hb dL_law_1189 rfl (lv_at hl 3 rfl) ?_
    refine lv_iconst (v := 1) hx hb dL_law_1190 (by decide) ?_
    refine lv_iadd hx hb dL_law_1191 ?_
    obtain ⟨v1192, ev1192, hf⟩ := bO_s hf
    refine r_sld hx hb hX hbl hbA hS ev1192 dL_law_1192 ?_
    refine lv_aload_n hx hb dL_law_1193 rfl (lv_at hl 0 rfl) ?_
    refine lv_iload_n hx hb dL_law_1194 rfl (lv_at hl 3 rfl) ?_
    refine lv_iconst (v := 2) hx hb dL_law_1195 (by decide) ?_
    refine lv_iadd hx hb dL_law_1196 ?_
    obtain ⟨v1197, ev1197, hf⟩ := bO_s hf
    refine r_sld hx hb hX hbl hbA hS ev1197 dL_law_1197 ?_
    refine lv_if_eq (tgt := 1205) hx hb dL_law_1198 (by decide) (fun c1198 => ?_) (fun c1198 => ?_)
    · replace hf := if_t c1198 hf
      refine lv_iconst (v := 0) hx hb dL_law_1205 (by decide) ?_
      obtain ⟨r1206, h1206, er1206, hf⟩ := bP_s hf
      refine r_callI (va_runV (As := [.int v1192, .int 0]) (rest := [.int r1184]) ⟨hx, hb, hml, hown, hts⟩ (k_X9_ready l hG er1206) (cwV 2 hts (gV wd1489 wd1490 wd1491 wd82 wd1492) rfl rfl rfl (by decide +kernel) ⟨Nat.le_of_ble_eq_true rfl, Nat.le_of_ble_eq_true rfl⟩) (r_pv hK hP hS (ltX9 rfl) (ceX9 rfl) rfl) rfl rfl hl.1 rfl (lv_room (Nat.le_of_ble_eq_true rfl)) dL_law_1206 ⟨Nat.le_of_ble_eq_true rfl, Nat.le_of_ble_eq_true rfl⟩) hS (fun H locs hP hS => ?_)
      refine lv_icmp_eq (tgt := 1584) hx hb dL_law_1209 (by decide) (fun c1209 => ?_) (fun c1209 => ?_)
      · replace hf := if_t c1209 hf
        refine lv_iinc (v := (x3 + 5)) (lv' := [(3, .int (x3 + 5)), (0, .ref b), (1, .ref (gB G 0)), (2, .ref (gB G 66))]) hx hb dL_law_1584 hl (k := 3) rfl rfl (by decide) rfl (fun ls hl => ?_)
        refine lv_goto (tgt := 18) hx hb dL_law_1587 (by decide) ?_
        exact hk18 (x3 + 5) h1206 _ _ _ (lv_sub hl [1, 2, 3, 0] rfl) hP hS hf
      · replace hf := if_f c1209 hf
        refine lv_iconst (v := 0) hx hb dL_law_1212 (by decide) ?_
        exact absurd (Option.some.inj hf) (by decide)
    · replace hf := if_f c1198 hf
      refine lv_iconst (v := 1) hx hb dL_law_1201 (by decide) ?_
      refine lv_goto (tgt := 1206) hx hb dL_law_1202 (by decide) ?_
      obtain ⟨r1206, h1206, er1206, hf⟩ := bP_s hf
      refine r_callI (va_runV (As := [.int v1192, .int 1]) (rest := [.int r1184]) ⟨hx, hb, hml, hown, hts⟩ (k_X9_ready l hG er1206) (cwV 2 hts (gV wd1489 wd1490 wd1491 wd82 wd1492) rfl rfl rfl (by decide +kernel) ⟨Nat.le_of_ble_eq_true rfl, Nat.le_of_ble_eq_true rfl⟩) (r_pv hK hP hS (ltX9 rfl) (ceX9 rfl) rfl) rfl rfl hl.1 rfl (lv_room (Nat.le_of_ble_eq_true rfl)) dL_law_1206 ⟨Nat.le_of_ble_eq_true rfl, Nat.le_of_ble_eq_true rfl⟩) hS (fun H locs hP hS => ?_)
      refine lv_icmp_eq (tgt := 1584) hx hb dL_law_1209 (by decide) (fun c1209 => ?_) (fun c1209 => ?_)
      · replace hf := if_t c1209 hf
        refine lv_iinc (v := (x3 + 5)) (lv' := [(3, .int (x3 + 5)), (0, .ref b), (1, .ref (gB G 0)), (2, .ref (gB G 66))]) hx hb dL_law_1584 hl (k := 3) rfl rfl (by decide) rfl (fun ls hl => ?_)
        refine lv_goto (tgt := 18) hx hb dL_law_1587 (by decide) ?_
        exact hk18 (x3 + 5) h1206 _ _ _ (lv_sub hl [1, 2, 3, 0] rfl) hP hS hf
      · replace hf := if_f c1209 hf
        refine lv_iconst (v := 0) hx hb dL_law_1212 (by decide) ?_
        exact absurd (Option.some.inj hf) (by decide)
  · replace hf := if_f c1176 hf
    refine lv_iconst (v := 1) hx hb dL_law_1179 (by decide) ?_
    refine lv_goto (tgt := 1184) hx hb dL_law_1180 (by decide) ?_
    obtain ⟨r1184, h1184, er1184, hf⟩ := bP_s hf
    refine r_callI (va_runV (As := [.int v1170, .int 1]) (rest := []) ⟨hx, hb, hml, hown, hts⟩ (k_X8_ready l hG er1184) (cwV 2 hts (gV wd905 wd906 wd907 wd73 wd908) rfl rfl rfl (by decide +kernel) ⟨Nat.le_of_ble_eq_true rfl, Nat.le_of_ble_eq_true rfl⟩) (r_pv hK hP hS (ltX8 rfl) (ceX8 rfl) rfl) rfl rfl hl.1 rfl (lv_room (Nat.le_of_ble_eq_true rfl)) dL_law_1184 ⟨Nat.le_of_ble_eq_true rfl, Nat.le_of_ble_eq_true rfl⟩) hS (fun H locs hP hS => ?_)
    refine lv_aload_n hx hb dL_law_1187 rfl (lv_at hl 2 rfl) ?_
    refine lv_aload_n hx hb dL_law_1188 rfl (lv_at hl 0 rfl) ?_
    refine lv_iload_n hx hb dL_law_1189 rfl (lv_at hl 3 rfl) ?_
    refine lv_iconst (v := 1) hx hb dL_law_1190 (by decide) ?_
    refine lv_iadd hx hb dL_law_1191 ?_
    obtain ⟨v1192, ev1192, hf⟩ := bO_s hf
    refine r_sld hx hb hX hbl hbA hS ev1192 dL_law_1192 ?_
    refine lv_aload_n hx hb dL_law_1193 rfl (lv_at hl 0 rfl) ?_
    refine lv_iload_n hx hb dL_law_1194 rfl (lv_at hl 3 rfl) ?_
    refine lv_iconst (v := 2) hx hb dL_law_1195 (by decide) ?_
    refine lv_iadd hx hb dL_law_1196 ?_
    obtain ⟨v1197, ev1197, hf⟩ := bO_s hf
    refine r_sld hx hb hX hbl hbA hS ev1197 dL_law_1197 ?_
    refine lv_if_eq (tgt := 1205) hx hb dL_law_1198 (by decide) (fun c1198 => ?_) (fun c1198 => ?_)
    · replace hf := if_t c1198 hf
      refine lv_iconst (v := 0) hx hb dL_law_1205 (by decide) ?_
      obtain ⟨r1206, h1206, er1206, hf⟩ := bP_s hf
      refine r_callI (va_runV (As := [.int v1192, .int 0]) (rest := [.int r1184]) ⟨hx, hb, hml, hown, hts⟩ (k_X9_ready l hG er1206) (cwV 2 hts (gV wd1489 wd1490 wd1491 wd82 wd1492) rfl rfl rfl (by decide +kernel) ⟨Nat.le_of_ble_eq_true rfl, Nat.le_of_ble_eq_true rfl⟩) (r_pv hK hP hS (ltX9 rfl) (ceX9 rfl) rfl) rfl rfl hl.1 rfl (lv_room (Nat.le_of_ble_eq_true rfl)) dL_law_1206 ⟨Nat.le_of_ble_eq_true rfl, Nat.le_of_ble_eq_true rfl⟩) hS (fun H locs hP hS => ?_)
      refine lv_icmp_eq (tgt := 1584) hx hb dL_law_1209 (by decide) (fun c1209 => ?_) (fun c1209 => ?_)
      · replace hf := if_t c1209 hf
        refine lv_iinc (v := (x3 + 5)) (lv' := [(3, .int (x3 + 5)), (0, .ref b), (1, .ref (gB G 0)), (2, .ref (gB G 66))]) hx hb dL_law_1584 hl (k := 3) rfl rfl (by decide) rfl (fun ls hl => ?_)
        refine lv_goto (tgt := 18) hx hb dL_law_1587 (by decide) ?_
        exact hk18 (x3 + 5) h1206 _ _ _ (lv_sub hl [1, 2, 3, 0] rfl) hP hS hf
      · replace hf := if_f c1209 hf
        refine lv_iconst (v := 0) hx hb dL_law_1212 (by decide) ?_
        exact absurd (Option.some.inj hf) (by decide)
    · replace hf := if_f c1198 hf
      refine lv_iconst (v := 1) hx hb dL_law_1201 (by decide) ?_
      refine lv_goto (tgt := 1206) hx hb dL_law_1202 (by decide) ?_
      obtain ⟨r1206, h1206, er1206, hf⟩ := bP_s hf
      refine r_callI (va_runV (As := [.int v1192, .int 1]) (rest := [.int r1184]) ⟨hx, hb, hml, hown, hts⟩ (k_X9_ready l hG er1206) (cwV 2 hts (gV wd1489 wd1490 wd1491 wd82 wd1492) rfl rfl rfl (by decide +kernel) ⟨Nat.le_of_ble_eq_true rfl, Nat.le_of_ble_eq_true rfl⟩) (r_pv hK hP hS (ltX9 rfl) (ceX9 rfl) rfl) rfl rfl hl.1 rfl (lv_room (Nat.le_of_ble_eq_true rfl)) dL_law_1206 ⟨Nat.le_of_ble_eq_true rfl, Nat.le_of_ble_eq_true rfl⟩) hS (fun H locs hP hS => ?_)
      refine lv_icmp_eq (tgt := 1584) hx hb dL_law_1209 (by decide) (fun c1209 => ?_) (fun c1209 => ?_)
      · replace hf := if_t c1209 hf
        refine lv_iinc (v := (x3 + 5)) (lv' := [(3, .int (x3 + 5)), (0, .ref b), (1, .ref (gB G 0)), (2, .ref (gB G 66))]) hx hb dL_law_1584 hl (k := 3) rfl rfl (by decide) rfl (fun ls hl => ?_)
        refine lv_goto (tgt := 18) hx hb dL_law_1587 (by decide) ?_
        exact hk18 (x3 + 5) h1206 _ _ _ (lv_sub hl [1, 2, 3, 0] rfl) hP hS hf
      · replace hf := if_f c1209 hf
        refine lv_iconst (v := 0) hx hb dL_law_1212 (by decide) ?_
        exact absurd (Option.some.inj hf) (by decide)
def f_L_law_1214 (L : Nat) (xs : Nat → Int32) (k18 : Int32 → PH → Option Int32) (x3 : Int32) (h : PH) : Option Int32 := bO (sg L xs (x3 + 1)) (fun v1219 => bO (sg L xs (x3 + 2)) (fun v1224 => bP (f_X8_orders v1219 v1224 h) (fun r1225 h1225 => bO (sg L xs (x3 + 1)) (fun v1233 => bO (sg L xs (x3 + 2)) (fun v1238 => bP (f_X9_orders v1233 v1238 h1225) (fun r1239 h1239 => if r1225 = r1239 then (k18 (x3 + 5) h1239) else (some 0)))))))
set_option maxHeartbeats 4000000 in
set_option maxRecDepth 100000 in
theorem w_L_law_1214 {l : Launch} {G : GC} (hG : GOK G) {p : Program} {e : Env} {s : State} {m : MethodId} {below : List Frame} {meth : Method} {c : Code} {b L : Nat} {xs : Nat → Int32} (C : lw_At p s m meth c b L xs) (hbA : ¬ gA G b) (hA0 : ∀ q, gA G q → s.heap.size ≤ q) (hK : KW G s) (k18 : Int32 → PH → Option Int32) (hk18 : ∀ (x3 : Int32) (h : PH) (H : Heap) (locs : List Loc) (ls : Array Slot), lv_has ls 4 [(0, .ref b), (1, .ref (gB G 0)), (2, .ref (gB G 66)), (3, .int x3)] → WP G h H → SP G s H locs → k18 x3 h = some 1 → W p l e room_1 s m #[Value.ref b] below meth c H locs 98 12102 (lw_Z below #[Value.ref b] s) (F0 m 18 ls [])) : ∀ (x3 : Int32) (h : PH) (H : Heap) (locs : List Loc) (ls : Array Slot), lv_has ls 4 [(0, .ref b), (1, .ref (gB G 0)), (2, .ref (gB G 66)), (3, .int x3)] → WP G h H → SP G s H locs → f_L_law_1214 L xs k18 x3 h = some 1 → W p l e room_1 s m #[Value.ref b] below meth c H locs 98 12102 (lw_Z below #[Value.ref b] s) (F0 m 1214 ls []) := by
  obtain ⟨hx, hb, hr, hml, hown, hts0, hX, hbl, hlocks, -⟩ := id C
  have hts : ∀ w ∈ GW, w.before #[Value.ref b] s = true := fun w hw => hts0 w (gw_tbl w hw)
  intro x3 h H locs ls hl hP hS hf
  rw [f_L_law_1214] at hf
  refine lv_aload_n hx hb dL_law_1214 rfl (lv_at hl 1 rfl) ?_
  refine lv_aload_n hx hb dL_law_1215 rfl (lv_at hl 0 rfl) ?_
  refine lv_iload_n hx hb dL_law_1216 rfl (lv_at hl 3 rfl) ?_
  refine lv_iconst (v := 1) hx hb dL_law_1217 (by decide) ?_
  refine lv_iadd hx hb dL_law_1218 ?_
  obtain ⟨v1219, ev1219, hf⟩ := bO_s hf
  refine r_sld hx hb hX hbl hbA hS ev1219 dL_law_1219 ?_
  refine lv_aload_n hx hb dL_law_1220 rfl (lv_at hl 0 rfl) ?_
  refine lv_iload_n hx hb dL_law_1221 rfl (lv_at hl 3 rfl) ?_
  refine lv_iconst (v := 2) hx hb dL_law_1222 (by decide) ?_
  refine lv_iadd hx hb dL_law_1223 ?_
  obtain ⟨v1224, ev1224, hf⟩ := bO_s hf
  refine r_sld hx hb hX hbl hbA hS ev1224 dL_law_1224 ?_
  obtain ⟨r1225, h1225, er1225, hf⟩ := bP_s hf
  refine r_callI (va_runV (As := [.int v1219, .int v1224]) (rest := []) ⟨hx, hb, hml, hown, hts⟩ (k_X8_orders l hG er1225) (cwV 2 hts (gV wd921 wd922 wd923 wd73 wd924) rfl rfl rfl (by decide +kernel) ⟨Nat.le_of_ble_eq_true rfl, Nat.le_of_ble_eq_true rfl⟩) (r_pv hK hP hS (ltX8 rfl) (ceX8 rfl) rfl) rfl rfl hl.1 rfl (lv_room (Nat.le_of_ble_eq_true rfl)) dL_law_1225 ⟨Nat.le_of_ble_eq_true rfl, Nat.le_of_ble_eq_true rfl⟩) hS (fun H locs hP hS => ?_)
  refine lv_aload_n hx hb dL_law_1228 rfl (lv_at hl 2 rfl) ?_
  refine lv_aload_n hx hb dL_law_1229 rfl (lv_at hl 0 rfl) ?_
  refine lv_iload_n hx hb dL_law_1230 rfl (lv_at hl 3 rfl) ?_
  refine lv_iconst (v := 1) hx hb dL_law_1231 (by decide) ?_
  refine lv_iadd hx hb dL_law_1232 ?_
  obtain ⟨v1233, ev1233, hf⟩ := bO_s hf
  refine r_sld hx hb hX hbl hbA hS ev1233 dL_law_1233 ?_
  refine lv_aload_n hx hb dL_law_1234 rfl (lv_at hl 0 rfl) ?_
  refine lv_iload_n hx hb dL_law_1235 rfl (lv_at hl 3 rfl) ?_
  refine lv_iconst (v := 2) hx hb dL_law_1236 (by decide) ?_
  refine lv_iadd hx hb dL_law_1237 ?_
  obtain ⟨v1238, ev1238, hf⟩ := bO_s hf
  refine r_sld hx hb hX hbl hbA hS ev1238 dL_law_1238 ?_
  obtain ⟨r1239, h1239, er1239, hf⟩ := bP_s hf
  refine r_callI (va_runV (As := [.int v1233, .int v1238]) (rest := [.int r1225]) ⟨hx, hb, hml, hown, hts⟩ (k_X9_orders l hG er1239) (cwV 2 hts (gV wd1497 wd1498 wd1499 wd82 wd1500) rfl rfl rfl (by decide +kernel) ⟨Nat.le_of_ble_eq_true rfl, Nat.le_of_ble_eq_true rfl⟩) (r_pv hK hP hS (ltX9 rfl) (ceX9 rfl) rfl) rfl rfl hl.1 rfl (lv_room (Nat.le_of_ble_eq_true rfl)) dL_law_1239 ⟨Nat.le_of_ble_eq_true rfl, Nat.le_of_ble_eq_true rfl⟩) hS (fun H locs hP hS => ?_)
  refine lv_icmp_eq (tgt := 1584) hx hb dL_law_1242 (by decide) (fun c1242 => ?_) (fun c1242 => ?_)
  · replace hf := if_t c1242 hf
    refine lv_iinc (v := (x3 + 5)) (lv' := [(3, .int (x3 + 5)), (0, .ref b), (1, .ref (gB G 0)), (2, .ref (gB G 66))]) hx hb dL_law_1584 hl (k := 3) rfl rfl (by decide) rfl (fun ls hl => ?_)
    refine lv_goto (tgt := 18) hx hb dL_law_1587 (by decide) ?_
    exact hk18 (x3 + 5) h1239 _ _ _ (lv_sub hl [1, 2, 3, 0] rfl) hP hS hf
  · replace hf := if_f c1242 hf
    refine lv_iconst (v := 0) hx hb dL_law_1245 (by decide) ?_
    exact absurd (Option.some.inj hf) (by decide)
def f_L_law_1247 (L : Nat) (xs : Nat → Int32) (k18 : Int32 → PH → Option Int32) (x3 : Int32) (h : PH) : Option Int32 := bO (sg L xs (x3 + 1)) (fun v1252 => bO (sg L xs (x3 + 2)) (fun v1257 => bO (sg L xs (x3 + 3)) (fun v1262 => bO (sg L xs (x3 + 4)) (fun v1267 => bP (f_X8_order v1252 v1257 v1262 v1267 h) (fun r1268 h1268 => bO (sg L xs (x3 + 1)) (fun v1276 => bO (sg L xs (x3 + 2)) (fun v1281 => bO (sg L xs (x3 + 3)) (fun v1286 => bO (sg L xs (x3 + 4)) (fun v1291 => bP (f_X9_order v1276 v1281 v1286 v1291 h1268) (fun r1292 h1292 => if r1268 = r1292 then (k18 (x3 + 5) h1292) else (some 0)))))))))))
set_option maxHeartbeats 4000000 in
set_option maxRecDepth 100000 in
theorem w_L_law_1247 {l : Launch} {G : GC} (hG : GOK G) {p : Program} {e : Env} {s : State} {m : MethodId} {below : List Frame} {meth : Method} {c : Code} {b L : Nat} {xs : Nat → Int32} (C : lw_At p s m meth c b L xs) (hbA : ¬ gA G b) (hA0 : ∀ q, gA G q → s.heap.size ≤ q) (hK : KW G s) (k18 : Int32 → PH → Option Int32) (hk18 : ∀ (x3 : Int32) (h : PH) (H : Heap) (locs : List Loc) (ls : Array Slot), lv_has ls 4 [(0, .ref b), (1, .ref (gB G 0)), (2, .ref (gB G 66)), (3, .int x3)] → WP G h H → SP G s H locs → k18 x3 h = some 1 → W p l e room_1 s m #[Value.ref b] below meth c H locs 98 12102 (lw_Z below #[Value.ref b] s) (F0 m 18 ls [])) : ∀ (x3 : Int32) (h : PH) (H : Heap) (locs : List Loc) (ls : Array Slot), lv_has ls 4 [(0, .ref b), (1, .ref (gB G 0)), (2, .ref (gB G 66)), (3, .int x3)] → WP G h H → SP G s H locs → f_L_law_1247 L xs k18 x3 h = some 1 → W p l e room_1 s m #[Value.ref b] below meth c H locs 98 12102 (lw_Z below #[Value.ref b] s) (F0 m 1247 ls []) := by
  obtain ⟨hx, hb, hr, hml, hown, hts0, hX, hbl, hlocks, -⟩ := id C
  have hts : ∀ w ∈ GW, w.before #[Value.ref b] s = true := fun w hw => hts0 w (gw_tbl w hw)
  intro x3 h H locs ls hl hP hS hf
  rw [f_L_law_1247] at hf
  refine lv_aload_n hx hb dL_law_1247 rfl (lv_at hl 1 rfl) ?_
  refine lv_aload_n hx hb dL_law_1248 rfl (lv_at hl 0 rfl) ?_
  refine lv_iload_n hx hb dL_law_1249 rfl (lv_at hl 3 rfl) ?_
  refine lv_iconst (v := 1) hx hb dL_law_1250 (by decide) ?_
  refine lv_iadd hx hb dL_law_1251 ?_
  obtain ⟨v1252, ev1252, hf⟩ := bO_s hf
  refine r_sld hx hb hX hbl hbA hS ev1252 dL_law_1252 ?_
  refine lv_aload_n hx hb dL_law_1253 rfl (lv_at hl 0 rfl) ?_
  refine lv_iload_n hx hb dL_law_1254 rfl (lv_at hl 3 rfl) ?_
  refine lv_iconst (v := 2) hx hb dL_law_1255 (by decide) ?_
  refine lv_iadd hx hb dL_law_1256 ?_
  obtain ⟨v1257, ev1257, hf⟩ := bO_s hf
  refine r_sld hx hb hX hbl hbA hS ev1257 dL_law_1257 ?_
  refine lv_aload_n hx hb dL_law_1258 rfl (lv_at hl 0 rfl) ?_
  refine lv_iload_n hx hb dL_law_1259 rfl (lv_at hl 3 rfl) ?_
  refine lv_iconst (v := 3) hx hb dL_law_1260 (by decide) ?_
  refine lv_iadd hx hb dL_law_1261 ?_
  obtain ⟨v1262, ev1262, hf⟩ := bO_s hf
  refine r_sld hx hb hX hbl hbA hS ev1262 dL_law_1262 ?_
  refine lv_aload_n hx hb dL_law_1263 rfl (lv_at hl 0 rfl) ?_
  refine lv_iload_n hx hb dL_law_1264 rfl (lv_at hl 3 rfl) ?_
  refine lv_iconst (v := 4) hx hb dL_law_1265 (by decide) ?_
  refine lv_iadd hx hb dL_law_1266 ?_
  obtain ⟨v1267, ev1267, hf⟩ := bO_s hf
  refine r_sld hx hb hX hbl hbA hS ev1267 dL_law_1267 ?_
  obtain ⟨r1268, h1268, er1268, hf⟩ := bP_s hf
  refine r_callI (va_runV (As := [.int v1252, .int v1257, .int v1262, .int v1267]) (rest := []) ⟨hx, hb, hml, hown, hts⟩ (k_X8_order l hG er1268) (cwV 4 hts (gV wd954 wd955 wd956 wd73 wd957) rfl rfl rfl (by decide +kernel) ⟨Nat.le_of_ble_eq_true rfl, Nat.le_of_ble_eq_true rfl⟩) (r_pv hK hP hS (ltX8 rfl) (ceX8 rfl) rfl) rfl rfl hl.1 rfl (lv_room (Nat.le_of_ble_eq_true rfl)) dL_law_1268 ⟨Nat.le_of_ble_eq_true rfl, Nat.le_of_ble_eq_true rfl⟩) hS (fun H locs hP hS => ?_)
  refine lv_aload_n hx hb dL_law_1271 rfl (lv_at hl 2 rfl) ?_
  refine lv_aload_n hx hb dL_law_1272 rfl (lv_at hl 0 rfl) ?_
  refine lv_iload_n hx hb dL_law_1273 rfl (lv_at hl 3 rfl) ?_
  refine lv_iconst (v := 1) hx hb dL_law_1274 (by decide) ?_
  refine lv_iadd hx hb dL_law_1275 ?_
  obtain ⟨v1276, ev1276, hf⟩ := bO_s hf
  refine r_sld hx hb hX hbl hbA hS ev1276 dL_law_1276 ?_
  refine lv_aload_n hx hb dL_law_1277 rfl (lv_at hl 0 rfl) ?_
  refine lv_iload_n hx hb dL_law_1278 rfl (lv_at hl 3 rfl) ?_
  refine lv_iconst (v := 2) hx hb dL_law_1279 (by decide) ?_
  refine lv_iadd hx hb dL_law_1280 ?_
  obtain ⟨v1281, ev1281, hf⟩ := bO_s hf
  refine r_sld hx hb hX hbl hbA hS ev1281 dL_law_1281 ?_
  refine lv_aload_n hx hb dL_law_1282 rfl (lv_at hl 0 rfl) ?_
  refine lv_iload_n hx hb dL_law_1283 rfl (lv_at hl 3 rfl) ?_
  refine lv_iconst (v := 3) hx hb dL_law_1284 (by decide) ?_
  refine lv_iadd hx hb dL_law_1285 ?_
  obtain ⟨v1286, ev1286, hf⟩ := bO_s hf
  refine r_sld hx hb hX hbl hbA hS ev1286 dL_law_1286 ?_
  refine lv_aload_n hx hb dL_law_1287 rfl (lv_at hl 0 rfl) ?_
  refine lv_iload_n hx hb dL_law_1288 rfl (lv_at hl 3 rfl) ?_
  refine lv_iconst (v := 4) hx hb dL_law_1289 (by decide) ?_
  refine lv_iadd hx hb dL_law_1290 ?_
  obtain ⟨v1291, ev1291, hf⟩ := bO_s hf
  refine r_sld hx hb hX hbl hbA hS ev1291 dL_law_1291 ?_
  obtain ⟨r1292, h1292, er1292, hf⟩ := bP_s hf
  refine r_callI (va_runV (As := [.int v1276, .int v1281, .int v1286, .int v1291]) (rest := [.int r1268]) ⟨hx, hb, hml, hown, hts⟩ (k_X9_order l hG er1292) (cwV 4 hts (gV wd1525 wd1526 wd1527 wd82 wd1528) rfl rfl rfl (by decide +kernel) ⟨Nat.le_of_ble_eq_true rfl, Nat.le_of_ble_eq_true rfl⟩) (r_pv hK hP hS (ltX9 rfl) (ceX9 rfl) rfl) rfl rfl hl.1 rfl (lv_room (Nat.le_of_ble_eq_true rfl)) dL_law_1292 ⟨Nat.le_of_ble_eq_true rfl, Nat.le_of_ble_eq_true rfl⟩) hS (fun H locs hP hS => ?_)
  refine lv_icmp_eq (tgt := 1584) hx hb dL_law_1295 (by decide) (fun c1295 => ?_) (fun c1295 => ?_)
  · replace hf := if_t c1295 hf
    refine lv_iinc (v := (x3 + 5)) (lv' := [(3, .int (x3 + 5)), (0, .ref b), (1, .ref (gB G 0)), (2, .ref (gB G 66))]) hx hb dL_law_1584 hl (k := 3) rfl rfl (by decide) rfl (fun ls hl => ?_)
    refine lv_goto (tgt := 18) hx hb dL_law_1587 (by decide) ?_
    exact hk18 (x3 + 5) h1292 _ _ _ (lv_sub hl [1, 2, 3, 0] rfl) hP hS hf
  · replace hf := if_f c1295 hf
    refine lv_iconst (v := 0) hx hb dL_law_1298 (by decide) ?_
    exact absurd (Option.some.inj hf) (by decide)
def f_L_law_1300 (L : Nat) (xs : Nat → Int32) (k18 : Int32 → PH → Option Int32) (x3 : Int32) (h : PH) : Option Int32 := bO (sg L xs (x3 + 1)) (fun v1305 => bO (sg L xs (x3 + 2)) (fun v1310 => bP (f_X8_whence v1305 v1310 h) (fun r1311 h1311 => bO (sg L xs (x3 + 1)) (fun v1319 => bO (sg L xs (x3 + 2)) (fun v1324 => bP (f_X9_whence v1319 v1324 h1311) (fun r1325 h1325 => if r1311 = r1325 then (k18 (x3 + 5) h1325) else (some 0)))))))
set_option maxHeartbeats 4000000 in
set_option maxRecDepth 100000 in
theorem w_L_law_1300 {l : Launch} {G : GC} (hG : GOK G) {p : Program} {e : Env} {s : State} {m : MethodId} {below : List Frame} {meth : Method} {c : Code} {b L : Nat} {xs : Nat → Int32} (C : lw_At p s m meth c b L xs) (hbA : ¬ gA G b) (hA0 : ∀ q, gA G q → s.heap.size ≤ q) (hK : KW G s) (k18 : Int32 → PH → Option Int32) (hk18 : ∀ (x3 : Int32) (h : PH) (H : Heap) (locs : List Loc) (ls : Array Slot), lv_has ls 4 [(0, .ref b), (1, .ref (gB G 0)), (2, .ref (gB G 66)), (3, .int x3)] → WP G h H → SP G s H locs → k18 x3 h = some 1 → W p l e room_1 s m #[Value.ref b] below meth c H locs 98 12102 (lw_Z below #[Value.ref b] s) (F0 m 18 ls [])) : ∀ (x3 : Int32) (h : PH) (H : Heap) (locs : List Loc) (ls : Array Slot), lv_has ls 4 [(0, .ref b), (1, .ref (gB G 0)), (2, .ref (gB G 66)), (3, .int x3)] → WP G h H → SP G s H locs → f_L_law_1300 L xs k18 x3 h = some 1 → W p l e room_1 s m #[Value.ref b] below meth c H locs 98 12102 (lw_Z below #[Value.ref b] s) (F0 m 1300 ls []) := by
  obtain ⟨hx, hb, hr, hml, hown, hts0, hX, hbl, hlocks, -⟩ := id C
  have hts : ∀ w ∈ GW, w.before #[Value.ref b] s = true := fun w hw => hts0 w (gw_tbl w hw)
  intro x3 h H locs ls hl hP hS hf
  rw [f_L_law_1300] at hf
  refine lv_aload_n hx hb dL_law_1300 rfl (lv_at hl 1 rfl) ?_
  refine lv_aload_n hx hb dL_law_1301 rfl (lv_at hl 0 rfl) ?_
  refine lv_iload_n hx hb dL_law_1302 rfl (lv_at hl 3 rfl) ?_
  refine lv_iconst (v := 1) hx hb dL_law_1303 (by decide) ?_
  refine lv_iadd hx hb dL_law_1304 ?_
  obtain ⟨v1305, ev1305, hf⟩ := bO_s hf
  refine r_sld hx hb hX hbl hbA hS ev1305 dL_law_1305 ?_
  refine lv_aload_n hx hb dL_law_1306 rfl (lv_at hl 0 rfl) ?_
  refine lv_iload_n hx hb dL_law_1307 rfl (lv_at hl 3 rfl) ?_
  refine lv_iconst (v := 2) hx hb dL_law_1308 (by decide) ?_
  refine lv_iadd hx hb dL_law_1309 ?_
  obtain ⟨v1310, ev1310, hf⟩ := bO_s hf
  refine r_sld hx hb hX hbl hbA hS ev1310 dL_law_1310 ?_
  obtain ⟨r1311, h1311, er1311, hf⟩ := bP_s hf
  refine r_callI (va_runV (As := [.int v1305, .int v1310]) (rest := []) ⟨hx, hb, hml, hown, hts⟩ (k_X8_whence l hG er1311) (cwV 2 hts (gV wd966 wd967 wd968 wd73 wd969) rfl rfl rfl (by decide +kernel) ⟨Nat.le_of_ble_eq_true rfl, Nat.le_of_ble_eq_true rfl⟩) (r_pv hK hP hS (ltX8 rfl) (ceX8 rfl) rfl) rfl rfl hl.1 rfl (lv_room (Nat.le_of_ble_eq_true rfl)) dL_law_1311 ⟨Nat.le_of_ble_eq_true rfl, Nat.le_of_ble_eq_true rfl⟩) hS (fun H locs hP hS => ?_)
  refine lv_aload_n hx hb dL_law_1314 rfl (lv_at hl 2 rfl) ?_
  refine lv_aload_n hx hb dL_law_1315 rfl (lv_at hl 0 rfl) ?_
  refine lv_iload_n hx hb dL_law_1316 rfl (lv_at hl 3 rfl) ?_
  refine lv_iconst (v := 1) hx hb dL_law_1317 (by decide) ?_
  refine lv_iadd hx hb dL_law_1318 ?_
  obtain ⟨v1319, ev1319, hf⟩ := bO_s hf
  refine r_sld hx hb hX hbl hbA hS ev1319 dL_law_1319 ?_
  refine lv_aload_n hx hb dL_law_1320 rfl (lv_at hl 0 rfl) ?_
  refine lv_iload_n hx hb dL_law_1321 rfl (lv_at hl 3 rfl) ?_
  refine lv_iconst (v := 2) hx hb dL_law_1322 (by decide) ?_
  refine lv_iadd hx hb dL_law_1323 ?_
  obtain ⟨v1324, ev1324, hf⟩ := bO_s hf
  refine r_sld hx hb hX hbl hbA hS ev1324 dL_law_1324 ?_
  obtain ⟨r1325, h1325, er1325, hf⟩ := bP_s hf
  refine r_callI (va_runV (As := [.int v1319, .int v1324]) (rest := [.int r1311]) ⟨hx, hb, hml, hown, hts⟩ (k_X9_whence l hG er1325) (cwV 2 hts (gV wd1529 wd1530 wd1531 wd82 wd1532) rfl rfl rfl (by decide +kernel) ⟨Nat.le_of_ble_eq_true rfl, Nat.le_of_ble_eq_true rfl⟩) (r_pv hK hP hS (ltX9 rfl) (ceX9 rfl) rfl) rfl rfl hl.1 rfl (lv_room (Nat.le_of_ble_eq_true rfl)) dL_law_1325 ⟨Nat.le_of_ble_eq_true rfl, Nat.le_of_ble_eq_true rfl⟩) hS (fun H locs hP hS => ?_)
  refine lv_icmp_eq (tgt := 1584) hx hb dL_law_1328 (by decide) (fun c1328 => ?_) (fun c1328 => ?_)
  · replace hf := if_t c1328 hf
    refine lv_iinc (v := (x3 + 5)) (lv' := [(3, .int (x3 + 5)), (0, .ref b), (1, .ref (gB G 0)), (2, .ref (gB G 66))]) hx hb dL_law_1584 hl (k := 3) rfl rfl (by decide) rfl (fun ls hl => ?_)
    refine lv_goto (tgt := 18) hx hb dL_law_1587 (by decide) ?_
    exact hk18 (x3 + 5) h1325 _ _ _ (lv_sub hl [1, 2, 3, 0] rfl) hP hS hf
  · replace hf := if_f c1328 hf
    refine lv_iconst (v := 0) hx hb dL_law_1331 (by decide) ?_
    exact absurd (Option.some.inj hf) (by decide)
def f_L_law_1333 (L : Nat) (xs : Nat → Int32) (k18 : Int32 → PH → Option Int32) (x3 : Int32) (h : PH) : Option Int32 := bO (sg L xs (x3 + 1)) (fun v1338 => bP (f_X8_strayed v1338 h) (fun r1339 h1339 => bO (sg L xs (x3 + 1)) (fun v1347 => bP (f_X9_strayed v1347 h1339) (fun r1348 h1348 => if r1339 = r1348 then (k18 (x3 + 5) h1348) else (some 0)))))
set_option maxHeartbeats 4000000 in
set_option maxRecDepth 100000 in
theorem w_L_law_1333 {l : Launch} {G : GC} (hG : GOK G) {p : Program} {e : Env} {s : State} {m : MethodId} {below : List Frame} {meth : Method} {c : Code} {b L : Nat} {xs : Nat → Int32} (C : lw_At p s m meth c b L xs) (hbA : ¬ gA G b) (hA0 : ∀ q, gA G q → s.heap.size ≤ q) (hK : KW G s) (k18 : Int32 → PH → Option Int32) (hk18 : ∀ (x3 : Int32) (h : PH) (H : Heap) (locs : List Loc) (ls : Array Slot), lv_has ls 4 [(0, .ref b), (1, .ref (gB G 0)), (2, .ref (gB G 66)), (3, .int x3)] → WP G h H → SP G s H locs → k18 x3 h = some 1 → W p l e room_1 s m #[Value.ref b] below meth c H locs 98 12102 (lw_Z below #[Value.ref b] s) (F0 m 18 ls [])) : ∀ (x3 : Int32) (h : PH) (H : Heap) (locs : List Loc) (ls : Array Slot), lv_has ls 4 [(0, .ref b), (1, .ref (gB G 0)), (2, .ref (gB G 66)), (3, .int x3)] → WP G h H → SP G s H locs → f_L_law_1333 L xs k18 x3 h = some 1 → W p l e room_1 s m #[Value.ref b] below meth c H locs 98 12102 (lw_Z below #[Value.ref b] s) (F0 m 1333 ls []) := by
  obtain ⟨hx, hb, hr, hml, hown, hts0, hX, hbl, hlocks, -⟩ := id C
  have hts : ∀ w ∈ GW, w.before #[Value.ref b] s = true := fun w hw => hts0 w (gw_tbl w hw)
  intro x3 h H locs ls hl hP hS hf
  rw [f_L_law_1333] at hf
  refine lv_aload_n hx hb dL_law_1333 rfl (lv_at hl 1 rfl) ?_
  refine lv_aload_n hx hb dL_law_1334 rfl (lv_at hl 0 rfl) ?_
  refine lv_iload_n hx hb dL_law_1335 rfl (lv_at hl 3 rfl) ?_
  refine lv_iconst (v := 1) hx hb dL_law_1336 (by decide) ?_
  refine lv_iadd hx hb dL_law_1337 ?_
  obtain ⟨v1338, ev1338, hf⟩ := bO_s hf
  refine r_sld hx hb hX hbl hbA hS ev1338 dL_law_1338 ?_
  obtain ⟨r1339, h1339, er1339, hf⟩ := bP_s hf
  refine r_callI (va_runV (As := [.int v1338]) (rest := []) ⟨hx, hb, hml, hown, hts⟩ (k_X8_strayed l hG er1339) (cwV 1 hts (gV wd970 wd971 wd972 wd73 wd973) rfl rfl rfl (by decide +kernel) ⟨Nat.le_of_ble_eq_true rfl, Nat.le_of_ble_eq_true rfl⟩) (r_pv hK hP hS (ltX8 rfl) (ceX8 rfl) rfl) rfl rfl hl.1 rfl (lv_room (Nat.le_of_ble_eq_true rfl)) dL_law_1339 ⟨Nat.le_of_ble_eq_true rfl, Nat.le_of_ble_eq_true rfl⟩) hS (fun H locs hP hS => ?_)
  refine lv_aload_n hx hb dL_law_1342 rfl (lv_at hl 2 rfl) ?_
  refine lv_aload_n hx hb dL_law_1343 rfl (lv_at hl 0 rfl) ?_
  refine lv_iload_n hx hb dL_law_1344 rfl (lv_at hl 3 rfl) ?_
  refine lv_iconst (v := 1) hx hb dL_law_1345 (by decide) ?_
  refine lv_iadd hx hb dL_law_1346 ?_
  obtain ⟨v1347, ev1347, hf⟩ := bO_s hf
  refine r_sld hx hb hX hbl hbA hS ev1347 dL_law_1347 ?_
  obtain ⟨r1348, h1348, er1348, hf⟩ := bP_s hf
  refine r_callI (va_runV (As := [.int v1347]) (rest := [.int r1339]) ⟨hx, hb, hml, hown, hts⟩ (k_X9_strayed l hG er1348) (cwV 1 hts (gV wd1533 wd1534 wd1535 wd82 wd1536) rfl rfl rfl (by decide +kernel) ⟨Nat.le_of_ble_eq_true rfl, Nat.le_of_ble_eq_true rfl⟩) (r_pv hK hP hS (ltX9 rfl) (ceX9 rfl) rfl) rfl rfl hl.1 rfl (lv_room (Nat.le_of_ble_eq_true rfl)) dL_law_1348 ⟨Nat.le_of_ble_eq_true rfl, Nat.le_of_ble_eq_true rfl⟩) hS (fun H locs hP hS => ?_)
  refine lv_icmp_eq (tgt := 1584) hx hb dL_law_1351 (by decide) (fun c1351 => ?_) (fun c1351 => ?_)
  · replace hf := if_t c1351 hf
    refine lv_iinc (v := (x3 + 5)) (lv' := [(3, .int (x3 + 5)), (0, .ref b), (1, .ref (gB G 0)), (2, .ref (gB G 66))]) hx hb dL_law_1584 hl (k := 3) rfl rfl (by decide) rfl (fun ls hl => ?_)
    refine lv_goto (tgt := 18) hx hb dL_law_1587 (by decide) ?_
    exact hk18 (x3 + 5) h1348 _ _ _ (lv_sub hl [1, 2, 3, 0] rfl) hP hS hf
  · replace hf := if_f c1351 hf
    refine lv_iconst (v := 0) hx hb dL_law_1354 (by decide) ?_
    exact absurd (Option.some.inj hf) (by decide)
def f_L_law_1356 (L : Nat) (xs : Nat → Int32) (k18 : Int32 → PH → Option Int32) (x3 : Int32) (h : PH) : Option Int32 := bO (sg L xs (x3 + 1)) (fun v1361 => bO (sg L xs (x3 + 2)) (fun v1366 => bO (sg L xs (x3 + 3)) (fun v1371 => bP (f_X8_bestCut v1361 v1366 v1371 h) (fun r1372 h1372 => bO (sg L xs (x3 + 1)) (fun v1380 => bO (sg L xs (x3 + 2)) (fun v1385 => bO (sg L xs (x3 + 3)) (fun v1390 => bP (f_X9_bestCut v1380 v1385 v1390 h1372) (fun r1391 h1391 => if r1372 = r1391 then (k18 (x3 + 5) h1391) else (some 0)))))))))
set_option maxHeartbeats 4000000 in
set_option maxRecDepth 100000 in
theorem w_L_law_1356 {l : Launch} {G : GC} (hG : GOK G) {p : Program} {e : Env} {s : State} {m : MethodId} {below : List Frame} {meth : Method} {c : Code} {b L : Nat} {xs : Nat → Int32} (C : lw_At p s m meth c b L xs) (hbA : ¬ gA G b) (hA0 : ∀ q, gA G q → s.heap.size ≤ q) (hK : KW G s) (k18 : Int32 → PH → Option Int32) (hk18 : ∀ (x3 : Int32) (h : PH) (H : Heap) (locs : List Loc) (ls : Array Slot), lv_has ls 4 [(0, .ref b), (1, .ref (gB G 0)), (2, .ref (gB G 66)), (3, .int x3)] → WP G h H → SP G s H locs → k18 x3 h = some 1 → W p l e room_1 s m #[Value.ref b] below meth c H locs 98 12102 (lw_Z below #[Value.ref b] s) (F0 m 18 ls [])) : ∀ (x3 : Int32) (h : PH) (H : Heap) (locs : List Loc) (ls : Array Slot), lv_has ls 4 [(0, .ref b), (1, .ref (gB G 0)), (2, .ref (gB G 66)), (3, .int x3)] → WP G h H → SP G s H locs → f_L_law_1356 L xs k18 x3 h = some 1 → W p l e room_1 s m #[Value.ref b] below meth c H locs 98 12102 (lw_Z below #[Value.ref b] s) (F0 m 1356 ls []) := by
  obtain ⟨hx, hb, hr, hml, hown, hts0, hX, hbl, hlocks, -⟩ := id C
  have hts : ∀ w ∈ GW, w.before #[Value.ref b] s = true := fun w hw => hts0 w (gw_tbl w hw)
  intro x3 h H locs ls hl hP hS hf
  rw [f_L_law_1356] at hf
  refine lv_aload_n hx hb dL_law_1356 rfl (lv_at hl 1 rfl) ?_
  refine lv_aload_n hx hb dL_law_1357 rfl (lv_at hl 0 rfl) ?_
  refine lv_iload_n hx hb dL_law_1358 rfl (lv_at hl 3 rfl) ?_
  refine lv_iconst (v := 1) hx hb dL_law_1359 (by decide) ?_
  refine lv_iadd hx hb dL_law_1360 ?_
  obtain ⟨v1361, ev1361, hf⟩ := bO_s hf
  refine r_sld hx hb hX hbl hbA hS ev1361 dL_law_1361 ?_
  refine lv_aload_n hx hb dL_law_1362 rfl (lv_at hl 0 rfl) ?_
  refine lv_iload_n hx hb dL_law_1363 rfl (lv_at hl 3 rfl) ?_
  refine lv_iconst (v := 2) hx hb dL_law_1364 (by decide) ?_
  refine lv_iadd hx hb dL_law_1365 ?_
  obtain ⟨v1366, ev1366, hf⟩ := bO_s hf
  refine r_sld hx hb hX hbl hbA hS ev1366 dL_law_1366 ?_
  refine lv_aload_n hx hb dL_law_1367 rfl (lv_at hl 0 rfl) ?_
  refine lv_iload_n hx hb dL_law_1368 rfl (lv_at hl 3 rfl) ?_
  refine lv_iconst (v := 3) hx hb dL_law_1369 (by decide) ?_
  refine lv_iadd hx hb dL_law_1370 ?_
  obtain ⟨v1371, ev1371, hf⟩ := bO_s hf
  refine r_sld hx hb hX hbl hbA hS ev1371 dL_law_1371 ?_
  obtain ⟨r1372, h1372, er1372, hf⟩ := bP_s hf
  refine r_callI (va_runV (As := [.int v1361, .int v1366, .int v1371]) (rest := []) ⟨hx, hb, hml, hown, hts⟩ (k_X8_bestCut l hG er1372) (cwV 3 hts (gV wd974 wd975 wd976 wd73 wd977) rfl rfl rfl (by decide +kernel) ⟨Nat.le_of_ble_eq_true rfl, Nat.le_of_ble_eq_true rfl⟩) (r_pv hK hP hS (ltX8 rfl) (ceX8 rfl) rfl) rfl rfl hl.1 rfl (lv_room (Nat.le_of_ble_eq_true rfl)) dL_law_1372 ⟨Nat.le_of_ble_eq_true rfl, Nat.le_of_ble_eq_true rfl⟩) hS (fun H locs hP hS => ?_)
  refine lv_aload_n hx hb dL_law_1375 rfl (lv_at hl 2 rfl) ?_
  refine lv_aload_n hx hb dL_law_1376 rfl (lv_at hl 0 rfl) ?_
  refine lv_iload_n hx hb dL_law_1377 rfl (lv_at hl 3 rfl) ?_
  refine lv_iconst (v := 1) hx hb dL_law_1378 (by decide) ?_
  refine lv_iadd hx hb dL_law_1379 ?_
  obtain ⟨v1380, ev1380, hf⟩ := bO_s hf
  refine r_sld hx hb hX hbl hbA hS ev1380 dL_law_1380 ?_
  refine lv_aload_n hx hb dL_law_1381 rfl (lv_at hl 0 rfl) ?_
  refine lv_iload_n hx hb dL_law_1382 rfl (lv_at hl 3 rfl) ?_
  refine lv_iconst (v := 2) hx hb dL_law_1383 (by decide) ?_
  refine lv_iadd hx hb dL_law_1384 ?_
  obtain ⟨v1385, ev1385, hf⟩ := bO_s hf
  refine r_sld hx hb hX hbl hbA hS ev1385 dL_law_1385 ?_
  refine lv_aload_n hx hb dL_law_1386 rfl (lv_at hl 0 rfl) ?_
  refine lv_iload_n hx hb dL_law_1387 rfl (lv_at hl 3 rfl) ?_
  refine lv_iconst (v := 3) hx hb dL_law_1388 (by decide) ?_
  refine lv_iadd hx hb dL_law_1389 ?_
  obtain ⟨v1390, ev1390, hf⟩ := bO_s hf
  refine r_sld hx hb hX hbl hbA hS ev1390 dL_law_1390 ?_
  obtain ⟨r1391, h1391, er1391, hf⟩ := bP_s hf
  refine r_callI (va_runV (As := [.int v1380, .int v1385, .int v1390]) (rest := [.int r1372]) ⟨hx, hb, hml, hown, hts⟩ (k_X9_bestCut l hG er1391) (cwV 3 hts (gV wd1537 wd1538 wd1539 wd82 wd1540) rfl rfl rfl (by decide +kernel) ⟨Nat.le_of_ble_eq_true rfl, Nat.le_of_ble_eq_true rfl⟩) (r_pv hK hP hS (ltX9 rfl) (ceX9 rfl) rfl) rfl rfl hl.1 rfl (lv_room (Nat.le_of_ble_eq_true rfl)) dL_law_1391 ⟨Nat.le_of_ble_eq_true rfl, Nat.le_of_ble_eq_true rfl⟩) hS (fun H locs hP hS => ?_)
  refine lv_icmp_eq (tgt := 1584) hx hb dL_law_1394 (by decide) (fun c1394 => ?_) (fun c1394 => ?_)
  · replace hf := if_t c1394 hf
    refine lv_iinc (v := (x3 + 5)) (lv' := [(3, .int (x3 + 5)), (0, .ref b), (1, .ref (gB G 0)), (2, .ref (gB G 66))]) hx hb dL_law_1584 hl (k := 3) rfl rfl (by decide) rfl (fun ls hl => ?_)
    refine lv_goto (tgt := 18) hx hb dL_law_1587 (by decide) ?_
    exact hk18 (x3 + 5) h1391 _ _ _ (lv_sub hl [1, 2, 3, 0] rfl) hP hS hf
  · replace hf := if_f c1394 hf
    refine lv_iconst (v := 0) hx hb dL_law_1397 (by decide) ?_
    exact absurd (Option.some.inj hf) (by decide)
def f_L_law_1399 (L : Nat) (xs : Nat → Int32) (k18 : Int32 → PH → Option Int32) (x3 : Int32) (h : PH) : Option Int32 := bO (sg L xs (x3 + 1)) (fun v1404 => bO (sg L xs (x3 + 2)) (fun v1409 => bO (sg L xs (x3 + 3)) (fun v1414 => bP (f_X8_up v1404 v1409 v1414 h) (fun r1415 h1415 => bO (sg L xs (x3 + 1)) (fun v1423 => bO (sg L xs (x3 + 2)) (fun v1428 => bO (sg L xs (x3 + 3)) (fun v1433 => bP (f_X9_up v1423 v1428 v1433 h1415) (fun r1434 h1434 => if r1415 = r1434 then (k18 (x3 + 5) h1434) else (some 0)))))))))
set_option maxHeartbeats 4000000 in
set_option maxRecDepth 100000 in
theorem w_L_law_1399 {l : Launch} {G : GC} (hG : GOK G) {p : Program} {e : Env} {s : State} {m : MethodId} {below : List Frame} {meth : Method} {c : Code} {b L : Nat} {xs : Nat → Int32} (C : lw_At p s m meth c b L xs) (hbA : ¬ gA G b) (hA0 : ∀ q, gA G q → s.heap.size ≤ q) (hK : KW G s) (k18 : Int32 → PH → Option Int32) (hk18 : ∀ (x3 : Int32) (h : PH) (H : Heap) (locs : List Loc) (ls : Array Slot), lv_has ls 4 [(0, .ref b), (1, .ref (gB G 0)), (2, .ref (gB G 66)), (3, .int x3)] → WP G h H → SP G s H locs → k18 x3 h = some 1 → W p l e room_1 s m #[Value.ref b] below meth c H locs 98 12102 (lw_Z below #[Value.ref b] s) (F0 m 18 ls [])) : ∀ (x3 : Int32) (h : PH) (H : Heap) (locs : List Loc) (ls : Array Slot), lv_has ls 4 [(0, .ref b), (1, .ref (gB G 0)), (2, .ref (gB G 66)), (3, .int x3)] → WP G h H → SP G s H locs → f_L_law_1399 L xs k18 x3 h = some 1 → W p l e room_1 s m #[Value.ref b] below meth c H locs 98 12102 (lw_Z below #[Value.ref b] s) (F0 m 1399 ls []) := by
  obtain ⟨hx, hb, hr, hml, hown, hts0, hX, hbl, hlocks, -⟩ := id C
  have hts : ∀ w ∈ GW, w.before #[Value.ref b] s = true := fun w hw => hts0 w (gw_tbl w hw)
  intro x3 h H locs ls hl hP hS hf
  rw [f_L_law_1399] at hf
  refine lv_aload_n hx hb dL_law_1399 rfl (lv_at hl 1 rfl) ?_
  refine lv_aload_n hx hb dL_law_1400 rfl (lv_at hl 0 rfl) ?_
  refine lv_iload_n hx hb dL_law_1401 rfl (lv_at hl 3 rfl) ?_
  refine lv_iconst (v := 1) hx hb dL_law_1402 (by decide) ?_
  refine lv_iadd hx hb dL_law_1403 ?_
  obtain ⟨v1404, ev1404, hf⟩ := bO_s hf
  refine r_sld hx hb hX hbl hbA hS ev1404 dL_law_1404 ?_
  refine lv_aload_n hx hb dL_law_1405 rfl (lv_at hl 0 rfl) ?_
  refine lv_iload_n hx hb dL_law_1406 rfl (lv_at hl 3 rfl) ?_
  refine lv_iconst (v := 2) hx hb dL_law_1407 (by decide) ?_
  refine lv_iadd hx hb dL_law_1408 ?_
  obtain ⟨v1409, ev1409, hf⟩ := bO_s hf
  refine r_sld hx hb hX hbl hbA hS ev1409 dL_law_1409 ?_
  refine lv_aload_n hx hb dL_law_1410 rfl (lv_at hl 0 rfl) ?_
  refine lv_iload_n hx hb dL_law_1411 rfl (lv_at hl 3 rfl) ?_
  refine lv_iconst (v := 3) hx hb dL_law_1412 (by decide) ?_
  refine lv_iadd hx hb dL_law_1413 ?_
  obtain ⟨v1414, ev1414, hf⟩ := bO_s hf
  refine r_sld hx hb hX hbl hbA hS ev1414 dL_law_1414 ?_
  obtain ⟨r1415, h1415, er1415, hf⟩ := bP_s hf
  refine r_callI (va_runV (As := [.int v1404, .int v1409, .int v1414]) (rest := []) ⟨hx, hb, hml, hown, hts⟩ (k_X8_up l hG er1415) (cwV 3 hts (gV wd978 wd979 wd980 wd73 wd981) rfl rfl rfl (by decide +kernel) ⟨Nat.le_of_ble_eq_true rfl, Nat.le_of_ble_eq_true rfl⟩) (r_pv hK hP hS (ltX8 rfl) (ceX8 rfl) rfl) rfl rfl hl.1 rfl (lv_room (Nat.le_of_ble_eq_true rfl)) dL_law_1415 ⟨Nat.le_of_ble_eq_true rfl, Nat.le_of_ble_eq_true rfl⟩) hS (fun H locs hP hS => ?_)
  refine lv_aload_n hx hb dL_law_1418 rfl (lv_at hl 2 rfl) ?_
  refine lv_aload_n hx hb dL_law_1419 rfl (lv_at hl 0 rfl) ?_
  refine lv_iload_n hx hb dL_law_1420 rfl (lv_at hl 3 rfl) ?_
  refine lv_iconst (v := 1) hx hb dL_law_1421 (by decide) ?_
  refine lv_iadd hx hb dL_law_1422 ?_
  obtain ⟨v1423, ev1423, hf⟩ := bO_s hf
  refine r_sld hx hb hX hbl hbA hS ev1423 dL_law_1423 ?_
  refine lv_aload_n hx hb dL_law_1424 rfl (lv_at hl 0 rfl) ?_
  refine lv_iload_n hx hb dL_law_1425 rfl (lv_at hl 3 rfl) ?_
  refine lv_iconst (v := 2) hx hb dL_law_1426 (by decide) ?_
  refine lv_iadd hx hb dL_law_1427 ?_
  obtain ⟨v1428, ev1428, hf⟩ := bO_s hf
  refine r_sld hx hb hX hbl hbA hS ev1428 dL_law_1428 ?_
  refine lv_aload_n hx hb dL_law_1429 rfl (lv_at hl 0 rfl) ?_
  refine lv_iload_n hx hb dL_law_1430 rfl (lv_at hl 3 rfl) ?_
  refine lv_iconst (v := 3) hx hb dL_law_1431 (by decide) ?_
  refine lv_iadd hx hb dL_law_1432 ?_
  obtain ⟨v1433, ev1433, hf⟩ := bO_s hf
  refine r_sld hx hb hX hbl hbA hS ev1433 dL_law_1433 ?_
  obtain ⟨r1434, h1434, er1434, hf⟩ := bP_s hf
  refine r_callI (va_runV (As := [.int v1423, .int v1428, .int v1433]) (rest := [.int r1415]) ⟨hx, hb, hml, hown, hts⟩ (k_X9_up l hG er1434) (cwV 3 hts (gV wd1541 wd1542 wd1543 wd82 wd1544) rfl rfl rfl (by decide +kernel) ⟨Nat.le_of_ble_eq_true rfl, Nat.le_of_ble_eq_true rfl⟩) (r_pv hK hP hS (ltX9 rfl) (ceX9 rfl) rfl) rfl rfl hl.1 rfl (lv_room (Nat.le_of_ble_eq_true rfl)) dL_law_1434 ⟨Nat.le_of_ble_eq_true rfl, Nat.le_of_ble_eq_true rfl⟩) hS (fun H locs hP hS => ?_)
  refine lv_icmp_eq (tgt := 1584) hx hb dL_law_1437 (by decide) (fun c1437 => ?_) (fun c1437 => ?_)
  · replace hf := if_t c1437 hf
    refine lv_iinc (v := (x3 + 5)) (lv' := [(3, .int (x3 + 5)), (0, .ref b), (1, .ref (gB G 0)), (2, .ref (gB G 66))]) hx hb dL_law_1584 hl (k := 3) rfl rfl (by decide) rfl (fun ls hl => ?_)
    refine lv_goto (tgt := 18) hx hb dL_law_1587 (by decide) ?_
    exact hk18 (x3 + 5) h1434 _ _ _ (lv_sub hl [1, 2, 3, 0] rfl) hP hS hf
  · replace hf := if_f c1437 hf
    refine lv_iconst (v := 0) hx hb dL_law_1440 (by decide) ?_
    exact absurd (Option.some.inj hf) (by decide)
def f_L_law_1442 (L : Nat) (xs : Nat → Int32) (k18 : Int32 → PH → Option Int32) (x3 : Int32) (h : PH) : Option Int32 := bO (sg L xs (x3 + 1)) (fun v1447 => bO (sg L xs (x3 + 2)) (fun v1452 => bO (sg L xs (x3 + 3)) (fun v1457 => bO (sg L xs (x3 + 4)) (fun v1462 => bP (f_X8_spans v1447 v1452 v1457 v1462 h) (fun r1463 h1463 => bO (sg L xs (x3 + 1)) (fun v1471 => bO (sg L xs (x3 + 2)) (fun v1476 => bO (sg L xs (x3 + 3)) (fun v1481 => bO (sg L xs (x3 + 4)) (fun v1486 => bP (f_X9_spans v1471 v1476 v1481 v1486 h1463) (fun r1487 h1487 => if r1463 = r1487 then (k18 (x3 + 5) h1487) else (some 0)))))))))))
set_option maxHeartbeats 4000000 in
set_option maxRecDepth 100000 in
theorem w_L_law_1442 {l : Launch} {G : GC} (hG : GOK G) {p : Program} {e : Env} {s : State} {m : MethodId} {below : List Frame} {meth : Method} {c : Code} {b L : Nat} {xs : Nat → Int32} (C : lw_At p s m meth c b L xs) (hbA : ¬ gA G b) (hA0 : ∀ q, gA G q → s.heap.size ≤ q) (hK : KW G s) (k18 : Int32 → PH → Option Int32) (hk18 : ∀ (x3 : Int32) (h : PH) (H : Heap) (locs : List Loc) (ls : Array Slot), lv_has ls 4 [(0, .ref b), (1, .ref (gB G 0)), (2, .ref (gB G 66)), (3, .int x3)] → WP G h H → SP G s H locs → k18 x3 h = some 1 → W p l e room_1 s m #[Value.ref b] below meth c H locs 98 12102 (lw_Z below #[Value.ref b] s) (F0 m 18 ls [])) : ∀ (x3 : Int32) (h : PH) (H : Heap) (locs : List Loc) (ls : Array Slot), lv_has ls 4 [(0, .ref b), (1, .ref (gB G 0)), (2, .ref (gB G 66)), (3, .int x3)] → WP G h H → SP G s H locs → f_L_law_1442 L xs k18 x3 h = some 1 → W p l e room_1 s m #[Value.ref b] below meth c H locs 98 12102 (lw_Z below #[Value.ref b] s) (F0 m 1442 ls []) := by
  obtain ⟨hx, hb, hr, hml, hown, hts0, hX, hbl, hlocks, -⟩ := id C
  have hts : ∀ w ∈ GW, w.before #[Value.ref b] s = true := fun w hw => hts0 w (gw_tbl w hw)
  intro x3 h H locs ls hl hP hS hf
  rw [f_L_law_1442] at hf
  refine lv_aload_n hx hb dL_law_1442 rfl (lv_at hl 1 rfl) ?_
  refine lv_aload_n hx hb dL_law_1443 rfl (lv_at hl 0 rfl) ?_
  refine lv_iload_n hx hb dL_law_1444 rfl (lv_at hl 3 rfl) ?_
  refine lv_iconst (v := 1) hx hb dL_law_1445 (by decide) ?_
  refine lv_iadd hx hb dL_law_1446 ?_
  obtain ⟨v1447, ev1447, hf⟩ := bO_s hf
  refine r_sld hx hb hX hbl hbA hS ev1447 dL_law_1447 ?_
  refine lv_aload_n hx hb dL_law_1448 rfl (lv_at hl 0 rfl) ?_
  refine lv_iload_n hx hb dL_law_1449 rfl (lv_at hl 3 rfl) ?_
  refine lv_iconst (v := 2) hx hb dL_law_1450 (by decide) ?_
  refine lv_iadd hx hb dL_law_1451 ?_
  obtain ⟨v1452, ev1452, hf⟩ := bO_s hf
  refine r_sld hx hb hX hbl hbA hS ev1452 dL_law_1452 ?_
  refine lv_aload_n hx hb dL_law_1453 rfl (lv_at hl 0 rfl) ?_
  refine lv_iload_n hx hb dL_law_1454 rfl (lv_at hl 3 rfl) ?_
  refine lv_iconst (v := 3) hx hb dL_law_1455 (by decide) ?_
  refine lv_iadd hx hb dL_law_1456 ?_
  obtain ⟨v1457, ev1457, hf⟩ := bO_s hf
  refine r_sld hx hb hX hbl hbA hS ev1457 dL_law_1457 ?_
  refine lv_aload_n hx hb dL_law_1458 rfl (lv_at hl 0 rfl) ?_
  refine lv_iload_n hx hb dL_law_1459 rfl (lv_at hl 3 rfl) ?_
  refine lv_iconst (v := 4) hx hb dL_law_1460 (by decide) ?_
  refine lv_iadd hx hb dL_law_1461 ?_
  obtain ⟨v1462, ev1462, hf⟩ := bO_s hf
  refine r_sld hx hb hX hbl hbA hS ev1462 dL_law_1462 ?_
  obtain ⟨r1463, h1463, er1463, hf⟩ := bP_s hf
  refine r_callI (va_runV (As := [.int v1447, .int v1452, .int v1457, .int v1462]) (rest := []) ⟨hx, hb, hml, hown, hts⟩ (k_X8_spans l hG er1463) (cwV 4 hts (gV wd986 wd987 wd988 wd73 wd989) rfl rfl rfl (by decide +kernel) ⟨Nat.le_of_ble_eq_true rfl, Nat.le_of_ble_eq_true rfl⟩) (r_pv hK hP hS (ltX8 rfl) (ceX8 rfl) rfl) rfl rfl hl.1 rfl (lv_room (Nat.le_of_ble_eq_true rfl)) dL_law_1463 ⟨Nat.le_of_ble_eq_true rfl, Nat.le_of_ble_eq_true rfl⟩) hS (fun H locs hP hS => ?_)
  refine lv_aload_n hx hb dL_law_1466 rfl (lv_at hl 2 rfl) ?_
  refine lv_aload_n hx hb dL_law_1467 rfl (lv_at hl 0 rfl) ?_
  refine lv_iload_n hx hb dL_law_1468 rfl (lv_at hl 3 rfl) ?_
  refine lv_iconst (v := 1) hx hb dL_law_1469 (by decide) ?_
  refine lv_iadd hx hb dL_law_1470 ?_
  obtain ⟨v1471, ev1471, hf⟩ := bO_s hf
  refine r_sld hx hb hX hbl hbA hS ev1471 dL_law_1471 ?_
  refine lv_aload_n hx hb dL_law_1472 rfl (lv_at hl 0 rfl) ?_
  refine lv_iload_n hx hb dL_law_1473 rfl (lv_at hl 3 rfl) ?_
  refine lv_iconst (v := 2) hx hb dL_law_1474 (by decide) ?_
  refine lv_iadd hx hb dL_law_1475 ?_
  obtain ⟨v1476, ev1476, hf⟩ := bO_s hf
  refine r_sld hx hb hX hbl hbA hS ev1476 dL_law_1476 ?_
  refine lv_aload_n hx hb dL_law_1477 rfl (lv_at hl 0 rfl) ?_
  refine lv_iload_n hx hb dL_law_1478 rfl (lv_at hl 3 rfl) ?_
  refine lv_iconst (v := 3) hx hb dL_law_1479 (by decide) ?_
  refine lv_iadd hx hb dL_law_1480 ?_
  obtain ⟨v1481, ev1481, hf⟩ := bO_s hf
  refine r_sld hx hb hX hbl hbA hS ev1481 dL_law_1481 ?_
  refine lv_aload_n hx hb dL_law_1482 rfl (lv_at hl 0 rfl) ?_
  refine lv_iload_n hx hb dL_law_1483 rfl (lv_at hl 3 rfl) ?_
  refine lv_iconst (v := 4) hx hb dL_law_1484 (by decide) ?_
  refine lv_iadd hx hb dL_law_1485 ?_
  obtain ⟨v1486, ev1486, hf⟩ := bO_s hf
  refine r_sld hx hb hX hbl hbA hS ev1486 dL_law_1486 ?_
  obtain ⟨r1487, h1487, er1487, hf⟩ := bP_s hf
  refine r_callI (va_runV (As := [.int v1471, .int v1476, .int v1481, .int v1486]) (rest := [.int r1463]) ⟨hx, hb, hml, hown, hts⟩ (k_X9_spans l hG er1487) (cwV 4 hts (gV wd1545 wd1546 wd1547 wd82 wd1548) rfl rfl rfl (by decide +kernel) ⟨Nat.le_of_ble_eq_true rfl, Nat.le_of_ble_eq_true rfl⟩) (r_pv hK hP hS (ltX9 rfl) (ceX9 rfl) rfl) rfl rfl hl.1 rfl (lv_room (Nat.le_of_ble_eq_true rfl)) dL_law_1487 ⟨Nat.le_of_ble_eq_true rfl, Nat.le_of_ble_eq_true rfl⟩) hS (fun H locs hP hS => ?_)
  refine lv_icmp_eq (tgt := 1584) hx hb dL_law_1490 (by decide) (fun c1490 => ?_) (fun c1490 => ?_)
  · replace hf := if_t c1490 hf
    refine lv_iinc (v := (x3 + 5)) (lv' := [(3, .int (x3 + 5)), (0, .ref b), (1, .ref (gB G 0)), (2, .ref (gB G 66))]) hx hb dL_law_1584 hl (k := 3) rfl rfl (by decide) rfl (fun ls hl => ?_)
    refine lv_goto (tgt := 18) hx hb dL_law_1587 (by decide) ?_
    exact hk18 (x3 + 5) h1487 _ _ _ (lv_sub hl [1, 2, 3, 0] rfl) hP hS hf
  · replace hf := if_f c1490 hf
    refine lv_iconst (v := 0) hx hb dL_law_1493 (by decide) ?_
    exact absurd (Option.some.inj hf) (by decide)
def f_L_law_1495 (L : Nat) (xs : Nat → Int32) (k18 : Int32 → PH → Option Int32) (x3 : Int32) (h : PH) : Option Int32 := bO (sg L xs (x3 + 1)) (fun v1500 => bO (sg L xs (x3 + 2)) (fun v1505 => bO (sg L xs (x3 + 3)) (fun v1510 => bP (f_X8_lets v1500 v1505 v1510 h) (fun r1511 h1511 => bO (sg L xs (x3 + 1)) (fun v1519 => bO (sg L xs (x3 + 2)) (fun v1524 => bO (sg L xs (x3 + 3)) (fun v1529 => bP (f_X9_lets v1519 v1524 v1529 h1511) (fun r1530 h1530 => if r1511 = r1530 then (k18 (x3 + 5) h1530) else (some 0)))))))))
set_option maxHeartbeats 4000000 in
set_option maxRecDepth 100000 in
theorem w_L_law_1495 {l : Launch} {G : GC} (hG : GOK G) {p : Program} {e : Env} {s : State} {m : MethodId} {below : List Frame} {meth : Method} {c : Code} {b L : Nat} {xs : Nat → Int32} (C : lw_At p s m meth c b L xs) (hbA : ¬ gA G b) (hA0 : ∀ q, gA G q → s.heap.size ≤ q) (hK : KW G s) (k18 : Int32 → PH → Option Int32) (hk18 : ∀ (x3 : Int32) (h : PH) (H : Heap) (locs : List Loc) (ls : Array Slot), lv_has ls 4 [(0, .ref b), (1, .ref (gB G 0)), (2, .ref (gB G 66)), (3, .int x3)] → WP G h H → SP G s H locs → k18 x3 h = some 1 → W p l e room_1 s m #[Value.ref b] below meth c H locs 98 12102 (lw_Z below #[Value.ref b] s) (F0 m 18 ls [])) : ∀ (x3 : Int32) (h : PH) (H : Heap) (locs : List Loc) (ls : Array Slot), lv_has ls 4 [(0, .ref b), (1, .ref (gB G 0)), (2, .ref (gB G 66)), (3, .int x3)] → WP G h H → SP G s H locs → f_L_law_1495 L xs k18 x3 h = some 1 → W p l e room_1 s m #[Value.ref b] below meth c H locs 98 12102 (lw_Z below #[Value.ref b] s) (F0 m 1495 ls []) := by
  obtain ⟨hx, hb, hr, hml, hown, hts0, hX, hbl, hlocks, -⟩ := id C
  have hts : ∀ w ∈ GW, w.before #[Value.ref b] s = true := fun w hw => hts0 w (gw_tbl w hw)
  intro x3 h H locs ls hl hP hS hf
  rw [f_L_law_1495] at hf
  refine lv_aload_n hx hb dL_law_1495 rfl (lv_at hl 1 rfl) ?_
  refine lv_aload_n hx hb dL_law_1496 rfl (lv_at hl 0 rfl) ?_
  refine lv_iload_n hx hb dL_law_1497 rfl (lv_at hl 3 rfl) ?_
  refine lv_iconst (v := 1) hx hb dL_law_1498 (by decide) ?_
  refine lv_iadd hx hb dL_law_1499 ?_
  obtain ⟨v1500, ev1500, hf⟩ := bO_s hf
  refine r_sld hx hb hX hbl hbA hS ev1500 dL_law_1500 ?_
  refine lv_aload_n hx hb dL_law_1501 rfl (lv_at hl 0 rfl) ?_
  refine lv_iload_n hx hb dL_law_1502 rfl (lv_at hl 3 rfl) ?_
  refine lv_iconst (v := 2) hx hb dL_law_1503 (by decide) ?_
  refine lv_iadd hx hb dL_law_1504 ?_
  obtain ⟨v1505, ev1505, hf⟩ := bO_s hf
  refine r_sld hx hb hX hbl hbA hS ev1505 dL_law_1505 ?_
  refine lv_aload_n hx hb dL_law_1506 rfl (lv_at hl 0 rfl) ?_
  refine lv_iload_n hx hb dL_law_1507 rfl (lv_at hl 3 rfl) ?_
  refine lv_iconst (v := 3) hx hb dL_law_1508 (by decide) ?_
  refine lv_iadd hx hb dL_law_1509 ?_
  obtain ⟨v1510, ev1510, hf⟩ := bO_s hf
  refine r_sld hx hb hX hbl hbA hS ev1510 dL_law_1510 ?_
  obtain ⟨r1511, h1511, er1511, hf⟩ := bP_s hf
  refine r_callI (va_runV (As := [.int v1500, .int v1505, .int v1510]) (rest := []) ⟨hx, hb, hml, hown, hts⟩ (k_X8_lets l hG er1511) (cwV 3 hts (gV wd990 wd991 wd992 wd73 wd993) rfl rfl rfl (by decide +kernel) ⟨Nat.le_of_ble_eq_true rfl, Nat.le_of_ble_eq_true rfl⟩) (r_pv hK hP hS (ltX8 rfl) (ceX8 rfl) rfl) rfl rfl hl.1 rfl (lv_room (Nat.le_of_ble_eq_true rfl)) dL_law_1511 ⟨Nat.le_of_ble_eq_true rfl, Nat.le_of_ble_eq_true rfl⟩) hS (fun H locs hP hS => ?_)
  refine lv_aload_n hx hb dL_law_1514 rfl (lv_at hl 2 rfl) ?_
  refine lv_aload_n hx hb dL_law_1515 rfl (lv_at hl 0 rfl) ?_
  refine lv_iload_n hx hb dL_law_1516 rfl (lv_at hl 3 rfl) ?_
  refine lv_iconst (v := 1) hx hb dL_law_1517 (by decide) ?_
  refine lv_iadd hx hb dL_law_1518 ?_
  obtain ⟨v1519, ev1519, hf⟩ := bO_s hf
  refine r_sld hx hb hX hbl hbA hS ev1519 dL_law_1519 ?_
  refine lv_aload_n hx hb dL_law_1520 rfl (lv_at hl 0 rfl) ?_
  refine lv_iload_n hx hb dL_law_1521 rfl (lv_at hl 3 rfl) ?_
  refine lv_iconst (v := 2) hx hb dL_law_1522 (by decide) ?_
  refine lv_iadd hx hb dL_law_1523 ?_
  obtain ⟨v1524, ev1524, hf⟩ := bO_s hf
  refine r_sld hx hb hX hbl hbA hS ev1524 dL_law_1524 ?_
  refine lv_aload_n hx hb dL_law_1525 rfl (lv_at hl 0 rfl) ?_
  refine lv_iload_n hx hb dL_law_1526 rfl (lv_at hl 3 rfl) ?_
  refine lv_iconst (v := 3) hx hb dL_law_1527 (by decide) ?_
  refine lv_iadd hx hb dL_law_1528 ?_
  obtain ⟨v1529, ev1529, hf⟩ := bO_s hf
  refine r_sld hx hb hX hbl hbA hS ev1529 dL_law_1529 ?_
  obtain ⟨r1530, h1530, er1530, hf⟩ := bP_s hf
  refine r_callI (va_runV (As := [.int v1519, .int v1524, .int v1529]) (rest := [.int r1511]) ⟨hx, hb, hml, hown, hts⟩ (k_X9_lets l hG er1530) (cwV 3 hts (gV wd1565 wd1566 wd1567 wd82 wd1568) rfl rfl rfl (by decide +kernel) ⟨Nat.le_of_ble_eq_true rfl, Nat.le_of_ble_eq_true rfl⟩) (r_pv hK hP hS (ltX9 rfl) (ceX9 rfl) rfl) rfl rfl hl.1 rfl (lv_room (Nat.le_of_ble_eq_true rfl)) dL_law_1530 ⟨Nat.le_of_ble_eq_true rfl, Nat.le_of_ble_eq_true rfl⟩) hS (fun H locs hP hS => ?_)
  refine lv_icmp_eq (tgt := 1584) hx hb dL_law_1533 (by decide) (fun c1533 => ?_) (fun c1533 => ?_)
  · replace hf := if_t c1533 hf
    refine lv_iinc (v := (x3 + 5)) (lv' := [(3, .int (x3 + 5)), (0, .ref b), (1, .ref (gB G 0)), (2, .ref (gB G 66))]) hx hb dL_law_1584 hl (k := 3) rfl rfl (by decide) rfl (fun ls hl => ?_)
    refine lv_goto (tgt := 18) hx hb dL_law_1587 (by decide) ?_
    exact hk18 (x3 + 5) h1530 _ _ _ (lv_sub hl [1, 2, 3, 0] rfl) hP hS hf
  · replace hf := if_f c1533 hf
    refine lv_iconst (v := 0) hx hb dL_law_1536 (by decide) ?_
    exact absurd (Option.some.inj hf) (by decide)
def f_L_law_1538 (L : Nat) (xs : Nat → Int32) (k18 : Int32 → PH → Option Int32) (x3 : Int32) (h : PH) : Option Int32 := bO (sg L xs (x3 + 1)) (fun v1543 => bP (f_X8_keep v1543 h) (fun r1544 h1544 => bO (sg L xs (x3 + 1)) (fun v1552 => bP (f_X9_keep v1552 h1544) (fun r1553 h1553 => if r1544 = r1553 then (k18 (x3 + 5) h1553) else (some 0)))))
set_option maxHeartbeats 4000000 in
set_option maxRecDepth 100000 in
theorem w_L_law_1538 {l : Launch} {G : GC} (hG : GOK G) {p : Program} {e : Env} {s : State} {m : MethodId} {below : List Frame} {meth : Method} {c : Code} {b L : Nat} {xs : Nat → Int32} (C : lw_At p s m meth c b L xs) (hbA : ¬ gA G b) (hA0 : ∀ q, gA G q → s.heap.size ≤ q) (hK : KW G s) (k18 : Int32 → PH → Option Int32) (hk18 : ∀ (x3 : Int32) (h : PH) (H : Heap) (locs : List Loc) (ls : Array Slot), lv_has ls 4 [(0, .ref b), (1, .ref (gB G 0)), (2, .ref (gB G 66)), (3, .int x3)] → WP G h H → SP G s H locs → k18 x3 h = some 1 → W p l e room_1 s m #[Value.ref b] below meth c H locs 98 12102 (lw_Z below #[Value.ref b] s) (F0 m 18 ls [])) : ∀ (x3 : Int32) (h : PH) (H : Heap) (locs : List Loc) (ls : Array Slot), lv_has ls 4 [(0, .ref b), (1, .ref (gB G 0)), (2, .ref (gB G 66)), (3, .int x3)] → WP G h H → SP G s H locs → f_L_law_1538 L xs k18 x3 h = some 1 → W p l e room_1 s m #[Value.ref b] below meth c H locs 98 12102 (lw_Z below #[Value.ref b] s) (F0 m 1538 ls []) := by
  obtain ⟨hx, hb, hr, hml, hown, hts0, hX, hbl, hlocks, -⟩ := id C
  have hts : ∀ w ∈ GW, w.before #[Value.ref b] s = true := fun w hw => hts0 w (gw_tbl w hw)
  intro x3 h H locs ls hl hP hS hf
  rw [f_L_law_1538] at hf
  refine lv_aload_n hx hb dL_law_1538 rfl (lv_at hl 1 rfl) ?_
  refine lv_aload_n hx hb dL_law_1539 rfl (lv_at hl 0 rfl) ?_
  refine lv_iload_n hx hb dL_law_1540 rfl (lv_at hl 3 rfl) ?_
  refine lv_iconst (v := 1) hx hb dL_law_1541 (by decide) ?_
  refine lv_iadd hx hb dL_law_1542 ?_
  obtain ⟨v1543, ev1543, hf⟩ := bO_s hf
  refine r_sld hx hb hX hbl hbA hS ev1543 dL_law_1543 ?_
  obtain ⟨r1544, h1544, er1544, hf⟩ := bP_s hf
  refine r_callI (va_runV (As := [.int v1543]) (rest := []) ⟨hx, hb, hml, hown, hts⟩ (k_X8_keep l hG er1544) (cwV 1 hts (gV wd1013 wd1014 wd1015 wd73 wd1016) rfl rfl rfl (by decide +kernel) ⟨Nat.le_of_ble_eq_true rfl, Nat.le_of_ble_eq_true rfl⟩) (r_pv hK hP hS (ltX8 rfl) (ceX8 rfl) rfl) rfl rfl hl.1 rfl (lv_room (Nat.le_of_ble_eq_true rfl)) dL_law_1544 ⟨Nat.le_of_ble_eq_true rfl, Nat.le_of_ble_eq_true rfl⟩) hS (fun H locs hP hS => ?_)
  refine lv_aload_n hx hb dL_law_1547 rfl (lv_at hl 2 rfl) ?_
  refine lv_aload_n hx hb dL_law_1548 rfl (lv_at hl 0 rfl) ?_
  refine lv_iload_n hx hb dL_law_1549 rfl (lv_at hl 3 rfl) ?_
  refine lv_iconst (v := 1) hx hb dL_law_1550 (by decide) ?_
  refine lv_iadd hx hb dL_law_1551 ?_
  obtain ⟨v1552, ev1552, hf⟩ := bO_s hf
  refine r_sld hx hb hX hbl hbA hS ev1552 dL_law_1552 ?_
  obtain ⟨r1553, h1553, er1553, hf⟩ := bP_s hf
  refine r_callI (va_runV (As := [.int v1552]) (rest := [.int r1544]) ⟨hx, hb, hml, hown, hts⟩ (k_X9_keep l hG er1553) (cwV 1 hts (gV wd1569 wd1570 wd1571 wd82 wd1572) rfl rfl rfl (by decide +kernel) ⟨Nat.le_of_ble_eq_true rfl, Nat.le_of_ble_eq_true rfl⟩) (r_pv hK hP hS (ltX9 rfl) (ceX9 rfl) rfl) rfl rfl hl.1 rfl (lv_room (Nat.le_of_ble_eq_true rfl)) dL_law_1553 ⟨Nat.le_of_ble_eq_true rfl, Nat.le_of_ble_eq_true rfl⟩) hS (fun H locs hP hS => ?_)
  refine lv_icmp_eq (tgt := 1584) hx hb dL_law_1556 (by decide) (fun c1556 => ?_) (fun c1556 => ?_)
  · replace hf := if_t c1556 hf
    refine lv_iinc (v := (x3 + 5)) (lv' := [(3, .int (x3 + 5)), (0, .ref b), (1, .ref (gB G 0)), (2, .ref (gB G 66))]) hx hb dL_law_1584 hl (k := 3) rfl rfl (by decide) rfl (fun ls hl => ?_)
    refine lv_goto (tgt := 18) hx hb dL_law_1587 (by decide) ?_
    exact hk18 (x3 + 5) h1553 _ _ _ (lv_sub hl [1, 2, 3, 0] rfl) hP hS hf
  · replace hf := if_f c1556 hf
    refine lv_iconst (v := 0) hx hb dL_law_1559 (by decide) ?_
    exact absurd (Option.some.inj hf) (by decide)
def f_L_law_1561 (L : Nat) (xs : Nat → Int32) (k18 : Int32 → PH → Option Int32) (x3 : Int32) (h : PH) : Option Int32 := bO (sg L xs (x3 + 1)) (fun v1566 => bP (f_X8_goBack v1566 h) (fun r1567 h1567 => bO (sg L xs (x3 + 1)) (fun v1575 => bP (f_X9_goBack v1575 h1567) (fun r1576 h1576 => if r1567 = r1576 then (k18 (x3 + 5) h1576) else (some 0)))))
set_option maxHeartbeats 4000000 in
set_option maxRecDepth 100000 in
theorem w_L_law_1561 {l : Launch} {G : GC} (hG : GOK G) {p : Program} {e : Env} {s : State} {m : MethodId} {below : List Frame} {meth : Method} {c : Code} {b L : Nat} {xs : Nat → Int32} (C : lw_At p s m meth c b L xs) (hbA : ¬ gA G b) (hA0 : ∀ q, gA G q → s.heap.size ≤ q) (hK : KW G s) (k18 : Int32 → PH → Option Int32) (hk18 : ∀ (x3 : Int32) (h : PH) (H : Heap) (locs : List Loc) (ls : Array Slot), lv_has ls 4 [(0, .ref b), (1, .ref (gB G 0)), (2, .ref (gB G 66)), (3, .int x3)] → WP G h H → SP G s H locs → k18 x3 h = some 1 → W p l e room_1 s m #[Value.ref b] below meth c H locs 98 12102 (lw_Z below #[Value.ref b] s) (F0 m 18 ls [])) : ∀ (x3 : Int32) (h : PH) (H : Heap) (locs : List Loc) (ls : Array Slot), lv_has ls 4 [(0, .ref b), (1, .ref (gB G 0)), (2, .ref (gB G 66)), (3, .int x3)] → WP G h H → SP G s H locs → f_L_law_1561 L xs k18 x3 h = some 1 → W p l e room_1 s m #[Value.ref b] below meth c H locs 98 12102 (lw_Z below #[Value.ref b] s) (F0 m 1561 ls []) := by
  obtain ⟨hx, hb, hr, hml, hown, hts0, hX, hbl, hlocks, -⟩ := id C
  have hts : ∀ w ∈ GW, w.before #[Value.ref b] s = true := fun w hw => hts0 w (gw_tbl w hw)
  intro x3 h H locs ls hl hP hS hf
  rw [f_L_law_1561] at hf
  refine lv_aload_n hx hb dL_law_1561 rfl (lv_at hl 1 rfl) ?_
  refine lv_aload_n hx hb dL_law_1562 rfl (lv_at hl 0 rfl) ?_
  refine lv_iload_n hx hb dL_law_1563 rfl (lv_at hl 3 rfl) ?_
  refine lv_iconst (v := 1) hx hb dL_law_1564 (by decide) ?_
  refine lv_iadd hx hb dL_law_1565 ?_
  obtain ⟨v1566, ev1566, hf⟩ := bO_s hf
  refine r_sld hx hb hX hbl hbA hS ev1566 dL_law_1566 ?_
  obtain ⟨r1567, h1567, er1567, hf⟩ := bP_s hf
  refine r_callI (va_runV (As := [.int v1566]) (rest := []) ⟨hx, hb, hml, hown, hts⟩ (k_X8_goBack l hG er1567) (cwV 1 hts (gV wd1025 wd1026 wd1027 wd73 wd1028) rfl rfl rfl (by decide +kernel) ⟨Nat.le_of_ble_eq_true rfl, Nat.le_of_ble_eq_true rfl⟩) (r_pv hK hP hS (ltX8 rfl) (ceX8 rfl) rfl) rfl rfl hl.1 rfl (lv_room (Nat.le_of_ble_eq_true rfl)) dL_law_1567 ⟨Nat.le_of_ble_eq_true rfl, Nat.le_of_ble_eq_true rfl⟩) hS (fun H locs hP hS => ?_)
  refine lv_aload_n hx hb dL_law_1570 rfl (lv_at hl 2 rfl) ?_
  refine lv_aload_n hx hb dL_law_1571 rfl (lv_at hl 0 rfl) ?_
  refine lv_iload_n hx hb dL_law_1572 rfl (lv_at hl 3 rfl) ?_
  refine lv_iconst (v := 1) hx hb dL_law_1573 (by decide) ?_
  refine lv_iadd hx hb dL_law_1574 ?_
  obtain ⟨v1575, ev1575, hf⟩ := bO_s hf
  refine r_sld hx hb hX hbl hbA hS ev1575 dL_law_1575 ?_
  obtain ⟨r1576, h1576, er1576, hf⟩ := bP_s hf
  refine r_callI (va_runV (As := [.int v1575]) (rest := [.int r1567]) ⟨hx, hb, hml, hown, hts⟩ (k_X9_goBack l hG er1576) (cwV 1 hts (gV wd1573 wd1574 wd1575 wd82 wd1576) rfl rfl rfl (by decide +kernel) ⟨Nat.le_of_ble_eq_true rfl, Nat.le_of_ble_eq_true rfl⟩) (r_pv hK hP hS (ltX9 rfl) (ceX9 rfl) rfl) rfl rfl hl.1 rfl (lv_room (Nat.le_of_ble_eq_true rfl)) dL_law_1576 ⟨Nat.le_of_ble_eq_true rfl, Nat.le_of_ble_eq_true rfl⟩) hS (fun H locs hP hS => ?_)
  refine lv_icmp_eq (tgt := 1584) hx hb dL_law_1579 (by decide) (fun c1579 => ?_) (fun c1579 => ?_)
  · replace hf := if_t c1579 hf
    refine lv_iinc (v := (x3 + 5)) (lv' := [(3, .int (x3 + 5)), (0, .ref b), (1, .ref (gB G 0)), (2, .ref (gB G 66))]) hx hb dL_law_1584 hl (k := 3) rfl rfl (by decide) rfl (fun ls hl => ?_)
    refine lv_goto (tgt := 18) hx hb dL_law_1587 (by decide) ?_
    exact hk18 (x3 + 5) h1576 _ _ _ (lv_sub hl [1, 2, 3, 0] rfl) hP hS hf
  · replace hf := if_f c1579 hf
    refine lv_iconst (v := 0) hx hb dL_law_1582 (by decide) ?_
    exact absurd (Option.some.inj hf) (by decide)
def f_L_law_18 (L : Nat) (xs : Nat → Int32) : Nat → Int32 → PH → Option Int32
  | 0, _, _ => none
  | n + 1, x3, h => if ((Int32.ofNat L) - 5) < x3 then (some 1) else (bO (sg L xs x3) (fun v28 => if (v28 &&& 63) = 0 then (f_L_law_208 L xs (f_L_law_18 L xs n) x3 h) else (if (v28 &&& 63) = 1 then (f_L_law_271 L xs (f_L_law_18 L xs n) x3 h) else (if (v28 &&& 63) = 2 then (f_L_law_284 L xs (f_L_law_18 L xs n) x3 h) else (if (v28 &&& 63) = 3 then (f_L_law_297 L xs (f_L_law_18 L xs n) x3 h) else (if (v28 &&& 63) = 4 then (f_L_law_310 L xs (f_L_law_18 L xs n) x3 h) else (if (v28 &&& 63) = 5 then (f_L_law_343 L xs (f_L_law_18 L xs n) x3 h) else (if (v28 &&& 63) = 6 then (f_L_law_376 L xs (f_L_law_18 L xs n) x3 h) else (if (v28 &&& 63) = 7 then (f_L_law_409 L xs (f_L_law_18 L xs n) x3 h) else (if (v28 &&& 63) = 8 then (f_L_law_442 L xs (f_L_law_18 L xs n) x3 h) else (if (v28 &&& 63) = 9 then (f_L_law_465 L xs (f_L_law_18 L xs n) x3 h) else (if (v28 &&& 63) = 10 then (f_L_law_488 L xs (f_L_law_18 L xs n) x3 h) else (if (v28 &&& 63) = 11 then (f_L_law_521 L xs (f_L_law_18 L xs n) x3 h) else (if (v28 &&& 63) = 12 then (f_L_law_554 L xs (f_L_law_18 L xs n) x3 h) else (if (v28 &&& 63) = 13 then (f_L_law_587 L xs (f_L_law_18 L xs n) x3 h) else (if (v28 &&& 63) = 14 then (f_L_law_620 L xs (f_L_law_18 L xs n) x3 h) else (if (v28 &&& 63) = 15 then (f_L_law_653 L xs (f_L_law_18 L xs n) x3 h) else (if (v28 &&& 63) = 16 then (f_L_law_686 L xs (f_L_law_18 L xs n) x3 h) else (if (v28 &&& 63) = 17 then (f_L_law_719 L xs (f_L_law_18 L xs n) x3 h) else (if (v28 &&& 63) = 18 then (f_L_law_762 L xs (f_L_law_18 L xs n) x3 h) else (if (v28 &&& 63) = 19 then (f_L_law_795 L xs (f_L_law_18 L xs n) x3 h) else (if (v28 &&& 63) = 20 then (f_L_law_848 L xs (f_L_law_18 L xs n) x3 h) else (if (v28 &&& 63) = 21 then (f_L_law_881 L xs (f_L_law_18 L xs n) x3 h) else (if (v28 &&& 63) = 22 then (f_L_law_914 L xs (f_L_law_18 L xs n) x3 h) else (if (v28 &&& 63) = 23 then (f_L_law_947 L xs (f_L_law_18 L xs n) x3 h) else (if (v28 &&& 63) = 24 then (f_L_law_990 L xs (f_L_law_18 L xs n) x3 h) else (if (v28 &&& 63) = 25 then (f_L_law_1023 L xs (f_L_law_18 L xs n) x3 h) else (if (v28 &&& 63) = 26 then (f_L_law_1056 L xs (f_L_law_18 L xs n) x3 h) else (if (v28 &&& 63) = 27 then (f_L_law_1099 L xs (f_L_law_18 L xs n) x3 h) else (if (v28 &&& 63) = 28 then (f_L_law_1132 L xs (f_L_law_18 L xs n) x3 h) else (if (v28 &&& 63) = 29 then (f_L_law_1165 L xs (f_L_law_18 L xs n) x3 h) else (if (v28 &&& 63) = 30 then (f_L_law_1214 L xs (f_L_law_18 L xs n) x3 h) else (if (v28 &&& 63) = 31 then (f_L_law_1247 L xs (f_L_law_18 L xs n) x3 h) else (if (v28 &&& 63) = 32 then (f_L_law_1300 L xs (f_L_law_18 L xs n) x3 h) else (if (v28 &&& 63) = 33 then (f_L_law_1333 L xs (f_L_law_18 L xs n) x3 h) else (if (v28 &&& 63) = 34 then (f_L_law_1356 L xs (f_L_law_18 L xs n) x3 h) else (if (v28 &&& 63) = 35 then (f_L_law_1399 L xs (f_L_law_18 L xs n) x3 h) else (if (v28 &&& 63) = 36 then (f_L_law_1442 L xs (f_L_law_18 L xs n) x3 h) else (if (v28 &&& 63) = 37 then (f_L_law_1495 L xs (f_L_law_18 L xs n) x3 h) else (if (v28 &&& 63) = 38 then (f_L_law_1538 L xs (f_L_law_18 L xs n) x3 h) else (if (v28 &&& 63) = 39 then (f_L_law_1561 L xs (f_L_law_18 L xs n) x3 h) else ((f_L_law_18 L xs n) (x3 + 5) h))))))))))))))))))))))))))))))))))))))))))
set_option maxHeartbeats 4000000 in
set_option maxRecDepth 100000 in
theorem w_L_law_18 {l : Launch} {G : GC} (hG : GOK G) {p : Program} {e : Env} {s : State} {m : MethodId} {below : List Frame} {meth : Method} {c : Code} {b L : Nat} {xs : Nat → Int32} (C : lw_At p s m meth c b L xs) (hbA : ¬ gA G b) (hA0 : ∀ q, gA G q → s.heap.size ≤ q) (hK : KW G s) : ∀ (n : Nat) (x3 : Int32) (h : PH) (H : Heap) (locs : List Loc) (ls : Array Slot), lv_has ls 4 [(0, .ref b), (1, .ref (gB G 0)), (2, .ref (gB G 66)), (3, .int x3)] → WP G h H → SP G s H locs → f_L_law_18 L xs n x3 h = some 1 → W p l e room_1 s m #[Value.ref b] below meth c H locs 98 12102 (lw_Z below #[Value.ref b] s) (F0 m 18 ls []) := by
  obtain ⟨hx, hb, hr, hml, hown, hts0, hX, hbl, hlocks, -⟩ := id C
  have hts : ∀ w ∈ GW, w.before #[Value.ref b] s = true := fun w hw => hts0 w (gw_tbl w hw)
  intro n
  induction n with
  | zero => intro x3 h H locs ls hl hP hS hf; rw [f_L_law_18] at hf; cases hf
  | succ n ih =>
    intro x3 h H locs ls hl hP hS hf
    rw [f_L_law_18] at hf
    refine lv_iload_n hx hb dL_law_18 rfl (lv_at hl 3 rfl) ?_
    refine lv_aload_n hx hb dL_law_19 rfl (lv_at hl 0 rfl) ?_
    refine va_slen hx hb hX hbl hbA hS dL_law_20 ?_
    refine lv_iconst (v := 5) hx hb dL_law_21 (by decide) ?_
    refine lv_isub hx hb dL_law_22 ?_
    refine lv_icmp_gt (tgt := 1590) hx hb dL_law_23 (by decide) (fun c23 => ?_) (fun c23 => ?_)
    · replace hf := if_t c23 hf
      refine lv_iconst (v := 1) hx hb dL_law_1590 (by decide) ?_
      refine va_forget (fun q hq => hA0 _ (hS.2.2 q hq)) ?_
      exact lw_ret hx hb hr hlocks dL_law_1591
    · replace hf := if_f c23 hf
      refine lv_aload_n hx hb dL_law_26 rfl (lv_at hl 0 rfl) ?_
      refine lv_iload_n hx hb dL_law_27 rfl (lv_at hl 3 rfl) ?_
      obtain ⟨v28, ev28, hf⟩ := bO_s hf
      refine r_sld hx hb hX hbl hbA hS ev28 dL_law_28 ?_
      refine lv_bipush (v := 63) hx hb dL_law_29 (by decide) ?_
      refine lv_iand hx hb dL_law_31 ?_
      by_cases s32_0 : (v28 &&& 63) = 0
      · replace hf := if_t s32_0 hf
        refine lv_tableIn (tgt := 208) hx hb dL_law_32 (by rw [s32_0]; decide) (by rw [s32_0]; decide) (by rw [s32_0]; rfl) (by decide) ?_
        exact w_L_law_208 hG C hbA hA0 hK (f_L_law_18 L xs n) ih x3 h _ _ _ (lv_sub hl [0, 1, 2, 3] rfl) hP hS hf
      replace hf := if_f s32_0 hf
      by_cases s32_1 : (v28 &&& 63) = 1
      · replace hf := if_t s32_1 hf
        refine lv_tableIn (tgt := 271) hx hb dL_law_32 (by rw [s32_1]; decide) (by rw [s32_1]; decide) (by rw [s32_1]; rfl) (by decide) ?_
        exact w_L_law_271 hG C hbA hA0 hK (f_L_law_18 L xs n) ih x3 h _ _ _ (lv_sub hl [0, 1, 2, 3] rfl) hP hS hf
      replace hf := if_f s32_1 hf
      by_cases s32_2 : (v28 &&& 63) = 2
      · replace hf := if_t s32_2 hf
        refine lv_tableIn (tgt := 284) hx hb dL_law_32 (by rw [s32_2]; decide) (by rw [s32_2]; decide) (by rw [s32_2]; rfl) (by decide) ?_
        exact w_L_law_284 hG C hbA hA0 hK (f_L_law_18 L xs n) ih x3 h _ _ _ (lv_sub hl [0, 1, 2, 3] rfl) hP hS hf
      replace hf := if_f s32_2 hf
      by_cases s32_3 : (v28 &&& 63) = 3
      · replace hf := if_t s32_3 hf
        refine lv_tableIn (tgt := 297) hx hb dL_law_32 (by rw [s32_3]; decide) (by rw [s32_3]; decide) (by rw [s32_3]; rfl) (by decide) ?_
        exact w_L_law_297 hG C hbA hA0 hK (f_L_law_18 L xs n) ih x3 h _ _ _ (lv_sub hl [0, 1, 2, 3] rfl) hP hS hf
      replace hf := if_f s32_3 hf
      by_cases s32_4 : (v28 &&& 63) = 4
      · replace hf := if_t s32_4 hf
        refine lv_tableIn (tgt := 310) hx hb dL_law_32 (by rw [s32_4]; decide) (by rw [s32_4]; decide) (by rw [s32_4]; rfl) (by decide) ?_
        exact w_L_law_310 hG C hbA hA0 hK (f_L_law_18 L xs n) ih x3 h _ _ _ (lv_sub hl [0, 1, 2, 3] rfl) hP hS hf
      replace hf := if_f s32_4 hf
      by_cases s32_5 : (v28 &&& 63) = 5
      · replace hf := if_t s32_5 hf
        refine lv_tableIn (tgt := 343) hx hb dL_law_32 (by rw [s32_5]; decide) (by rw [s32_5]; decide) (by rw [s32_5]; rfl) (by decide) ?_
        exact w_L_law_343 hG C hbA hA0 hK (f_L_law_18 L xs n) ih x3 h _ _ _ (lv_sub hl [0, 1, 2, 3] rfl) hP hS hf
      replace hf := if_f s32_5 hf
      by_cases s32_6 : (v28 &&& 63) = 6
      · replace hf := if_t s32_6 hf
        refine lv_tableIn (tgt := 376) hx hb dL_law_32 (by rw [s32_6]; decide) (by rw [s32_6]; decide) (by rw [s32_6]; rfl) (by decide) ?_
        exact w_L_law_376 hG C hbA hA0 hK (f_L_law_18 L xs n) ih x3 h _ _ _ (lv_sub hl [0, 1, 2, 3] rfl) hP hS hf
      replace hf := if_f s32_6 hf
      by_cases s32_7 : (v28 &&& 63) = 7
      · replace hf := if_t s32_7 hf
        refine lv_tableIn (tgt := 409) hx hb dL_law_32 (by rw [s32_7]; decide) (by rw [s32_7]; decide) (by rw [s32_7]; rfl) (by decide) ?_
        exact w_L_law_409 hG C hbA hA0 hK (f_L_law_18 L xs n) ih x3 h _ _ _ (lv_sub hl [0, 1, 2, 3] rfl) hP hS hf
      replace hf := if_f s32_7 hf
      by_cases s32_8 : (v28 &&& 63) = 8
      · replace hf := if_t s32_8 hf
        refine lv_tableIn (tgt := 442) hx hb dL_law_32 (by rw [s32_8]; decide) (by rw [s32_8]; decide) (by rw [s32_8]; rfl) (by decide) ?_
        exact w_L_law_442 hG C hbA hA0 hK (f_L_law_18 L xs n) ih x3 h _ _ _ (lv_sub hl [0, 1, 2, 3] rfl) hP hS hf
      replace hf := if_f s32_8 hf
      by_cases s32_9 : (v28 &&& 63) = 9
      · replace hf := if_t s32_9 hf
        refine lv_tableIn (tgt := 465) hx hb dL_law_32 (by rw [s32_9]; decide) (by rw [s32_9]; decide) (by rw [s32_9]; rfl) (by decide) ?_
        exact w_L_law_465 hG C hbA hA0 hK (f_L_law_18 L xs n) ih x3 h _ _ _ (lv_sub hl [0, 1, 2, 3] rfl) hP hS hf
      replace hf := if_f s32_9 hf
      by_cases s32_10 : (v28 &&& 63) = 10
      · replace hf := if_t s32_10 hf
        refine lv_tableIn (tgt := 488) hx hb dL_law_32 (by rw [s32_10]; decide) (by rw [s32_10]; decide) (by rw [s32_10]; rfl) (by decide) ?_
        exact w_L_law_488 hG C hbA hA0 hK (f_L_law_18 L xs n) ih x3 h _ _ _ (lv_sub hl [0, 1, 2, 3] rfl) hP hS hf
      replace hf := if_f s32_10 hf
      by_cases s32_11 : (v28 &&& 63) = 11
      · replace hf := if_t s32_11 hf
        refine lv_tableIn (tgt := 521) hx hb dL_law_32 (by rw [s32_11]; decide) (by rw [s32_11]; decide) (by rw [s32_11]; rfl) (by decide) ?_
        exact w_L_law_521 hG C hbA hA0 hK (f_L_law_18 L xs n) ih x3 h _ _ _ (lv_sub hl [0, 1, 2, 3] rfl) hP hS hf
      replace hf := if_f s32_11 hf
      by_cases s32_12 : (v28 &&& 63) = 12
      · replace hf := if_t s32_12 hf
        refine lv_tableIn (tgt := 554) hx hb dL_law_32 (by rw [s32_12]; decide) (by rw [s32_12]; decide) (by rw [s32_12]; rfl) (by decide) ?_
        exact w_L_law_554 hG C hbA hA0 hK (f_L_law_18 L xs n) ih x3 h _ _ _ (lv_sub hl [0, 1, 2, 3] rfl) hP hS hf
      replace hf := if_f s32_12 hf
      by_cases s32_13 : (v28 &&& 63) = 13
      · replace hf := if_t s32_13 hf
        refine lv_tableIn (tgt := 587) hx hb dL_law_32 (by rw [s32_13]; decide) (by rw [s32_13]; decide) (by rw [s32_13]; rfl) (by decide) ?_
        exact w_L_law_587 hG C hbA hA0 hK (f_L_law_18 L xs n) ih x3 h _ _ _ (lv_sub hl [0, 1, 2, 3] rfl) hP hS hf
      replace hf := if_f s32_13 hf
      by_cases s32_14 : (v28 &&& 63) = 14
      · replace hf := if_t s32_14 hf
        refine lv_tableIn (tgt := 620) hx hb dL_law_32 (by rw [s32_14]; decide) (by rw [s32_14]; decide) (by rw [s32_14]; rfl) (by decide) ?_
        exact w_L_law_620 hG C hbA hA0 hK (f_L_law_18 L xs n) ih x3 h _ _ _ (lv_sub hl [0, 1, 2, 3] rfl) hP hS hf
      replace hf := if_f s32_14 hf
      by_cases s32_15 : (v28 &&& 63) = 15
      · replace hf := if_t s32_15 hf
        refine lv_tableIn (tgt := 653) hx hb dL_law_32 (by rw [s32_15]; decide) (by rw [s32_15]; decide) (by rw [s32_15]; rfl) (by decide) ?_
        exact w_L_law_653 hG C hbA hA0 hK (f_L_law_18 L xs n) ih x3 h _ _ _ (lv_sub hl [0, 1, 2, 3] rfl) hP hS hf
      replace hf := if_f s32_15 hf
      by_cases s32_16 : (v28 &&& 63) = 16
      · replace hf := if_t s32_16 hf
        refine lv_tableIn (tgt := 686) hx hb dL_law_32 (by rw [s32_16]; decide) (by rw [s32_16]; decide) (by rw [s32_16]; rfl) (by decide) ?_
        exact w_L_law_686 hG C hbA hA0 hK (f_L_law_18 L xs n) ih x3 h _ _ _ (lv_sub hl [0, 1, 2, 3] rfl) hP hS hf
      replace hf := if_f s32_16 hf
      by_cases s32_17 : (v28 &&& 63) = 17
      · replace hf := if_t s32_17 hf
        refine lv_tableIn (tgt := 719) hx hb dL_law_32 (by rw [s32_17]; decide) (by rw [s32_17]; decide) (by rw [s32_17]; rfl) (by decide) ?_
        exact w_L_law_719 hG C hbA hA0 hK (f_L_law_18 L xs n) ih x3 h _ _ _ (lv_sub hl [0, 1, 2, 3] rfl) hP hS hf
      replace hf := if_f s32_17 hf
      by_cases s32_18 : (v28 &&& 63) = 18
      · replace hf := if_t s32_18 hf
        refine lv_tableIn (tgt := 762) hx hb dL_law_32 (by rw [s32_18]; decide) (by rw [s32_18]; decide) (by rw [s32_18]; rfl) (by decide) ?_
        exact w_L_law_762 hG C hbA hA0 hK (f_L_law_18 L xs n) ih x3 h _ _ _ (lv_sub hl [0, 1, 2, 3] rfl) hP hS hf
      replace hf := if_f s32_18 hf
      by_cases s32_19 : (v28 &&& 63) = 19
      · replace hf := if_t s32_19 hf
        refine lv_tableIn (tgt := 795) hx hb dL_law_32 (by rw [s32_19]; decide) (by rw [s32_19]; decide) (by rw [s32_19]; rfl) (by decide) ?_
        exact w_L_law_795 hG C hbA hA0 hK (f_L_law_18 L xs n) ih x3 h _ _ _ (lv_sub hl [0, 1, 2, 3] rfl) hP hS hf
      replace hf := if_f s32_19 hf
      by_cases s32_20 : (v28 &&& 63) = 20
      · replace hf := if_t s32_20 hf
        refine lv_tableIn (tgt := 848) hx hb dL_law_32 (by rw [s32_20]; decide) (by rw [s32_20]; decide) (by rw [s32_20]; rfl) (by decide) ?_
        exact w_L_law_848 hG C hbA hA0 hK (f_L_law_18 L xs n) ih x3 h _ _ _ (lv_sub hl [0, 1, 2, 3] rfl) hP hS hf
      replace hf := if_f s32_20 hf
      by_cases s32_21 : (v28 &&& 63) = 21
      · replace hf := if_t s32_21 hf
        refine lv_tableIn (tgt := 881) hx hb dL_law_32 (by rw [s32_21]; decide) (by rw [s32_21]; decide) (by rw [s32_21]; rfl) (by decide) ?_
        exact w_L_law_881 hG C hbA hA0 hK (f_L_law_18 L xs n) ih x3 h _ _ _ (lv_sub hl [0, 1, 2, 3] rfl) hP hS hf
      replace hf := if_f s32_21 hf
      by_cases s32_22 : (v28 &&& 63) = 22
      · replace hf := if_t s32_22 hf
        refine lv_tableIn (tgt := 914) hx hb dL_law_32 (by rw [s32_22]; decide) (by rw [s32_22]; decide) (by rw [s32_22]; rfl) (by decide) ?_
        exact w_L_law_914 hG C hbA hA0 hK (f_L_law_18 L xs n) ih x3 h _ _ _ (lv_sub hl [0, 1, 2, 3] rfl) hP hS hf
      replace hf := if_f s32_22 hf
      by_cases s32_23 : (v28 &&& 63) = 23
      · replace hf := if_t s32_23 hf
        refine lv_tableIn (tgt := 947) hx hb dL_law_32 (by rw [s32_23]; decide) (by rw [s32_23]; decide) (by rw [s32_23]; rfl) (by decide) ?_
        exact w_L_law_947 hG C hbA hA0 hK (f_L_law_18 L xs n) ih x3 h _ _ _ (lv_sub hl [0, 1, 2, 3] rfl) hP hS hf
      replace hf := if_f s32_23 hf
      by_cases s32_24 : (v28 &&& 63) = 24
      · replace hf := if_t s32_24 hf
        refine lv_tableIn (tgt := 990) hx hb dL_law_32 (by rw [s32_24]; decide) (by rw [s32_24]; decide) (by rw [s32_24]; rfl) (by decide) ?_
        exact w_L_law_990 hG C hbA hA0 hK (f_L_law_18 L xs n) ih x3 h _ _ _ (lv_sub hl [0, 1, 2, 3] rfl) hP hS hf
      replace hf := if_f s32_24 hf
      by_cases s32_25 : (v28 &&& 63) = 25
      · replace hf := if_t s32_25 hf
        refine lv_tableIn (tgt := 1023) hx hb dL_law_32 (by rw [s32_25]; decide) (by rw [s32_25]; decide) (by rw [s32_25]; rfl) (by decide) ?_
        exact w_L_law_1023 hG C hbA hA0 hK (f_L_law_18 L xs n) ih x3 h _ _ _ (lv_sub hl [0, 1, 2, 3] rfl) hP hS hf
      replace hf := if_f s32_25 hf
      by_cases s32_26 : (v28 &&& 63) = 26
      · replace hf := if_t s32_26 hf
        refine lv_tableIn (tgt := 1056) hx hb dL_law_32 (by rw [s32_26]; decide) (by rw [s32_26]; decide) (by rw [s32_26]; rfl) (by decide) ?_
        exact w_L_law_1056 hG C hbA hA0 hK (f_L_law_18 L xs n) ih x3 h _ _ _ (lv_sub hl [0, 1, 2, 3] rfl) hP hS hf
      replace hf := if_f s32_26 hf
      by_cases s32_27 : (v28 &&& 63) = 27
      · replace hf := if_t s32_27 hf
        refine lv_tableIn (tgt := 1099) hx hb dL_law_32 (by rw [s32_27]; decide) (by rw [s32_27]; decide) (by rw [s32_27]; rfl) (by decide) ?_
        exact w_L_law_1099 hG C hbA hA0 hK (f_L_law_18 L xs n) ih x3 h _ _ _ (lv_sub hl [0, 1, 2, 3] rfl) hP hS hf
      replace hf := if_f s32_27 hf
      by_cases s32_28 : (v28 &&& 63) = 28
      · replace hf := if_t s32_28 hf
        refine lv_tableIn (tgt := 1132) hx hb dL_law_32 (by rw [s32_28]; decide) (by rw [s32_28]; decide) (by rw [s32_28]; rfl) (by decide) ?_
        exact w_L_law_1132 hG C hbA hA0 hK (f_L_law_18 L xs n) ih x3 h _ _ _ (lv_sub hl [0, 1, 2, 3] rfl) hP hS hf
      replace hf := if_f s32_28 hf
      by_cases s32_29 : (v28 &&& 63) = 29
      · replace hf := if_t s32_29 hf
        refine lv_tableIn (tgt := 1165) hx hb dL_law_32 (by rw [s32_29]; decide) (by rw [s32_29]; decide) (by rw [s32_29]; rfl) (by decide) ?_
        exact w_L_law_1165 hG C hbA hA0 hK (f_L_law_18 L xs n) ih x3 h _ _ _ (lv_sub hl [0, 1, 2, 3] rfl) hP hS hf
      replace hf := if_f s32_29 hf
      by_cases s32_30 : (v28 &&& 63) = 30
      · replace hf := if_t s32_30 hf
        refine lv_tableIn (tgt := 1214) hx hb dL_law_32 (by rw [s32_30]; decide) (by rw [s32_30]; decide) (by rw [s32_30]; rfl) (by decide) ?_
        exact w_L_law_1214 hG C hbA hA0 hK (f_L_law_18 L xs n) ih x3 h _ _ _ (lv_sub hl [0, 1, 2, 3] rfl) hP hS hf
      replace hf := if_f s32_30 hf
      by_cases s32_31 : (v28 &&& 63) = 31
      · replace hf := if_t s32_31 hf
        refine lv_tableIn (tgt := 1247) hx hb dL_law_32 (by rw [s32_31]; decide) (by rw [s32_31]; decide) (by rw [s32_31]; rfl) (by decide) ?_
        exact w_L_law_1247 hG C hbA hA0 hK (f_L_law_18 L xs n) ih x3 h _ _ _ (lv_sub hl [0, 1, 2, 3] rfl) hP hS hf
      replace hf := if_f s32_31 hf
      by_cases s32_32 : (v28 &&& 63) = 32
      · replace hf := if_t s32_32 hf
        refine lv_tableIn (tgt := 1300) hx hb dL_law_32 (by rw [s32_32]; decide) (by rw [s32_32]; decide) (by rw [s32_32]; rfl) (by decide) ?_
        exact w_L_law_1300 hG C hbA hA0 hK (f_L_law_18 L xs n) ih x3 h _ _ _ (lv_sub hl [0, 1, 2, 3] rfl) hP hS hf
      replace hf := if_f s32_32 hf
      by_cases s32_33 : (v28 &&& 63) = 33
      · replace hf := if_t s32_33 hf
        refine lv_tableIn (tgt := 1333) hx hb dL_law_32 (by rw [s32_33]; decide) (by rw [s32_33]; decide) (by rw [s32_33]; rfl) (by decide) ?_
        exact w_L_law_1333 hG C hbA hA0 hK (f_L_law_18 L xs n) ih x3 h _ _ _ (lv_sub hl [0, 1, 2, 3] rfl) hP hS hf
      replace hf := if_f s32_33 hf
      by_cases s32_34 : (v28 &&& 63) = 34
      · replace hf := if_t s32_34 hf
        refine lv_tableIn (tgt := 1356) hx hb dL_law_32 (by rw [s32_34]; decide) (by rw [s32_34]; decide) (by rw [s32_34]; rfl) (by decide) ?_
        exact w_L_law_1356 hG C hbA hA0 hK (f_L_law_18 L xs n) ih x3 h _ _ _ (lv_sub hl [0, 1, 2, 3] rfl) hP hS hf
      replace hf := if_f s32_34 hf
      by_cases s32_35 : (v28 &&& 63) = 35
      · replace hf := if_t s32_35 hf
        refine lv_tableIn (tgt := 1399) hx hb dL_law_32 (by rw [s32_35]; decide) (by rw [s32_35]; decide) (by rw [s32_35]; rfl) (by decide) ?_
        exact w_L_law_1399 hG C hbA hA0 hK (f_L_law_18 L xs n) ih x3 h _ _ _ (lv_sub hl [0, 1, 2, 3] rfl) hP hS hf
      replace hf := if_f s32_35 hf
      by_cases s32_36 : (v28 &&& 63) = 36
      · replace hf := if_t s32_36 hf
        refine lv_tableIn (tgt := 1442) hx hb dL_law_32 (by rw [s32_36]; decide) (by rw [s32_36]; decide) (by rw [s32_36]; rfl) (by decide) ?_
        exact w_L_law_1442 hG C hbA hA0 hK (f_L_law_18 L xs n) ih x3 h _ _ _ (lv_sub hl [0, 1, 2, 3] rfl) hP hS hf
      replace hf := if_f s32_36 hf
      by_cases s32_37 : (v28 &&& 63) = 37
      · replace hf := if_t s32_37 hf
        refine lv_tableIn (tgt := 1495) hx hb dL_law_32 (by rw [s32_37]; decide) (by rw [s32_37]; decide) (by rw [s32_37]; rfl) (by decide) ?_
        exact w_L_law_1495 hG C hbA hA0 hK (f_L_law_18 L xs n) ih x3 h _ _ _ (lv_sub hl [0, 1, 2, 3] rfl) hP hS hf
      replace hf := if_f s32_37 hf
      by_cases s32_38 : (v28 &&& 63) = 38
      · replace hf := if_t s32_38 hf
        refine lv_tableIn (tgt := 1538) hx hb dL_law_32 (by rw [s32_38]; decide) (by rw [s32_38]; decide) (by rw [s32_38]; rfl) (by decide) ?_
        exact w_L_law_1538 hG C hbA hA0 hK (f_L_law_18 L xs n) ih x3 h _ _ _ (lv_sub hl [0, 1, 2, 3] rfl) hP hS hf
      replace hf := if_f s32_38 hf
      by_cases s32_39 : (v28 &&& 63) = 39
      · replace hf := if_t s32_39 hf
        refine lv_tableIn (tgt := 1561) hx hb dL_law_32 (by rw [s32_39]; decide) (by rw [s32_39]; decide) (by rw [s32_39]; rfl) (by decide) ?_
        exact w_L_law_1561 hG C hbA hA0 hK (f_L_law_18 L xs n) ih x3 h _ _ _ (lv_sub hl [0, 1, 2, 3] rfl) hP hS hf
      replace hf := if_f s32_39 hf
      refine lv_tableOut (tgt := 1584) hx hb dL_law_32 (sw_out (x := (v28 &&& 63)) 39 (by decide) (fun k hk => by
        rcases (show k = 0 ∨ k = 1 ∨ k = 2 ∨ k = 3 ∨ k = 4 ∨ k = 5 ∨ k = 6 ∨ k = 7 ∨ k = 8 ∨ k = 9 ∨ k = 10 ∨ k = 11 ∨ k = 12 ∨ k = 13 ∨ k = 14 ∨ k = 15 ∨ k = 16 ∨ k = 17 ∨ k = 18 ∨ k = 19 ∨ k = 20 ∨ k = 21 ∨ k = 22 ∨ k = 23 ∨ k = 24 ∨ k = 25 ∨ k = 26 ∨ k = 27 ∨ k = 28 ∨ k = 29 ∨ k = 30 ∨ k = 31 ∨ k = 32 ∨ k = 33 ∨ k = 34 ∨ k = 35 ∨ k = 36 ∨ k = 37 ∨ k = 38 ∨ k = 39 by omega) with rfl | rfl | rfl | rfl | rfl | rfl | rfl | rfl | rfl | rfl | rfl | rfl | rfl | rfl | rfl | rfl | rfl | rfl | rfl | rfl | rfl | rfl | rfl | rfl | rfl | rfl | rfl | rfl | rfl | rfl | rfl | rfl | rfl | rfl | rfl | rfl | rfl | rfl | rfl | rfl
        · exact s32_0
        · exact s32_1
        · exact s32_2
        · exact s32_3
        · exact s32_4
        · exact s32_5
        · exact s32_6
        · exact s32_7
        · exact s32_8
        · exact s32_9
        · exact s32_10
        · exact s32_11
        · exact s32_12
        · exact s32_13
        · exact s32_14
        · exact s32_15
        · exact s32_16
        · exact s32_17
        · exact s32_18
        · exact s32_19
        · exact s32_20
        · exact s32_21
        · exact s32_22
        · exact s32_23
        · exact s32_24
        · exact s32_25
        · exact s32_26
        · exact s32_27
        · exact s32_28
        · exact s32_29
        · exact s32_30
        · exact s32_31
        · exact s32_32
        · exact s32_33
        · exact s32_34
        · exact s32_35
        · exact s32_36
        · exact s32_37
        · exact s32_38
        · exact s32_39
        )) (by decide) ?_
      refine lv_iinc (v := (x3 + 5)) (lv' := [(3, .int (x3 + 5)), (0, .ref b), (1, .ref (gB G 0)), (2, .ref (gB G 66))]) hx hb dL_law_1584 hl (k := 3) rfl rfl (by decide) rfl (fun ls hl => ?_)
      refine lv_goto (tgt := 18) hx hb dL_law_1587 (by decide) ?_
      exact ih (x3 + 5) h _ _ _ (lv_sub hl [1, 2, 3, 0] rfl) hP hS hf
