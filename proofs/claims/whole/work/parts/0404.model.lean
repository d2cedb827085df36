/-! CarriedBackModel.in(JJJ)Z -/
abbrev rmX9_in : Room := { frames := 0, cells := 0, slots := 0, locals := 0 }
abbrev vX9_in : List Cond := Cond.code yX9_in cX9_in 6 (some .boolean) :: GW
def f_X9_in (x0 : Int64) (x2 : Int64) (x4 : Int64) : Option Int32 := if (lg_cmp x0 x2) < 0 then (some 0) else (if (0 : Int32) < (lg_cmp x0 x4) then (some 0) else (some 1))
set_option maxHeartbeats 4000000 in
set_option maxRecDepth 100000 in
theorem k_X9_in (l : Launch) {G : GC} (hG : GOK G) {x0 : Int64} {x2 : Int64} {x4 : Int64} {rr : Int32} {h : PH} (hf : f_X9_in x0 x2 x4 = some rr) : CI l yX9_in vX9_in rmX9_in G [.long x0, .long x2, .long x4] h rr h := by
  refine Met.ofW (cc := cX9_in) (maxL := 6) (ret := (some .boolean)) (by decide +kernel) rfl ?_
  intro p e s m args below meth c s₁ B hml hv
  obtain ⟨rfl, hP, hK⟩ := hv
  have C : MC l G p s m _ meth c RX9 cX9_in 6 (some .boolean) := ⟨B.exec, B.bytes, B.returns, B.notSynchronized, hml, findClass_of_methodNamed B.named, fun w hw => atoms_spec (ws := vX9_in) B.pre w (List.mem_cons_of_mem _ hw), hK⟩
  obtain ⟨hx, hb, hr, hlocks, -, hown, hts, -⟩ := id C
  have hl := lv_entry ([.long x0, .long x2, .long x4]) (n := 6) (Nat.le_of_ble_eq_true rfl)
  rw [lg_entry_eq]
  generalize (lg_sl ([.long x0, .long x2, .long x4]) ++ List.replicate (6 - (lg_sl ([.long x0, .long x2, .long x4])).length) Slot.unset).toArray = ls at hl ⊢
  have hl : lv_has ls 6 [(0, .long x0), (2, .long x2), (4, .long x4)] := hl
  have hS : SP G s s.heap [] := va_S.rf
  replace hP : WP G h s.heap := hP
  rw [f_X9_in] at hf
  refine lv_lload_n hx hb dX9_in_0 rfl (lv_at hl 0 rfl) ?_
  refine lv_lload_n hx hb dX9_in_1 rfl (lv_at hl 1 rfl) ?_
  refine W.lcmp hx hb dX9_in_2 ?_
  refine lv_if_lt (tgt := 17) hx hb dX9_in_3 (by decide) (fun c3 => ?_) (fun c3 => ?_)
  · replace hf := if_t c3 hf
    refine lv_iconst (v := 0) hx hb dX9_in_17 (by decide) ?_
    exact r_zret hx hb hr rfl hlocks hP hS ⟨Option.some.inj hf, rfl⟩ dX9_in_18
  · replace hf := if_f c3 hf
    refine lv_lload_n hx hb dX9_in_6 rfl (lv_at hl 0 rfl) ?_
    refine lv_lload hx hb dX9_in_7 (lv_at hl 2 rfl) ?_
    refine W.lcmp hx hb dX9_in_9 ?_
    refine lv_if_gt (tgt := 17) hx hb dX9_in_10 (by decide) (fun c10 => ?_) (fun c10 => ?_)
    · replace hf := if_t c10 hf
      refine lv_iconst (v := 0) hx hb dX9_in_17 (by decide) ?_
      exact r_zret hx hb hr rfl hlocks hP hS ⟨Option.some.inj hf, rfl⟩ dX9_in_18
    · replace hf := if_f c10 hf
      refine lv_iconst (v := 1) hx hb dX9_in_13 (by decide) ?_
      refine lv_goto (tgt := 18) hx hb dX9_in_14 (by decide) ?_
      exact r_zret hx hb hr rfl hlocks hP hS ⟨Option.some.inj hf, rfl⟩ dX9_in_18
/-! CarriedBackModel.has(II)Z -/
abbrev rmX9_has : Room := { frames := 0, cells := 0, slots := 0, locals := 0 }
abbrev vX9_has : List Cond := Cond.code yX9_has cX9_has 2 (some .boolean) :: GW
def f_X9_has (x0 : Int32) (x1 : Int32) : Option Int32 := if ((x0 >>> (x1 &&& 31)) &&& 1) = 1 then (some 1) else (some 0)
set_option maxHeartbeats 4000000 in
set_option maxRecDepth 100000 in
theorem k_X9_has (l : Launch) {G : GC} (hG : GOK G) {x0 : Int32} {x1 : Int32} {rr : Int32} {h : PH} (hf : f_X9_has x0 x1 = some rr) : CI l yX9_has vX9_has rmX9_has G [.int x0, .int x1] h rr h := by
  refine Met.ofW (cc := cX9_has) (maxL := 2) (ret := (some .boolean)) (by decide +kernel) rfl ?_
  intro p e s m args below meth c s₁ B hml hv
  obtain ⟨rfl, hP, hK⟩ := hv
  have C : MC l G p s m _ meth c RX9 cX9_has 2 (some .boolean) := ⟨B.exec, B.bytes, B.returns, B.notSynchronized, hml, findClass_of_methodNamed B.named, fun w hw => atoms_spec (ws := vX9_has) B.pre w (List.mem_cons_of_mem _ hw), hK⟩
  obtain ⟨hx, hb, hr, hlocks, -, hown, hts, -⟩ := id C
  have hl := lv_entry ([.int x0, .int x1]) (n := 2) (Nat.le_of_ble_eq_true rfl)
  rw [lg_entry_eq]
  generalize (lg_sl ([.int x0, .int x1]) ++ List.replicate (2 - (lg_sl ([.int x0, .int x1])).length) Slot.unset).toArray = ls at hl ⊢
  have hl : lv_has ls 2 [(0, .int x0), (1, .int x1)] := hl
  have hS : SP G s s.heap [] := va_S.rf
  replace hP : WP G h s.heap := hP
  rw [f_X9_has] at hf
  refine lv_iload_n hx hb dX9_has_0 rfl (lv_at hl 0 rfl) ?_
  refine lv_iload_n hx hb dX9_has_1 rfl (lv_at hl 1 rfl) ?_
  refine lv_ishr hx hb dX9_has_2 ?_
  refine lv_iconst (v := 1) hx hb dX9_has_3 (by decide) ?_
  refine lv_iand hx hb dX9_has_4 ?_
  refine lv_iconst (v := 1) hx hb dX9_has_5 (by decide) ?_
  refine lv_icmp_ne (tgt := 13) hx hb dX9_has_6 (by decide) (fun c6 => ?_) (fun c6 => ?_)
  · replace hf := if_f c6 hf
    refine lv_iconst (v := 0) hx hb dX9_has_13 (by decide) ?_
    exact r_zret hx hb hr rfl hlocks hP hS ⟨Option.some.inj hf, rfl⟩ dX9_has_14
  · replace hf := if_t c6 hf
    refine lv_iconst (v := 1) hx hb dX9_has_9 (by decide) ?_
    refine lv_goto (tgt := 14) hx hb dX9_has_10 (by decide) ?_
    exact r_zret hx hb hr rfl hlocks hP hS ⟨Option.some.inj hf, rfl⟩ dX9_has_14
/-! CarriedBackModel.bits(I)I -/
abbrev rmX9_bits : Room := { frames := 0, cells := 0, slots := 0, locals := 0 }
abbrev vX9_bits : List Cond := Cond.code yX9_bits cX9_bits 3 (some .int) :: GW
def f_X9_bits_4 (x0 : Int32) : Nat → Int32 → Int32 → Option Int32
  | 0, _, _ => none
  | n + 1, x1, x2 => if (24 : Int32) ≤ x2 then (some x1) else (lt' ((x1 + ((x0 >>> (x2 &&& 31)) &&& 1))) (fun x1_17 => (f_X9_bits_4 x0 n) x1_17 (x2 + 1)))
set_option maxHeartbeats 4000000 in
set_option maxRecDepth 100000 in
theorem w_X9_bits_4 {l : Launch} {G : GC} (hG : GOK G) {rr : Int32} {h : PH} {p : Program} {e : Env} {s : State} {m : MethodId} {args : Array Value} {below : List Frame} {meth : Method} {c : Code} (C : MC l G p s m args meth c RX9 cX9_bits 3 (some .int)) (x0 : Int32) : ∀ (n : Nat) (x1 : Int32) (x2 : Int32) (H : Heap) (locs : List Loc) (ls : Array Slot), lv_has ls 3 [(0, .int x0), (1, .int x1), (2, .int x2)] → WP G h H → SP G s H locs → f_X9_bits_4 x0 n x1 x2 = some rr → W p l e rmX9_bits s m args below meth c H locs 0 0 (MQ below (QI G rr h) args s 0 0 (gA G)) (F0 m 4 ls []) := by
  obtain ⟨hx, hb, hr, hlocks, hml, hown, hts, hK⟩ := id C
  intro n
  induction n with
  | zero => intro x1 x2 H locs ls hl hP hS hf; rw [f_X9_bits_4] at hf; cases hf
  | succ n ih =>
    intro x1 x2 H locs ls hl hP hS hf
    rw [f_X9_bits_4] at hf
    refine lv_iload_n hx hb dX9_bits_4 rfl (lv_at hl 2 rfl) ?_
    refine lv_bipush (v := 24) hx hb dX9_bits_5 (by decide) ?_
    refine lv_icmp_ge (tgt := 24) hx hb dX9_bits_7 (by decide) (fun c7 => ?_) (fun c7 => ?_)
    · replace hf := if_t c7 hf
      refine lv_iload_n hx hb dX9_bits_24 rfl (lv_at hl 1 rfl) ?_
      exact r_iret hx hb hr hlocks hP hS ⟨Option.some.inj hf, rfl⟩ dX9_bits_25
    · replace hf := if_f c7 hf
      refine lv_iload_n hx hb dX9_bits_10 rfl (lv_at hl 1 rfl) ?_
      refine lv_iload_n hx hb dX9_bits_11 rfl (lv_at hl 0 rfl) ?_
      refine lv_iload_n hx hb dX9_bits_12 rfl (lv_at hl 2 rfl) ?_
      refine lv_ishr hx hb dX9_bits_13 ?_
      refine lv_iconst (v := 1) hx hb dX9_bits_14 (by decide) ?_
      refine lv_iand hx hb dX9_bits_15 ?_
      refine lv_iadd hx hb dX9_bits_16 ?_
      refine lv_topi (fun x1_17 ex1_17 => ?_)
      replace hf := lt_at ex1_17 hf
      refine lv_istore_n (lv' := [(1, .int x1_17), (0, .int x0), (2, .int x2)]) hx hb dX9_bits_17 rfl hl (by decide) rfl (fun ls hl => ?_)
      refine lv_iinc (v := (x2 + 1)) (lv' := [(2, .int (x2 + 1)), (1, .int x1_17), (0, .int x0)]) hx hb dX9_bits_18 hl (k := 2) rfl rfl (by decide) rfl (fun ls hl => ?_)
      refine lv_goto (tgt := 4) hx hb dX9_bits_21 (by decide) ?_
      exact ih x1_17 (x2 + 1) _ _ _ (lv_sub hl [2, 1, 0] rfl) hP hS hf
def f_X9_bits (x0 : Int32) : Option Int32 := f_X9_bits_4 x0 FU 0 0
set_option maxHeartbeats 4000000 in
set_option maxRecDepth 100000 in
theorem k_X9_bits (l : Launch) {G : GC} (hG : GOK G) {x0 : Int32} {rr : Int32} {h : PH} (hf : f_X9_bits x0 = some rr) : CI l yX9_bits vX9_bits rmX9_bits G [.int x0] h rr h := by
  refine Met.ofW (cc := cX9_bits) (maxL := 3) (ret := (some .int)) (by decide +kernel) rfl ?_
  intro p e s m args below meth c s₁ B hml hv
  obtain ⟨rfl, hP, hK⟩ := hv
  have C : MC l G p s m _ meth c RX9 cX9_bits 3 (some .int) := ⟨B.exec, B.bytes, B.returns, B.notSynchronized, hml, findClass_of_methodNamed B.named, fun w hw => atoms_spec (ws := vX9_bits) B.pre w (List.mem_cons_of_mem _ hw), hK⟩
  obtain ⟨hx, hb, hr, hlocks, -, hown, hts, -⟩ := id C
  have hl := lv_entry ([.int x0]) (n := 3) (Nat.le_of_ble_eq_true rfl)
  rw [lg_entry_eq]
  generalize (lg_sl ([.int x0]) ++ List.replicate (3 - (lg_sl ([.int x0])).length) Slot.unset).toArray = ls at hl ⊢
  have hl : lv_has ls 3 [(0, .int x0)] := hl
  have hS : SP G s s.heap [] := va_S.rf
  replace hP : WP G h s.heap := hP
  rw [f_X9_bits] at hf
  refine lv_iconst (v := 0) hx hb dX9_bits_0 (by decide) ?_
  refine lv_istore_n (lv' := [(1, .int 0), (0, .int x0)]) hx hb dX9_bits_1 rfl hl (by decide) rfl (fun ls hl => ?_)
  refine lv_iconst (v := 0) hx hb dX9_bits_2 (by decide) ?_
  refine lv_istore_n (lv' := [(2, .int 0), (1, .int 0), (0, .int x0)]) hx hb dX9_bits_3 rfl hl (by decide) rfl (fun ls hl => ?_)
  exact w_X9_bits_4 hG (h := h) C x0 FU 0 0 _ _ _ (lv_sub hl [2, 1, 0] rfl) hP hS hf
/-! CarriedBackModel.isChange(I)Z -/
abbrev rmX9_isChange : Room := { frames := 1, cells := 0, slots := 0, locals := 25 }
abbrev vX9_isChange : List Cond := Cond.code yX9_isChange cX9_isChange 2 (some .boolean) :: GW
def f_X9_isChange (x1 : Int32) (h : PH) : Option (Int32 × PH) := bO (f_X9_in (x1 : Int32).toInt64 0 (((h.1 66 0) - 1) : Int32).toInt64) (fun r10 => zr r10 (r10, h))
set_option maxHeartbeats 4000000 in
set_option maxRecDepth 100000 in
theorem k_X9_isChange (l : Launch) {G : GC} (hG : GOK G) {x1 : Int32} {rr : Int32} {h hh : PH} (hf : f_X9_isChange x1 h = some (rr, hh)) : CI l yX9_isChange vX9_isChange rmX9_isChange G [.ref (gB G 66), .int x1] h rr hh := by
  refine Met.ofW (cc := cX9_isChange) (maxL := 2) (ret := (some .boolean)) (by decide +kernel) rfl ?_
  intro p e s m args below meth c s₁ B hml hv
  obtain ⟨rfl, hP, hK⟩ := hv
  have C : MC l G p s m _ meth c RX9 cX9_isChange 2 (some .boolean) := ⟨B.exec, B.bytes, B.returns, B.notSynchronized, hml, findClass_of_methodNamed B.named, fun w hw => atoms_spec (ws := vX9_isChange) B.pre w (List.mem_cons_of_mem _ hw), hK⟩
  obtain ⟨hx, hb, hr, hlocks, -, hown, hts, -⟩ := id C
  have hl := lv_entry ([.ref (gB G 66), .int x1]) (n := 2) (Nat.le_of_ble_eq_true rfl)
  rw [lg_entry_eq]
  generalize (lg_sl ([.ref (gB G 66), .int x1]) ++ List.replicate (2 - (lg_sl ([.ref (gB G 66), .int x1])).length) Slot.unset).toArray = ls at hl ⊢
  have hl : lv_has ls 2 [(0, .ref (gB G 66)), (1, .int x1)] := hl
  have hS : SP G s s.heap [] := va_S.rf
  replace hP : WP G h s.heap := hP
  rw [f_X9_isChange] at hf
  refine lv_iload_n hx hb dX9_isChange_0 rfl (lv_at hl 1 rfl) ?_
  refine lv_i2l hx hb dX9_isChange_1 rfl ?_
  refine lv_lconst (v := 0) hx hb dX9_isChange_2 (by decide) ?_
  refine lv_aload_n hx hb dX9_isChange_3 rfl (lv_at hl 0 rfl) ?_
  refine r_get (a := 66) (v := .int (h.1 66 0)) (C := RX9) (T := TX9) (N := 55) hx hb hts hinX9 hown hK hP (ltX9 rfl) (ceX9 rfl) rfl 0 (by decide) wd1035 rfl dX9_isChange_4 ?_
  refine lv_iconst (v := 1) hx hb dX9_isChange_7 (by decide) ?_
  refine lv_isub hx hb dX9_isChange_8 ?_
  refine lv_i2l hx hb dX9_isChange_9 rfl ?_
  obtain ⟨r10, er10, hf⟩ := bO_s hf
  refine r_callI (va_runS (As := [.long (x1 : Int32).toInt64, .long 0, .long (((h.1 66 0) - 1) : Int32).toInt64]) (rest := []) ⟨hx, hb, hml, hown, hts⟩ (k_X9_in l hG (h := h) er10) (va_cwS 3 hts (gS wd1206 wd1207 wd82 wd1208) rfl rfl rfl (by decide +kernel) ⟨Nat.le_of_ble_eq_true rfl, Nat.le_of_ble_eq_true rfl⟩) (r_ps hK hP hS) rfl rfl hl.1 rfl (lv_room (Nat.le_of_ble_eq_true rfl)) dX9_isChange_10 ⟨Nat.le_of_ble_eq_true rfl, Nat.le_of_ble_eq_true rfl⟩) hS (fun H locs hP hS => ?_)
  obtain ⟨hz, hf⟩ := zr_s hf
  exact r_zret hx hb hr hz hlocks hP hS (re2 hf) dX9_isChange_13
/-! CarriedBackModel.isSlot(I)Z -/
abbrev rmX9_isSlot : Room := { frames := 1, cells := 0, slots := 0, locals := 25 }
abbrev vX9_isSlot : List Cond := Cond.code yX9_isSlot cX9_isSlot 1 (some .boolean) :: GW
def f_X9_isSlot (x0 : Int32) : Option Int32 := bO (f_X9_in (x0 : Int32).toInt64 0 15) (fun r6 => zr r6 r6)
set_option maxHeartbeats 4000000 in
set_option maxRecDepth 100000 in
theorem k_X9_isSlot (l : Launch) {G : GC} (hG : GOK G) {x0 : Int32} {rr : Int32} {h : PH} (hf : f_X9_isSlot x0 = some rr) : CI l yX9_isSlot vX9_isSlot rmX9_isSlot G [.int x0] h rr h := by
  refine Met.ofW (cc := cX9_isSlot) (maxL := 1) (ret := (some .boolean)) (by decide +kernel) rfl ?_
  intro p e s m args below meth c s₁ B hml hv
  obtain ⟨rfl, hP, hK⟩ := hv
  have C : MC l G p s m _ meth c RX9 cX9_isSlot 1 (some .boolean) := ⟨B.exec, B.bytes, B.returns, B.notSynchronized, hml, findClass_of_methodNamed B.named, fun w hw => atoms_spec (ws := vX9_isSlot) B.pre w (List.mem_cons_of_mem _ hw), hK⟩
  obtain ⟨hx, hb, hr, hlocks, -, hown, hts, -⟩ := id C
  have hl := lv_entry ([.int x0]) (n := 1) (Nat.le_of_ble_eq_true rfl)
  rw [lg_entry_eq]
  generalize (lg_sl ([.int x0]) ++ List.replicate (1 - (lg_sl ([.int x0])).length) Slot.unset).toArray = ls at hl ⊢
  have hl : lv_has ls 1 [(0, .int x0)] := hl
  have hS : SP G s s.heap [] := va_S.rf
  replace hP : WP G h s.heap := hP
  rw [f_X9_isSlot] at hf
  refine lv_iload_n hx hb dX9_isSlot_0 rfl (lv_at hl 0 rfl) ?_
  refine lv_i2l hx hb dX9_isSlot_1 rfl ?_
  refine lv_lconst (v := 0) hx hb dX9_isSlot_2 (by decide) ?_
  refine lv_ldc2 (v := 15) hx hb hown (hts _ wd1318) dX9_isSlot_3 ?_
  obtain ⟨r6, er6, hf⟩ := bO_s hf
  refine r_callI (va_runS (As := [.long (x0 : Int32).toInt64, .long 0, .long 15]) (rest := []) ⟨hx, hb, hml, hown, hts⟩ (k_X9_in l hG (h := h) er6) (va_cwS 3 hts (gS wd1206 wd1207 wd82 wd1208) rfl rfl rfl (by decide +kernel) ⟨Nat.le_of_ble_eq_true rfl, Nat.le_of_ble_eq_true rfl⟩) (r_ps hK hP hS) rfl rfl hl.1 rfl (lv_room (Nat.le_of_ble_eq_true rfl)) dX9_isSlot_6 ⟨Nat.le_of_ble_eq_true rfl, Nat.le_of_ble_eq_true rfl⟩) hS (fun H locs hP hS => ?_)
  obtain ⟨hz, hf⟩ := zr_s hf
  exact r_zret hx hb hr hz hlocks hP hS ⟨hf, rfl⟩ dX9_isSlot_9
/-! CarriedBackModel.isFault(I)Z -/
abbrev rmX9_isFault : Room := { frames := 1, cells := 0, slots := 0, locals := 25 }
abbrev vX9_isFault : List Cond := Cond.code yX9_isFault cX9_isFault 2 (some .boolean) :: GW
def f_X9_isFault (x1 : Int32) (h : PH) : Option (Int32 × PH) := bO (f_X9_in (x1 : Int32).toInt64 0 (((h.1 66 4) - 1) : Int32).toInt64) (fun r10 => zr r10 (r10, h))
set_option maxHeartbeats 4000000 in
set_option maxRecDepth 100000 in
theorem k_X9_isFault (l : Launch) {G : GC} (hG : GOK G) {x1 : Int32} {rr : Int32} {h hh : PH} (hf : f_X9_isFault x1 h = some (rr, hh)) : CI l yX9_isFault vX9_isFault rmX9_isFault G [.ref (gB G 66), .int x1] h rr hh := by
  refine Met.ofW (cc := cX9_isFault) (maxL := 2) (ret := (some .boolean)) (by decide +kernel) rfl ?_
  intro p e s m args below meth c s₁ B hml hv
  obtain ⟨rfl, hP, hK⟩ := hv
  have C : MC l G p s m _ meth c RX9 cX9_isFault 2 (some .boolean) := ⟨B.exec, B.bytes, B.returns, B.notSynchronized, hml, findClass_of_methodNamed B.named, fun w hw => atoms_spec (ws := vX9_isFault) B.pre w (List.mem_cons_of_mem _ hw), hK⟩
  obtain ⟨hx, hb, hr, hlocks, -, hown, hts, -⟩ := id C
  have hl := lv_entry ([.ref (gB G 66), .int x1]) (n := 2) (Nat.le_of_ble_eq_true rfl)
  rw [lg_entry_eq]
  generalize (lg_sl ([.ref (gB G 66), .int x1]) ++ List.replicate (2 - (lg_sl ([.ref (gB G 66), .int x1])).length) Slot.unset).toArray = ls at hl ⊢
  have hl : lv_has ls 2 [(0, .ref (gB G 66)), (1, .int x1)] := hl
  have hS : SP G s s.heap [] := va_S.rf
  replace hP : WP G h s.heap := hP
  rw [f_X9_isFault] at hf
  refine lv_iload_n hx hb dX9_isFault_0 rfl (lv_at hl 1 rfl) ?_
  refine lv_i2l hx hb dX9_isFault_1 rfl ?_
  refine lv_lconst (v := 0) hx hb dX9_isFault_2 (by decide) ?_
  refine lv_aload_n hx hb dX9_isFault_3 rfl (lv_at hl 0 rfl) ?_
  refine r_get (a := 66) (v := .int (h.1 66 4)) (C := RX9) (T := TX9) (N := 55) hx hb hts hinX9 hown hK hP (ltX9 rfl) (ceX9 rfl) rfl 4 (by decide) wd1039 rfl dX9_isFault_4 ?_
  refine lv_iconst (v := 1) hx hb dX9_isFault_7 (by decide) ?_
  refine lv_isub hx hb dX9_isFault_8 ?_
  refine lv_i2l hx hb dX9_isFault_9 rfl ?_
  obtain ⟨r10, er10, hf⟩ := bO_s hf
  refine r_callI (va_runS (As := [.long (x1 : Int32).toInt64, .long 0, .long (((h.1 66 4) - 1) : Int32).toInt64]) (rest := []) ⟨hx, hb, hml, hown, hts⟩ (k_X9_in l hG (h := h) er10) (va_cwS 3 hts (gS wd1206 wd1207 wd82 wd1208) rfl rfl rfl (by decide +kernel) ⟨Nat.le_of_ble_eq_true rfl, Nat.le_of_ble_eq_true rfl⟩) (r_ps hK hP hS) rfl rfl hl.1 rfl (lv_room (Nat.le_of_ble_eq_true rfl)) dX9_isFault_10 ⟨Nat.le_of_ble_eq_true rfl, Nat.le_of_ble_eq_true rfl⟩) hS (fun H locs hP hS => ?_)
  obtain ⟨hz, hf⟩ := zr_s hf
  exact r_zret hx hb hr hz hlocks hP hS (re2 hf) dX9_isFault_13
/-! CarriedBackModel.isLine(I)Z -/
abbrev rmX9_isLine : Room := { frames := 1, cells := 0, slots := 0, locals := 25 }
abbrev vX9_isLine : List Cond := Cond.code yX9_isLine cX9_isLine 2 (some .boolean) :: GW
def f_X9_isLine (x1 : Int32) (h : PH) : Option (Int32 × PH) := bO (f_X9_in (x1 : Int32).toInt64 0 (((h.1 66 8) - 1) : Int32).toInt64) (fun r10 => zr r10 (r10, h))
set_option maxHeartbeats 4000000 in
set_option maxRecDepth 100000 in
theorem k_X9_isLine (l : Launch) {G : GC} (hG : GOK G) {x1 : Int32} {rr : Int32} {h hh : PH} (hf : f_X9_isLine x1 h = some (rr, hh)) : CI l yX9_isLine vX9_isLine rmX9_isLine G [.ref (gB G 66), .int x1] h rr hh := by
  refine Met.ofW (cc := cX9_isLine) (maxL := 2) (ret := (some .boolean)) (by decide +kernel) rfl ?_
  intro p e s m args below meth c s₁ B hml hv
  obtain ⟨rfl, hP, hK⟩ := hv
  have C : MC l G p s m _ meth c RX9 cX9_isLine 2 (some .boolean) := ⟨B.exec, B.bytes, B.returns, B.notSynchronized, hml, findClass_of_methodNamed B.named, fun w hw => atoms_spec (ws := vX9_isLine) B.pre w (List.mem_cons_of_mem _ hw), hK⟩
  obtain ⟨hx, hb, hr, hlocks, -, hown, hts, -⟩ := id C
  have hl := lv_entry ([.ref (gB G 66), .int x1]) (n := 2) (Nat.le_of_ble_eq_true rfl)
  rw [lg_entry_eq]
  generalize (lg_sl ([.ref (gB G 66), .int x1]) ++ List.replicate (2 - (lg_sl ([.ref (gB G 66), .int x1])).length) Slot.unset).toArray = ls at hl ⊢
  have hl : lv_has ls 2 [(0, .ref (gB G 66)), (1, .int x1)] := hl
  have hS : SP G s s.heap [] := va_S.rf
  replace hP : WP G h s.heap := hP
  rw [f_X9_isLine] at hf
  refine lv_iload_n hx hb dX9_isLine_0 rfl (lv_at hl 1 rfl) ?_
  refine lv_i2l hx hb dX9_isLine_1 rfl ?_
  refine lv_lconst (v := 0) hx hb dX9_isLine_2 (by decide) ?_
  refine lv_aload_n hx hb dX9_isLine_3 rfl (lv_at hl 0 rfl) ?_
  refine r_get (a := 66) (v := .int (h.1 66 8)) (C := RX9) (T := TX9) (N := 55) hx hb hts hinX9 hown hK hP (ltX9 rfl) (ceX9 rfl) rfl 8 (by decide) wd1043 rfl dX9_isLine_4 ?_
  refine lv_iconst (v := 1) hx hb dX9_isLine_7 (by decide) ?_
  refine lv_isub hx hb dX9_isLine_8 ?_
  refine lv_i2l hx hb dX9_isLine_9 rfl ?_
  obtain ⟨r10, er10, hf⟩ := bO_s hf
  refine r_callI (va_runS (As := [.long (x1 : Int32).toInt64, .long 0, .long (((h.1 66 8) - 1) : Int32).toInt64]) (rest := []) ⟨hx, hb, hml, hown, hts⟩ (k_X9_in l hG (h := h) er10) (va_cwS 3 hts (gS wd1206 wd1207 wd82 wd1208) rfl rfl rfl (by decide +kernel) ⟨Nat.le_of_ble_eq_true rfl, Nat.le_of_ble_eq_true rfl⟩) (r_ps hK hP hS) rfl rfl hl.1 rfl (lv_room (Nat.le_of_ble_eq_true rfl)) dX9_isLine_10 ⟨Nat.le_of_ble_eq_true rfl, Nat.le_of_ble_eq_true rfl⟩) hS (fun H locs hP hS => ?_)
  obtain ⟨hz, hf⟩ := zr_s hf
  exact r_zret hx hb hr hz hlocks hP hS (re2 hf) dX9_isLine_13
/-! CarriedBackModel.isRelease(I)Z -/
abbrev rmX9_isRelease : Room := { frames := 1, cells := 0, slots := 0, locals := 25 }
abbrev vX9_isRelease : List Cond := Cond.code yX9_isRelease cX9_isRelease 2 (some .boolean) :: GW
def f_X9_isRelease (x1 : Int32) (h : PH) : Option (Int32 × PH) := bO (f_X9_in (x1 : Int32).toInt64 0 (((h.1 66 13) - 1) : Int32).toInt64) (fun r10 => zr r10 (r10, h))
set_option maxHeartbeats 4000000 in
set_option maxRecDepth 100000 in
theorem k_X9_isRelease (l : Launch) {G : GC} (hG : GOK G) {x1 : Int32} {rr : Int32} {h hh : PH} (hf : f_X9_isRelease x1 h = some (rr, hh)) : CI l yX9_isRelease vX9_isRelease rmX9_isRelease G [.ref (gB G 66), .int x1] h rr hh := by
  refine Met.ofW (cc := cX9_isRelease) (maxL := 2) (ret := (some .boolean)) (by decide +kernel) rfl ?_
  intro p e s m args below meth c s₁ B hml hv
  obtain ⟨rfl, hP, hK⟩ := hv
  have C : MC l G p s m _ meth c RX9 cX9_isRelease 2 (some .boolean) := ⟨B.exec, B.bytes, B.returns, B.notSynchronized, hml, findClass_of_methodNamed B.named, fun w hw => atoms_spec (ws := vX9_isRelease) B.pre w (List.mem_cons_of_mem _ hw), hK⟩
  obtain ⟨hx, hb, hr, hlocks, -, hown, hts, -⟩ := id C
  have hl := lv_entry ([.ref (gB G 66), .int x1]) (n := 2) (Nat.le_of_ble_eq_true rfl)
  rw [lg_entry_eq]
  generalize (lg_sl ([.ref (gB G 66), .int x1]) ++ List.replicate (2 - (lg_sl ([.ref (gB G 66), .int x1])).length) Slot.unset).toArray = ls at hl ⊢
  have hl : lv_has ls 2 [(0, .ref (gB G 66)), (1, .int x1)] := hl
  have hS : SP G s s.heap [] := va_S.rf
  replace hP : WP G h s.heap := hP
  rw [f_X9_isRelease] at hf
  refine lv_iload_n hx hb dX9_isRelease_0 rfl (lv_at hl 1 rfl) ?_
  refine lv_i2l hx hb dX9_isRelease_1 rfl ?_
  refine lv_lconst (v := 0) hx hb dX9_isRelease_2 (by decide) ?_
  refine lv_aload_n hx hb dX9_isRelease_3 rfl (lv_at hl 0 rfl) ?_
  refine r_get (a := 66) (v := .int (h.1 66 13)) (C := RX9) (T := TX9) (N := 55) hx hb hts hinX9 hown hK hP (ltX9 rfl) (ceX9 rfl) rfl 13 (by decide) wd1048 rfl dX9_isRelease_4 ?_
  refine lv_iconst (v := 1) hx hb dX9_isRelease_7 (by decide) ?_
  refine lv_isub hx hb dX9_isRelease_8 ?_
  refine lv_i2l hx hb dX9_isRelease_9 rfl ?_
  obtain ⟨r10, er10, hf⟩ := bO_s hf
  refine r_callI (va_runS (As := [.long (x1 : Int32).toInt64, .long 0, .long (((h.1 66 13) - 1) : Int32).toInt64]) (rest := []) ⟨hx, hb, hml, hown, hts⟩ (k_X9_in l hG (h := h) er10) (va_cwS 3 hts (gS wd1206 wd1207 wd82 wd1208) rfl rfl rfl (by decide +kernel) ⟨Nat.le_of_ble_eq_true rfl, Nat.le_of_ble_eq_true rfl⟩) (r_ps hK hP hS) rfl rfl hl.1 rfl (lv_room (Nat.le_of_ble_eq_true rfl)) dX9_isRelease_10 ⟨Nat.le_of_ble_eq_true rfl, Nat.le_of_ble_eq_true rfl⟩) hS (fun H locs hP hS => ?_)
  obtain ⟨hz, hf⟩ := zr_s hf
  exact r_zret hx hb hr hz hlocks hP hS (re2 hf) dX9_isRelease_13
/-! CarriedBackModel.isDay(I)Z -/
abbrev rmX9_isDay : Room := { frames := 1, cells := 0, slots := 0, locals := 25 }
abbrev vX9_isDay : List Cond := Cond.code yX9_isDay cX9_isDay 1 (some .boolean) :: GW
def f_X9_isDay (x0 : Int32) : Option Int32 := bO (f_X9_in (x0 : Int32).toInt64 0 999) (fun r6 => zr r6 r6)
set_option maxHeartbeats 4000000 in
set_option maxRecDepth 100000 in
theorem k_X9_isDay (l : Launch) {G : GC} (hG : GOK G) {x0 : Int32} {rr : Int32} {h : PH} (hf : f_X9_isDay x0 = some rr) : CI l yX9_isDay vX9_isDay rmX9_isDay G [.int x0] h rr h := by
  refine Met.ofW (cc := cX9_isDay) (maxL := 1) (ret := (some .boolean)) (by decide +kernel) rfl ?_
  intro p e s m args below meth c s₁ B hml hv
  obtain ⟨rfl, hP, hK⟩ := hv
  have C : MC l G p s m _ meth c RX9 cX9_isDay 1 (some .boolean) := ⟨B.exec, B.bytes, B.returns, B.notSynchronized, hml, findClass_of_methodNamed B.named, fun w hw => atoms_spec (ws := vX9_isDay) B.pre w (List.mem_cons_of_mem _ hw), hK⟩
  obtain ⟨hx, hb, hr, hlocks, -, hown, hts, -⟩ := id C
  have hl := lv_entry ([.int x0]) (n := 1) (Nat.le_of_ble_eq_true rfl)
  rw [lg_entry_eq]
  generalize (lg_sl ([.int x0]) ++ List.replicate (1 - (lg_sl ([.int x0])).length) Slot.unset).toArray = ls at hl ⊢
  have hl : lv_has ls 1 [(0, .int x0)] := hl
  have hS : SP G s s.heap [] := va_S.rf
  replace hP : WP G h s.heap := hP
  rw [f_X9_isDay] at hf
  refine lv_iload_n hx hb dX9_isDay_0 rfl (lv_at hl 0 rfl) ?_
  refine lv_i2l hx hb dX9_isDay_1 rfl ?_
  refine lv_lconst (v := 0) hx hb dX9_isDay_2 (by decide) ?_
  refine lv_ldc2 (v := 999) hx hb hown (hts _ wd1452) dX9_isDay_3 ?_
  obtain ⟨r6, er6, hf⟩ := bO_s hf
  refine r_callI (va_runS (As := [.long (x0 : Int32).toInt64, .long 0, .long 999]) (rest := []) ⟨hx, hb, hml, hown, hts⟩ (k_X9_in l hG (h := h) er6) (va_cwS 3 hts (gS wd1206 wd1207 wd82 wd1208) rfl rfl rfl (by decide +kernel) ⟨Nat.le_of_ble_eq_true rfl, Nat.le_of_ble_eq_true rfl⟩) (r_ps hK hP hS) rfl rfl hl.1 rfl (lv_room (Nat.le_of_ble_eq_true rfl)) dX9_isDay_6 ⟨Nat.le_of_ble_eq_true rfl, Nat.le_of_ble_eq_true rfl⟩) hS (fun H locs hP hS => ?_)
  obtain ⟨hz, hf⟩ := zr_s hf
  exact r_zret hx hb hr hz hlocks hP hS ⟨hf, rfl⟩ dX9_isDay_9
/-! CarriedBackModel.feed(IJ)I -/
abbrev rmX9_feed : Room := { frames := 1, cells := 0, slots := 0, locals := 25 }
abbrev vX9_feed : List Cond := Cond.code yX9_feed cX9_feed 5 (some .int) :: GW
def f_X9_feed_37 (x2 : Int64) : Nat → Int32 → PH → Option (Int32 × PH)
  | 0, _, _ => none
  | n + 1, x4, h => if x4 < 0 then (some ((h.1 66 19), h)) else (bO (asg h 81 500 (h.1 66 19) (((x2 >>> (((8 * x4) : Int32).toInt64 &&& 63)) &&& 255) : Int64).toInt32) (fun h62 => lt' (hU h62 66 19 ((h62.1 66 19) + 1)) (fun h70 => (f_X9_feed_37 x2 n) (x4 + (-1)) h70)))
set_option maxHeartbeats 4000000 in
set_option maxRecDepth 100000 in
theorem w_X9_feed_37 {l : Launch} {G : GC} (hG : GOK G) {rr : Int32} {hh : PH} {p : Program} {e : Env} {s : State} {m : MethodId} {args : Array Value} {below : List Frame} {meth : Method} {c : Code} (C : MC l G p s m args meth c RX9 cX9_feed 5 (some .int)) (x2 : Int64) : ∀ (n : Nat) (x4 : Int32) (h : PH) (H : Heap) (locs : List Loc) (ls : Array Slot), lv_has ls 5 [(0, .ref (gB G 66)), (2, .long x2), (4, .int x4)] → WP G h H → SP G s H locs → f_X9_feed_37 x2 n x4 h = some (rr, hh) → W p l e rmX9_feed s m args below meth c H locs 0 0 (MQ below (QI G rr hh) args s 0 0 (gA G)) (F0 m 37 ls []) := by
  obtain ⟨hx, hb, hr, hlocks, hml, hown, hts, hK⟩ := id C
  intro n
  induction n with
  | zero => intro x4 h H locs ls hl hP hS hf; rw [f_X9_feed_37] at hf; cases hf
  | succ n ih =>
    intro x4 h H locs ls hl hP hS hf
    rw [f_X9_feed_37] at hf
    refine lv_iload hx hb dX9_feed_37 (lv_at hl 2 rfl) ?_
    refine lv_if_lt (tgt := 79) hx hb dX9_feed_39 (by decide) (fun c39 => ?_) (fun c39 => ?_)
    · replace hf := if_t c39 hf
      refine lv_aload_n hx hb dX9_feed_79 rfl (lv_at hl 0 rfl) ?_
      refine r_get (a := 66) (v := .int (h.1 66 19)) (C := RX9) (T := TX9) (N := 55) hx hb hts hinX9 hown hK hP (ltX9 rfl) (ceX9 rfl) rfl 19 (by decide) wd1054 rfl dX9_feed_80 ?_
      exact r_iret hx hb hr hlocks hP hS (re2 (Option.some.inj hf)) dX9_feed_83
    · replace hf := if_f c39 hf
      refine lv_aload_n hx hb dX9_feed_42 rfl (lv_at hl 0 rfl) ?_
      refine r_get (a := 66) (v := .ref (gB G 81)) (C := RX9) (T := TX9) (N := 55) hx hb hts hinX9 hown hK hP (ltX9 rfl) (ceX9 rfl) rfl 18 (by decide) wd1053 rfl dX9_feed_43 ?_
      refine lv_aload_n hx hb dX9_feed_46 rfl (lv_at hl 0 rfl) ?_
      refine r_get (a := 66) (v := .int (h.1 66 19)) (C := RX9) (T := TX9) (N := 55) hx hb hts hinX9 hown hK hP (ltX9 rfl) (ceX9 rfl) rfl 19 (by decide) wd1054 rfl dX9_feed_47 ?_
      refine lv_lload_n hx hb dX9_feed_50 rfl (lv_at hl 1 rfl) ?_
      refine lv_bipush (v := 8) hx hb dX9_feed_51 (by decide) ?_
      refine lv_iload hx hb dX9_feed_53 (lv_at hl 2 rfl) ?_
      refine lv_imul hx hb dX9_feed_55 ?_
      refine lv_lshr hx hb dX9_feed_56 rfl ?_
      refine lv_ldc2 (v := 255) hx hb hown (hts _ wd1209) dX9_feed_57 ?_
      refine lv_land hx hb dX9_feed_60 ?_
      refine lv_l2i hx hb dX9_feed_61 rfl ?_
      obtain ⟨h62, eh62, hf⟩ := bO_s hf
      refine r_iast hG hx hb hK hP hS (arX9_18 rfl) eh62 dX9_feed_62 (fun H locs hP hS => ?_)
      refine lv_aload_n hx hb dX9_feed_63 rfl (lv_at hl 0 rfl) ?_
      refine lv_dup hx hb dX9_feed_64 rfl ?_
      refine r_get (a := 66) (v := .int (h62.1 66 19)) (C := RX9) (T := TX9) (N := 55) hx hb hts hinX9 hown hK hP (ltX9 rfl) (ceX9 rfl) rfl 19 (by decide) wd1054 rfl dX9_feed_65 ?_
      refine lv_iconst (v := 1) hx hb dX9_feed_68 (by decide) ?_
      refine lv_iadd hx hb dX9_feed_69 ?_
      obtain ⟨h70, eh70⟩ : ∃ y, y = hU h62 66 19 ((h62.1 66 19) + 1) := ⟨_, rfl⟩
      replace hf := lt_at eh70 hf
      refine r_put (a := 66) (v := .int ((h62.1 66 19) + 1)) (ty := .int) (h' := h70) (C := RX9) (T := TX9) (N := 55) hG hx hb hts hinX9 tyX9 tyX9_ok nmX9 hown hK hP hS (ltX9 rfl) (ceX9 rfl) rfl 19 (by decide) wd1054 rfl (by decide +kernel) rfl rfl (Nat.le_of_ble_eq_true rfl) (by rw [eh70]; exact fun j hj => cE_U hj) (by rw [eh70]; exact puX9_19 rfl _) dX9_feed_70 (fun H locs hP hS => ?_)
      refine lv_iinc (v := (x4 + (-1))) (lv' := [(4, .int (x4 + (-1))), (0, .ref (gB G 66)), (2, .long x2)]) hx hb dX9_feed_73 hl (k := 2) rfl rfl (by decide) rfl (fun ls hl => ?_)
      refine lv_goto (tgt := 37) hx hb dX9_feed_76 (by decide) ?_
      exact ih (x4 + (-1)) h70 _ _ _ (lv_sub hl [1, 2, 0] rfl) hP hS hf
def f_X9_feed (x1 : Int32) (x2 : Int64) (h : PH) : Option (Int32 × PH) := bO (f_X9_in (x1 : Int32).toInt64 1 8) (fun r6 => if r6 = 0 then (some ((-1002), h)) else (if ((h.1 66 19) + x1) ≤ 500 then (lt' ((x1 - 1)) (fun x4_35 => f_X9_feed_37 x2 FU x4_35 h)) else (some ((-1004), h))))
set_option maxHeartbeats 4000000 in
set_option maxRecDepth 100000 in
theorem k_X9_feed (l : Launch) {G : GC} (hG : GOK G) {x1 : Int32} {x2 : Int64} {rr : Int32} {h hh : PH} (hf : f_X9_feed x1 x2 h = some (rr, hh)) : CI l yX9_feed vX9_feed rmX9_feed G [.ref (gB G 66), .int x1, .long x2] h rr hh := by
  refine Met.ofW (cc := cX9_feed) (maxL := 5) (ret := (some .int)) (by decide +kernel) rfl ?_
  intro p e s m args below meth c s₁ B hml hv
  obtain ⟨rfl, hP, hK⟩ := hv
  have C : MC l G p s m _ meth c RX9 cX9_feed 5 (some .int) := ⟨B.exec, B.bytes, B.returns, B.notSynchronized, hml, findClass_of_methodNamed B.named, fun w hw => atoms_spec (ws := vX9_feed) B.pre w (List.mem_cons_of_mem _ hw), hK⟩
  obtain ⟨hx, hb, hr, hlocks, -, hown, hts, -⟩ := id C
  have hl := lv_entry ([.ref (gB G 66), .int x1, .long x2]) (n := 5) (Nat.le_of_ble_eq_true rfl)
  rw [lg_entry_eq]
  generalize (lg_sl ([.ref (gB G 66), .int x1, .long x2]) ++ List.replicate (5 - (lg_sl ([.ref (gB G 66), .int x1, .long x2])).length) Slot.unset).toArray = ls at hl ⊢
  have hl : lv_has ls 5 [(0, .ref (gB G 66)), (1, .int x1), (2, .long x2)] := hl
  have hS : SP G s s.heap [] := va_S.rf
  replace hP : WP G h s.heap := hP
  rw [f_X9_feed] at hf
  refine lv_iload_n hx hb dX9_feed_0 rfl (lv_at hl 1 rfl) ?_
  refine lv_i2l hx hb dX9_feed_1 rfl ?_
  refine lv_lconst (v := 1) hx hb dX9_feed_2 (by decide) ?_
  refine lv_ldc2 (v := 8) hx hb hown (hts _ wd1205) dX9_feed_3 ?_
  obtain ⟨r6, er6, hf⟩ := bO_s hf
  refine r_callI (va_runS (As := [.long (x1 : Int32).toInt64, .long 1, .long 8]) (rest := []) ⟨hx, hb, hml, hown, hts⟩ (k_X9_in l hG (h := h) er6) (va_cwS 3 hts (gS wd1206 wd1207 wd82 wd1208) rfl rfl rfl (by decide +kernel) ⟨Nat.le_of_ble_eq_true rfl, Nat.le_of_ble_eq_true rfl⟩) (r_ps hK hP hS) rfl rfl hl.1 rfl (lv_room (Nat.le_of_ble_eq_true rfl)) dX9_feed_6 ⟨Nat.le_of_ble_eq_true rfl, Nat.le_of_ble_eq_true rfl⟩) hS (fun H locs hP hS => ?_)
  refine lv_if_ne (tgt := 16) hx hb dX9_feed_9 (by decide) (fun c9 => ?_) (fun c9 => ?_)
  · replace hf := if_f c9 hf
    refine lv_aload_n hx hb dX9_feed_16 rfl (lv_at hl 0 rfl) ?_
    refine r_get (a := 66) (v := .int (h.1 66 19)) (C := RX9) (T := TX9) (N := 55) hx hb hts hinX9 hown hK hP (ltX9 rfl) (ceX9 rfl) rfl 19 (by decide) wd1054 rfl dX9_feed_17 ?_
    refine lv_iload_n hx hb dX9_feed_20 rfl (lv_at hl 1 rfl) ?_
    refine lv_iadd hx hb dX9_feed_21 ?_
    refine lv_sipush (v := 500) hx hb dX9_feed_22 (by decide) ?_
    refine lv_icmp_le (tgt := 32) hx hb dX9_feed_25 (by decide) (fun c25 => ?_) (fun c25 => ?_)
    · replace hf := if_t c25 hf
      refine lv_iload_n hx hb dX9_feed_32 rfl (lv_at hl 1 rfl) ?_
      refine lv_iconst (v := 1) hx hb dX9_feed_33 (by decide) ?_
      refine lv_isub hx hb dX9_feed_34 ?_
      refine lv_topi (fun x4_35 ex4_35 => ?_)
      replace hf := lt_at ex4_35 hf
      refine lv_istore (lv' := [(4, .int x4_35), (0, .ref (gB G 66)), (1, .int x1), (2, .long x2)]) hx hb dX9_feed_35 hl (by decide) rfl (fun ls hl => ?_)
      exact w_X9_feed_37 hG C x2 FU x4_35 h _ _ _ (lv_sub hl [1, 3, 0] rfl) hP hS hf
    · replace hf := if_f c25 hf
      refine lv_sipush (v := (-1004)) hx hb dX9_feed_28 (by decide) ?_
      exact r_iret hx hb hr hlocks hP hS (re2 (Option.some.inj hf)) dX9_feed_31
  · replace hf := if_t c9 hf
    refine lv_sipush (v := (-1002)) hx hb dX9_feed_12 (by decide) ?_
    exact r_iret hx hb hr hlocks hP hS (re2 (Option.some.inj hf)) dX9_feed_15
/-! CarriedBackModel.here()I -/
abbrev rmX9_here : Room := { frames := 0, cells := 0, slots := 0, locals := 0 }
abbrev vX9_here : List Cond := Cond.code yX9_here cX9_here 1 (some .int) :: GW
def f_X9_here_38 (h : PH) : Option (Int32 × PH) := if (h.1 66 19) ≤ (h.1 66 21) then (some ((-1), h)) else (bO (ag h 81 500 (h.1 66 21)) (fun v57 => some (v57, h)))
set_option maxHeartbeats 4000000 in
set_option maxRecDepth 100000 in
theorem w_X9_here_38 {l : Launch} {G : GC} (hG : GOK G) {rr : Int32} {hh : PH} {p : Program} {e : Env} {s : State} {m : MethodId} {args : Array Value} {below : List Frame} {meth : Method} {c : Code} (C : MC l G p s m args meth c RX9 cX9_here 1 (some .int)) : ∀ (h : PH) (H : Heap) (locs : List Loc) (ls : Array Slot), lv_has ls 1 [(0, .ref (gB G 66))] → WP G h H → SP G s H locs → f_X9_here_38 h = some (rr, hh) → W p l e rmX9_here s m args below meth c H locs 0 0 (MQ below (QI G rr hh) args s 0 0 (gA G)) (F0 m 38 ls []) := by
  obtain ⟨hx, hb, hr, hlocks, hml, hown, hts, hK⟩ := id C
  intro h H locs ls hl hP hS hf
  rw [f_X9_here_38] at hf
  refine lv_aload_n hx hb dX9_here_38 rfl (lv_at hl 0 rfl) ?_
  refine r_get (a := 66) (v := .int (h.1 66 21)) (C := RX9) (T := TX9) (N := 55) hx hb hts hinX9 hown hK hP (ltX9 rfl) (ceX9 rfl) rfl 21 (by decide) wd1056 rfl dX9_here_39 ?_
  refine lv_aload_n hx hb dX9_here_42 rfl (lv_at hl 0 rfl) ?_
  refine r_get (a := 66) (v := .int (h.1 66 19)) (C := RX9) (T := TX9) (N := 55) hx hb hts hinX9 hown hK hP (ltX9 rfl) (ceX9 rfl) rfl 19 (by decide) wd1054 rfl dX9_here_43 ?_
  refine lv_icmp_ge (tgt := 61) hx hb dX9_here_46 (by decide) (fun c46 => ?_) (fun c46 => ?_)
  · replace hf := if_t c46 hf
    refine lv_iconst (v := (-1)) hx hb dX9_here_61 (by decide) ?_
    exact r_iret hx hb hr hlocks hP hS (re2 (Option.some.inj hf)) dX9_here_62
  · replace hf := if_f c46 hf
    refine lv_aload_n hx hb dX9_here_49 rfl (lv_at hl 0 rfl) ?_
    refine r_get (a := 66) (v := .ref (gB G 81)) (C := RX9) (T := TX9) (N := 55) hx hb hts hinX9 hown hK hP (ltX9 rfl) (ceX9 rfl) rfl 18 (by decide) wd1053 rfl dX9_here_50 ?_
    refine lv_aload_n hx hb dX9_here_53 rfl (lv_at hl 0 rfl) ?_
    refine r_get (a := 66) (v := .int (h.1 66 21)) (C := RX9) (T := TX9) (N := 55) hx hb hts hinX9 hown hK hP (ltX9 rfl) (ceX9 rfl) rfl 21 (by decide) wd1056 rfl dX9_here_54 ?_
    obtain ⟨v57, ev57, hf⟩ := bO_s hf
    refine r_iald hx hb hK hP (arX9_18 rfl) ev57 dX9_here_57 ?_
    refine lv_goto (tgt := 62) hx hb dX9_here_58 (by decide) ?_
    exact r_iret hx hb hr hlocks hP hS (re2 (Option.some.inj hf)) dX9_here_62
def f_X9_here_0 : Nat → PH → Option (Int32 × PH)
  | 0, _ => none
  | n + 1, h => if (h.1 66 19) ≤ (h.1 66 21) then (f_X9_here_38 h) else (bO (ag h 81 500 (h.1 66 21)) (fun v19 => if v19 = 32 then (lt' (hU h 66 21 ((h.1 66 21) + 1)) (fun h32 => (f_X9_here_0 n) h32)) else (f_X9_here_38 h)))
set_option maxHeartbeats 4000000 in
set_option maxRecDepth 100000 in
theorem w_X9_here_0 {l : Launch} {G : GC} (hG : GOK G) {rr : Int32} {hh : PH} {p : Program} {e : Env} {s : State} {m : MethodId} {args : Array Value} {below : List Frame} {meth : Method} {c : Code} (C : MC l G p s m args meth c RX9 cX9_here 1 (some .int)) : ∀ (n : Nat) (h : PH) (H : Heap) (locs : List Loc) (ls : Array Slot), lv_has ls 1 [(0, .ref (gB G 66))] → WP G h H → SP G s H locs → f_X9_here_0 n h = some (rr, hh) → W p l e rmX9_here s m args below meth c H locs 0 0 (MQ below (QI G rr hh) args s 0 0 (gA G)) (F0 m 0 ls []) := by
  obtain ⟨hx, hb, hr, hlocks, hml, hown, hts, hK⟩ := id C
  intro n
  induction n with
  | zero => intro h H locs ls hl hP hS hf; rw [f_X9_here_0] at hf; cases hf
  | succ n ih =>
    intro h H locs ls hl hP hS hf
    rw [f_X9_here_0] at hf
    refine lv_aload_n hx hb dX9_here_0 rfl (lv_at hl 0 rfl) ?_
    refine r_get (a := 66) (v := .int (h.1 66 21)) (C := RX9) (T := TX9) (N := 55) hx hb hts hinX9 hown hK hP (ltX9 rfl) (ceX9 rfl) rfl 21 (by decide) wd1056 rfl dX9_here_1 ?_
    refine lv_aload_n hx hb dX9_here_4 rfl (lv_at hl 0 rfl) ?_
    refine r_get (a := 66) (v := .int (h.1 66 19)) (C := RX9) (T := TX9) (N := 55) hx hb hts hinX9 hown hK hP (ltX9 rfl) (ceX9 rfl) rfl 19 (by decide) wd1054 rfl dX9_here_5 ?_
    refine lv_icmp_ge (tgt := 38) hx hb dX9_here_8 (by decide) (fun c8 => ?_) (fun c8 => ?_)
    · replace hf := if_t c8 hf
      exact w_X9_here_38 hG C h _ _ _ (lv_sub hl [0] rfl) hP hS hf
    · replace hf := if_f c8 hf
      refine lv_aload_n hx hb dX9_here_11 rfl (lv_at hl 0 rfl) ?_
      refine r_get (a := 66) (v := .ref (gB G 81)) (C := RX9) (T := TX9) (N := 55) hx hb hts hinX9 hown hK hP (ltX9 rfl) (ceX9 rfl) rfl 18 (by decide) wd1053 rfl dX9_here_12 ?_
      refine lv_aload_n hx hb dX9_here_15 rfl (lv_at hl 0 rfl) ?_
      refine r_get (a := 66) (v := .int (h.1 66 21)) (C := RX9) (T := TX9) (N := 55) hx hb hts hinX9 hown hK hP (ltX9 rfl) (ceX9 rfl) rfl 21 (by decide) wd1056 rfl dX9_here_16 ?_
      obtain ⟨v19, ev19, hf⟩ := bO_s hf
      refine r_iald hx hb hK hP (arX9_18 rfl) ev19 dX9_here_19 ?_
      refine lv_bipush (v := 32) hx hb dX9_here_20 (by decide) ?_
      refine lv_icmp_ne (tgt := 38) hx hb dX9_here_22 (by decide) (fun c22 => ?_) (fun c22 => ?_)
      · replace hf := if_f c22 hf
        exact w_X9_here_38 hG C h _ _ _ (lv_sub hl [0] rfl) hP hS hf
      · replace hf := if_t c22 hf
        refine lv_aload_n hx hb dX9_here_25 rfl (lv_at hl 0 rfl) ?_
        refine lv_dup hx hb dX9_here_26 rfl ?_
        refine r_get (a := 66) (v := .int (h.1 66 21)) (C := RX9) (T := TX9) (N := 55) hx hb hts hinX9 hown hK hP (ltX9 rfl) (ceX9 rfl) rfl 21 (by decide) wd1056 rfl dX9_here_27 ?_
        refine lv_iconst (v := 1) hx hb dX9_here_30 (by decide) ?_
        refine lv_iadd hx hb dX9_here_31 ?_
        obtain ⟨h32, eh32⟩ : ∃ y, y = hU h 66 21 ((h.1 66 21) + 1) := ⟨_, rfl⟩
        replace hf := lt_at eh32 hf
        refine r_put (a := 66) (v := .int ((h.1 66 21) + 1)) (ty := .int) (h' := h32) (C := RX9) (T := TX9) (N := 55) hG hx hb hts hinX9 tyX9 tyX9_ok nmX9 hown hK hP hS (ltX9 rfl) (ceX9 rfl) rfl 21 (by decide) wd1056 rfl (by decide +kernel) rfl rfl (Nat.le_of_ble_eq_true rfl) (by rw [eh32]; exact fun j hj => cE_U hj) (by rw [eh32]; exact puX9_21 rfl _) dX9_here_32 (fun H locs hP hS => ?_)
        refine lv_goto (tgt := 0) hx hb dX9_here_35 (by decide) ?_
        exact ih h32 _ _ _ (lv_sub hl [0] rfl) hP hS hf
def f_X9_here (h : PH) : Option (Int32 × PH) := f_X9_here_0 FU h
set_option maxHeartbeats 4000000 in
set_option maxRecDepth 100000 in
theorem k_X9_here (l : Launch) {G : GC} (hG : GOK G) {rr : Int32} {h hh : PH} (hf : f_X9_here h = some (rr, hh)) : CI l yX9_here vX9_here rmX9_here G [.ref (gB G 66)] h rr hh := by
  refine Met.ofW (cc := cX9_here) (maxL := 1) (ret := (some .int)) (by decide +kernel) rfl ?_
  intro p e s m args below meth c s₁ B hml hv
  obtain ⟨rfl, hP, hK⟩ := hv
  have C : MC l G p s m _ meth c RX9 cX9_here 1 (some .int) := ⟨B.exec, B.bytes, B.returns, B.notSynchronized, hml, findClass_of_methodNamed B.named, fun w hw => atoms_spec (ws := vX9_here) B.pre w (List.mem_cons_of_mem _ hw), hK⟩
  obtain ⟨hx, hb, hr, hlocks, -, hown, hts, -⟩ := id C
  have hl := lv_entry ([.ref (gB G 66)]) (n := 1) (Nat.le_of_ble_eq_true rfl)
  rw [lg_entry_eq]
  generalize (lg_sl ([.ref (gB G 66)]) ++ List.replicate (1 - (lg_sl ([.ref (gB G 66)])).length) Slot.unset).toArray = ls at hl ⊢
  have hl : lv_has ls 1 [(0, .ref (gB G 66))] := hl
  have hS : SP G s s.heap [] := va_S.rf
  replace hP : WP G h s.heap := hP
  rw [f_X9_here] at hf
  exact w_X9_here_0 hG C FU h _ _ _ (lv_sub hl [0] rfl) hP hS hf
/-! CarriedBackModel.breaks(II)I -/
abbrev rmX9_breaks : Room := { frames := 0, cells := 0, slots := 0, locals := 0 }
abbrev vX9_breaks : List Cond := Cond.code yX9_breaks cX9_breaks 3 (some .int) :: GW
def f_X9_breaks (x1 : Int32) (x2 : Int32) (h : PH) : Option (Int32 × PH) := lt' (hU h 66 20 x2) (fun h2 => some (x1, h2))
set_option maxHeartbeats 4000000 in
set_option maxRecDepth 100000 in
theorem k_X9_breaks (l : Launch) {G : GC} (hG : GOK G) {x1 : Int32} {x2 : Int32} {rr : Int32} {h hh : PH} (hf : f_X9_breaks x1 x2 h = some (rr, hh)) : CI l yX9_breaks vX9_breaks rmX9_breaks G [.ref (gB G 66), .int x1, .int x2] h rr hh := by
  refine Met.ofW (cc := cX9_breaks) (maxL := 3) (ret := (some .int)) (by decide +kernel) rfl ?_
  intro p e s m args below meth c s₁ B hml hv
  obtain ⟨rfl, hP, hK⟩ := hv
  have C : MC l G p s m _ meth c RX9 cX9_breaks 3 (some .int) := ⟨B.exec, B.bytes, B.returns, B.notSynchronized, hml, findClass_of_methodNamed B.named, fun w hw => atoms_spec (ws := vX9_breaks) B.pre w (List.mem_cons_of_mem _ hw), hK⟩
  obtain ⟨hx, hb, hr, hlocks, -, hown, hts, -⟩ := id C
  have hl := lv_entry ([.ref (gB G 66), .int x1, .int x2]) (n := 3) (Nat.le_of_ble_eq_true rfl)
  rw [lg_entry_eq]
  generalize (lg_sl ([.ref (gB G 66), .int x1, .int x2]) ++ List.replicate (3 - (lg_sl ([.ref (gB G 66), .int x1, .int x2])).length) Slot.unset).toArray = ls at hl ⊢
  have hl : lv_has ls 3 [(0, .ref (gB G 66)), (1, .int x1), (2, .int x2)] := hl
  have hS : SP G s s.heap [] := va_S.rf
  replace hP : WP G h s.heap := hP
  rw [f_X9_breaks] at hf
  refine lv_aload_n hx hb dX9_breaks_0 rfl (lv_at hl 0 rfl) ?_
  refine lv_iload_n hx hb dX9_breaks_1 rfl (lv_at hl 2 rfl) ?_
  obtain ⟨h2, eh2⟩ : ∃ y, y = hU h 66 20 x2 := ⟨_, rfl⟩
  replace hf := lt_at eh2 hf
  refine r_put (a := 66) (v := .int x2) (ty := .int) (h' := h2) (C := RX9) (T := TX9) (N := 55) hG hx hb hts hinX9 tyX9 tyX9_ok nmX9 hown hK hP hS (ltX9 rfl) (ceX9 rfl) rfl 20 (by decide) wd1055 rfl (by decide +kernel) rfl rfl (Nat.le_of_ble_eq_true rfl) (by rw [eh2]; exact fun j hj => cE_U hj) (by rw [eh2]; exact puX9_20 rfl _) dX9_breaks_2 (fun H locs hP hS => ?_)
  refine lv_iload_n hx hb dX9_breaks_5 rfl (lv_at hl 1 rfl) ?_
  exact r_iret hx hb hr hlocks hP hS (re2 (Option.some.inj hf)) dX9_breaks_6
/-! CarriedBackModel.readWord()V -/
abbrev rmX9_readWord : Room := { frames := 1, cells := 0, slots := 0, locals := 25 }
abbrev vX9_readWord : List Cond := Cond.code yX9_readWord cX9_readWord 2 none :: GW
def f_X9_readWord_92 (k18 : PH → Option PH) (t1 : Int64) (h : PH) : Option PH := lt' (hL h t1) (fun h92 => lt' (hU h92 66 24 ((h92.1 66 24) + 1)) (fun h102 => k18 h102))
set_option maxHeartbeats 4000000 in
set_option maxRecDepth 100000 in
theorem w_X9_readWord_92 {l : Launch} {G : GC} (hG : GOK G) {hh : PH} {p : Program} {e : Env} {s : State} {m : MethodId} {args : Array Value} {below : List Frame} {meth : Method} {c : Code} (C : MC l G p s m args meth c RX9 cX9_readWord 2 none) (k18 : PH → Option PH) (hk18 : ∀ (h : PH) (H : Heap) (locs : List Loc) (ls : Array Slot), lv_has ls 2 [(0, .ref (gB G 66))] → WP G h H → SP G s H locs → k18 h = some hh → W p l e rmX9_readWord s m args below meth c H locs 0 0 (MQ below (QV G hh) args s 0 0 (gA G)) (F0 m 18 ls [])) : ∀ (t1 : Int64) (h : PH) (H : Heap) (locs : List Loc) (ls : Array Slot), lv_has ls 2 [(0, .ref (gB G 66))] → WP G h H → SP G s H locs → f_X9_readWord_92 k18 t1 h = some hh → W p l e rmX9_readWord s m args below meth c H locs 0 0 (MQ below (QV G hh) args s 0 0 (gA G)) (F0 m 92 ls [.long t1, .ref (gB G 66)]) := by
  obtain ⟨hx, hb, hr, hlocks, hml, hown, hts, hK⟩ := id C
  intro t1 h H locs ls hl hP hS hf
  rw [f_X9_readWord_92] at hf
  obtain ⟨h92, eh92⟩ : ∃ y, y = hL h t1 := ⟨_, rfl⟩
  replace hf := lt_at eh92 hf
  refine r_put (a := 66) (v := .long t1) (ty := .long) (h' := h92) (C := RX9) (T := TX9) (N := 55) hG hx hb hts hinX9 tyX9 tyX9_ok nmX9 hown hK hP hS (ltX9 rfl) (ceX9 rfl) rfl 23 (by decide) wd1058 rfl (by decide +kernel) rfl rfl (Nat.le_of_ble_eq_true rfl) (by rw [eh92]; exact fun j hj => cE_L hj) (by rw [eh92]; exact puX9_23 rfl _) dX9_readWord_92 (fun H locs hP hS => ?_)
  refine lv_aload_n hx hb dX9_readWord_95 rfl (lv_at hl 0 rfl) ?_
  refine lv_dup hx hb dX9_readWord_96 rfl ?_
  refine r_get (a := 66) (v := .int (h92.1 66 24)) (C := RX9) (T := TX9) (N := 55) hx hb hts hinX9 hown hK hP (ltX9 rfl) (ceX9 rfl) rfl 24 (by decide) wd1059 rfl dX9_readWord_97 ?_
  refine lv_iconst (v := 1) hx hb dX9_readWord_100 (by decide) ?_
  refine lv_iadd hx hb dX9_readWord_101 ?_
  obtain ⟨h102, eh102⟩ : ∃ y, y = hU h92 66 24 ((h92.1 66 24) + 1) := ⟨_, rfl⟩
  replace hf := lt_at eh102 hf
  refine r_put (a := 66) (v := .int ((h92.1 66 24) + 1)) (ty := .int) (h' := h102) (C := RX9) (T := TX9) (N := 55) hG hx hb hts hinX9 tyX9 tyX9_ok nmX9 hown hK hP hS (ltX9 rfl) (ceX9 rfl) rfl 24 (by decide) wd1059 rfl (by decide +kernel) rfl rfl (Nat.le_of_ble_eq_true rfl) (by rw [eh102]; exact fun j hj => cE_U hj) (by rw [eh102]; exact puX9_24 rfl _) dX9_readWord_102 (fun H locs hP hS => ?_)
  refine lv_goto (tgt := 18) hx hb dX9_readWord_105 (by decide) ?_
  exact hk18 h102 _ _ _ (lv_sub hl [0] rfl) hP hS hf
def f_X9_readWord_18 : Nat → PH → Option PH
  | 0, _ => none
  | n + 1, h => if (h.1 66 19) ≤ (h.1 66 24) then (some h) else (bO (ag h 81 500 (h.1 66 24)) (fun v37 => bO (f_X9_in (v37 : Int32).toInt64 97 122) (fun r45 => if r45 = 0 then (some h) else (if (lg_cmp h.2 1000000000000) ≤ 0 then (bO (ag h 81 500 (h.1 66 24)) (fun v85 => f_X9_readWord_92 (f_X9_readWord_18 n) (((27 * h.2) + (v85 : Int32).toInt64) - 96) h)) else (f_X9_readWord_92 (f_X9_readWord_18 n) 2000000000000 h)))))
set_option maxHeartbeats 4000000 in
set_option maxRecDepth 100000 in
theorem w_X9_readWord_18 {l : Launch} {G : GC} (hG : GOK G) {hh : PH} {p : Program} {e : Env} {s : State} {m : MethodId} {args : Array Value} {below : List Frame} {meth : Method} {c : Code} (C : MC l G p s m args meth c RX9 cX9_readWord 2 none) : ∀ (n : Nat) (h : PH) (H : Heap) (locs : List Loc) (ls : Array Slot), lv_has ls 2 [(0, .ref (gB G 66))] → WP G h H → SP G s H locs → f_X9_readWord_18 n h = some hh → W p l e rmX9_readWord s m args below meth c H locs 0 0 (MQ below (QV G hh) args s 0 0 (gA G)) (F0 m 18 ls []) := by
  obtain ⟨hx, hb, hr, hlocks, hml, hown, hts, hK⟩ := id C
  intro n
  induction n with
  | zero => intro h H locs ls hl hP hS hf; rw [f_X9_readWord_18] at hf; cases hf
  | succ n ih =>
    intro h H locs ls hl hP hS hf
    rw [f_X9_readWord_18] at hf
    refine lv_aload_n hx hb dX9_readWord_18 rfl (lv_at hl 0 rfl) ?_
    refine r_get (a := 66) (v := .int (h.1 66 24)) (C := RX9) (T := TX9) (N := 55) hx hb hts hinX9 hown hK hP (ltX9 rfl) (ceX9 rfl) rfl 24 (by decide) wd1059 rfl dX9_readWord_19 ?_
    refine lv_aload_n hx hb dX9_readWord_22 rfl (lv_at hl 0 rfl) ?_
    refine r_get (a := 66) (v := .int (h.1 66 19)) (C := RX9) (T := TX9) (N := 55) hx hb hts hinX9 hown hK hP (ltX9 rfl) (ceX9 rfl) rfl 19 (by decide) wd1054 rfl dX9_readWord_23 ?_
    refine lv_icmp_ge (tgt := 108) hx hb dX9_readWord_26 (by decide) (fun c26 => ?_) (fun c26 => ?_)
    · replace hf := if_t c26 hf
      exact r_vret hx hb hr hlocks hP hS (Option.some.inj hf) dX9_readWord_108
    · replace hf := if_f c26 hf
      refine lv_aload_n hx hb dX9_readWord_29 rfl (lv_at hl 0 rfl) ?_
      refine r_get (a := 66) (v := .ref (gB G 81)) (C := RX9) (T := TX9) (N := 55) hx hb hts hinX9 hown hK hP (ltX9 rfl) (ceX9 rfl) rfl 18 (by decide) wd1053 rfl dX9_readWord_30 ?_
      refine lv_aload_n hx hb dX9_readWord_33 rfl (lv_at hl 0 rfl) ?_
      refine r_get (a := 66) (v := .int (h.1 66 24)) (C := RX9) (T := TX9) (N := 55) hx hb hts hinX9 hown hK hP (ltX9 rfl) (ceX9 rfl) rfl 24 (by decide) wd1059 rfl dX9_readWord_34 ?_
      obtain ⟨v37, ev37, hf⟩ := bO_s hf
      refine r_iald hx hb hK hP (arX9_18 rfl) ev37 dX9_readWord_37 ?_
      refine lv_i2l hx hb dX9_readWord_38 rfl ?_
      refine lv_ldc2 (v := 97) hx hb hown (hts _ wd1226) dX9_readWord_39 ?_
      refine lv_ldc2 (v := 122) hx hb hown (hts _ wd1227) dX9_readWord_42 ?_
      obtain ⟨r45, er45, hf⟩ := bO_s hf
      refine r_callI (va_runS (As := [.long (v37 : Int32).toInt64, .long 97, .long 122]) (rest := []) ⟨hx, hb, hml, hown, hts⟩ (k_X9_in l hG (h := h) er45) (va_cwS 3 hts (gS wd1206 wd1207 wd82 wd1208) rfl rfl rfl (by decide +kernel) ⟨Nat.le_of_ble_eq_true rfl, Nat.le_of_ble_eq_true rfl⟩) (r_ps hK hP hS) rfl rfl hl.1 rfl (lv_room (Nat.le_of_ble_eq_true rfl)) dX9_readWord_45 ⟨Nat.le_of_ble_eq_true rfl, Nat.le_of_ble_eq_true rfl⟩) hS (fun H locs hP hS => ?_)
      refine lv_if_eq (tgt := 108) hx hb dX9_readWord_48 (by decide) (fun c48 => ?_) (fun c48 => ?_)
      · replace hf := if_t c48 hf
        exact r_vret hx hb hr hlocks hP hS (Option.some.inj hf) dX9_readWord_108
      · replace hf := if_f c48 hf
        refine lv_aload_n hx hb dX9_readWord_51 rfl (lv_at hl 0 rfl) ?_
        refine lv_aload_n hx hb dX9_readWord_52 rfl (lv_at hl 0 rfl) ?_
        refine r_get (a := 66) (v := .long h.2) (C := RX9) (T := TX9) (N := 55) hx hb hts hinX9 hown hK hP (ltX9 rfl) (ceX9 rfl) rfl 23 (by decide) wd1058 rfl dX9_readWord_53 ?_
        refine lv_ldc2 (v := 1000000000000) hx hb hown (hts _ wd1228) dX9_readWord_56 ?_
        refine W.lcmp hx hb dX9_readWord_59 ?_
        refine lv_if_le (tgt := 69) hx hb dX9_readWord_60 (by decide) (fun c60 => ?_) (fun c60 => ?_)
        · replace hf := if_t c60 hf
          refine lv_ldc2 (v := 27) hx hb hown (hts _ wd1230) dX9_readWord_69 ?_
          refine lv_aload_n hx hb dX9_readWord_72 rfl (lv_at hl 0 rfl) ?_
          refine r_get (a := 66) (v := .long h.2) (C := RX9) (T := TX9) (N := 55) hx hb hts hinX9 hown hK hP (ltX9 rfl) (ceX9 rfl) rfl 23 (by decide) wd1058 rfl dX9_readWord_73 ?_
          refine lv_lmul hx hb dX9_readWord_76 ?_
          refine lv_aload_n hx hb dX9_readWord_77 rfl (lv_at hl 0 rfl) ?_
          refine r_get (a := 66) (v := .ref (gB G 81)) (C := RX9) (T := TX9) (N := 55) hx hb hts hinX9 hown hK hP (ltX9 rfl) (ceX9 rfl) rfl 18 (by decide) wd1053 rfl dX9_readWord_78 ?_
          refine lv_aload_n hx hb dX9_readWord_81 rfl (lv_at hl 0 rfl) ?_
          refine r_get (a := 66) (v := .int (h.1 66 24)) (C := RX9) (T := TX9) (N := 55) hx hb hts hinX9 hown hK hP (ltX9 rfl) (ceX9 rfl) rfl 24 (by decide) wd1059 rfl dX9_readWord_82 ?_
          obtain ⟨v85, ev85, hf⟩ := bO_s hf
          refine r_iald hx hb hK hP (arX9_18 rfl) ev85 dX9_readWord_85 ?_
          refine lv_i2l hx hb dX9_readWord_86 rfl ?_
          refine lv_ladd hx hb dX9_readWord_87 ?_
          refine lv_ldc2 (v := 96) hx hb hown (hts _ wd1231) dX9_readWord_88 ?_
          refine lv_lsub hx hb dX9_readWord_91 ?_
          exact w_X9_readWord_92 hG C (f_X9_readWord_18 n) ih (((27 * h.2) + (v85 : Int32).toInt64) - 96) h _ _ _ (lv_sub hl [0] rfl) hP hS hf
        · replace hf := if_f c60 hf
          refine lv_ldc2 (v := 2000000000000) hx hb hown (hts _ wd1229) dX9_readWord_63 ?_
          refine lv_goto (tgt := 92) hx hb dX9_readWord_66 (by decide) ?_
          exact w_X9_readWord_92 hG C (f_X9_readWord_18 n) ih 2000000000000 h _ _ _ (lv_sub hl [0] rfl) hP hS hf
def f_X9_readWord (h : PH) : Option PH := bP (f_X9_here h) (fun r1 h1 => lt' (hL h1 0) (fun h7 => lt' (hU h7 66 24 (h7.1 66 21)) (fun h15 => f_X9_readWord_18 FU h15)))
set_option maxHeartbeats 4000000 in
set_option maxRecDepth 100000 in
theorem k_X9_readWord (l : Launch) {G : GC} (hG : GOK G) {h hh : PH} (hf : f_X9_readWord h = some hh) : CV l yX9_readWord vX9_readWord rmX9_readWord G [.ref (gB G 66)] h hh := by
  refine Met.ofW (cc := cX9_readWord) (maxL := 2) (ret := none) (by decide +kernel) rfl ?_
  intro p e s m args below meth c s₁ B hml hv
  obtain ⟨rfl, hP, hK⟩ := hv
  have C : MC l G p s m _ meth c RX9 cX9_readWord 2 none := ⟨B.exec, B.bytes, B.returns, B.notSynchronized, hml, findClass_of_methodNamed B.named, fun w hw => atoms_spec (ws := vX9_readWord) B.pre w (List.mem_cons_of_mem _ hw), hK⟩
  obtain ⟨hx, hb, hr, hlocks, -, hown, hts, -⟩ := id C
  have hl := lv_entry ([.ref (gB G 66)]) (n := 2) (Nat.le_of_ble_eq_true rfl)
  rw [lg_entry_eq]
  generalize (lg_sl ([.ref (gB G 66)]) ++ List.replicate (2 - (lg_sl ([.ref (gB G 66)])).length) Slot.unset).toArray = ls at hl ⊢
  have hl : lv_has ls 2 [(0, .ref (gB G 66))] := hl
  have hS : SP G s s.heap [] := va_S.rf
  replace hP : WP G h s.heap := hP
  rw [f_X9_readWord] at hf
  refine lv_aload_n hx hb dX9_readWord_0 rfl (lv_at hl 0 rfl) ?_
  obtain ⟨r1, h1, er1, hf⟩ := bP_s hf
  refine r_callI (va_runV (As := []) (rest := []) ⟨hx, hb, hml, hown, hts⟩ (k_X9_here l hG er1) (cwV 0 hts (gV wd1214 wd1216 wd27 wd82 wd1217) rfl rfl rfl (by decide +kernel) ⟨Nat.le_of_ble_eq_true rfl, Nat.le_of_ble_eq_true rfl⟩) (r_pv hK hP hS (ltX9 rfl) (ceX9 rfl) rfl) rfl rfl hl.1 rfl (lv_room (Nat.le_of_ble_eq_true rfl)) dX9_readWord_1 ⟨Nat.le_of_ble_eq_true rfl, Nat.le_of_ble_eq_true rfl⟩) hS (fun H locs hP hS => ?_)
  refine lv_istore_n (lv' := [(1, .int r1), (0, .ref (gB G 66))]) hx hb dX9_readWord_4 rfl hl (by decide) rfl (fun ls hl => ?_)
  refine lv_aload_n hx hb dX9_readWord_5 rfl (lv_at hl 1 rfl) ?_
  refine lv_lconst (v := 0) hx hb dX9_readWord_6 (by decide) ?_
  obtain ⟨h7, eh7⟩ : ∃ y, y = hL h1 0 := ⟨_, rfl⟩
  replace hf := lt_at eh7 hf
  refine r_put (a := 66) (v := .long 0) (ty := .long) (h' := h7) (C := RX9) (T := TX9) (N := 55) hG hx hb hts hinX9 tyX9 tyX9_ok nmX9 hown hK hP hS (ltX9 rfl) (ceX9 rfl) rfl 23 (by decide) wd1058 rfl (by decide +kernel) rfl rfl (Nat.le_of_ble_eq_true rfl) (by rw [eh7]; exact fun j hj => cE_L hj) (by rw [eh7]; exact puX9_23 rfl _) dX9_readWord_7 (fun H locs hP hS => ?_)
  refine lv_aload_n hx hb dX9_readWord_10 rfl (lv_at hl 1 rfl) ?_
  refine lv_aload_n hx hb dX9_readWord_11 rfl (lv_at hl 1 rfl) ?_
  refine r_get (a := 66) (v := .int (h7.1 66 21)) (C := RX9) (T := TX9) (N := 55) hx hb hts hinX9 hown hK hP (ltX9 rfl) (ceX9 rfl) rfl 21 (by decide) wd1056 rfl dX9_readWord_12 ?_
  obtain ⟨h15, eh15⟩ : ∃ y, y = hU h7 66 24 (h7.1 66 21) := ⟨_, rfl⟩
  replace hf := lt_at eh15 hf
  refine r_put (a := 66) (v := .int (h7.1 66 21)) (ty := .int) (h' := h15) (C := RX9) (T := TX9) (N := 55) hG hx hb hts hinX9 tyX9 tyX9_ok nmX9 hown hK hP hS (ltX9 rfl) (ceX9 rfl) rfl 24 (by decide) wd1059 rfl (by decide +kernel) rfl rfl (Nat.le_of_ble_eq_true rfl) (by rw [eh15]; exact fun j hj => cE_U hj) (by rw [eh15]; exact puX9_24 rfl _) dX9_readWord_15 (fun H locs hP hS => ?_)
  exact w_X9_readWord_18 hG C FU h15 _ _ _ (lv_sub hl [1] rfl) hP hS hf
/-! CarriedBackModel.code(IIII)J -/
abbrev rmX9_code : Room := { frames := 0, cells := 0, slots := 0, locals := 0 }
abbrev vX9_code : List Cond := Cond.code yX9_code cX9_code 4 (some .long) :: GW
def f_X9_code (x0 : Int32) (x1 : Int32) (x2 : Int32) (x3 : Int32) : Option Int64 := some (((27 * (((27 * (((27 * ((x0 : Int32).toInt64 - 96)) + (x1 : Int32).toInt64) - 96)) + (x2 : Int32).toInt64) - 96)) + (x3 : Int32).toInt64) - 96)
set_option maxHeartbeats 4000000 in
set_option maxRecDepth 100000 in
theorem k_X9_code (l : Launch) {G : GC} (hG : GOK G) {x0 : Int32} {x1 : Int32} {x2 : Int32} {x3 : Int32} {rr : Int64} {h : PH} (hf : f_X9_code x0 x1 x2 x3 = some rr) : CL l yX9_code vX9_code rmX9_code G [.int x0, .int x1, .int x2, .int x3] h rr h := by
  refine Met.ofW (cc := cX9_code) (maxL := 4) (ret := (some .long)) (by decide +kernel) rfl ?_
  intro p e s m args below meth c s₁ B hml hv
  obtain ⟨rfl, hP, hK⟩ := hv
  have C : MC l G p s m _ meth c RX9 cX9_code 4 (some .long) := ⟨B.exec, B.bytes, B.returns, B.notSynchronized, hml, findClass_of_methodNamed B.named, fun w hw => atoms_spec (ws := vX9_code) B.pre w (List.mem_cons_of_mem _ hw), hK⟩
  obtain ⟨hx, hb, hr, hlocks, -, hown, hts, -⟩ := id C
  have hl := lv_entry ([.int x0, .int x1, .int x2, .int x3]) (n := 4) (Nat.le_of_ble_eq_true rfl)
  rw [lg_entry_eq]
  generalize (lg_sl ([.int x0, .int x1, .int x2, .int x3]) ++ List.replicate (4 - (lg_sl ([.int x0, .int x1, .int x2, .int x3])).length) Slot.unset).toArray = ls at hl ⊢
  have hl : lv_has ls 4 [(0, .int x0), (1, .int x1), (2, .int x2), (3, .int x3)] := hl
  have hS : SP G s s.heap [] := va_S.rf
  replace hP : WP G h s.heap := hP
  rw [f_X9_code] at hf
  refine lv_ldc2 (v := 27) hx hb hown (hts _ wd1230) dX9_code_0 ?_
  refine lv_ldc2 (v := 27) hx hb hown (hts _ wd1230) dX9_code_3 ?_
  refine lv_ldc2 (v := 27) hx hb hown (hts _ wd1230) dX9_code_6 ?_
  refine lv_iload_n hx hb dX9_code_9 rfl (lv_at hl 0 rfl) ?_
  refine lv_i2l hx hb dX9_code_10 rfl ?_
  refine lv_ldc2 (v := 96) hx hb hown (hts _ wd1231) dX9_code_11 ?_
  refine lv_lsub hx hb dX9_code_14 ?_
  refine lv_lmul hx hb dX9_code_15 ?_
  refine lv_iload_n hx hb dX9_code_16 rfl (lv_at hl 1 rfl) ?_
  refine lv_i2l hx hb dX9_code_17 rfl ?_
  refine lv_ladd hx hb dX9_code_18 ?_
  refine lv_ldc2 (v := 96) hx hb hown (hts _ wd1231) dX9_code_19 ?_
  refine lv_lsub hx hb dX9_code_22 ?_
  refine lv_lmul hx hb dX9_code_23 ?_
  refine lv_iload_n hx hb dX9_code_24 rfl (lv_at hl 2 rfl) ?_
  refine lv_i2l hx hb dX9_code_25 rfl ?_
  refine lv_ladd hx hb dX9_code_26 ?_
  refine lv_ldc2 (v := 96) hx hb hown (hts _ wd1231) dX9_code_27 ?_
  refine lv_lsub hx hb dX9_code_30 ?_
  refine lv_lmul hx hb dX9_code_31 ?_
  refine lv_iload_n hx hb dX9_code_32 rfl (lv_at hl 3 rfl) ?_
  refine lv_i2l hx hb dX9_code_33 rfl ?_
  refine lv_ladd hx hb dX9_code_34 ?_
  refine lv_ldc2 (v := 96) hx hb hown (hts _ wd1231) dX9_code_35 ?_
  refine lv_lsub hx hb dX9_code_38 ?_
  exact r_lret hx hb hr hlocks hP hS ⟨Option.some.inj hf, rfl⟩ dX9_code_39
/-! CarriedBackModel.longer(JI)J -/
abbrev rmX9_longer : Room := { frames := 0, cells := 0, slots := 0, locals := 0 }
abbrev vX9_longer : List Cond := Cond.code yX9_longer cX9_longer 3 (some .long) :: GW
def f_X9_longer (x0 : Int64) (x2 : Int32) : Option Int64 := some (((27 * x0) + (x2 : Int32).toInt64) - 96)
set_option maxHeartbeats 4000000 in
set_option maxRecDepth 100000 in
theorem k_X9_longer (l : Launch) {G : GC} (hG : GOK G) {x0 : Int64} {x2 : Int32} {rr : Int64} {h : PH} (hf : f_X9_longer x0 x2 = some rr) : CL l yX9_longer vX9_longer rmX9_longer G [.long x0, .int x2] h rr h := by
  refine Met.ofW (cc := cX9_longer) (maxL := 3) (ret := (some .long)) (by decide +kernel) rfl ?_
  intro p e s m args below meth c s₁ B hml hv
  obtain ⟨rfl, hP, hK⟩ := hv
  have C : MC l G p s m _ meth c RX9 cX9_longer 3 (some .long) := ⟨B.exec, B.bytes, B.returns, B.notSynchronized, hml, findClass_of_methodNamed B.named, fun w hw => atoms_spec (ws := vX9_longer) B.pre w (List.mem_cons_of_mem _ hw), hK⟩
  obtain ⟨hx, hb, hr, hlocks, -, hown, hts, -⟩ := id C
  have hl := lv_entry ([.long x0, .int x2]) (n := 3) (Nat.le_of_ble_eq_true rfl)
  rw [lg_entry_eq]
  generalize (lg_sl ([.long x0, .int x2]) ++ List.replicate (3 - (lg_sl ([.long x0, .int x2])).length) Slot.unset).toArray = ls at hl ⊢
  have hl : lv_has ls 3 [(0, .long x0), (2, .int x2)] := hl
  have hS : SP G s s.heap [] := va_S.rf
  replace hP : WP G h s.heap := hP
  rw [f_X9_longer] at hf
  refine lv_ldc2 (v := 27) hx hb hown (hts _ wd1230) dX9_longer_0 ?_
  refine lv_lload_n hx hb dX9_longer_3 rfl (lv_at hl 0 rfl) ?_
  refine lv_lmul hx hb dX9_longer_4 ?_
  refine lv_iload_n hx hb dX9_longer_5 rfl (lv_at hl 1 rfl) ?_
  refine lv_i2l hx hb dX9_longer_6 rfl ?_
  refine lv_ladd hx hb dX9_longer_7 ?_
  refine lv_ldc2 (v := 96) hx hb hown (hts _ wd1231) dX9_longer_8 ?_
  refine lv_lsub hx hb dX9_longer_11 ?_
  exact r_lret hx hb hr hlocks hP hS ⟨Option.some.inj hf, rfl⟩ dX9_longer_12
/-! CarriedBackModel.takeNumber(II)I -/
abbrev rmX9_takeNumber : Room := { frames := 1, cells := 0, slots := 0, locals := 25 }
abbrev vX9_takeNumber : List Cond := Cond.code yX9_takeNumber cX9_takeNumber 4 (some .int) :: GW
def f_X9_takeNumber_160 (h : PH) : Option (Int32 × PH) := bP (f_X9_breaks 2 (h.1 66 26) h) (fun r166 h166 => some (r166, h166))
set_option maxHeartbeats 4000000 in
set_option maxRecDepth 100000 in
theorem w_X9_takeNumber_160 {l : Launch} {G : GC} (hG : GOK G) {rr : Int32} {hh : PH} {p : Program} {e : Env} {s : State} {m : MethodId} {args : Array Value} {below : List Frame} {meth : Method} {c : Code} (C : MC l G p s m args meth c RX9 cX9_takeNumber 4 (some .int)) : ∀ (h : PH) (H : Heap) (locs : List Loc) (ls : Array Slot), lv_has ls 4 [(0, .ref (gB G 66))] → WP G h H → SP G s H locs → f_X9_takeNumber_160 h = some (rr, hh) → W p l e rmX9_takeNumber s m args below meth c H locs 0 0 (MQ below (QI G rr hh) args s 0 0 (gA G)) (F0 m 160 ls []) := by
  obtain ⟨hx, hb, hr, hlocks, hml, hown, hts, hK⟩ := id C
  intro h H locs ls hl hP hS hf
  rw [f_X9_takeNumber_160] at hf
  refine lv_aload_n hx hb dX9_takeNumber_160 rfl (lv_at hl 0 rfl) ?_
  refine lv_iconst (v := 2) hx hb dX9_takeNumber_161 (by decide) ?_
  refine lv_aload_n hx hb dX9_takeNumber_162 rfl (lv_at hl 0 rfl) ?_
  refine r_get (a := 66) (v := .int (h.1 66 26)) (C := RX9) (T := TX9) (N := 55) hx hb hts hinX9 hown hK hP (ltX9 rfl) (ceX9 rfl) rfl 26 (by decide) wd1061 rfl dX9_takeNumber_163 ?_
  obtain ⟨r166, h166, er166, hf⟩ := bP_s hf
  refine r_callI (va_runV (As := [.int 2, .int (h.1 66 26)]) (rest := []) ⟨hx, hb, hml, hown, hts⟩ (k_X9_breaks l hG er166) (cwV 2 hts (gV wd1238 wd1240 wd30 wd82 wd1241) rfl rfl rfl (by decide +kernel) ⟨Nat.le_of_ble_eq_true rfl, Nat.le_of_ble_eq_true rfl⟩) (r_pv hK hP hS (ltX9 rfl) (ceX9 rfl) rfl) rfl rfl hl.1 rfl (lv_room (Nat.le_of_ble_eq_true rfl)) dX9_takeNumber_166 ⟨Nat.le_of_ble_eq_true rfl, Nat.le_of_ble_eq_true rfl⟩) hS (fun H locs hP hS => ?_)
  refine lv_goto (tgt := 173) hx hb dX9_takeNumber_169 (by decide) ?_
  exact r_iret hx hb hr hlocks hP hS (re2 (Option.some.inj hf)) dX9_takeNumber_173
def f_X9_takeNumber_129 (x1 : Int32) (x2 : Int32) (h : PH) : Option (Int32 × PH) := if (h.1 66 22) < ((h.1 66 21) - (h.1 66 26)) then (f_X9_takeNumber_160 h) else (bO (f_X9_in ((h.1 66 25) : Int32).toInt64 (x1 : Int32).toInt64 (x2 : Int32).toInt64) (fun r154 => if r154 = 0 then (f_X9_takeNumber_160 h) else (some (0, h))))
set_option maxHeartbeats 4000000 in
set_option maxRecDepth 100000 in
theorem w_X9_takeNumber_129 {l : Launch} {G : GC} (hG : GOK G) {rr : Int32} {hh : PH} {p : Program} {e : Env} {s : State} {m : MethodId} {args : Array Value} {below : List Frame} {meth : Method} {c : Code} (C : MC l G p s m args meth c RX9 cX9_takeNumber 4 (some .int)) : ∀ (x1 : Int32) (x2 : Int32) (h : PH) (H : Heap) (locs : List Loc) (ls : Array Slot), lv_has ls 4 [(0, .ref (gB G 66)), (1, .int x1), (2, .int x2)] → WP G h H → SP G s H locs → f_X9_takeNumber_129 x1 x2 h = some (rr, hh) → W p l e rmX9_takeNumber s m args below meth c H locs 0 0 (MQ below (QI G rr hh) args s 0 0 (gA G)) (F0 m 129 ls []) := by
  obtain ⟨hx, hb, hr, hlocks, hml, hown, hts, hK⟩ := id C
  intro x1 x2 h H locs ls hl hP hS hf
  rw [f_X9_takeNumber_129] at hf
  refine lv_aload_n hx hb dX9_takeNumber_129 rfl (lv_at hl 0 rfl) ?_
  refine r_get (a := 66) (v := .int (h.1 66 21)) (C := RX9) (T := TX9) (N := 55) hx hb hts hinX9 hown hK hP (ltX9 rfl) (ceX9 rfl) rfl 21 (by decide) wd1056 rfl dX9_takeNumber_130 ?_
  refine lv_aload_n hx hb dX9_takeNumber_133 rfl (lv_at hl 0 rfl) ?_
  refine r_get (a := 66) (v := .int (h.1 66 26)) (C := RX9) (T := TX9) (N := 55) hx hb hts hinX9 hown hK hP (ltX9 rfl) (ceX9 rfl) rfl 26 (by decide) wd1061 rfl dX9_takeNumber_134 ?_
  refine lv_isub hx hb dX9_takeNumber_137 ?_
  refine lv_aload_n hx hb dX9_takeNumber_138 rfl (lv_at hl 0 rfl) ?_
  refine r_get (a := 66) (v := .int (h.1 66 22)) (C := RX9) (T := TX9) (N := 55) hx hb hts hinX9 hown hK hP (ltX9 rfl) (ceX9 rfl) rfl 22 (by decide) wd1057 rfl dX9_takeNumber_139 ?_
  refine lv_icmp_gt (tgt := 160) hx hb dX9_takeNumber_142 (by decide) (fun c142 => ?_) (fun c142 => ?_)
  · replace hf := if_t c142 hf
    exact w_X9_takeNumber_160 hG C h _ _ _ (lv_sub hl [0] rfl) hP hS hf
  · replace hf := if_f c142 hf
    refine lv_aload_n hx hb dX9_takeNumber_145 rfl (lv_at hl 0 rfl) ?_
    refine r_get (a := 66) (v := .int (h.1 66 25)) (C := RX9) (T := TX9) (N := 55) hx hb hts hinX9 hown hK hP (ltX9 rfl) (ceX9 rfl) rfl 25 (by decide) wd1060 rfl dX9_takeNumber_146 ?_
    refine lv_i2l hx hb dX9_takeNumber_149 rfl ?_
    refine lv_iload_n hx hb dX9_takeNumber_150 rfl (lv_at hl 1 rfl) ?_
    refine lv_i2l hx hb dX9_takeNumber_151 rfl ?_
    refine lv_iload_n hx hb dX9_takeNumber_152 rfl (lv_at hl 2 rfl) ?_
    refine lv_i2l hx hb dX9_takeNumber_153 rfl ?_
    obtain ⟨r154, er154, hf⟩ := bO_s hf
    refine r_callI (va_runS (As := [.long ((h.1 66 25) : Int32).toInt64, .long (x1 : Int32).toInt64, .long (x2 : Int32).toInt64]) (rest := []) ⟨hx, hb, hml, hown, hts⟩ (k_X9_in l hG (h := h) er154) (va_cwS 3 hts (gS wd1206 wd1207 wd82 wd1208) rfl rfl rfl (by decide +kernel) ⟨Nat.le_of_ble_eq_true rfl, Nat.le_of_ble_eq_true rfl⟩) (r_ps hK hP hS) rfl rfl hl.1 rfl (lv_room (Nat.le_of_ble_eq_true rfl)) dX9_takeNumber_154 ⟨Nat.le_of_ble_eq_true rfl, Nat.le_of_ble_eq_true rfl⟩) hS (fun H locs hP hS => ?_)
    refine lv_if_ne (tgt := 172) hx hb dX9_takeNumber_157 (by decide) (fun c157 => ?_) (fun c157 => ?_)
    · replace hf := if_f c157 hf
      refine lv_iconst (v := 0) hx hb dX9_takeNumber_172 (by decide) ?_
      exact r_iret hx hb hr hlocks hP hS (re2 (Option.some.inj hf)) dX9_takeNumber_173
    · replace hf := if_t c157 hf
      exact w_X9_takeNumber_160 hG C h _ _ _ (lv_sub hl [0] rfl) hP hS hf
def f_X9_takeNumber_113 (x1 : Int32) (x2 : Int32) (k42 : PH → Option (Int32 × PH)) (t1 : Int32) (h : PH) : Option (Int32 × PH) := lt' (hU h 66 25 t1) (fun h113 => lt' (hU h113 66 21 ((h113.1 66 21) + 1)) (fun h123 => k42 h123))
set_option maxHeartbeats 4000000 in
set_option maxRecDepth 100000 in
theorem w_X9_takeNumber_113 {l : Launch} {G : GC} (hG : GOK G) {rr : Int32} {hh : PH} {p : Program} {e : Env} {s : State} {m : MethodId} {args : Array Value} {below : List Frame} {meth : Method} {c : Code} (C : MC l G p s m args meth c RX9 cX9_takeNumber 4 (some .int)) (x1 : Int32) (x2 : Int32) (k42 : PH → Option (Int32 × PH)) (hk42 : ∀ (h : PH) (H : Heap) (locs : List Loc) (ls : Array Slot), lv_has ls 4 [(0, .ref (gB G 66)), (1, .int x1), (2, .int x2)] → WP G h H → SP G s H locs → k42 h = some (rr, hh) → W p l e rmX9_takeNumber s m args below meth c H locs 0 0 (MQ below (QI G rr hh) args s 0 0 (gA G)) (F0 m 42 ls [])) : ∀ (t1 : Int32) (h : PH) (H : Heap) (locs : List Loc) (ls : Array Slot), lv_has ls 4 [(0, .ref (gB G 66)), (1, .int x1), (2, .int x2)] → WP G h H → SP G s H locs → f_X9_takeNumber_113 x1 x2 k42 t1 h = some (rr, hh) → W p l e rmX9_takeNumber s m args below meth c H locs 0 0 (MQ below (QI G rr hh) args s 0 0 (gA G)) (F0 m 113 ls [.int t1, .ref (gB G 66)]) := by
  obtain ⟨hx, hb, hr, hlocks, hml, hown, hts, hK⟩ := id C
  intro t1 h H locs ls hl hP hS hf
  rw [f_X9_takeNumber_113] at hf
  obtain ⟨h113, eh113⟩ : ∃ y, y = hU h 66 25 t1 := ⟨_, rfl⟩
  replace hf := lt_at eh113 hf
  refine r_put (a := 66) (v := .int t1) (ty := .int) (h' := h113) (C := RX9) (T := TX9) (N := 55) hG hx hb hts hinX9 tyX9 tyX9_ok nmX9 hown hK hP hS (ltX9 rfl) (ceX9 rfl) rfl 25 (by decide) wd1060 rfl (by decide +kernel) rfl rfl (Nat.le_of_ble_eq_true rfl) (by rw [eh113]; exact fun j hj => cE_U hj) (by rw [eh113]; exact puX9_25 rfl _) dX9_takeNumber_113 (fun H locs hP hS => ?_)
  refine lv_aload_n hx hb dX9_takeNumber_116 rfl (lv_at hl 0 rfl) ?_
  refine lv_dup hx hb dX9_takeNumber_117 rfl ?_
  refine r_get (a := 66) (v := .int (h113.1 66 21)) (C := RX9) (T := TX9) (N := 55) hx hb hts hinX9 hown hK hP (ltX9 rfl) (ceX9 rfl) rfl 21 (by decide) wd1056 rfl dX9_takeNumber_118 ?_
  refine lv_iconst (v := 1) hx hb dX9_takeNumber_121 (by decide) ?_
  refine lv_iadd hx hb dX9_takeNumber_122 ?_
  obtain ⟨h123, eh123⟩ : ∃ y, y = hU h113 66 21 ((h113.1 66 21) + 1) := ⟨_, rfl⟩
  replace hf := lt_at eh123 hf
  refine r_put (a := 66) (v := .int ((h113.1 66 21) + 1)) (ty := .int) (h' := h123) (C := RX9) (T := TX9) (N := 55) hG hx hb hts hinX9 tyX9 tyX9_ok nmX9 hown hK hP hS (ltX9 rfl) (ceX9 rfl) rfl 21 (by decide) wd1056 rfl (by decide +kernel) rfl rfl (Nat.le_of_ble_eq_true rfl) (by rw [eh123]; exact fun j hj => cE_U hj) (by rw [eh123]; exact puX9_21 rfl _) dX9_takeNumber_123 (fun H locs hP hS => ?_)
  refine lv_goto (tgt := 42) hx hb dX9_takeNumber_126 (by decide) ?_
  exact hk42 h123 _ _ _ (lv_sub hl [0, 1, 2] rfl) hP hS hf
def f_X9_takeNumber_42 (x1 : Int32) (x2 : Int32) : Nat → PH → Option (Int32 × PH)
  | 0, _ => none
  | n + 1, h => if (h.1 66 19) ≤ (h.1 66 21) then (f_X9_takeNumber_129 x1 x2 h) else (bO (ag h 81 500 (h.1 66 21)) (fun v61 => bO (f_X9_in (v61 : Int32).toInt64 48 57) (fun r69 => if r69 = 0 then (f_X9_takeNumber_129 x1 x2 h) else (if (h.1 66 25) ≤ 10000 then (bO (ag h 81 500 (h.1 66 21)) (fun v108 => f_X9_takeNumber_113 x1 x2 (f_X9_takeNumber_42 x1 x2 n) (((10 * (h.1 66 25)) + v108) - 48) h)) else (f_X9_takeNumber_113 x1 x2 (f_X9_takeNumber_42 x1 x2 n) (h.1 66 25) h)))))
set_option maxHeartbeats 4000000 in
set_option maxRecDepth 100000 in
theorem w_X9_takeNumber_42 {l : Launch} {G : GC} (hG : GOK G) {rr : Int32} {hh : PH} {p : Program} {e : Env} {s : State} {m : MethodId} {args : Array Value} {below : List Frame} {meth : Method} {c : Code} (C : MC l G p s m args meth c RX9 cX9_takeNumber 4 (some .int)) (x1 : Int32) (x2 : Int32) : ∀ (n : Nat) (h : PH) (H : Heap) (locs : List Loc) (ls : Array Slot), lv_has ls 4 [(0, .ref (gB G 66)), (1, .int x1), (2, .int x2)] → WP G h H → SP G s H locs → f_X9_takeNumber_42 x1 x2 n h = some (rr, hh) → W p l e rmX9_takeNumber s m args below meth c H locs 0 0 (MQ below (QI G rr hh) args s 0 0 (gA G)) (F0 m 42 ls []) := by
  obtain ⟨hx, hb, hr, hlocks, hml, hown, hts, hK⟩ := id C
  intro n
  induction n with
  | zero => intro h H locs ls hl hP hS hf; rw [f_X9_takeNumber_42] at hf; cases hf
  | succ n ih =>
    intro h H locs ls hl hP hS hf
    rw [f_X9_takeNumber_42] at hf
    refine lv_aload_n hx hb dX9_takeNumber_42 rfl (lv_at hl 0 rfl) ?_
    refine r_get (a := 66) (v := .int (h.1 66 21)) (C := RX9) (T := TX9) (N := 55) hx hb hts hinX9 hown hK hP (ltX9 rfl) (ceX9 rfl) rfl 21 (by decide) wd1056 rfl dX9_takeNumber_43 ?_
    refine lv_aload_n hx hb dX9_takeNumber_46 rfl (lv_at hl 0 rfl) ?_
    refine r_get (a := 66) (v := .int (h.1 66 19)) (C := RX9) (T := TX9) (N := 55) hx hb hts hinX9 hown hK hP (ltX9 rfl) (ceX9 rfl) rfl 19 (by decide) wd1054 rfl dX9_takeNumber_47 ?_
    refine lv_icmp_ge (tgt := 129) hx hb dX9_takeNumber_50 (by decide) (fun c50 => ?_) (fun c50 => ?_)
    · replace hf := if_t c50 hf
      exact w_X9_takeNumber_129 hG C x1 x2 h _ _ _ (lv_sub hl [0, 1, 2] rfl) hP hS hf
    · replace hf := if_f c50 hf
      refine lv_aload_n hx hb dX9_takeNumber_53 rfl (lv_at hl 0 rfl) ?_
      refine r_get (a := 66) (v := .ref (gB G 81)) (C := RX9) (T := TX9) (N := 55) hx hb hts hinX9 hown hK hP (ltX9 rfl) (ceX9 rfl) rfl 18 (by decide) wd1053 rfl dX9_takeNumber_54 ?_
      refine lv_aload_n hx hb dX9_takeNumber_57 rfl (lv_at hl 0 rfl) ?_
      refine r_get (a := 66) (v := .int (h.1 66 21)) (C := RX9) (T := TX9) (N := 55) hx hb hts hinX9 hown hK hP (ltX9 rfl) (ceX9 rfl) rfl 21 (by decide) wd1056 rfl dX9_takeNumber_58 ?_
      obtain ⟨v61, ev61, hf⟩ := bO_s hf
      refine r_iald hx hb hK hP (arX9_18 rfl) ev61 dX9_takeNumber_61 ?_
      refine lv_i2l hx hb dX9_takeNumber_62 rfl ?_
      refine lv_ldc2 (v := 48) hx hb hown (hts _ wd1258) dX9_takeNumber_63 ?_
      refine lv_ldc2 (v := 57) hx hb hown (hts _ wd1259) dX9_takeNumber_66 ?_
      obtain ⟨r69, er69, hf⟩ := bO_s hf
      refine r_callI (va_runS (As := [.long (v61 : Int32).toInt64, .long 48, .long 57]) (rest := []) ⟨hx, hb, hml, hown, hts⟩ (k_X9_in l hG (h := h) er69) (va_cwS 3 hts (gS wd1206 wd1207 wd82 wd1208) rfl rfl rfl (by decide +kernel) ⟨Nat.le_of_ble_eq_true rfl, Nat.le_of_ble_eq_true rfl⟩) (r_ps hK hP hS) rfl rfl hl.1 rfl (lv_room (Nat.le_of_ble_eq_true rfl)) dX9_takeNumber_69 ⟨Nat.le_of_ble_eq_true rfl, Nat.le_of_ble_eq_true rfl⟩) hS (fun H locs hP hS => ?_)
      refine lv_if_eq (tgt := 129) hx hb dX9_takeNumber_72 (by decide) (fun c72 => ?_) (fun c72 => ?_)
      · replace hf := if_t c72 hf
        exact w_X9_takeNumber_129 hG C x1 x2 h _ _ _ (lv_sub hl [0, 1, 2] rfl) hP hS hf
      · replace hf := if_f c72 hf
        refine lv_aload_n hx hb dX9_takeNumber_75 rfl (lv_at hl 0 rfl) ?_
        refine lv_aload_n hx hb dX9_takeNumber_76 rfl (lv_at hl 0 rfl) ?_
        refine r_get (a := 66) (v := .int (h.1 66 25)) (C := RX9) (T := TX9) (N := 55) hx hb hts hinX9 hown hK hP (ltX9 rfl) (ceX9 rfl) rfl 25 (by decide) wd1060 rfl dX9_takeNumber_77 ?_
        refine lv_sipush (v := 10000) hx hb dX9_takeNumber_80 (by decide) ?_
        refine lv_icmp_le (tgt := 93) hx hb dX9_takeNumber_83 (by decide) (fun c83 => ?_) (fun c83 => ?_)
        · replace hf := if_t c83 hf
          refine lv_bipush (v := 10) hx hb dX9_takeNumber_93 (by decide) ?_
          refine lv_aload_n hx hb dX9_takeNumber_95 rfl (lv_at hl 0 rfl) ?_
          refine r_get (a := 66) (v := .int (h.1 66 25)) (C := RX9) (T := TX9) (N := 55) hx hb hts hinX9 hown hK hP (ltX9 rfl) (ceX9 rfl) rfl 25 (by decide) wd1060 rfl dX9_takeNumber_96 ?_
          refine lv_imul hx hb dX9_takeNumber_99 ?_
          refine lv_aload_n hx hb dX9_takeNumber_100 rfl (lv_at hl 0 rfl) ?_
          refine r_get (a := 66) (v := .ref (gB G 81)) (C := RX9) (T := TX9) (N := 55) hx hb hts hinX9 hown hK hP (ltX9 rfl) (ceX9 rfl) rfl 18 (by decide) wd1053 rfl dX9_takeNumber_101 ?_
          refine lv_aload_n hx hb dX9_takeNumber_104 rfl (lv_at hl 0 rfl) ?_
          refine r_get (a := 66) (v := .int (h.1 66 21)) (C := RX9) (T := TX9) (N := 55) hx hb hts hinX9 hown hK hP (ltX9 rfl) (ceX9 rfl) rfl 21 (by decide) wd1056 rfl dX9_takeNumber_105 ?_
          obtain ⟨v108, ev108, hf⟩ := bO_s hf
          refine r_iald hx hb hK hP (arX9_18 rfl) ev108 dX9_takeNumber_108 ?_
          refine lv_iadd hx hb dX9_takeNumber_109 ?_
          refine lv_bipush (v := 48) hx hb dX9_takeNumber_110 (by decide) ?_
          refine lv_isub hx hb dX9_takeNumber_112 ?_
          exact w_X9_takeNumber_113 hG C x1 x2 (f_X9_takeNumber_42 x1 x2 n) ih (((10 * (h.1 66 25)) + v108) - 48) h _ _ _ (lv_sub hl [0, 1, 2] rfl) hP hS hf
        · replace hf := if_f c83 hf
          refine lv_aload_n hx hb dX9_takeNumber_86 rfl (lv_at hl 0 rfl) ?_
          refine r_get (a := 66) (v := .int (h.1 66 25)) (C := RX9) (T := TX9) (N := 55) hx hb hts hinX9 hown hK hP (ltX9 rfl) (ceX9 rfl) rfl 25 (by decide) wd1060 rfl dX9_takeNumber_87 ?_
          refine lv_goto (tgt := 113) hx hb dX9_takeNumber_90 (by decide) ?_
          exact w_X9_takeNumber_113 hG C x1 x2 (f_X9_takeNumber_42 x1 x2 n) ih (h.1 66 25) h _ _ _ (lv_sub hl [0, 1, 2] rfl) hP hS hf
def f_X9_takeNumber (x1 : Int32) (x2 : Int32) (h : PH) : Option (Int32 × PH) := bP (f_X9_here h) (fun r1 h1 => bO (f_X9_in (r1 : Int32).toInt64 48 57) (fun r13 => if r13 = 0 then (bP (f_X9_breaks 1 (h1.1 66 21) h1) (fun r25 h25 => some (r25, h25))) else (lt' (hU h1 66 26 (h1.1 66 21)) (fun h34 => lt' (hU h34 66 25 0) (fun h39 => f_X9_takeNumber_42 x1 x2 FU h39)))))
set_option maxHeartbeats 4000000 in
set_option maxRecDepth 100000 in
theorem k_X9_takeNumber (l : Launch) {G : GC} (hG : GOK G) {x1 : Int32} {x2 : Int32} {rr : Int32} {h hh : PH} (hf : f_X9_takeNumber x1 x2 h = some (rr, hh)) : CI l yX9_takeNumber vX9_takeNumber rmX9_takeNumber G [.ref (gB G 66), .int x1, .int x2] h rr hh := by
  refine Met.ofW (cc := cX9_takeNumber) (maxL := 4) (ret := (some .int)) (by decide +kernel) rfl ?_
  intro p e s m args below meth c s₁ B hml hv
  obtain ⟨rfl, hP, hK⟩ := hv
  have C : MC l G p s m _ meth c RX9 cX9_takeNumber 4 (some .int) := ⟨B.exec, B.bytes, B.returns, B.notSynchronized, hml, findClass_of_methodNamed B.named, fun w hw => atoms_spec (ws := vX9_takeNumber) B.pre w (List.mem_cons_of_mem _ hw), hK⟩
  obtain ⟨hx, hb, hr, hlocks, -, hown, hts, -⟩ := id C
  have hl := lv_entry ([.ref (gB G 66), .int x1, .int x2]) (n := 4) (Nat.le_of_ble_eq_true rfl)
  rw [lg_entry_eq]
  generalize (lg_sl ([.ref (gB G 66), .int x1, .int x2]) ++ List.replicate (4 - (lg_sl ([.ref (gB G 66), .int x1, .int x2])).length) Slot.unset).toArray = ls at hl ⊢
  have hl : lv_has ls 4 [(0, .ref (gB G 66)), (1, .int x1), (2, .int x2)] := hl
  have hS : SP G s s.heap [] := va_S.rf
  replace hP : WP G h s.heap := hP
  rw [f_X9_takeNumber] at hf
  refine lv_aload_n hx hb dX9_takeNumber_0 rfl (lv_at hl 0 rfl) ?_
  obtain ⟨r1, h1, er1, hf⟩ := bP_s hf
  refine r_callI (va_runV (As := []) (rest := []) ⟨hx, hb, hml, hown, hts⟩ (k_X9_here l hG er1) (cwV 0 hts (gV wd1214 wd1216 wd27 wd82 wd1217) rfl rfl rfl (by decide +kernel) ⟨Nat.le_of_ble_eq_true rfl, Nat.le_of_ble_eq_true rfl⟩) (r_pv hK hP hS (ltX9 rfl) (ceX9 rfl) rfl) rfl rfl hl.1 rfl (lv_room (Nat.le_of_ble_eq_true rfl)) dX9_takeNumber_1 ⟨Nat.le_of_ble_eq_true rfl, Nat.le_of_ble_eq_true rfl⟩) hS (fun H locs hP hS => ?_)
  refine lv_istore_n (lv' := [(3, .int r1), (0, .ref (gB G 66)), (1, .int x1), (2, .int x2)]) hx hb dX9_takeNumber_4 rfl hl (by decide) rfl (fun ls hl => ?_)
  refine lv_iload_n hx hb dX9_takeNumber_5 rfl (lv_at hl 0 rfl) ?_
  refine lv_i2l hx hb dX9_takeNumber_6 rfl ?_
  refine lv_ldc2 (v := 48) hx hb hown (hts _ wd1258) dX9_takeNumber_7 ?_
  refine lv_ldc2 (v := 57) hx hb hown (hts _ wd1259) dX9_takeNumber_10 ?_
  obtain ⟨r13, er13, hf⟩ := bO_s hf
  refine r_callI (va_runS (As := [.long (r1 : Int32).toInt64, .long 48, .long 57]) (rest := []) ⟨hx, hb, hml, hown, hts⟩ (k_X9_in l hG (h := h1) er13) (va_cwS 3 hts (gS wd1206 wd1207 wd82 wd1208) rfl rfl rfl (by decide +kernel) ⟨Nat.le_of_ble_eq_true rfl, Nat.le_of_ble_eq_true rfl⟩) (r_ps hK hP hS) rfl rfl hl.1 rfl (lv_room (Nat.le_of_ble_eq_true rfl)) dX9_takeNumber_13 ⟨Nat.le_of_ble_eq_true rfl, Nat.le_of_ble_eq_true rfl⟩) hS (fun H locs hP hS => ?_)
  refine lv_if_ne (tgt := 29) hx hb dX9_takeNumber_16 (by decide) (fun c16 => ?_) (fun c16 => ?_)
  · replace hf := if_f c16 hf
    refine lv_aload_n hx hb dX9_takeNumber_29 rfl (lv_at hl 1 rfl) ?_
    refine lv_aload_n hx hb dX9_takeNumber_30 rfl (lv_at hl 1 rfl) ?_
    refine r_get (a := 66) (v := .int (h1.1 66 21)) (C := RX9) (T := TX9) (N := 55) hx hb hts hinX9 hown hK hP (ltX9 rfl) (ceX9 rfl) rfl 21 (by decide) wd1056 rfl dX9_takeNumber_31 ?_
    obtain ⟨h34, eh34⟩ : ∃ y, y = hU h1 66 26 (h1.1 66 21) := ⟨_, rfl⟩
    replace hf := lt_at eh34 hf
    refine r_put (a := 66) (v := .int (h1.1 66 21)) (ty := .int) (h' := h34) (C := RX9) (T := TX9) (N := 55) hG hx hb hts hinX9 tyX9 tyX9_ok nmX9 hown hK hP hS (ltX9 rfl) (ceX9 rfl) rfl 26 (by decide) wd1061 rfl (by decide +kernel) rfl rfl (Nat.le_of_ble_eq_true rfl) (by rw [eh34]; exact fun j hj => cE_U hj) (by rw [eh34]; exact puX9_26 rfl _) dX9_takeNumber_34 (fun H locs hP hS => ?_)
    refine lv_aload_n hx hb dX9_takeNumber_37 rfl (lv_at hl 1 rfl) ?_
    refine lv_iconst (v := 0) hx hb dX9_takeNumber_38 (by decide) ?_
    obtain ⟨h39, eh39⟩ : ∃ y, y = hU h34 66 25 0 := ⟨_, rfl⟩
    replace hf := lt_at eh39 hf
    refine r_put (a := 66) (v := .int 0) (ty := .int) (h' := h39) (C := RX9) (T := TX9) (N := 55) hG hx hb hts hinX9 tyX9 tyX9_ok nmX9 hown hK hP hS (ltX9 rfl) (ceX9 rfl) rfl 25 (by decide) wd1060 rfl (by decide +kernel) rfl rfl (Nat.le_of_ble_eq_true rfl) (by rw [eh39]; exact fun j hj => cE_U hj) (by rw [eh39]; exact puX9_25 rfl _) dX9_takeNumber_39 (fun H locs hP hS => ?_)
    exact w_X9_takeNumber_42 hG C x1 x2 FU h39 _ _ _ (lv_sub hl [1, 2, 3] rfl) hP hS hf
  · replace hf := if_t c16 hf
    refine lv_aload_n hx hb dX9_takeNumber_19 rfl (lv_at hl 1 rfl) ?_
    refine lv_iconst (v := 1) hx hb dX9_takeNumber_20 (by decide) ?_
    refine lv_aload_n hx hb dX9_takeNumber_21 rfl (lv_at hl 1 rfl) ?_
    refine r_get (a := 66) (v := .int (h1.1 66 21)) (C := RX9) (T := TX9) (N := 55) hx hb hts hinX9 hown hK hP (ltX9 rfl) (ceX9 rfl) rfl 21 (by decide) wd1056 rfl dX9_takeNumber_22 ?_
    obtain ⟨r25, h25, er25, hf⟩ := bP_s hf
    refine r_callI (va_runV (As := [.int 1, .int (h1.1 66 21)]) (rest := []) ⟨hx, hb, hml, hown, hts⟩ (k_X9_breaks l hG er25) (cwV 2 hts (gV wd1238 wd1240 wd30 wd82 wd1241) rfl rfl rfl (by decide +kernel) ⟨Nat.le_of_ble_eq_true rfl, Nat.le_of_ble_eq_true rfl⟩) (r_pv hK hP hS (ltX9 rfl) (ceX9 rfl) rfl) rfl rfl hl.1 rfl (lv_room (Nat.le_of_ble_eq_true rfl)) dX9_takeNumber_25 ⟨Nat.le_of_ble_eq_true rfl, Nat.le_of_ble_eq_true rfl⟩) hS (fun H locs hP hS => ?_)
    exact r_iret hx hb hr hlocks hP hS (re2 (Option.some.inj hf)) dX9_takeNumber_28
/-! CarriedBackModel.takeStop()I -/
abbrev rmX9_takeStop : Room := { frames := 1, cells := 0, slots := 0, locals := 22 }
abbrev vX9_takeStop : List Cond := Cond.code yX9_takeStop cX9_takeStop 1 (some .int) :: GW
def f_X9_takeStop (h : PH) : Option (Int32 × PH) := bP (f_X9_here h) (fun r1 h1 => if r1 = 59 then (lt' (hU h1 66 21 ((h1.1 66 21) + 1)) (fun h26 => some (0, h26))) else (bP (f_X9_breaks 1 (h1.1 66 21) h1) (fun r15 h15 => some (r15, h15))))
set_option maxHeartbeats 4000000 in
set_option maxRecDepth 100000 in
theorem k_X9_takeStop (l : Launch) {G : GC} (hG : GOK G) {rr : Int32} {h hh : PH} (hf : f_X9_takeStop h = some (rr, hh)) : CI l yX9_takeStop vX9_takeStop rmX9_takeStop G [.ref (gB G 66)] h rr hh := by
  refine Met.ofW (cc := cX9_takeStop) (maxL := 1) (ret := (some .int)) (by decide +kernel) rfl ?_
  intro p e s m args below meth c s₁ B hml hv
  obtain ⟨rfl, hP, hK⟩ := hv
  have C : MC l G p s m _ meth c RX9 cX9_takeStop 1 (some .int) := ⟨B.exec, B.bytes, B.returns, B.notSynchronized, hml, findClass_of_methodNamed B.named, fun w hw => atoms_spec (ws := vX9_takeStop) B.pre w (List.mem_cons_of_mem _ hw), hK⟩
  obtain ⟨hx, hb, hr, hlocks, -, hown, hts, -⟩ := id C
  have hl := lv_entry ([.ref (gB G 66)]) (n := 1) (Nat.le_of_ble_eq_true rfl)
  rw [lg_entry_eq]
  generalize (lg_sl ([.ref (gB G 66)]) ++ List.replicate (1 - (lg_sl ([.ref (gB G 66)])).length) Slot.unset).toArray = ls at hl ⊢
  have hl : lv_has ls 1 [(0, .ref (gB G 66))] := hl
  have hS : SP G s s.heap [] := va_S.rf
  replace hP : WP G h s.heap := hP
  rw [f_X9_takeStop] at hf
  refine lv_aload_n hx hb dX9_takeStop_0 rfl (lv_at hl 0 rfl) ?_
  obtain ⟨r1, h1, er1, hf⟩ := bP_s hf
  refine r_callI (va_runV (As := []) (rest := []) ⟨hx, hb, hml, hown, hts⟩ (k_X9_here l hG er1) (cwV 0 hts (gV wd1214 wd1216 wd27 wd82 wd1217) rfl rfl rfl (by decide +kernel) ⟨Nat.le_of_ble_eq_true rfl, Nat.le_of_ble_eq_true rfl⟩) (r_pv hK hP hS (ltX9 rfl) (ceX9 rfl) rfl) rfl rfl hl.1 rfl (lv_room (Nat.le_of_ble_eq_true rfl)) dX9_takeStop_1 ⟨Nat.le_of_ble_eq_true rfl, Nat.le_of_ble_eq_true rfl⟩) hS (fun H locs hP hS => ?_)
  refine lv_bipush (v := 59) hx hb dX9_takeStop_4 (by decide) ?_
  refine lv_icmp_eq (tgt := 19) hx hb dX9_takeStop_6 (by decide) (fun c6 => ?_) (fun c6 => ?_)
  · replace hf := if_t c6 hf
    refine lv_aload_n hx hb dX9_takeStop_19 rfl (lv_at hl 0 rfl) ?_
    refine lv_dup hx hb dX9_takeStop_20 rfl ?_
    refine r_get (a := 66) (v := .int (h1.1 66 21)) (C := RX9) (T := TX9) (N := 55) hx hb hts hinX9 hown hK hP (ltX9 rfl) (ceX9 rfl) rfl 21 (by decide) wd1056 rfl dX9_takeStop_21 ?_
    refine lv_iconst (v := 1) hx hb dX9_takeStop_24 (by decide) ?_
    refine lv_iadd hx hb dX9_takeStop_25 ?_
    obtain ⟨h26, eh26⟩ : ∃ y, y = hU h1 66 21 ((h1.1 66 21) + 1) := ⟨_, rfl⟩
    replace hf := lt_at eh26 hf
    refine r_put (a := 66) (v := .int ((h1.1 66 21) + 1)) (ty := .int) (h' := h26) (C := RX9) (T := TX9) (N := 55) hG hx hb hts hinX9 tyX9 tyX9_ok nmX9 hown hK hP hS (ltX9 rfl) (ceX9 rfl) rfl 21 (by decide) wd1056 rfl (by decide +kernel) rfl rfl (Nat.le_of_ble_eq_true rfl) (by rw [eh26]; exact fun j hj => cE_U hj) (by rw [eh26]; exact puX9_21 rfl _) dX9_takeStop_26 (fun H locs hP hS => ?_)
    refine lv_iconst (v := 0) hx hb dX9_takeStop_29 (by decide) ?_
    exact r_iret hx hb hr hlocks hP hS (re2 (Option.some.inj hf)) dX9_takeStop_30
  · replace hf := if_f c6 hf
    refine lv_aload_n hx hb dX9_takeStop_9 rfl (lv_at hl 0 rfl) ?_
    refine lv_iconst (v := 1) hx hb dX9_takeStop_10 (by decide) ?_
    refine lv_aload_n hx hb dX9_takeStop_11 rfl (lv_at hl 0 rfl) ?_
    refine r_get (a := 66) (v := .int (h1.1 66 21)) (C := RX9) (T := TX9) (N := 55) hx hb hts hinX9 hown hK hP (ltX9 rfl) (ceX9 rfl) rfl 21 (by decide) wd1056 rfl dX9_takeStop_12 ?_
    obtain ⟨r15, h15, er15, hf⟩ := bP_s hf
    refine r_callI (va_runV (As := [.int 1, .int (h1.1 66 21)]) (rest := []) ⟨hx, hb, hml, hown, hts⟩ (k_X9_breaks l hG er15) (cwV 2 hts (gV wd1238 wd1240 wd30 wd82 wd1241) rfl rfl rfl (by decide +kernel) ⟨Nat.le_of_ble_eq_true rfl, Nat.le_of_ble_eq_true rfl⟩) (r_pv hK hP hS (ltX9 rfl) (ceX9 rfl) rfl) rfl rfl hl.1 rfl (lv_room (Nat.le_of_ble_eq_true rfl)) dX9_takeStop_15 ⟨Nat.le_of_ble_eq_true rfl, Nat.le_of_ble_eq_true rfl⟩) hS (fun H locs hP hS => ?_)
    exact r_iret hx hb hr hlocks hP hS (re2 (Option.some.inj hf)) dX9_takeStop_18
/-! CarriedBackModel.isComma()Z -/
abbrev rmX9_isComma : Room := { frames := 1, cells := 0, slots := 0, locals := 20 }
abbrev vX9_isComma : List Cond := Cond.code yX9_isComma cX9_isComma 2 (some .boolean) :: GW
def f_X9_isComma_29 (x1 : Int32) (t1 : Int32) (t2 : Int32) (h : PH) : Option (Int32 × PH) := lt' (hU h 66 21 (t1 + t2)) (fun h30 => zr x1 (x1, h30))
set_option maxHeartbeats 4000000 in
set_option maxRecDepth 100000 in
theorem w_X9_isComma_29 {l : Launch} {G : GC} (hG : GOK G) {rr : Int32} {hh : PH} {p : Program} {e : Env} {s : State} {m : MethodId} {args : Array Value} {below : List Frame} {meth : Method} {c : Code} (C : MC l G p s m args meth c RX9 cX9_isComma 2 (some .boolean)) : ∀ (x1 : Int32) (t1 : Int32) (t2 : Int32) (h : PH) (H : Heap) (locs : List Loc) (ls : Array Slot), lv_has ls 2 [(1, .int x1)] → WP G h H → SP G s H locs → f_X9_isComma_29 x1 t1 t2 h = some (rr, hh) → W p l e rmX9_isComma s m args below meth c H locs 0 0 (MQ below (QI G rr hh) args s 0 0 (gA G)) (F0 m 29 ls [.int t2, .int t1, .ref (gB G 66)]) := by
  obtain ⟨hx, hb, hr, hlocks, hml, hown, hts, hK⟩ := id C
  intro x1 t1 t2 h H locs ls hl hP hS hf
  rw [f_X9_isComma_29] at hf
  refine lv_iadd hx hb dX9_isComma_29 ?_
  obtain ⟨h30, eh30⟩ : ∃ y, y = hU h 66 21 (t1 + t2) := ⟨_, rfl⟩
  replace hf := lt_at eh30 hf
  refine r_put (a := 66) (v := .int (t1 + t2)) (ty := .int) (h' := h30) (C := RX9) (T := TX9) (N := 55) hG hx hb hts hinX9 tyX9 tyX9_ok nmX9 hown hK hP hS (ltX9 rfl) (ceX9 rfl) rfl 21 (by decide) wd1056 rfl (by decide +kernel) rfl rfl (Nat.le_of_ble_eq_true rfl) (by rw [eh30]; exact fun j hj => cE_U hj) (by rw [eh30]; exact puX9_21 rfl _) dX9_isComma_30 (fun H locs hP hS => ?_)
  refine lv_iload_n hx hb dX9_isComma_33 rfl (lv_at hl 0 rfl) ?_
  obtain ⟨hz, hf⟩ := zr_s hf
  exact r_zret hx hb hr hz hlocks hP hS (re2 hf) dX9_isComma_34
def f_X9_isComma_14 (t0 : Int32) (h : PH) : Option (Int32 × PH) := if t0 = 0 then (f_X9_isComma_29 t0 (h.1 66 21) 0 h) else (f_X9_isComma_29 t0 (h.1 66 21) 1 h)
set_option maxHeartbeats 4000000 in
set_option maxRecDepth 100000 in
theorem w_X9_isComma_14 {l : Launch} {G : GC} (hG : GOK G) {rr : Int32} {hh : PH} {p : Program} {e : Env} {s : State} {m : MethodId} {args : Array Value} {below : List Frame} {meth : Method} {c : Code} (C : MC l G p s m args meth c RX9 cX9_isComma 2 (some .boolean)) : ∀ (t0 : Int32) (h : PH) (H : Heap) (locs : List Loc) (ls : Array Slot), lv_has ls 2 [(0, .ref (gB G 66))] → WP G h H → SP G s H locs → f_X9_isComma_14 t0 h = some (rr, hh) → W p l e rmX9_isComma s m args below meth c H locs 0 0 (MQ below (QI G rr hh) args s 0 0 (gA G)) (F0 m 14 ls [.int t0]) := by
  obtain ⟨hx, hb, hr, hlocks, hml, hown, hts, hK⟩ := id C
  intro t0 h H locs ls hl hP hS hf
  rw [f_X9_isComma_14] at hf
  refine lv_istore_n (lv' := [(1, .int t0), (0, .ref (gB G 66))]) hx hb dX9_isComma_14 rfl hl (by decide) rfl (fun ls hl => ?_)
  refine lv_aload_n hx hb dX9_isComma_15 rfl (lv_at hl 1 rfl) ?_
  refine lv_dup hx hb dX9_isComma_16 rfl ?_
  refine r_get (a := 66) (v := .int (h.1 66 21)) (C := RX9) (T := TX9) (N := 55) hx hb hts hinX9 hown hK hP (ltX9 rfl) (ceX9 rfl) rfl 21 (by decide) wd1056 rfl dX9_isComma_17 ?_
  refine lv_iload_n hx hb dX9_isComma_20 rfl (lv_at hl 0 rfl) ?_
  refine lv_if_eq (tgt := 28) hx hb dX9_isComma_21 (by decide) (fun c21 => ?_) (fun c21 => ?_)
  · replace hf := if_t c21 hf
    refine lv_iconst (v := 0) hx hb dX9_isComma_28 (by decide) ?_
    exact w_X9_isComma_29 hG C t0 (h.1 66 21) 0 h _ _ _ (lv_sub hl [0] rfl) hP hS hf
  · replace hf := if_f c21 hf
    refine lv_iconst (v := 1) hx hb dX9_isComma_24 (by decide) ?_
    refine lv_goto (tgt := 29) hx hb dX9_isComma_25 (by decide) ?_
    exact w_X9_isComma_29 hG C t0 (h.1 66 21) 1 h _ _ _ (lv_sub hl [0] rfl) hP hS hf
def f_X9_isComma (h : PH) : Option (Int32 × PH) := bP (f_X9_here h) (fun r1 h1 => if r1 = 44 then (f_X9_isComma_14 1 h1) else (f_X9_isComma_14 0 h1))
set_option maxHeartbeats 4000000 in
set_option maxRecDepth 100000 in
theorem k_X9_isComma (l : Launch) {G : GC} (hG : GOK G) {rr : Int32} {h hh : PH} (hf : f_X9_isComma h = some (rr, hh)) : CI l yX9_isComma vX9_isComma rmX9_isComma G [.ref (gB G 66)] h rr hh := by
  refine Met.ofW (cc := cX9_isComma) (maxL := 2) (ret := (some .boolean)) (by decide +kernel) rfl ?_
  intro p e s m args below meth c s₁ B hml hv
  obtain ⟨rfl, hP, hK⟩ := hv
  have C : MC l G p s m _ meth c RX9 cX9_isComma 2 (some .boolean) := ⟨B.exec, B.bytes, B.returns, B.notSynchronized, hml, findClass_of_methodNamed B.named, fun w hw => atoms_spec (ws := vX9_isComma) B.pre w (List.mem_cons_of_mem _ hw), hK⟩
  obtain ⟨hx, hb, hr, hlocks, -, hown, hts, -⟩ := id C
  have hl := lv_entry ([.ref (gB G 66)]) (n := 2) (Nat.le_of_ble_eq_true rfl)
  rw [lg_entry_eq]
  generalize (lg_sl ([.ref (gB G 66)]) ++ List.replicate (2 - (lg_sl ([.ref (gB G 66)])).length) Slot.unset).toArray = ls at hl ⊢
  have hl : lv_has ls 2 [(0, .ref (gB G 66))] := hl
  have hS : SP G s s.heap [] := va_S.rf
  replace hP : WP G h s.heap := hP
  rw [f_X9_isComma] at hf
  refine lv_aload_n hx hb dX9_isComma_0 rfl (lv_at hl 0 rfl) ?_
  obtain ⟨r1, h1, er1, hf⟩ := bP_s hf
  refine r_callI (va_runV (As := []) (rest := []) ⟨hx, hb, hml, hown, hts⟩ (k_X9_here l hG er1) (cwV 0 hts (gV wd1214 wd1216 wd27 wd82 wd1217) rfl rfl rfl (by decide +kernel) ⟨Nat.le_of_ble_eq_true rfl, Nat.le_of_ble_eq_true rfl⟩) (r_pv hK hP hS (ltX9 rfl) (ceX9 rfl) rfl) rfl rfl hl.1 rfl (lv_room (Nat.le_of_ble_eq_true rfl)) dX9_isComma_1 ⟨Nat.le_of_ble_eq_true rfl, Nat.le_of_ble_eq_true rfl⟩) hS (fun H locs hP hS => ?_)
  refine lv_bipush (v := 44) hx hb dX9_isComma_4 (by decide) ?_
  refine lv_icmp_ne (tgt := 13) hx hb dX9_isComma_6 (by decide) (fun c6 => ?_) (fun c6 => ?_)
  · replace hf := if_f c6 hf
    refine lv_iconst (v := 0) hx hb dX9_isComma_13 (by decide) ?_
    exact w_X9_isComma_14 hG C 0 h1 _ _ _ (lv_sub hl [0] rfl) hP hS hf
  · replace hf := if_t c6 hf
    refine lv_iconst (v := 1) hx hb dX9_isComma_9 (by decide) ?_
    refine lv_goto (tgt := 14) hx hb dX9_isComma_10 (by decide) ?_
    exact w_X9_isComma_14 hG C 1 h1 _ _ _ (lv_sub hl [0] rfl) hP hS hf
/-! CarriedBackModel.takeSlot()I -/
abbrev rmX9_takeSlot : Room := { frames := 2, cells := 0, slots := 0, locals := 48 }
abbrev vX9_takeSlot : List Cond := Cond.code yX9_takeSlot cX9_takeSlot 2 (some .int) :: GW
def f_X9_takeSlot_55 (x1 : Int32) (t1 : Int32) (t2 : Int32) (h : PH) : Option (Int32 × PH) := lt' (hU h 66 35 (t1 ||| t2)) (fun h56 => some (x1, h56))
set_option maxHeartbeats 4000000 in
set_option maxRecDepth 100000 in
theorem w_X9_takeSlot_55 {l : Launch} {G : GC} (hG : GOK G) {rr : Int32} {hh : PH} {p : Program} {e : Env} {s : State} {m : MethodId} {args : Array Value} {below : List Frame} {meth : Method} {c : Code} (C : MC l G p s m args meth c RX9 cX9_takeSlot 2 (some .int)) : ∀ (x1 : Int32) (t1 : Int32) (t2 : Int32) (h : PH) (H : Heap) (locs : List Loc) (ls : Array Slot), lv_has ls 2 [(1, .int x1)] → WP G h H → SP G s H locs → f_X9_takeSlot_55 x1 t1 t2 h = some (rr, hh) → W p l e rmX9_takeSlot s m args below meth c H locs 0 0 (MQ below (QI G rr hh) args s 0 0 (gA G)) (F0 m 55 ls [.int t2, .int t1, .ref (gB G 66)]) := by
  obtain ⟨hx, hb, hr, hlocks, hml, hown, hts, hK⟩ := id C
  intro x1 t1 t2 h H locs ls hl hP hS hf
  rw [f_X9_takeSlot_55] at hf
  refine lv_ior hx hb dX9_takeSlot_55 ?_
  obtain ⟨h56, eh56⟩ : ∃ y, y = hU h 66 35 (t1 ||| t2) := ⟨_, rfl⟩
  replace hf := lt_at eh56 hf
  refine r_put (a := 66) (v := .int (t1 ||| t2)) (ty := .int) (h' := h56) (C := RX9) (T := TX9) (N := 55) hG hx hb hts hinX9 tyX9 tyX9_ok nmX9 hown hK hP hS (ltX9 rfl) (ceX9 rfl) rfl 35 (by decide) wd1070 rfl (by decide +kernel) rfl rfl (Nat.le_of_ble_eq_true rfl) (by rw [eh56]; exact fun j hj => cE_U hj) (by rw [eh56]; exact puX9_35 rfl _) dX9_takeSlot_56 (fun H locs hP hS => ?_)
  refine lv_iload_n hx hb dX9_takeSlot_59 rfl (lv_at hl 0 rfl) ?_
  exact r_iret hx hb hr hlocks hP hS (re2 (Option.some.inj hf)) dX9_takeSlot_60
def f_X9_takeSlot_36 (x1 : Int32) (h : PH) : Option (Int32 × PH) := if x1 ≤ 0 then (f_X9_takeSlot_55 x1 (h.1 66 35) (1 <<< ((h.1 66 25) &&& 31)) h) else (f_X9_takeSlot_55 x1 (h.1 66 35) 0 h)
set_option maxHeartbeats 4000000 in
set_option maxRecDepth 100000 in
theorem w_X9_takeSlot_36 {l : Launch} {G : GC} (hG : GOK G) {rr : Int32} {hh : PH} {p : Program} {e : Env} {s : State} {m : MethodId} {args : Array Value} {below : List Frame} {meth : Method} {c : Code} (C : MC l G p s m args meth c RX9 cX9_takeSlot 2 (some .int)) : ∀ (x1 : Int32) (h : PH) (H : Heap) (locs : List Loc) (ls : Array Slot), lv_has ls 2 [(0, .ref (gB G 66)), (1, .int x1)] → WP G h H → SP G s H locs → f_X9_takeSlot_36 x1 h = some (rr, hh) → W p l e rmX9_takeSlot s m args below meth c H locs 0 0 (MQ below (QI G rr hh) args s 0 0 (gA G)) (F0 m 36 ls []) := by
  obtain ⟨hx, hb, hr, hlocks, hml, hown, hts, hK⟩ := id C
  intro x1 h H locs ls hl hP hS hf
  rw [f_X9_takeSlot_36] at hf
  refine lv_aload_n hx hb dX9_takeSlot_36 rfl (lv_at hl 0 rfl) ?_
  refine lv_dup hx hb dX9_takeSlot_37 rfl ?_
  refine r_get (a := 66) (v := .int (h.1 66 35)) (C := RX9) (T := TX9) (N := 55) hx hb hts hinX9 hown hK hP (ltX9 rfl) (ceX9 rfl) rfl 35 (by decide) wd1070 rfl dX9_takeSlot_38 ?_
  refine lv_iload_n hx hb dX9_takeSlot_41 rfl (lv_at hl 1 rfl) ?_
  refine lv_if_le (tgt := 49) hx hb dX9_takeSlot_42 (by decide) (fun c42 => ?_) (fun c42 => ?_)
  · replace hf := if_t c42 hf
    refine lv_iconst (v := 1) hx hb dX9_takeSlot_49 (by decide) ?_
    refine lv_aload_n hx hb dX9_takeSlot_50 rfl (lv_at hl 0 rfl) ?_
    refine r_get (a := 66) (v := .int (h.1 66 25)) (C := RX9) (T := TX9) (N := 55) hx hb hts hinX9 hown hK hP (ltX9 rfl) (ceX9 rfl) rfl 25 (by decide) wd1060 rfl dX9_takeSlot_51 ?_
    refine lv_ishl hx hb dX9_takeSlot_54 ?_
    exact w_X9_takeSlot_55 hG C x1 (h.1 66 35) (1 <<< ((h.1 66 25) &&& 31)) h _ _ _ (lv_sub hl [1] rfl) hP hS hf
  · replace hf := if_f c42 hf
    refine lv_iconst (v := 0) hx hb dX9_takeSlot_45 (by decide) ?_
    refine lv_goto (tgt := 55) hx hb dX9_takeSlot_46 (by decide) ?_
    exact w_X9_takeSlot_55 hG C x1 (h.1 66 35) 0 h _ _ _ (lv_sub hl [1] rfl) hP hS hf
def f_X9_takeSlot (h : PH) : Option (Int32 × PH) := bP (f_X9_takeNumber 0 15 h) (fun r4 h4 => if r4 = 0 then (bO (f_X9_has (h4.1 66 35) (h4.1 66 25)) (fun r20 => if r20 = 0 then (f_X9_takeSlot_36 r4 h4) else (bP (f_X9_breaks 4 (h4.1 66 26) h4) (fun r32 h32 => f_X9_takeSlot_36 r32 h32)))) else (f_X9_takeSlot_36 r4 h4))
set_option maxHeartbeats 4000000 in
set_option maxRecDepth 100000 in
theorem k_X9_takeSlot (l : Launch) {G : GC} (hG : GOK G) {rr : Int32} {h hh : PH} (hf : f_X9_takeSlot h = some (rr, hh)) : CI l yX9_takeSlot vX9_takeSlot rmX9_takeSlot G [.ref (gB G 66)] h rr hh := by
  refine Met.ofW (cc := cX9_takeSlot) (maxL := 2) (ret := (some .int)) (by decide +kernel) rfl ?_
  intro p e s m args below meth c s₁ B hml hv
  obtain ⟨rfl, hP, hK⟩ := hv
  have C : MC l G p s m _ meth c RX9 cX9_takeSlot 2 (some .int) := ⟨B.exec, B.bytes, B.returns, B.notSynchronized, hml, findClass_of_methodNamed B.named, fun w hw => atoms_spec (ws := vX9_takeSlot) B.pre w (List.mem_cons_of_mem _ hw), hK⟩
  obtain ⟨hx, hb, hr, hlocks, -, hown, hts, -⟩ := id C
  have hl := lv_entry ([.ref (gB G 66)]) (n := 2) (Nat.le_of_ble_eq_true rfl)
  rw [lg_entry_eq]
  generalize (lg_sl ([.ref (gB G 66)]) ++ List.replicate (2 - (lg_sl ([.ref (gB G 66)])).length) Slot.unset).toArray = ls at hl ⊢
  have hl : lv_has ls 2 [(0, .ref (gB G 66))] := hl
  have hS : SP G s s.heap [] := va_S.rf
  replace hP : WP G h s.heap := hP
  rw [f_X9_takeSlot] at hf
  refine lv_aload_n hx hb dX9_takeSlot_0 rfl (lv_at hl 0 rfl) ?_
  refine lv_iconst (v := 0) hx hb dX9_takeSlot_1 (by decide) ?_
  refine lv_bipush (v := 15) hx hb dX9_takeSlot_2 (by decide) ?_
  obtain ⟨r4, h4, er4, hf⟩ := bP_s hf
  refine r_callI (va_runV (As := [.int 0, .int 15]) (rest := []) ⟨hx, hb, hml, hown, hts⟩ (k_X9_takeNumber l hG er4) (cwV 2 hts (gV wd1254 wd1256 wd34 wd82 wd1257) rfl rfl rfl (by decide +kernel) ⟨Nat.le_of_ble_eq_true rfl, Nat.le_of_ble_eq_true rfl⟩) (r_pv hK hP hS (ltX9 rfl) (ceX9 rfl) rfl) rfl rfl hl.1 rfl (lv_room (Nat.le_of_ble_eq_true rfl)) dX9_takeSlot_4 ⟨Nat.le_of_ble_eq_true rfl, Nat.le_of_ble_eq_true rfl⟩) hS (fun H locs hP hS => ?_)
  refine lv_istore_n (lv' := [(1, .int r4), (0, .ref (gB G 66))]) hx hb dX9_takeSlot_7 rfl hl (by decide) rfl (fun ls hl => ?_)
  refine lv_iload_n hx hb dX9_takeSlot_8 rfl (lv_at hl 0 rfl) ?_
  refine lv_if_ne (tgt := 36) hx hb dX9_takeSlot_9 (by decide) (fun c9 => ?_) (fun c9 => ?_)
  · replace hf := if_f c9 hf
    exact w_X9_takeSlot_36 hG C r4 h4 _ _ _ (lv_sub hl [1, 0] rfl) hP hS hf
  · replace hf := if_t c9 hf
    refine lv_aload_n hx hb dX9_takeSlot_12 rfl (lv_at hl 1 rfl) ?_
    refine r_get (a := 66) (v := .int (h4.1 66 35)) (C := RX9) (T := TX9) (N := 55) hx hb hts hinX9 hown hK hP (ltX9 rfl) (ceX9 rfl) rfl 35 (by decide) wd1070 rfl dX9_takeSlot_13 ?_
    refine lv_aload_n hx hb dX9_takeSlot_16 rfl (lv_at hl 1 rfl) ?_
    refine r_get (a := 66) (v := .int (h4.1 66 25)) (C := RX9) (T := TX9) (N := 55) hx hb hts hinX9 hown hK hP (ltX9 rfl) (ceX9 rfl) rfl 25 (by decide) wd1060 rfl dX9_takeSlot_17 ?_
    obtain ⟨r20, er20, hf⟩ := bO_s hf
    refine r_callI (va_runS (As := [.int (h4.1 66 35), .int (h4.1 66 25)]) (rest := []) ⟨hx, hb, hml, hown, hts⟩ (k_X9_has l hG (h := h4) er20) (va_cwS 2 hts (gS wd1260 wd1261 wd82 wd1262) rfl rfl rfl (by decide +kernel) ⟨Nat.le_of_ble_eq_true rfl, Nat.le_of_ble_eq_true rfl⟩) (r_ps hK hP hS) rfl rfl hl.1 rfl (lv_room (Nat.le_of_ble_eq_true rfl)) dX9_takeSlot_20 ⟨Nat.le_of_ble_eq_true rfl, Nat.le_of_ble_eq_true rfl⟩) hS (fun H locs hP hS => ?_)
    refine lv_if_eq (tgt := 36) hx hb dX9_takeSlot_23 (by decide) (fun c23 => ?_) (fun c23 => ?_)
    · replace hf := if_t c23 hf
      exact w_X9_takeSlot_36 hG C r4 h4 _ _ _ (lv_sub hl [1, 0] rfl) hP hS hf
    · replace hf := if_f c23 hf
      refine lv_aload_n hx hb dX9_takeSlot_26 rfl (lv_at hl 1 rfl) ?_
      refine lv_iconst (v := 4) hx hb dX9_takeSlot_27 (by decide) ?_
      refine lv_aload_n hx hb dX9_takeSlot_28 rfl (lv_at hl 1 rfl) ?_
      refine r_get (a := 66) (v := .int (h4.1 66 26)) (C := RX9) (T := TX9) (N := 55) hx hb hts hinX9 hown hK hP (ltX9 rfl) (ceX9 rfl) rfl 26 (by decide) wd1061 rfl dX9_takeSlot_29 ?_
      obtain ⟨r32, h32, er32, hf⟩ := bP_s hf
      refine r_callI (va_runV (As := [.int 4, .int (h4.1 66 26)]) (rest := []) ⟨hx, hb, hml, hown, hts⟩ (k_X9_breaks l hG er32) (cwV 2 hts (gV wd1238 wd1240 wd30 wd82 wd1241) rfl rfl rfl (by decide +kernel) ⟨Nat.le_of_ble_eq_true rfl, Nat.le_of_ble_eq_true rfl⟩) (r_pv hK hP hS (ltX9 rfl) (ceX9 rfl) rfl) rfl rfl hl.1 rfl (lv_room (Nat.le_of_ble_eq_true rfl)) dX9_takeSlot_32 ⟨Nat.le_of_ble_eq_true rfl, Nat.le_of_ble_eq_true rfl⟩) hS (fun H locs hP hS => ?_)
      refine lv_istore_n (lv' := [(1, .int r32), (0, .ref (gB G 66))]) hx hb dX9_takeSlot_35 rfl hl (by decide) rfl (fun ls hl => ?_)
      exact w_X9_takeSlot_36 hG C r32 h32 _ _ _ (lv_sub hl [1, 0] rfl) hP hS hf
/-! CarriedBackModel.takeSets(I)I -/
abbrev rmX9_takeSets : Room := { frames := 3, cells := 0, slots := 0, locals := 69 }
abbrev vX9_takeSets : List Cond := Cond.code yX9_takeSets cX9_takeSets 5 (some .int) :: GW
def f_X9_takeSets_37 (x1 : Int32) (k7 : Int32 → PH → Option (Int32 × PH)) (x4 : Int32) (t0 : Int32) (h : PH) : Option (Int32 × PH) := if t0 ≤ 0 then (bO (asg h 82 384 ((16 * x1) + x4) (h.1 66 25)) (fun h59 => bP (f_X9_isComma h59) (fun r61 h61 => k7 r61 h61))) else (some (t0, h))
set_option maxHeartbeats 4000000 in
set_option maxRecDepth 100000 in
theorem w_X9_takeSets_37 {l : Launch} {G : GC} (hG : GOK G) {rr : Int32} {hh : PH} {p : Program} {e : Env} {s : State} {m : MethodId} {args : Array Value} {below : List Frame} {meth : Method} {c : Code} (C : MC l G p s m args meth c RX9 cX9_takeSets 5 (some .int)) (x1 : Int32) (k7 : Int32 → PH → Option (Int32 × PH)) (hk7 : ∀ (x2 : Int32) (h : PH) (H : Heap) (locs : List Loc) (ls : Array Slot), lv_has ls 5 [(0, .ref (gB G 66)), (1, .int x1), (2, .int x2)] → WP G h H → SP G s H locs → k7 x2 h = some (rr, hh) → W p l e rmX9_takeSets s m args below meth c H locs 0 0 (MQ below (QI G rr hh) args s 0 0 (gA G)) (F0 m 7 ls [])) : ∀ (x4 : Int32) (t0 : Int32) (h : PH) (H : Heap) (locs : List Loc) (ls : Array Slot), lv_has ls 5 [(0, .ref (gB G 66)), (1, .int x1), (4, .int x4)] → WP G h H → SP G s H locs → f_X9_takeSets_37 x1 k7 x4 t0 h = some (rr, hh) → W p l e rmX9_takeSets s m args below meth c H locs 0 0 (MQ below (QI G rr hh) args s 0 0 (gA G)) (F0 m 37 ls [.int t0]) := by
  obtain ⟨hx, hb, hr, hlocks, hml, hown, hts, hK⟩ := id C
  intro x4 t0 h H locs ls hl hP hS hf
  rw [f_X9_takeSets_37] at hf
  refine lv_istore_n (lv' := [(3, .int t0), (0, .ref (gB G 66)), (1, .int x1), (4, .int x4)]) hx hb dX9_takeSets_37 rfl hl (by decide) rfl (fun ls hl => ?_)
  refine lv_iload_n hx hb dX9_takeSets_38 rfl (lv_at hl 0 rfl) ?_
  refine lv_if_le (tgt := 44) hx hb dX9_takeSets_39 (by decide) (fun c39 => ?_) (fun c39 => ?_)
  · replace hf := if_t c39 hf
    refine lv_aload_n hx hb dX9_takeSets_44 rfl (lv_at hl 1 rfl) ?_
    refine r_get (a := 66) (v := .ref (gB G 82)) (C := RX9) (T := TX9) (N := 55) hx hb hts hinX9 hown hK hP (ltX9 rfl) (ceX9 rfl) rfl 28 (by decide) wd1063 rfl dX9_takeSets_45 ?_
    refine lv_bipush (v := 16) hx hb dX9_takeSets_48 (by decide) ?_
    refine lv_iload_n hx hb dX9_takeSets_50 rfl (lv_at hl 2 rfl) ?_
    refine lv_imul hx hb dX9_takeSets_51 ?_
    refine lv_iload hx hb dX9_takeSets_52 (lv_at hl 3 rfl) ?_
    refine lv_iadd hx hb dX9_takeSets_54 ?_
    refine lv_aload_n hx hb dX9_takeSets_55 rfl (lv_at hl 1 rfl) ?_
    refine r_get (a := 66) (v := .int (h.1 66 25)) (C := RX9) (T := TX9) (N := 55) hx hb hts hinX9 hown hK hP (ltX9 rfl) (ceX9 rfl) rfl 25 (by decide) wd1060 rfl dX9_takeSets_56 ?_
    obtain ⟨h59, eh59, hf⟩ := bO_s hf
    refine r_iast hG hx hb hK hP hS (arX9_28 rfl) eh59 dX9_takeSets_59 (fun H locs hP hS => ?_)
    refine lv_aload_n hx hb dX9_takeSets_60 rfl (lv_at hl 1 rfl) ?_
    obtain ⟨r61, h61, er61, hf⟩ := bP_s hf
    refine r_callI (va_runV (As := []) (rest := []) ⟨hx, hb, hml, hown, hts⟩ (k_X9_isComma l hG er61) (cwV 0 hts (gV wd1263 wd1265 wd35 wd82 wd1266) rfl rfl rfl (by decide +kernel) ⟨Nat.le_of_ble_eq_true rfl, Nat.le_of_ble_eq_true rfl⟩) (r_pv hK hP hS (ltX9 rfl) (ceX9 rfl) rfl) rfl rfl hl.1 rfl (lv_room (Nat.le_of_ble_eq_true rfl)) dX9_takeSets_61 ⟨Nat.le_of_ble_eq_true rfl, Nat.le_of_ble_eq_true rfl⟩) hS (fun H locs hP hS => ?_)
    refine lv_istore_n (lv' := [(2, .int r61), (3, .int t0), (0, .ref (gB G 66)), (1, .int x1), (4, .int x4)]) hx hb dX9_takeSets_64 rfl hl (by decide) rfl (fun ls hl => ?_)
    refine lv_goto (tgt := 7) hx hb dX9_takeSets_65 (by decide) ?_
    exact hk7 r61 h61 _ _ _ (lv_sub hl [2, 3, 0] rfl) hP hS hf
  · replace hf := if_f c39 hf
    refine lv_iload_n hx hb dX9_takeSets_42 rfl (lv_at hl 0 rfl) ?_
    exact r_iret hx hb hr hlocks hP hS (re2 (Option.some.inj hf)) dX9_takeSets_43
def f_X9_takeSets_7 (x1 : Int32) : Nat → Int32 → PH → Option (Int32 × PH)
  | 0, _, _ => none
  | n + 1, x2, h => if x2 = 0 then (some (0, h)) else (bP (f_X9_takeSlot h) (fun r12 h12 => lt' ((h12.1 66 25)) (fun x4_20 => if r12 ≤ 0 then (bP (f_X9_takeNumber 1 99 h12) (fun r34 h34 => f_X9_takeSets_37 x1 (f_X9_takeSets_7 x1 n) x4_20 r34 h34)) else (f_X9_takeSets_37 x1 (f_X9_takeSets_7 x1 n) x4_20 r12 h12))))
set_option maxHeartbeats 4000000 in
set_option maxRecDepth 100000 in
theorem w_X9_takeSets_7 {l : Launch} {G : GC} (hG : GOK G) {rr : Int32} {hh : PH} {p : Program} {e : Env} {s : State} {m : MethodId} {args : Array Value} {below : List Frame} {meth : Method} {c : Code} (C : MC l G p s m args meth c RX9 cX9_takeSets 5 (some .int)) (x1 : Int32) : ∀ (n : Nat) (x2 : Int32) (h : PH) (H : Heap) (locs : List Loc) (ls : Array Slot), lv_has ls 5 [(0, .ref (gB G 66)), (1, .int x1), (2, .int x2)] → WP G h H → SP G s H locs → f_X9_takeSets_7 x1 n x2 h = some (rr, hh) → W p l e rmX9_takeSets s m args below meth c H locs 0 0 (MQ below (QI G rr hh) args s 0 0 (gA G)) (F0 m 7 ls []) := by
  obtain ⟨hx, hb, hr, hlocks, hml, hown, hts, hK⟩ := id C
  intro n
  induction n with
  | zero => intro x2 h H locs ls hl hP hS hf; rw [f_X9_takeSets_7] at hf; cases hf
  | succ n ih =>
    intro x2 h H locs ls hl hP hS hf
    rw [f_X9_takeSets_7] at hf
    refine lv_iload_n hx hb dX9_takeSets_7 rfl (lv_at hl 2 rfl) ?_
    refine lv_if_eq (tgt := 68) hx hb dX9_takeSets_8 (by decide) (fun c8 => ?_) (fun c8 => ?_)
    · replace hf := if_t c8 hf
      refine lv_iconst (v := 0) hx hb dX9_takeSets_68 (by decide) ?_
      exact r_iret hx hb hr hlocks hP hS (re2 (Option.some.inj hf)) dX9_takeSets_69
    · replace hf := if_f c8 hf
      refine lv_aload_n hx hb dX9_takeSets_11 rfl (lv_at hl 0 rfl) ?_
      obtain ⟨r12, h12, er12, hf⟩ := bP_s hf
      refine r_callI (va_runV (As := []) (rest := []) ⟨hx, hb, hml, hown, hts⟩ (k_X9_takeSlot l hG er12) (cwV 0 hts (gV wd1250 wd1252 wd33 wd82 wd1253) rfl rfl rfl (by decide +kernel) ⟨Nat.le_of_ble_eq_true rfl, Nat.le_of_ble_eq_true rfl⟩) (r_pv hK hP hS (ltX9 rfl) (ceX9 rfl) rfl) rfl rfl hl.1 rfl (lv_room (Nat.le_of_ble_eq_true rfl)) dX9_takeSets_12 ⟨Nat.le_of_ble_eq_true rfl, Nat.le_of_ble_eq_true rfl⟩) hS (fun H locs hP hS => ?_)
      refine lv_istore_n (lv' := [(3, .int r12), (0, .ref (gB G 66)), (1, .int x1), (2, .int x2)]) hx hb dX9_takeSets_15 rfl hl (by decide) rfl (fun ls hl => ?_)
      refine lv_aload_n hx hb dX9_takeSets_16 rfl (lv_at hl 1 rfl) ?_
      refine r_get (a := 66) (v := .int (h12.1 66 25)) (C := RX9) (T := TX9) (N := 55) hx hb hts hinX9 hown hK hP (ltX9 rfl) (ceX9 rfl) rfl 25 (by decide) wd1060 rfl dX9_takeSets_17 ?_
      refine lv_topi (fun x4_20 ex4_20 => ?_)
      replace hf := lt_at ex4_20 hf
      refine lv_istore (lv' := [(4, .int x4_20), (3, .int r12), (0, .ref (gB G 66)), (1, .int x1), (2, .int x2)]) hx hb dX9_takeSets_20 hl (by decide) rfl (fun ls hl => ?_)
      refine lv_iload_n hx hb dX9_takeSets_22 rfl (lv_at hl 1 rfl) ?_
      refine lv_if_le (tgt := 30) hx hb dX9_takeSets_23 (by decide) (fun c23 => ?_) (fun c23 => ?_)
      · replace hf := if_t c23 hf
        refine lv_aload_n hx hb dX9_takeSets_30 rfl (lv_at hl 2 rfl) ?_
        refine lv_iconst (v := 1) hx hb dX9_takeSets_31 (by decide) ?_
        refine lv_bipush (v := 99) hx hb dX9_takeSets_32 (by decide) ?_
        obtain ⟨r34, h34, er34, hf⟩ := bP_s hf
        refine r_callI (va_runV (As := [.int 1, .int 99]) (rest := []) ⟨hx, hb, hml, hown, hts⟩ (k_X9_takeNumber l hG er34) (cwV 2 hts (gV wd1254 wd1256 wd34 wd82 wd1257) rfl rfl rfl (by decide +kernel) ⟨Nat.le_of_ble_eq_true rfl, Nat.le_of_ble_eq_true rfl⟩) (r_pv hK hP hS (ltX9 rfl) (ceX9 rfl) rfl) rfl rfl hl.1 rfl (lv_room (Nat.le_of_ble_eq_true rfl)) dX9_takeSets_34 ⟨Nat.le_of_ble_eq_true rfl, Nat.le_of_ble_eq_true rfl⟩) hS (fun H locs hP hS => ?_)
        exact w_X9_takeSets_37 hG C x1 (f_X9_takeSets_7 x1 n) ih x4_20 r34 h34 _ _ _ (lv_sub hl [2, 3, 0] rfl) hP hS hf
      · replace hf := if_f c23 hf
        refine lv_iload_n hx hb dX9_takeSets_26 rfl (lv_at hl 1 rfl) ?_
        refine lv_goto (tgt := 37) hx hb dX9_takeSets_27 (by decide) ?_
        exact w_X9_takeSets_37 hG C x1 (f_X9_takeSets_7 x1 n) ih x4_20 r12 h12 _ _ _ (lv_sub hl [2, 3, 0] rfl) hP hS hf
def f_X9_takeSets (x1 : Int32) (h : PH) : Option (Int32 × PH) := lt' (hU h 66 35 0) (fun h2 => f_X9_takeSets_7 x1 FU 1 h2)
set_option maxHeartbeats 4000000 in
set_option maxRecDepth 100000 in
theorem k_X9_takeSets (l : Launch) {G : GC} (hG : GOK G) {x1 : Int32} {rr : Int32} {h hh : PH} (hf : f_X9_takeSets x1 h = some (rr, hh)) : CI l yX9_takeSets vX9_takeSets rmX9_takeSets G [.ref (gB G 66), .int x1] h rr hh := by
  refine Met.ofW (cc := cX9_takeSets) (maxL := 5) (ret := (some .int)) (by decide +kernel) rfl ?_
  intro p e s m args below meth c s₁ B hml hv
  obtain ⟨rfl, hP, hK⟩ := hv
  have C : MC l G p s m _ meth c RX9 cX9_takeSets 5 (some .int) := ⟨B.exec, B.bytes, B.returns, B.notSynchronized, hml, findClass_of_methodNamed B.named, fun w hw => atoms_spec (ws := vX9_takeSets) B.pre w (List.mem_cons_of_mem _ hw), hK⟩
  obtain ⟨hx, hb, hr, hlocks, -, hown, hts, -⟩ := id C
  have hl := lv_entry ([.ref (gB G 66), .int x1]) (n := 5) (Nat.le_of_ble_eq_true rfl)
  rw [lg_entry_eq]
  generalize (lg_sl ([.ref (gB G 66), .int x1]) ++ List.replicate (5 - (lg_sl ([.ref (gB G 66), .int x1])).length) Slot.unset).toArray = ls at hl ⊢
  have hl : lv_has ls 5 [(0, .ref (gB G 66)), (1, .int x1)] := hl
  have hS : SP G s s.heap [] := va_S.rf
  replace hP : WP G h s.heap := hP
  rw [f_X9_takeSets] at hf
  refine lv_aload_n hx hb dX9_takeSets_0 rfl (lv_at hl 0 rfl) ?_
  refine lv_iconst (v := 0) hx hb dX9_takeSets_1 (by decide) ?_
  obtain ⟨h2, eh2⟩ : ∃ y, y = hU h 66 35 0 := ⟨_, rfl⟩
  replace hf := lt_at eh2 hf
  refine r_put (a := 66) (v := .int 0) (ty := .int) (h' := h2) (C := RX9) (T := TX9) (N := 55) hG hx hb hts hinX9 tyX9 tyX9_ok nmX9 hown hK hP hS (ltX9 rfl) (ceX9 rfl) rfl 35 (by decide) wd1070 rfl (by decide +kernel) rfl rfl (Nat.le_of_ble_eq_true rfl) (by rw [eh2]; exact fun j hj => cE_U hj) (by rw [eh2]; exact puX9_35 rfl _) dX9_takeSets_2 (fun H locs hP hS => ?_)
  refine lv_iconst (v := 1) hx hb dX9_takeSets_5 (by decide) ?_
  refine lv_istore_n (lv' := [(2, .int 1), (0, .ref (gB G 66)), (1, .int x1)]) hx hb dX9_takeSets_6 rfl hl (by decide) rfl (fun ls hl => ?_)
  exact w_X9_takeSets_7 hG C x1 FU 1 h2 _ _ _ (lv_sub hl [1, 2, 0] rfl) hP hS hf
/-! CarriedBackModel.takeReads(I)I -/
abbrev rmX9_takeReads : Room := { frames := 3, cells := 0, slots := 0, locals := 69 }
abbrev vX9_takeReads : List Cond := Cond.code yX9_takeReads cX9_takeReads 4 (some .int) :: GW
def f_X9_takeReads_7 (x1 : Int32) : Nat → Int32 → PH → Option (Int32 × PH)
  | 0, _, _ => none
  | n + 1, x2, h => if x2 = 0 then (bO (asg h 83 24 x1 (h.1 66 35)) (fun h39 => some (0, h39))) else (bP (f_X9_takeSlot h) (fun r12 h12 => if r12 ≤ 0 then (bP (f_X9_isComma h12) (fun r23 h23 => (f_X9_takeReads_7 x1 n) r23 h23)) else (some (r12, h12))))
set_option maxHeartbeats 4000000 in
set_option maxRecDepth 100000 in
theorem w_X9_takeReads_7 {l : Launch} {G : GC} (hG : GOK G) {rr : Int32} {hh : PH} {p : Program} {e : Env} {s : State} {m : MethodId} {args : Array Value} {below : List Frame} {meth : Method} {c : Code} (C : MC l G p s m args meth c RX9 cX9_takeReads 4 (some .int)) (x1 : Int32) : ∀ (n : Nat) (x2 : Int32) (h : PH) (H : Heap) (locs : List Loc) (ls : Array Slot), lv_has ls 4 [(0, .ref (gB G 66)), (1, .int x1), (2, .int x2)] → WP G h H → SP G s H locs → f_X9_takeReads_7 x1 n x2 h = some (rr, hh) → W p l e rmX9_takeReads s m args below meth c H locs 0 0 (MQ below (QI G rr hh) args s 0 0 (gA G)) (F0 m 7 ls []) := by
  obtain ⟨hx, hb, hr, hlocks, hml, hown, hts, hK⟩ := id C
  intro n
  induction n with
  | zero => intro x2 h H locs ls hl hP hS hf; rw [f_X9_takeReads_7] at hf; cases hf
  | succ n ih =>
    intro x2 h H locs ls hl hP hS hf
    rw [f_X9_takeReads_7] at hf
    refine lv_iload_n hx hb dX9_takeReads_7 rfl (lv_at hl 2 rfl) ?_
    refine lv_if_eq (tgt := 30) hx hb dX9_takeReads_8 (by decide) (fun c8 => ?_) (fun c8 => ?_)
    · replace hf := if_t c8 hf
      refine lv_aload_n hx hb dX9_takeReads_30 rfl (lv_at hl 0 rfl) ?_
      refine r_get (a := 66) (v := .ref (gB G 83)) (C := RX9) (T := TX9) (N := 55) hx hb hts hinX9 hown hK hP (ltX9 rfl) (ceX9 rfl) rfl 29 (by decide) wd1064 rfl dX9_takeReads_31 ?_
      refine lv_iload_n hx hb dX9_takeReads_34 rfl (lv_at hl 1 rfl) ?_
      refine lv_aload_n hx hb dX9_takeReads_35 rfl (lv_at hl 0 rfl) ?_
      refine r_get (a := 66) (v := .int (h.1 66 35)) (C := RX9) (T := TX9) (N := 55) hx hb hts hinX9 hown hK hP (ltX9 rfl) (ceX9 rfl) rfl 35 (by decide) wd1070 rfl dX9_takeReads_36 ?_
      obtain ⟨h39, eh39, hf⟩ := bO_s hf
      refine r_iast hG hx hb hK hP hS (arX9_29 rfl) eh39 dX9_takeReads_39 (fun H locs hP hS => ?_)
      refine lv_iconst (v := 0) hx hb dX9_takeReads_40 (by decide) ?_
      exact r_iret hx hb hr hlocks hP hS (re2 (Option.some.inj hf)) dX9_takeReads_41
    · replace hf := if_f c8 hf
      refine lv_aload_n hx hb dX9_takeReads_11 rfl (lv_at hl 0 rfl) ?_
      obtain ⟨r12, h12, er12, hf⟩ := bP_s hf
      refine r_callI (va_runV (As := []) (rest := []) ⟨hx, hb, hml, hown, hts⟩ (k_X9_takeSlot l hG er12) (cwV 0 hts (gV wd1250 wd1252 wd33 wd82 wd1253) rfl rfl rfl (by decide +kernel) ⟨Nat.le_of_ble_eq_true rfl, Nat.le_of_ble_eq_true rfl⟩) (r_pv hK hP hS (ltX9 rfl) (ceX9 rfl) rfl) rfl rfl hl.1 rfl (lv_room (Nat.le_of_ble_eq_true rfl)) dX9_takeReads_12 ⟨Nat.le_of_ble_eq_true rfl, Nat.le_of_ble_eq_true rfl⟩) hS (fun H locs hP hS => ?_)
      refine lv_istore_n (lv' := [(3, .int r12), (0, .ref (gB G 66)), (1, .int x1), (2, .int x2)]) hx hb dX9_takeReads_15 rfl hl (by decide) rfl (fun ls hl => ?_)
      refine lv_iload_n hx hb dX9_takeReads_16 rfl (lv_at hl 0 rfl) ?_
      refine lv_if_le (tgt := 22) hx hb dX9_takeReads_17 (by decide) (fun c17 => ?_) (fun c17 => ?_)
      · replace hf := if_t c17 hf
        refine lv_aload_n hx hb dX9_takeReads_22 rfl (lv_at hl 1 rfl) ?_
        obtain ⟨r23, h23, er23, hf⟩ := bP_s hf
        refine r_callI (va_runV (As := []) (rest := []) ⟨hx, hb, hml, hown, hts⟩ (k_X9_isComma l hG er23) (cwV 0 hts (gV wd1263 wd1265 wd35 wd82 wd1266) rfl rfl rfl (by decide +kernel) ⟨Nat.le_of_ble_eq_true rfl, Nat.le_of_ble_eq_true rfl⟩) (r_pv hK hP hS (ltX9 rfl) (ceX9 rfl) rfl) rfl rfl hl.1 rfl (lv_room (Nat.le_of_ble_eq_true rfl)) dX9_takeReads_23 ⟨Nat.le_of_ble_eq_true rfl, Nat.le_of_ble_eq_true rfl⟩) hS (fun H locs hP hS => ?_)
        refine lv_istore_n (lv' := [(2, .int r23), (3, .int r12), (0, .ref (gB G 66)), (1, .int x1)]) hx hb dX9_takeReads_26 rfl hl (by decide) rfl (fun ls hl => ?_)
        refine lv_goto (tgt := 7) hx hb dX9_takeReads_27 (by decide) ?_
        exact ih r23 h23 _ _ _ (lv_sub hl [2, 3, 0] rfl) hP hS hf
      · replace hf := if_f c17 hf
        refine lv_iload_n hx hb dX9_takeReads_20 rfl (lv_at hl 0 rfl) ?_
        exact r_iret hx hb hr hlocks hP hS (re2 (Option.some.inj hf)) dX9_takeReads_21
def f_X9_takeReads (x1 : Int32) (h : PH) : Option (Int32 × PH) := lt' (hU h 66 35 0) (fun h2 => f_X9_takeReads_7 x1 FU 1 h2)
set_option maxHeartbeats 4000000 in
set_option maxRecDepth 100000 in
theorem k_X9_takeReads (l : Launch) {G : GC} (hG : GOK G) {x1 : Int32} {rr : Int32} {h hh : PH} (hf : f_X9_takeReads x1 h = some (rr, hh)) : CI l yX9_takeReads vX9_takeReads rmX9_takeReads G [.ref (gB G 66), .int x1] h rr hh := by
  refine Met.ofW (cc := cX9_takeReads) (maxL := 4) (ret := (some .int)) (by decide +kernel) rfl ?_
  intro p e s m args below meth c s₁ B hml hv
  obtain ⟨rfl, hP, hK⟩ := hv
  have C : MC l G p s m _ meth c RX9 cX9_takeReads 4 (some .int) := ⟨B.exec, B.bytes, B.returns, B.notSynchronized, hml, findClass_of_methodNamed B.named, fun w hw => atoms_spec (ws := vX9_takeReads) B.pre w (List.mem_cons_of_mem _ hw), hK⟩
  obtain ⟨hx, hb, hr, hlocks, -, hown, hts, -⟩ := id C
  have hl := lv_entry ([.ref (gB G 66), .int x1]) (n := 4) (Nat.le_of_ble_eq_true rfl)
  rw [lg_entry_eq]
  generalize (lg_sl ([.ref (gB G 66), .int x1]) ++ List.replicate (4 - (lg_sl ([.ref (gB G 66), .int x1])).length) Slot.unset).toArray = ls at hl ⊢
  have hl : lv_has ls 4 [(0, .ref (gB G 66)), (1, .int x1)] := hl
  have hS : SP G s s.heap [] := va_S.rf
  replace hP : WP G h s.heap := hP
  rw [f_X9_takeReads] at hf
  refine lv_aload_n hx hb dX9_takeReads_0 rfl (lv_at hl 0 rfl) ?_
  refine lv_iconst (v := 0) hx hb dX9_takeReads_1 (by decide) ?_
  obtain ⟨h2, eh2⟩ : ∃ y, y = hU h 66 35 0 := ⟨_, rfl⟩
  replace hf := lt_at eh2 hf
  refine r_put (a := 66) (v := .int 0) (ty := .int) (h' := h2) (C := RX9) (T := TX9) (N := 55) hG hx hb hts hinX9 tyX9 tyX9_ok nmX9 hown hK hP hS (ltX9 rfl) (ceX9 rfl) rfl 35 (by decide) wd1070 rfl (by decide +kernel) rfl rfl (Nat.le_of_ble_eq_true rfl) (by rw [eh2]; exact fun j hj => cE_U hj) (by rw [eh2]; exact puX9_35 rfl _) dX9_takeReads_2 (fun H locs hP hS => ?_)
  refine lv_iconst (v := 1) hx hb dX9_takeReads_5 (by decide) ?_
  refine lv_istore_n (lv' := [(2, .int 1), (0, .ref (gB G 66)), (1, .int x1)]) hx hb dX9_takeReads_6 rfl hl (by decide) rfl (fun ls hl => ?_)
  exact w_X9_takeReads_7 hG C x1 FU 1 h2 _ _ _ (lv_sub hl [1, 2, 0] rfl) hP hS hf
/-! CarriedBackModel.takeChange(I)I -/
abbrev rmX9_takeChange : Room := { frames := 4, cells := 0, slots := 0, locals := 93 }
abbrev vX9_takeChange : List Cond := Cond.code yX9_takeChange cX9_takeChange 6 (some .int) :: GW
def f_X9_takeChange_243 (x2 : Int32) (k63 : Int32 → PH → Option (Int32 × PH)) (x3 : Int32) (t1 : Int32) (t2 : Int32) (h : PH) : Option (Int32 × PH) := bO (asg h 84 24 t1 t2) (fun h243 => k63 x3 h243)
set_option maxHeartbeats 4000000 in
set_option maxRecDepth 100000 in
theorem w_X9_takeChange_243 {l : Launch} {G : GC} (hG : GOK G) {rr : Int32} {hh : PH} {p : Program} {e : Env} {s : State} {m : MethodId} {args : Array Value} {below : List Frame} {meth : Method} {c : Code} (C : MC l G p s m args meth c RX9 cX9_takeChange 6 (some .int)) (x2 : Int32) (k63 : Int32 → PH → Option (Int32 × PH)) (hk63 : ∀ (x3 : Int32) (h : PH) (H : Heap) (locs : List Loc) (ls : Array Slot), lv_has ls 6 [(0, .ref (gB G 66)), (2, .int x2), (3, .int x3)] → WP G h H → SP G s H locs → k63 x3 h = some (rr, hh) → W p l e rmX9_takeChange s m args below meth c H locs 0 0 (MQ below (QI G rr hh) args s 0 0 (gA G)) (F0 m 63 ls [])) : ∀ (x3 : Int32) (t1 : Int32) (t2 : Int32) (h : PH) (H : Heap) (locs : List Loc) (ls : Array Slot), lv_has ls 6 [(0, .ref (gB G 66)), (2, .int x2), (3, .int x3)] → WP G h H → SP G s H locs → f_X9_takeChange_243 x2 k63 x3 t1 t2 h = some (rr, hh) → W p l e rmX9_takeChange s m args below meth c H locs 0 0 (MQ below (QI G rr hh) args s 0 0 (gA G)) (F0 m 243 ls [.int t2, .int t1, .ref (gB G 84)]) := by
  obtain ⟨hx, hb, hr, hlocks, hml, hown, hts, hK⟩ := id C
  intro x3 t1 t2 h H locs ls hl hP hS hf
  rw [f_X9_takeChange_243] at hf
  obtain ⟨h243, eh243, hf⟩ := bO_s hf
  refine r_iast hG hx hb hK hP hS (arX9_30 rfl) eh243 dX9_takeChange_243 (fun H locs hP hS => ?_)
  refine lv_goto (tgt := 63) hx hb dX9_takeChange_244 (by decide) ?_
  exact hk63 x3 h243 _ _ _ (lv_sub hl [0, 1, 2] rfl) hP hS hf
def f_X9_takeChange_214 (x2 : Int32) (k63 : Int32 → PH → Option (Int32 × PH)) (x3 : Int32) (x4 : Int32) (t0 : Int32) (h : PH) : Option (Int32 × PH) := if t0 ≤ 0 then (if x4 = 2 then (f_X9_takeChange_243 x2 k63 x3 x2 (h.1 66 25) h) else (f_X9_takeChange_243 x2 k63 x3 x2 0 h)) else (some (t0, h))
set_option maxHeartbeats 4000000 in
set_option maxRecDepth 100000 in
theorem w_X9_takeChange_214 {l : Launch} {G : GC} (hG : GOK G) {rr : Int32} {hh : PH} {p : Program} {e : Env} {s : State} {m : MethodId} {args : Array Value} {below : List Frame} {meth : Method} {c : Code} (C : MC l G p s m args meth c RX9 cX9_takeChange 6 (some .int)) (x2 : Int32) (k63 : Int32 → PH → Option (Int32 × PH)) (hk63 : ∀ (x3 : Int32) (h : PH) (H : Heap) (locs : List Loc) (ls : Array Slot), lv_has ls 6 [(0, .ref (gB G 66)), (2, .int x2), (3, .int x3)] → WP G h H → SP G s H locs → k63 x3 h = some (rr, hh) → W p l e rmX9_takeChange s m args below meth c H locs 0 0 (MQ below (QI G rr hh) args s 0 0 (gA G)) (F0 m 63 ls [])) : ∀ (x3 : Int32) (x4 : Int32) (t0 : Int32) (h : PH) (H : Heap) (locs : List Loc) (ls : Array Slot), lv_has ls 6 [(0, .ref (gB G 66)), (2, .int x2), (3, .int x3), (4, .int x4)] → WP G h H → SP G s H locs → f_X9_takeChange_214 x2 k63 x3 x4 t0 h = some (rr, hh) → W p l e rmX9_takeChange s m args below meth c H locs 0 0 (MQ below (QI G rr hh) args s 0 0 (gA G)) (F0 m 214 ls [.int t0]) := by
  obtain ⟨hx, hb, hr, hlocks, hml, hown, hts, hK⟩ := id C
  intro x3 x4 t0 h H locs ls hl hP hS hf
  rw [f_X9_takeChange_214] at hf
  refine lv_istore (lv' := [(5, .int t0), (0, .ref (gB G 66)), (2, .int x2), (3, .int x3), (4, .int x4)]) hx hb dX9_takeChange_214 hl (by decide) rfl (fun ls hl => ?_)
  refine lv_iload hx hb dX9_takeChange_216 (lv_at hl 0 rfl) ?_
  refine lv_if_le (tgt := 224) hx hb dX9_takeChange_218 (by decide) (fun c218 => ?_) (fun c218 => ?_)
  · replace hf := if_t c218 hf
    refine lv_aload_n hx hb dX9_takeChange_224 rfl (lv_at hl 1 rfl) ?_
    refine r_get (a := 66) (v := .ref (gB G 84)) (C := RX9) (T := TX9) (N := 55) hx hb hts hinX9 hown hK hP (ltX9 rfl) (ceX9 rfl) rfl 30 (by decide) wd1065 rfl dX9_takeChange_225 ?_
    refine lv_iload_n hx hb dX9_takeChange_228 rfl (lv_at hl 2 rfl) ?_
    refine lv_iload hx hb dX9_takeChange_229 (lv_at hl 4 rfl) ?_
    refine lv_iconst (v := 2) hx hb dX9_takeChange_231 (by decide) ?_
    refine lv_icmp_ne (tgt := 242) hx hb dX9_takeChange_232 (by decide) (fun c232 => ?_) (fun c232 => ?_)
    · replace hf := if_f c232 hf
      refine lv_iconst (v := 0) hx hb dX9_takeChange_242 (by decide) ?_
      exact w_X9_takeChange_243 hG C x2 k63 hk63 x3 x2 0 h _ _ _ (lv_sub hl [1, 2, 3] rfl) hP hS hf
    · replace hf := if_t c232 hf
      refine lv_aload_n hx hb dX9_takeChange_235 rfl (lv_at hl 1 rfl) ?_
      refine r_get (a := 66) (v := .int (h.1 66 25)) (C := RX9) (T := TX9) (N := 55) hx hb hts hinX9 hown hK hP (ltX9 rfl) (ceX9 rfl) rfl 25 (by decide) wd1060 rfl dX9_takeChange_236 ?_
      refine lv_goto (tgt := 243) hx hb dX9_takeChange_239 (by decide) ?_
      exact w_X9_takeChange_243 hG C x2 k63 hk63 x3 x2 (h.1 66 25) h _ _ _ (lv_sub hl [1, 2, 3] rfl) hP hS hf
  · replace hf := if_f c218 hf
    refine lv_iload hx hb dX9_takeChange_221 (lv_at hl 0 rfl) ?_
    exact r_iret hx hb hr hlocks hP hS (re2 (Option.some.inj hf)) dX9_takeChange_223
def f_X9_takeChange_151 (x2 : Int32) (k63 : Int32 → PH → Option (Int32 × PH)) (x3 : Int32) (t0 : Int32) (h : PH) : Option (Int32 × PH) := if x3 < t0 then (lt' (hU h 66 21 (h.1 66 24)) (fun h177 => if t0 = 0 then (bP (f_X9_takeSets x2 h177) (fun r187 h187 => f_X9_takeChange_214 x2 k63 t0 t0 r187 h187)) else (if t0 = 1 then (bP (f_X9_takeReads x2 h177) (fun r201 h201 => f_X9_takeChange_214 x2 k63 t0 t0 r201 h201)) else (bP (f_X9_takeNumber 0 9 h177) (fun r211 h211 => f_X9_takeChange_214 x2 k63 t0 t0 r211 h211))))) else (bP (f_X9_breaks 1 (h.1 66 21) h) (fun r165 h165 => some (r165, h165)))
set_option maxHeartbeats 4000000 in
set_option maxRecDepth 100000 in
theorem w_X9_takeChange_151 {l : Launch} {G : GC} (hG : GOK G) {rr : Int32} {hh : PH} {p : Program} {e : Env} {s : State} {m : MethodId} {args : Array Value} {below : List Frame} {meth : Method} {c : Code} (C : MC l G p s m args meth c RX9 cX9_takeChange 6 (some .int)) (x2 : Int32) (k63 : Int32 → PH → Option (Int32 × PH)) (hk63 : ∀ (x3 : Int32) (h : PH) (H : Heap) (locs : List Loc) (ls : Array Slot), lv_has ls 6 [(0, .ref (gB G 66)), (2, .int x2), (3, .int x3)] → WP G h H → SP G s H locs → k63 x3 h = some (rr, hh) → W p l e rmX9_takeChange s m args below meth c H locs 0 0 (MQ below (QI G rr hh) args s 0 0 (gA G)) (F0 m 63 ls [])) : ∀ (x3 : Int32) (t0 : Int32) (h : PH) (H : Heap) (locs : List Loc) (ls : Array Slot), lv_has ls 6 [(0, .ref (gB G 66)), (2, .int x2), (3, .int x3)] → WP G h H → SP G s H locs → f_X9_takeChange_151 x2 k63 x3 t0 h = some (rr, hh) → W p l e rmX9_takeChange s m args below meth c H locs 0 0 (MQ below (QI G rr hh) args s 0 0 (gA G)) (F0 m 151 ls [.int t0]) := by
  obtain ⟨hx, hb, hr, hlocks, hml, hown, hts, hK⟩ := id C
  intro x3 t0 h H locs ls hl hP hS hf
  rw [f_X9_takeChange_151] at hf
  refine lv_istore (lv' := [(4, .int t0), (0, .ref (gB G 66)), (2, .int x2), (3, .int x3)]) hx hb dX9_takeChange_151 hl (by decide) rfl (fun ls hl => ?_)
  refine lv_iload hx hb dX9_takeChange_153 (lv_at hl 0 rfl) ?_
  refine lv_iload_n hx hb dX9_takeChange_155 rfl (lv_at hl 3 rfl) ?_
  refine lv_icmp_gt (tgt := 169) hx hb dX9_takeChange_156 (by decide) (fun c156 => ?_) (fun c156 => ?_)
  · replace hf := if_t c156 hf
    refine lv_iload hx hb dX9_takeChange_169 (lv_at hl 0 rfl) ?_
    refine lv_istore_n (lv' := [(3, .int t0), (4, .int t0), (0, .ref (gB G 66)), (2, .int x2)]) hx hb dX9_takeChange_171 rfl hl (by decide) rfl (fun ls hl => ?_)
    refine lv_aload_n hx hb dX9_takeChange_172 rfl (lv_at hl 2 rfl) ?_
    refine lv_aload_n hx hb dX9_takeChange_173 rfl (lv_at hl 2 rfl) ?_
    refine r_get (a := 66) (v := .int (h.1 66 24)) (C := RX9) (T := TX9) (N := 55) hx hb hts hinX9 hown hK hP (ltX9 rfl) (ceX9 rfl) rfl 24 (by decide) wd1059 rfl dX9_takeChange_174 ?_
    obtain ⟨h177, eh177⟩ : ∃ y, y = hU h 66 21 (h.1 66 24) := ⟨_, rfl⟩
    replace hf := lt_at eh177 hf
    refine r_put (a := 66) (v := .int (h.1 66 24)) (ty := .int) (h' := h177) (C := RX9) (T := TX9) (N := 55) hG hx hb hts hinX9 tyX9 tyX9_ok nmX9 hown hK hP hS (ltX9 rfl) (ceX9 rfl) rfl 21 (by decide) wd1056 rfl (by decide +kernel) rfl rfl (Nat.le_of_ble_eq_true rfl) (by rw [eh177]; exact fun j hj => cE_U hj) (by rw [eh177]; exact puX9_21 rfl _) dX9_takeChange_177 (fun H locs hP hS => ?_)
    refine lv_iload hx hb dX9_takeChange_180 (lv_at hl 1 rfl) ?_
    refine lv_if_ne (tgt := 193) hx hb dX9_takeChange_182 (by decide) (fun c182 => ?_) (fun c182 => ?_)
    · replace hf := if_f c182 hf
      refine lv_iload hx hb dX9_takeChange_193 (lv_at hl 1 rfl) ?_
      refine lv_iconst (v := 1) hx hb dX9_takeChange_195 (by decide) ?_
      refine lv_icmp_ne (tgt := 207) hx hb dX9_takeChange_196 (by decide) (fun c196 => ?_) (fun c196 => ?_)
      · replace hf := if_f c196 hf
        refine lv_aload_n hx hb dX9_takeChange_207 rfl (lv_at hl 2 rfl) ?_
        refine lv_iconst (v := 0) hx hb dX9_takeChange_208 (by decide) ?_
        refine lv_bipush (v := 9) hx hb dX9_takeChange_209 (by decide) ?_
        obtain ⟨r211, h211, er211, hf⟩ := bP_s hf
        refine r_callI (va_runV (As := [.int 0, .int 9]) (rest := []) ⟨hx, hb, hml, hown, hts⟩ (k_X9_takeNumber l hG er211) (cwV 2 hts (gV wd1254 wd1256 wd34 wd82 wd1257) rfl rfl rfl (by decide +kernel) ⟨Nat.le_of_ble_eq_true rfl, Nat.le_of_ble_eq_true rfl⟩) (r_pv hK hP hS (ltX9 rfl) (ceX9 rfl) rfl) rfl rfl hl.1 rfl (lv_room (Nat.le_of_ble_eq_true rfl)) dX9_takeChange_211 ⟨Nat.le_of_ble_eq_true rfl, Nat.le_of_ble_eq_true rfl⟩) hS (fun H locs hP hS => ?_)
        exact w_X9_takeChange_214 hG C x2 k63 hk63 t0 t0 r211 h211 _ _ _ (lv_sub hl [2, 3, 0, 1] rfl) hP hS hf
      · replace hf := if_t c196 hf
        refine lv_aload_n hx hb dX9_takeChange_199 rfl (lv_at hl 2 rfl) ?_
        refine lv_iload_n hx hb dX9_takeChange_200 rfl (lv_at hl 3 rfl) ?_
        obtain ⟨r201, h201, er201, hf⟩ := bP_s hf
        refine r_callI (va_runV (As := [.int x2]) (rest := []) ⟨hx, hb, hml, hown, hts⟩ (k_X9_takeReads l hG er201) (cwV 1 hts (gV wd1267 wd1269 wd36 wd82 wd1270) rfl rfl rfl (by decide +kernel) ⟨Nat.le_of_ble_eq_true rfl, Nat.le_of_ble_eq_true rfl⟩) (r_pv hK hP hS (ltX9 rfl) (ceX9 rfl) rfl) rfl rfl hl.1 rfl (lv_room (Nat.le_of_ble_eq_true rfl)) dX9_takeChange_201 ⟨Nat.le_of_ble_eq_true rfl, Nat.le_of_ble_eq_true rfl⟩) hS (fun H locs hP hS => ?_)
        refine lv_goto (tgt := 214) hx hb dX9_takeChange_204 (by decide) ?_
        exact w_X9_takeChange_214 hG C x2 k63 hk63 t0 t0 r201 h201 _ _ _ (lv_sub hl [2, 3, 0, 1] rfl) hP hS hf
    · replace hf := if_t c182 hf
      refine lv_aload_n hx hb dX9_takeChange_185 rfl (lv_at hl 2 rfl) ?_
      refine lv_iload_n hx hb dX9_takeChange_186 rfl (lv_at hl 3 rfl) ?_
      obtain ⟨r187, h187, er187, hf⟩ := bP_s hf
      refine r_callI (va_runV (As := [.int x2]) (rest := []) ⟨hx, hb, hml, hown, hts⟩ (k_X9_takeSets l hG er187) (cwV 1 hts (gV wd1246 wd1248 wd32 wd82 wd1249) rfl rfl rfl (by decide +kernel) ⟨Nat.le_of_ble_eq_true rfl, Nat.le_of_ble_eq_true rfl⟩) (r_pv hK hP hS (ltX9 rfl) (ceX9 rfl) rfl) rfl rfl hl.1 rfl (lv_room (Nat.le_of_ble_eq_true rfl)) dX9_takeChange_187 ⟨Nat.le_of_ble_eq_true rfl, Nat.le_of_ble_eq_true rfl⟩) hS (fun H locs hP hS => ?_)
      refine lv_goto (tgt := 214) hx hb dX9_takeChange_190 (by decide) ?_
      exact w_X9_takeChange_214 hG C x2 k63 hk63 t0 t0 r187 h187 _ _ _ (lv_sub hl [2, 3, 0, 1] rfl) hP hS hf
  · replace hf := if_f c156 hf
    refine lv_aload_n hx hb dX9_takeChange_159 rfl (lv_at hl 1 rfl) ?_
    refine lv_iconst (v := 1) hx hb dX9_takeChange_160 (by decide) ?_
    refine lv_aload_n hx hb dX9_takeChange_161 rfl (lv_at hl 1 rfl) ?_
    refine r_get (a := 66) (v := .int (h.1 66 21)) (C := RX9) (T := TX9) (N := 55) hx hb hts hinX9 hown hK hP (ltX9 rfl) (ceX9 rfl) rfl 21 (by decide) wd1056 rfl dX9_takeChange_162 ?_
    obtain ⟨r165, h165, er165, hf⟩ := bP_s hf
    refine r_callI (va_runV (As := [.int 1, .int (h.1 66 21)]) (rest := []) ⟨hx, hb, hml, hown, hts⟩ (k_X9_breaks l hG er165) (cwV 2 hts (gV wd1238 wd1240 wd30 wd82 wd1241) rfl rfl rfl (by decide +kernel) ⟨Nat.le_of_ble_eq_true rfl, Nat.le_of_ble_eq_true rfl⟩) (r_pv hK hP hS (ltX9 rfl) (ceX9 rfl) rfl) rfl rfl hl.1 rfl (lv_room (Nat.le_of_ble_eq_true rfl)) dX9_takeChange_165 ⟨Nat.le_of_ble_eq_true rfl, Nat.le_of_ble_eq_true rfl⟩) hS (fun H locs hP hS => ?_)
    exact r_iret hx hb hr hlocks hP hS (re2 (Option.some.inj hf)) dX9_takeChange_168
def f_X9_takeChange_63 (x2 : Int32) : Nat → Int32 → PH → Option (Int32 × PH)
  | 0, _, _ => none
  | n + 1, x3, h => bP (f_X9_here h) (fun r64 h64 => if r64 = 59 then (lt' (hU h64 66 27 ((h64.1 66 27) + 1)) (fun h254 => bP (f_X9_takeStop h254) (fun r258 h258 => some (r258, h258)))) else (bO (f_X9_readWord h64) (fun h73 => bO (f_X9_code 115 101 116 115) (fun r88 => if (lg_cmp h73.2 r88) = 0 then (f_X9_takeChange_151 x2 (f_X9_takeChange_63 x2 n) x3 0 h73) else (bO (f_X9_code 114 101 97 100) (fun r111 => bO (f_X9_longer r111 115) (fun r116 => if (lg_cmp h73.2 r116) = 0 then (f_X9_takeChange_151 x2 (f_X9_takeChange_63 x2 n) x3 1 h73) else (bO (f_X9_code 114 105 115 107) (fun r139 => if (lg_cmp h73.2 r139) = 0 then (f_X9_takeChange_151 x2 (f_X9_takeChange_63 x2 n) x3 2 h73) else (f_X9_takeChange_151 x2 (f_X9_takeChange_63 x2 n) x3 (-1) h73))))))))))
set_option maxHeartbeats 4000000 in
set_option maxRecDepth 100000 in
theorem w_X9_takeChange_63 {l : Launch} {G : GC} (hG : GOK G) {rr : Int32} {hh : PH} {p : Program} {e : Env} {s : State} {m : MethodId} {args : Array Value} {below : List Frame} {meth : Method} {c : Code} (C : MC l G p s m args meth c RX9 cX9_takeChange 6 (some .int)) (x2 : Int32) : ∀ (n : Nat) (x3 : Int32) (h : PH) (H : Heap) (locs : List Loc) (ls : Array Slot), lv_has ls 6 [(0, .ref (gB G 66)), (2, .int x2), (3, .int x3)] → WP G h H → SP G s H locs → f_X9_takeChange_63 x2 n x3 h = some (rr, hh) → W p l e rmX9_takeChange s m args below meth c H locs 0 0 (MQ below (QI G rr hh) args s 0 0 (gA G)) (F0 m 63 ls []) := by
  obtain ⟨hx, hb, hr, hlocks, hml, hown, hts, hK⟩ := id C
  intro n
  induction n with
  | zero => intro x3 h H locs ls hl hP hS hf; rw [f_X9_takeChange_63] at hf; cases hf
  | succ n ih =>
    intro x3 h H locs ls hl hP hS hf
    rw [f_X9_takeChange_63] at hf
    refine lv_aload_n hx hb dX9_takeChange_63 rfl (lv_at hl 0 rfl) ?_
    obtain ⟨r64, h64, er64, hf⟩ := bP_s hf
    refine r_callI (va_runV (As := []) (rest := []) ⟨hx, hb, hml, hown, hts⟩ (k_X9_here l hG er64) (cwV 0 hts (gV wd1214 wd1216 wd27 wd82 wd1217) rfl rfl rfl (by decide +kernel) ⟨Nat.le_of_ble_eq_true rfl, Nat.le_of_ble_eq_true rfl⟩) (r_pv hK hP hS (ltX9 rfl) (ceX9 rfl) rfl) rfl rfl hl.1 rfl (lv_room (Nat.le_of_ble_eq_true rfl)) dX9_takeChange_64 ⟨Nat.le_of_ble_eq_true rfl, Nat.le_of_ble_eq_true rfl⟩) hS (fun H locs hP hS => ?_)
    refine lv_bipush (v := 59) hx hb dX9_takeChange_67 (by decide) ?_
    refine lv_icmp_eq (tgt := 247) hx hb dX9_takeChange_69 (by decide) (fun c69 => ?_) (fun c69 => ?_)
    · replace hf := if_t c69 hf
      refine lv_aload_n hx hb dX9_takeChange_247 rfl (lv_at hl 0 rfl) ?_
      refine lv_dup hx hb dX9_takeChange_248 rfl ?_
      refine r_get (a := 66) (v := .int (h64.1 66 27)) (C := RX9) (T := TX9) (N := 55) hx hb hts hinX9 hown hK hP (ltX9 rfl) (ceX9 rfl) rfl 27 (by decide) wd1062 rfl dX9_takeChange_249 ?_
      refine lv_iconst (v := 1) hx hb dX9_takeChange_252 (by decide) ?_
      refine lv_iadd hx hb dX9_takeChange_253 ?_
      obtain ⟨h254, eh254⟩ : ∃ y, y = hU h64 66 27 ((h64.1 66 27) + 1) := ⟨_, rfl⟩
      replace hf := lt_at eh254 hf
      refine r_put (a := 66) (v := .int ((h64.1 66 27) + 1)) (ty := .int) (h' := h254) (C := RX9) (T := TX9) (N := 55) hG hx hb hts hinX9 tyX9 tyX9_ok nmX9 hown hK hP hS (ltX9 rfl) (ceX9 rfl) rfl 27 (by decide) wd1062 rfl (by decide +kernel) rfl rfl (Nat.le_of_ble_eq_true rfl) (by rw [eh254]; exact fun j hj => cE_U hj) (by rw [eh254]; exact puX9_27 rfl _) dX9_takeChange_254 (fun H locs hP hS => ?_)
      refine lv_aload_n hx hb dX9_takeChange_257 rfl (lv_at hl 0 rfl) ?_
      obtain ⟨r258, h258, er258, hf⟩ := bP_s hf
      refine r_callI (va_runV (As := []) (rest := []) ⟨hx, hb, hml, hown, hts⟩ (k_X9_takeStop l hG er258) (cwV 0 hts (gV wd1271 wd1273 wd37 wd82 wd1274) rfl rfl rfl (by decide +kernel) ⟨Nat.le_of_ble_eq_true rfl, Nat.le_of_ble_eq_true rfl⟩) (r_pv hK hP hS (ltX9 rfl) (ceX9 rfl) rfl) rfl rfl hl.1 rfl (lv_room (Nat.le_of_ble_eq_true rfl)) dX9_takeChange_258 ⟨Nat.le_of_ble_eq_true rfl, Nat.le_of_ble_eq_true rfl⟩) hS (fun H locs hP hS => ?_)
      exact r_iret hx hb hr hlocks hP hS (re2 (Option.some.inj hf)) dX9_takeChange_261
    · replace hf := if_f c69 hf
      refine lv_aload_n hx hb dX9_takeChange_72 rfl (lv_at hl 0 rfl) ?_
      obtain ⟨h73, eh73, hf⟩ := bO_s hf
      refine r_callV (va_runV (As := []) (rest := []) ⟨hx, hb, hml, hown, hts⟩ (k_X9_readWord l hG eh73) (cwV 0 hts (gV wd1222 wd1224 wd29 wd82 wd1225) rfl rfl rfl (by decide +kernel) ⟨Nat.le_of_ble_eq_true rfl, Nat.le_of_ble_eq_true rfl⟩) (r_pv hK hP hS (ltX9 rfl) (ceX9 rfl) rfl) rfl rfl hl.1 rfl (lv_room (Nat.le_of_ble_eq_true rfl)) dX9_takeChange_73 ⟨Nat.le_of_ble_eq_true rfl, Nat.le_of_ble_eq_true rfl⟩) hS (fun H locs hP hS => ?_)
      refine lv_aload_n hx hb dX9_takeChange_76 rfl (lv_at hl 0 rfl) ?_
      refine r_get (a := 66) (v := .long h73.2) (C := RX9) (T := TX9) (N := 55) hx hb hts hinX9 hown hK hP (ltX9 rfl) (ceX9 rfl) rfl 23 (by decide) wd1058 rfl dX9_takeChange_77 ?_
      refine lv_bipush (v := 115) hx hb dX9_takeChange_80 (by decide) ?_
      refine lv_bipush (v := 101) hx hb dX9_takeChange_82 (by decide) ?_
      refine lv_bipush (v := 116) hx hb dX9_takeChange_84 (by decide) ?_
      refine lv_bipush (v := 115) hx hb dX9_takeChange_86 (by decide) ?_
      obtain ⟨r88, er88, hf⟩ := bO_s hf
      refine r_callL (va_runS (As := [.int 115, .int 101, .int 116, .int 115]) (rest := [.long h73.2]) ⟨hx, hb, hml, hown, hts⟩ (k_X9_code l hG (h := h73) er88) (va_cwS 4 hts (gS wd1232 wd1233 wd82 wd1234) rfl rfl rfl (by decide +kernel) ⟨Nat.le_of_ble_eq_true rfl, Nat.le_of_ble_eq_true rfl⟩) (r_ps hK hP hS) rfl rfl hl.1 rfl (lv_room (Nat.le_of_ble_eq_true rfl)) dX9_takeChange_88 ⟨Nat.le_of_ble_eq_true rfl, Nat.le_of_ble_eq_true rfl⟩) hS (fun H locs hP hS => ?_)
      refine W.lcmp hx hb dX9_takeChange_91 ?_
      refine lv_if_ne (tgt := 99) hx hb dX9_takeChange_92 (by decide) (fun c92 => ?_) (fun c92 => ?_)
      · replace hf := if_f c92 hf
        refine lv_aload_n hx hb dX9_takeChange_99 rfl (lv_at hl 0 rfl) ?_
        refine r_get (a := 66) (v := .long h73.2) (C := RX9) (T := TX9) (N := 55) hx hb hts hinX9 hown hK hP (ltX9 rfl) (ceX9 rfl) rfl 23 (by decide) wd1058 rfl dX9_takeChange_100 ?_
        refine lv_bipush (v := 114) hx hb dX9_takeChange_103 (by decide) ?_
        refine lv_bipush (v := 101) hx hb dX9_takeChange_105 (by decide) ?_
        refine lv_bipush (v := 97) hx hb dX9_takeChange_107 (by decide) ?_
        refine lv_bipush (v := 100) hx hb dX9_takeChange_109 (by decide) ?_
        obtain ⟨r111, er111, hf⟩ := bO_s hf
        refine r_callL (va_runS (As := [.int 114, .int 101, .int 97, .int 100]) (rest := [.long h73.2]) ⟨hx, hb, hml, hown, hts⟩ (k_X9_code l hG (h := h73) er111) (va_cwS 4 hts (gS wd1232 wd1233 wd82 wd1234) rfl rfl rfl (by decide +kernel) ⟨Nat.le_of_ble_eq_true rfl, Nat.le_of_ble_eq_true rfl⟩) (r_ps hK hP hS) rfl rfl hl.1 rfl (lv_room (Nat.le_of_ble_eq_true rfl)) dX9_takeChange_111 ⟨Nat.le_of_ble_eq_true rfl, Nat.le_of_ble_eq_true rfl⟩) hS (fun H locs hP hS => ?_)
        refine lv_bipush (v := 115) hx hb dX9_takeChange_114 (by decide) ?_
        obtain ⟨r116, er116, hf⟩ := bO_s hf
        refine r_callL (va_runS (As := [.long r111, .int 115]) (rest := [.long h73.2]) ⟨hx, hb, hml, hown, hts⟩ (k_X9_longer l hG (h := h73) er116) (va_cwS 2 hts (gS wd1235 wd1236 wd82 wd1237) rfl rfl rfl (by decide +kernel) ⟨Nat.le_of_ble_eq_true rfl, Nat.le_of_ble_eq_true rfl⟩) (r_ps hK hP hS) rfl rfl hl.1 rfl (lv_room (Nat.le_of_ble_eq_true rfl)) dX9_takeChange_116 ⟨Nat.le_of_ble_eq_true rfl, Nat.le_of_ble_eq_true rfl⟩) hS (fun H locs hP hS => ?_)
        refine W.lcmp hx hb dX9_takeChange_119 ?_
        refine lv_if_ne (tgt := 127) hx hb dX9_takeChange_120 (by decide) (fun c120 => ?_) (fun c120 => ?_)
        · replace hf := if_f c120 hf
          refine lv_aload_n hx hb dX9_takeChange_127 rfl (lv_at hl 0 rfl) ?_
          refine r_get (a := 66) (v := .long h73.2) (C := RX9) (T := TX9) (N := 55) hx hb hts hinX9 hown hK hP (ltX9 rfl) (ceX9 rfl) rfl 23 (by decide) wd1058 rfl dX9_takeChange_128 ?_
          refine lv_bipush (v := 114) hx hb dX9_takeChange_131 (by decide) ?_
          refine lv_bipush (v := 105) hx hb dX9_takeChange_133 (by decide) ?_
          refine lv_bipush (v := 115) hx hb dX9_takeChange_135 (by decide) ?_
          refine lv_bipush (v := 107) hx hb dX9_takeChange_137 (by decide) ?_
          obtain ⟨r139, er139, hf⟩ := bO_s hf
          refine r_callL (va_runS (As := [.int 114, .int 105, .int 115, .int 107]) (rest := [.long h73.2]) ⟨hx, hb, hml, hown, hts⟩ (k_X9_code l hG (h := h73) er139) (va_cwS 4 hts (gS wd1232 wd1233 wd82 wd1234) rfl rfl rfl (by decide +kernel) ⟨Nat.le_of_ble_eq_true rfl, Nat.le_of_ble_eq_true rfl⟩) (r_ps hK hP hS) rfl rfl hl.1 rfl (lv_room (Nat.le_of_ble_eq_true rfl)) dX9_takeChange_139 ⟨Nat.le_of_ble_eq_true rfl, Nat.le_of_ble_eq_true rfl⟩) hS (fun H locs hP hS => ?_)
          refine W.lcmp hx hb dX9_takeChange_142 ?_
          refine lv_if_ne (tgt := 150) hx hb dX9_takeChange_143 (by decide) (fun c143 => ?_) (fun c143 => ?_)
          · replace hf := if_f c143 hf
            refine lv_iconst (v := (-1)) hx hb dX9_takeChange_150 (by decide) ?_
            exact w_X9_takeChange_151 hG C x2 (f_X9_takeChange_63 x2 n) ih x3 (-1) h73 _ _ _ (lv_sub hl [0, 1, 2] rfl) hP hS hf
          · replace hf := if_t c143 hf
            refine lv_iconst (v := 2) hx hb dX9_takeChange_146 (by decide) ?_
            refine lv_goto (tgt := 151) hx hb dX9_takeChange_147 (by decide) ?_
            exact w_X9_takeChange_151 hG C x2 (f_X9_takeChange_63 x2 n) ih x3 2 h73 _ _ _ (lv_sub hl [0, 1, 2] rfl) hP hS hf
        · replace hf := if_t c120 hf
          refine lv_iconst (v := 1) hx hb dX9_takeChange_123 (by decide) ?_
          refine lv_goto (tgt := 151) hx hb dX9_takeChange_124 (by decide) ?_
          exact w_X9_takeChange_151 hG C x2 (f_X9_takeChange_63 x2 n) ih x3 1 h73 _ _ _ (lv_sub hl [0, 1, 2] rfl) hP hS hf
      · replace hf := if_t c92 hf
        refine lv_iconst (v := 0) hx hb dX9_takeChange_95 (by decide) ?_
        refine lv_goto (tgt := 151) hx hb dX9_takeChange_96 (by decide) ?_
        exact w_X9_takeChange_151 hG C x2 (f_X9_takeChange_63 x2 n) ih x3 0 h73 _ _ _ (lv_sub hl [0, 1, 2] rfl) hP hS hf
def f_X9_takeChange_23 (x2 : Int32) : Nat → Int32 → PH → Option (Int32 × PH)
  | 0, _, _ => none
  | n + 1, x3, h => if (16 : Int32) ≤ x3 then (bO (asg h 83 24 x2 0) (fun h53 => bO (asg h53 84 24 x2 0) (fun h60 => f_X9_takeChange_63 x2 FU (-1) h60))) else (bO (asg h 82 384 ((16 * x2) + x3) 0) (fun h40 => (f_X9_takeChange_23 x2 n) (x3 + 1) h40))
set_option maxHeartbeats 4000000 in
set_option maxRecDepth 100000 in
theorem w_X9_takeChange_23 {l : Launch} {G : GC} (hG : GOK G) {rr : Int32} {hh : PH} {p : Program} {e : Env} {s : State} {m : MethodId} {args : Array Value} {below : List Frame} {meth : Method} {c : Code} (C : MC l G p s m args meth c RX9 cX9_takeChange 6 (some .int)) (x2 : Int32) : ∀ (n : Nat) (x3 : Int32) (h : PH) (H : Heap) (locs : List Loc) (ls : Array Slot), lv_has ls 6 [(0, .ref (gB G 66)), (2, .int x2), (3, .int x3)] → WP G h H → SP G s H locs → f_X9_takeChange_23 x2 n x3 h = some (rr, hh) → W p l e rmX9_takeChange s m args below meth c H locs 0 0 (MQ below (QI G rr hh) args s 0 0 (gA G)) (F0 m 23 ls []) := by
  obtain ⟨hx, hb, hr, hlocks, hml, hown, hts, hK⟩ := id C
  intro n
  induction n with
  | zero => intro x3 h H locs ls hl hP hS hf; rw [f_X9_takeChange_23] at hf; cases hf
  | succ n ih =>
    intro x3 h H locs ls hl hP hS hf
    rw [f_X9_takeChange_23] at hf
    refine lv_iload_n hx hb dX9_takeChange_23 rfl (lv_at hl 2 rfl) ?_
    refine lv_bipush (v := 16) hx hb dX9_takeChange_24 (by decide) ?_
    refine lv_icmp_ge (tgt := 47) hx hb dX9_takeChange_26 (by decide) (fun c26 => ?_) (fun c26 => ?_)
    · replace hf := if_t c26 hf
      refine lv_aload_n hx hb dX9_takeChange_47 rfl (lv_at hl 0 rfl) ?_
      refine r_get (a := 66) (v := .ref (gB G 83)) (C := RX9) (T := TX9) (N := 55) hx hb hts hinX9 hown hK hP (ltX9 rfl) (ceX9 rfl) rfl 29 (by decide) wd1064 rfl dX9_takeChange_48 ?_
      refine lv_iload_n hx hb dX9_takeChange_51 rfl (lv_at hl 1 rfl) ?_
      refine lv_iconst (v := 0) hx hb dX9_takeChange_52 (by decide) ?_
      obtain ⟨h53, eh53, hf⟩ := bO_s hf
      refine r_iast hG hx hb hK hP hS (arX9_29 rfl) eh53 dX9_takeChange_53 (fun H locs hP hS => ?_)
      refine lv_aload_n hx hb dX9_takeChange_54 rfl (lv_at hl 0 rfl) ?_
      refine r_get (a := 66) (v := .ref (gB G 84)) (C := RX9) (T := TX9) (N := 55) hx hb hts hinX9 hown hK hP (ltX9 rfl) (ceX9 rfl) rfl 30 (by decide) wd1065 rfl dX9_takeChange_55 ?_
      refine lv_iload_n hx hb dX9_takeChange_58 rfl (lv_at hl 1 rfl) ?_
      refine lv_iconst (v := 0) hx hb dX9_takeChange_59 (by decide) ?_
      obtain ⟨h60, eh60, hf⟩ := bO_s hf
      refine r_iast hG hx hb hK hP hS (arX9_30 rfl) eh60 dX9_takeChange_60 (fun H locs hP hS => ?_)
      refine lv_iconst (v := (-1)) hx hb dX9_takeChange_61 (by decide) ?_
      refine lv_istore_n (lv' := [(3, .int (-1)), (0, .ref (gB G 66)), (2, .int x2)]) hx hb dX9_takeChange_62 rfl hl (by decide) rfl (fun ls hl => ?_)
      exact w_X9_takeChange_63 hG C x2 FU (-1) h60 _ _ _ (lv_sub hl [1, 2, 0] rfl) hP hS hf
    · replace hf := if_f c26 hf
      refine lv_aload_n hx hb dX9_takeChange_29 rfl (lv_at hl 0 rfl) ?_
      refine r_get (a := 66) (v := .ref (gB G 82)) (C := RX9) (T := TX9) (N := 55) hx hb hts hinX9 hown hK hP (ltX9 rfl) (ceX9 rfl) rfl 28 (by decide) wd1063 rfl dX9_takeChange_30 ?_
      refine lv_bipush (v := 16) hx hb dX9_takeChange_33 (by decide) ?_
      refine lv_iload_n hx hb dX9_takeChange_35 rfl (lv_at hl 1 rfl) ?_
      refine lv_imul hx hb dX9_takeChange_36 ?_
      refine lv_iload_n hx hb dX9_takeChange_37 rfl (lv_at hl 2 rfl) ?_
      refine lv_iadd hx hb dX9_takeChange_38 ?_
      refine lv_iconst (v := 0) hx hb dX9_takeChange_39 (by decide) ?_
      obtain ⟨h40, eh40, hf⟩ := bO_s hf
      refine r_iast hG hx hb hK hP hS (arX9_28 rfl) eh40 dX9_takeChange_40 (fun H locs hP hS => ?_)
      refine lv_iinc (v := (x3 + 1)) (lv' := [(3, .int (x3 + 1)), (0, .ref (gB G 66)), (2, .int x2)]) hx hb dX9_takeChange_41 hl (k := 2) rfl rfl (by decide) rfl (fun ls hl => ?_)
      refine lv_goto (tgt := 23) hx hb dX9_takeChange_44 (by decide) ?_
      exact ih (x3 + 1) h40 _ _ _ (lv_sub hl [1, 2, 0] rfl) hP hS hf
def f_X9_takeChange (x1 : Int32) (h : PH) : Option (Int32 × PH) := if (h.1 66 27) = 24 then (bP (f_X9_breaks 3 x1 h) (fun r12 h12 => some (r12, h12))) else (lt' ((h.1 66 27)) (fun x2_20 => f_X9_takeChange_23 x2_20 FU 0 h))
set_option maxHeartbeats 4000000 in
set_option maxRecDepth 100000 in
theorem k_X9_takeChange (l : Launch) {G : GC} (hG : GOK G) {x1 : Int32} {rr : Int32} {h hh : PH} (hf : f_X9_takeChange x1 h = some (rr, hh)) : CI l yX9_takeChange vX9_takeChange rmX9_takeChange G [.ref (gB G 66), .int x1] h rr hh := by
  refine Met.ofW (cc := cX9_takeChange) (maxL := 6) (ret := (some .int)) (by decide +kernel) rfl ?_
  intro p e s m args below meth c s₁ B hml hv
  obtain ⟨rfl, hP, hK⟩ := hv
  have C : MC l G p s m _ meth c RX9 cX9_takeChange 6 (some .int) := ⟨B.exec, B.bytes, B.returns, B.notSynchronized, hml, findClass_of_methodNamed B.named, fun w hw => atoms_spec (ws := vX9_takeChange) B.pre w (List.mem_cons_of_mem _ hw), hK⟩
  obtain ⟨hx, hb, hr, hlocks, -, hown, hts, -⟩ := id C
  have hl := lv_entry ([.ref (gB G 66), .int x1]) (n := 6) (Nat.le_of_ble_eq_true rfl)
  rw [lg_entry_eq]
  generalize (lg_sl ([.ref (gB G 66), .int x1]) ++ List.replicate (6 - (lg_sl ([.ref (gB G 66), .int x1])).length) Slot.unset).toArray = ls at hl ⊢
  have hl : lv_has ls 6 [(0, .ref (gB G 66)), (1, .int x1)] := hl
  have hS : SP G s s.heap [] := va_S.rf
  replace hP : WP G h s.heap := hP
  rw [f_X9_takeChange] at hf
  refine lv_aload_n hx hb dX9_takeChange_0 rfl (lv_at hl 0 rfl) ?_
  refine r_get (a := 66) (v := .int (h.1 66 27)) (C := RX9) (T := TX9) (N := 55) hx hb hts hinX9 hown hK hP (ltX9 rfl) (ceX9 rfl) rfl 27 (by decide) wd1062 rfl dX9_takeChange_1 ?_
  refine lv_bipush (v := 24) hx hb dX9_takeChange_4 (by decide) ?_
  refine lv_icmp_ne (tgt := 16) hx hb dX9_takeChange_6 (by decide) (fun c6 => ?_) (fun c6 => ?_)
  · replace hf := if_f c6 hf
    refine lv_aload_n hx hb dX9_takeChange_16 rfl (lv_at hl 0 rfl) ?_
    refine r_get (a := 66) (v := .int (h.1 66 27)) (C := RX9) (T := TX9) (N := 55) hx hb hts hinX9 hown hK hP (ltX9 rfl) (ceX9 rfl) rfl 27 (by decide) wd1062 rfl dX9_takeChange_17 ?_
    refine lv_topi (fun x2_20 ex2_20 => ?_)
    replace hf := lt_at ex2_20 hf
    refine lv_istore_n (lv' := [(2, .int x2_20), (0, .ref (gB G 66)), (1, .int x1)]) hx hb dX9_takeChange_20 rfl hl (by decide) rfl (fun ls hl => ?_)
    refine lv_iconst (v := 0) hx hb dX9_takeChange_21 (by decide) ?_
    refine lv_istore_n (lv' := [(3, .int 0), (2, .int x2_20), (0, .ref (gB G 66)), (1, .int x1)]) hx hb dX9_takeChange_22 rfl hl (by decide) rfl (fun ls hl => ?_)
    exact w_X9_takeChange_23 hG C x2_20 FU 0 h _ _ _ (lv_sub hl [2, 1, 0] rfl) hP hS hf
  · replace hf := if_t c6 hf
    refine lv_aload_n hx hb dX9_takeChange_9 rfl (lv_at hl 0 rfl) ?_
    refine lv_iconst (v := 3) hx hb dX9_takeChange_10 (by decide) ?_
    refine lv_iload_n hx hb dX9_takeChange_11 rfl (lv_at hl 1 rfl) ?_
    obtain ⟨r12, h12, er12, hf⟩ := bP_s hf
    refine r_callI (va_runV (As := [.int 3, .int x1]) (rest := []) ⟨hx, hb, hml, hown, hts⟩ (k_X9_breaks l hG er12) (cwV 2 hts (gV wd1238 wd1240 wd30 wd82 wd1241) rfl rfl rfl (by decide +kernel) ⟨Nat.le_of_ble_eq_true rfl, Nat.le_of_ble_eq_true rfl⟩) (r_pv hK hP hS (ltX9 rfl) (ceX9 rfl) rfl) rfl rfl hl.1 rfl (lv_room (Nat.le_of_ble_eq_true rfl)) dX9_takeChange_12 ⟨Nat.le_of_ble_eq_true rfl, Nat.le_of_ble_eq_true rfl⟩) hS (fun H locs hP hS => ?_)
    exact r_iret hx hb hr hlocks hP hS (re2 (Option.some.inj hf)) dX9_takeChange_15
/-! CarriedBackModel.takeFault(I)I -/
abbrev rmX9_takeFault : Room := { frames := 2, cells := 0, slots := 0, locals := 48 }
abbrev vX9_takeFault : List Cond := Cond.code yX9_takeFault cX9_takeFault 3 (some .int) :: GW
def f_X9_takeFault_210 (x2 : Int32) (h : PH) : Option (Int32 × PH) := lt' (hU h 66 31 ((h.1 66 31) + 1)) (fun h217 => if x2 ≤ 0 then (bP (f_X9_takeStop h217) (fun r229 h229 => some (r229, h229))) else (some (x2, h217)))
set_option maxHeartbeats 4000000 in
set_option maxRecDepth 100000 in
theorem w_X9_takeFault_210 {l : Launch} {G : GC} (hG : GOK G) {rr : Int32} {hh : PH} {p : Program} {e : Env} {s : State} {m : MethodId} {args : Array Value} {below : List Frame} {meth : Method} {c : Code} (C : MC l G p s m args meth c RX9 cX9_takeFault 3 (some .int)) : ∀ (x2 : Int32) (h : PH) (H : Heap) (locs : List Loc) (ls : Array Slot), lv_has ls 3 [(0, .ref (gB G 66)), (2, .int x2)] → WP G h H → SP G s H locs → f_X9_takeFault_210 x2 h = some (rr, hh) → W p l e rmX9_takeFault s m args below meth c H locs 0 0 (MQ below (QI G rr hh) args s 0 0 (gA G)) (F0 m 210 ls []) := by
  obtain ⟨hx, hb, hr, hlocks, hml, hown, hts, hK⟩ := id C
  intro x2 h H locs ls hl hP hS hf
  rw [f_X9_takeFault_210] at hf
  refine lv_aload_n hx hb dX9_takeFault_210 rfl (lv_at hl 0 rfl) ?_
  refine lv_dup hx hb dX9_takeFault_211 rfl ?_
  refine r_get (a := 66) (v := .int (h.1 66 31)) (C := RX9) (T := TX9) (N := 55) hx hb hts hinX9 hown hK hP (ltX9 rfl) (ceX9 rfl) rfl 31 (by decide) wd1066 rfl dX9_takeFault_212 ?_
  refine lv_iconst (v := 1) hx hb dX9_takeFault_215 (by decide) ?_
  refine lv_iadd hx hb dX9_takeFault_216 ?_
  obtain ⟨h217, eh217⟩ : ∃ y, y = hU h 66 31 ((h.1 66 31) + 1) := ⟨_, rfl⟩
  replace hf := lt_at eh217 hf
  refine r_put (a := 66) (v := .int ((h.1 66 31) + 1)) (ty := .int) (h' := h217) (C := RX9) (T := TX9) (N := 55) hG hx hb hts hinX9 tyX9 tyX9_ok nmX9 hown hK hP hS (ltX9 rfl) (ceX9 rfl) rfl 31 (by decide) wd1066 rfl (by decide +kernel) rfl rfl (Nat.le_of_ble_eq_true rfl) (by rw [eh217]; exact fun j hj => cE_U hj) (by rw [eh217]; exact puX9_31 rfl _) dX9_takeFault_217 (fun H locs hP hS => ?_)
  refine lv_iload_n hx hb dX9_takeFault_220 rfl (lv_at hl 1 rfl) ?_
  refine lv_if_le (tgt := 228) hx hb dX9_takeFault_221 (by decide) (fun c221 => ?_) (fun c221 => ?_)
  · replace hf := if_t c221 hf
    refine lv_aload_n hx hb dX9_takeFault_228 rfl (lv_at hl 0 rfl) ?_
    obtain ⟨r229, h229, er229, hf⟩ := bP_s hf
    refine r_callI (va_runV (As := []) (rest := []) ⟨hx, hb, hml, hown, hts⟩ (k_X9_takeStop l hG er229) (cwV 0 hts (gV wd1271 wd1273 wd37 wd82 wd1274) rfl rfl rfl (by decide +kernel) ⟨Nat.le_of_ble_eq_true rfl, Nat.le_of_ble_eq_true rfl⟩) (r_pv hK hP hS (ltX9 rfl) (ceX9 rfl) rfl) rfl rfl hl.1 rfl (lv_room (Nat.le_of_ble_eq_true rfl)) dX9_takeFault_229 ⟨Nat.le_of_ble_eq_true rfl, Nat.le_of_ble_eq_true rfl⟩) hS (fun H locs hP hS => ?_)
    exact r_iret hx hb hr hlocks hP hS (re2 (Option.some.inj hf)) dX9_takeFault_232
  · replace hf := if_f c221 hf
    refine lv_iload_n hx hb dX9_takeFault_224 rfl (lv_at hl 1 rfl) ?_
    refine lv_goto (tgt := 232) hx hb dX9_takeFault_225 (by decide) ?_
    exact r_iret hx hb hr hlocks hP hS (re2 (Option.some.inj hf)) dX9_takeFault_232
def f_X9_takeFault (x1 : Int32) (h : PH) : Option (Int32 × PH) := if (h.1 66 31) = 10 then (bP (f_X9_breaks 3 x1 h) (fun r12 h12 => some (r12, h12))) else (bP (f_X9_takeNumber 1 99 h) (fun r20 h20 => bO (asg h20 85 10 (h20.1 66 31) (h20.1 66 25)) (fun h36 => if r20 ≤ 0 then (bO (f_X9_readWord h36) (fun h44 => bO (f_X9_code 102 114 111 109) (fun r59 => if (lg_cmp h44.2 r59) = 0 then (lt' (hU h44 66 21 (h44.1 66 24)) (fun h81 => bP (f_X9_takeNumber 0 ((h81.1 66 27) - 1) h81) (fun r92 h92 => bO (asg h92 86 10 (h92.1 66 31) (h92.1 66 25)) (fun h108 => bO (asg h108 87 10 (h108.1 66 31) (-1)) (fun h118 => if r92 ≤ 0 then (bP (f_X9_here h118) (fun r126 h126 => if r126 = 59 then (f_X9_takeFault_210 r92 h126) else (bO (f_X9_readWord h126) (fun h135 => bO (f_X9_code 116 105 108 108) (fun r150 => if (lg_cmp h135.2 r150) = 0 then (lt' (hU h135 66 21 (h135.1 66 24)) (fun h172 => bO (ag h172 86 10 (h172.1 66 31)) (fun v184 => bP (f_X9_takeNumber (v184 + 1) ((h172.1 66 27) - 1) h172) (fun r193 h193 => bO (asg h193 87 10 (h193.1 66 31) (h193.1 66 25)) (fun h209 => f_X9_takeFault_210 r193 h209))))) else (bP (f_X9_breaks 1 (h135.1 66 21) h135) (fun r163 h163 => some (r163, h163)))))))) else (some (r92, h118))))))) else (bP (f_X9_breaks 1 (h44.1 66 21) h44) (fun r72 h72 => some (r72, h72)))))) else (some (r20, h36)))))
set_option maxHeartbeats 4000000 in
set_option maxRecDepth 100000 in
theorem k_X9_takeFault (l : Launch) {G : GC} (hG : GOK G) {x1 : Int32} {rr : Int32} {h hh : PH} (hf : f_X9_takeFault x1 h = some (rr, hh)) : CI l yX9_takeFault vX9_takeFault rmX9_takeFault G [.ref (gB G 66), .int x1] h rr hh := by
  refine Met.ofW (cc := cX9_takeFault) (maxL := 3) (ret := (some .int)) (by decide +kernel) rfl ?_
  intro p e s m args below meth c s₁ B hml hv
  obtain ⟨rfl, hP, hK⟩ := hv
  have C : MC l G p s m _ meth c RX9 cX9_takeFault 3 (some .int) := ⟨B.exec, B.bytes, B.returns, B.notSynchronized, hml, findClass_of_methodNamed B.named, fun w hw => atoms_spec (ws := vX9_takeFault) B.pre w (List.mem_cons_of_mem _ hw), hK⟩
  obtain ⟨hx, hb, hr, hlocks, -, hown, hts, -⟩ := id C
  have hl := lv_entry ([.ref (gB G 66), .int x1]) (n := 3) (Nat.le_of_ble_eq_true rfl)
  rw [lg_entry_eq]
  generalize (lg_sl ([.ref (gB G 66), .int x1]) ++ List.replicate (3 - (lg_sl ([.ref (gB G 66), .int x1])).length) Slot.unset).toArray = ls at hl ⊢
  have hl : lv_has ls 3 [(0, .ref (gB G 66)), (1, .int x1)] := hl
  have hS : SP G s s.heap [] := va_S.rf
  replace hP : WP G h s.heap := hP
  rw [f_X9_takeFault] at hf
  refine lv_aload_n hx hb dX9_takeFault_0 rfl (lv_at hl 0 rfl) ?_
  refine r_get (a := 66) (v := .int (h.1 66 31)) (C := RX9) (T := TX9) (N := 55) hx hb hts hinX9 hown hK hP (ltX9 rfl) (ceX9 rfl) rfl 31 (by decide) wd1066 rfl dX9_takeFault_1 ?_
  refine lv_bipush (v := 10) hx hb dX9_takeFault_4 (by decide) ?_
  refine lv_icmp_ne (tgt := 16) hx hb dX9_takeFault_6 (by decide) (fun c6 => ?_) (fun c6 => ?_)
  · replace hf := if_f c6 hf
    refine lv_aload_n hx hb dX9_takeFault_16 rfl (lv_at hl 0 rfl) ?_
    refine lv_iconst (v := 1) hx hb dX9_takeFault_17 (by decide) ?_
    refine lv_bipush (v := 99) hx hb dX9_takeFault_18 (by decide) ?_
    obtain ⟨r20, h20, er20, hf⟩ := bP_s hf
    refine r_callI (va_runV (As := [.int 1, .int 99]) (rest := []) ⟨hx, hb, hml, hown, hts⟩ (k_X9_takeNumber l hG er20) (cwV 2 hts (gV wd1254 wd1256 wd34 wd82 wd1257) rfl rfl rfl (by decide +kernel) ⟨Nat.le_of_ble_eq_true rfl, Nat.le_of_ble_eq_true rfl⟩) (r_pv hK hP hS (ltX9 rfl) (ceX9 rfl) rfl) rfl rfl hl.1 rfl (lv_room (Nat.le_of_ble_eq_true rfl)) dX9_takeFault_20 ⟨Nat.le_of_ble_eq_true rfl, Nat.le_of_ble_eq_true rfl⟩) hS (fun H locs hP hS => ?_)
    refine lv_istore_n (lv' := [(2, .int r20), (0, .ref (gB G 66)), (1, .int x1)]) hx hb dX9_takeFault_23 rfl hl (by decide) rfl (fun ls hl => ?_)
    refine lv_aload_n hx hb dX9_takeFault_24 rfl (lv_at hl 1 rfl) ?_
    refine r_get (a := 66) (v := .ref (gB G 85)) (C := RX9) (T := TX9) (N := 55) hx hb hts hinX9 hown hK hP (ltX9 rfl) (ceX9 rfl) rfl 32 (by decide) wd1067 rfl dX9_takeFault_25 ?_
    refine lv_aload_n hx hb dX9_takeFault_28 rfl (lv_at hl 1 rfl) ?_
    refine r_get (a := 66) (v := .int (h20.1 66 31)) (C := RX9) (T := TX9) (N := 55) hx hb hts hinX9 hown hK hP (ltX9 rfl) (ceX9 rfl) rfl 31 (by decide) wd1066 rfl dX9_takeFault_29 ?_
    refine lv_aload_n hx hb dX9_takeFault_32 rfl (lv_at hl 1 rfl) ?_
    refine r_get (a := 66) (v := .int (h20.1 66 25)) (C := RX9) (T := TX9) (N := 55) hx hb hts hinX9 hown hK hP (ltX9 rfl) (ceX9 rfl) rfl 25 (by decide) wd1060 rfl dX9_takeFault_33 ?_
    obtain ⟨h36, eh36, hf⟩ := bO_s hf
    refine r_iast hG hx hb hK hP hS (arX9_32 rfl) eh36 dX9_takeFault_36 (fun H locs hP hS => ?_)
    refine lv_iload_n hx hb dX9_takeFault_37 rfl (lv_at hl 0 rfl) ?_
    refine lv_if_le (tgt := 43) hx hb dX9_takeFault_38 (by decide) (fun c38 => ?_) (fun c38 => ?_)
    · replace hf := if_t c38 hf
      refine lv_aload_n hx hb dX9_takeFault_43 rfl (lv_at hl 1 rfl) ?_
      obtain ⟨h44, eh44, hf⟩ := bO_s hf
      refine r_callV (va_runV (As := []) (rest := []) ⟨hx, hb, hml, hown, hts⟩ (k_X9_readWord l hG eh44) (cwV 0 hts (gV wd1222 wd1224 wd29 wd82 wd1225) rfl rfl rfl (by decide +kernel) ⟨Nat.le_of_ble_eq_true rfl, Nat.le_of_ble_eq_true rfl⟩) (r_pv hK hP hS (ltX9 rfl) (ceX9 rfl) rfl) rfl rfl hl.1 rfl (lv_room (Nat.le_of_ble_eq_true rfl)) dX9_takeFault_44 ⟨Nat.le_of_ble_eq_true rfl, Nat.le_of_ble_eq_true rfl⟩) hS (fun H locs hP hS => ?_)
      refine lv_aload_n hx hb dX9_takeFault_47 rfl (lv_at hl 1 rfl) ?_
      refine r_get (a := 66) (v := .long h44.2) (C := RX9) (T := TX9) (N := 55) hx hb hts hinX9 hown hK hP (ltX9 rfl) (ceX9 rfl) rfl 23 (by decide) wd1058 rfl dX9_takeFault_48 ?_
      refine lv_bipush (v := 102) hx hb dX9_takeFault_51 (by decide) ?_
      refine lv_bipush (v := 114) hx hb dX9_takeFault_53 (by decide) ?_
      refine lv_bipush (v := 111) hx hb dX9_takeFault_55 (by decide) ?_
      refine lv_bipush (v := 109) hx hb dX9_takeFault_57 (by decide) ?_
      obtain ⟨r59, er59, hf⟩ := bO_s hf
      refine r_callL (va_runS (As := [.int 102, .int 114, .int 111, .int 109]) (rest := [.long h44.2]) ⟨hx, hb, hml, hown, hts⟩ (k_X9_code l hG (h := h44) er59) (va_cwS 4 hts (gS wd1232 wd1233 wd82 wd1234) rfl rfl rfl (by decide +kernel) ⟨Nat.le_of_ble_eq_true rfl, Nat.le_of_ble_eq_true rfl⟩) (r_ps hK hP hS) rfl rfl hl.1 rfl (lv_room (Nat.le_of_ble_eq_true rfl)) dX9_takeFault_59 ⟨Nat.le_of_ble_eq_true rfl, Nat.le_of_ble_eq_true rfl⟩) hS (fun H locs hP hS => ?_)
      refine W.lcmp hx hb dX9_takeFault_62 ?_
      refine lv_if_eq (tgt := 76) hx hb dX9_takeFault_63 (by decide) (fun c63 => ?_) (fun c63 => ?_)
      · replace hf := if_t c63 hf
        refine lv_aload_n hx hb dX9_takeFault_76 rfl (lv_at hl 1 rfl) ?_
        refine lv_aload_n hx hb dX9_takeFault_77 rfl (lv_at hl 1 rfl) ?_
        refine r_get (a := 66) (v := .int (h44.1 66 24)) (C := RX9) (T := TX9) (N := 55) hx hb hts hinX9 hown hK hP (ltX9 rfl) (ceX9 rfl) rfl 24 (by decide) wd1059 rfl dX9_takeFault_78 ?_
        obtain ⟨h81, eh81⟩ : ∃ y, y = hU h44 66 21 (h44.1 66 24) := ⟨_, rfl⟩
        replace hf := lt_at eh81 hf
        refine r_put (a := 66) (v := .int (h44.1 66 24)) (ty := .int) (h' := h81) (C := RX9) (T := TX9) (N := 55) hG hx hb hts hinX9 tyX9 tyX9_ok nmX9 hown hK hP hS (ltX9 rfl) (ceX9 rfl) rfl 21 (by decide) wd1056 rfl (by decide +kernel) rfl rfl (Nat.le_of_ble_eq_true rfl) (by rw [eh81]; exact fun j hj => cE_U hj) (by rw [eh81]; exact puX9_21 rfl _) dX9_takeFault_81 (fun H locs hP hS => ?_)
        refine lv_aload_n hx hb dX9_takeFault_84 rfl (lv_at hl 1 rfl) ?_
        refine lv_iconst (v := 0) hx hb dX9_takeFault_85 (by decide) ?_
        refine lv_aload_n hx hb dX9_takeFault_86 rfl (lv_at hl 1 rfl) ?_
        refine r_get (a := 66) (v := .int (h81.1 66 27)) (C := RX9) (T := TX9) (N := 55) hx hb hts hinX9 hown hK hP (ltX9 rfl) (ceX9 rfl) rfl 27 (by decide) wd1062 rfl dX9_takeFault_87 ?_
        refine lv_iconst (v := 1) hx hb dX9_takeFault_90 (by decide) ?_
        refine lv_isub hx hb dX9_takeFault_91 ?_
        obtain ⟨r92, h92, er92, hf⟩ := bP_s hf
        refine r_callI (va_runV (As := [.int 0, .int ((h81.1 66 27) - 1)]) (rest := []) ⟨hx, hb, hml, hown, hts⟩ (k_X9_takeNumber l hG er92) (cwV 2 hts (gV wd1254 wd1256 wd34 wd82 wd1257) rfl rfl rfl (by decide +kernel) ⟨Nat.le_of_ble_eq_true rfl, Nat.le_of_ble_eq_true rfl⟩) (r_pv hK hP hS (ltX9 rfl) (ceX9 rfl) rfl) rfl rfl hl.1 rfl (lv_room (Nat.le_of_ble_eq_true rfl)) dX9_takeFault_92 ⟨Nat.le_of_ble_eq_true rfl, Nat.le_of_ble_eq_true rfl⟩) hS (fun H locs hP hS => ?_)
        refine lv_istore_n (lv' := [(2, .int r92), (0, .ref (gB G 66)), (1, .int x1)]) hx hb dX9_takeFault_95 rfl hl (by decide) rfl (fun ls hl => ?_)
        refine lv_aload_n hx hb dX9_takeFault_96 rfl (lv_at hl 1 rfl) ?_
        refine r_get (a := 66) (v := .ref (gB G 86)) (C := RX9) (T := TX9) (N := 55) hx hb hts hinX9 hown hK hP (ltX9 rfl) (ceX9 rfl) rfl 33 (by decide) wd1068 rfl dX9_takeFault_97 ?_
        refine lv_aload_n hx hb dX9_takeFault_100 rfl (lv_at hl 1 rfl) ?_
        refine r_get (a := 66) (v := .int (h92.1 66 31)) (C := RX9) (T := TX9) (N := 55) hx hb hts hinX9 hown hK hP (ltX9 rfl) (ceX9 rfl) rfl 31 (by decide) wd1066 rfl dX9_takeFault_101 ?_
        refine lv_aload_n hx hb dX9_takeFault_104 rfl (lv_at hl 1 rfl) ?_
        refine r_get (a := 66) (v := .int (h92.1 66 25)) (C := RX9) (T := TX9) (N := 55) hx hb hts hinX9 hown hK hP (ltX9 rfl) (ceX9 rfl) rfl 25 (by decide) wd1060 rfl dX9_takeFault_105 ?_
        obtain ⟨h108, eh108, hf⟩ := bO_s hf
        refine r_iast hG hx hb hK hP hS (arX9_33 rfl) eh108 dX9_takeFault_108 (fun H locs hP hS => ?_)
        refine lv_aload_n hx hb dX9_takeFault_109 rfl (lv_at hl 1 rfl) ?_
        refine r_get (a := 66) (v := .ref (gB G 87)) (C := RX9) (T := TX9) (N := 55) hx hb hts hinX9 hown hK hP (ltX9 rfl) (ceX9 rfl) rfl 34 (by decide) wd1069 rfl dX9_takeFault_110 ?_
        refine lv_aload_n hx hb dX9_takeFault_113 rfl (lv_at hl 1 rfl) ?_
        refine r_get (a := 66) (v := .int (h108.1 66 31)) (C := RX9) (T := TX9) (N := 55) hx hb hts hinX9 hown hK hP (ltX9 rfl) (ceX9 rfl) rfl 31 (by decide) wd1066 rfl dX9_takeFault_114 ?_
        refine lv_iconst (v := (-1)) hx hb dX9_takeFault_117 (by decide) ?_
        obtain ⟨h118, eh118, hf⟩ := bO_s hf
        refine r_iast hG hx hb hK hP hS (arX9_34 rfl) eh118 dX9_takeFault_118 (fun H locs hP hS => ?_)
        refine lv_iload_n hx hb dX9_takeFault_119 rfl (lv_at hl 0 rfl) ?_
        refine lv_if_le (tgt := 125) hx hb dX9_takeFault_120 (by decide) (fun c120 => ?_) (fun c120 => ?_)
        · replace hf := if_t c120 hf
          refine lv_aload_n hx hb dX9_takeFault_125 rfl (lv_at hl 1 rfl) ?_
          obtain ⟨r126, h126, er126, hf⟩ := bP_s hf
          refine r_callI (va_runV (As := []) (rest := []) ⟨hx, hb, hml, hown, hts⟩ (k_X9_here l hG er126) (cwV 0 hts (gV wd1214 wd1216 wd27 wd82 wd1217) rfl rfl rfl (by decide +kernel) ⟨Nat.le_of_ble_eq_true rfl, Nat.le_of_ble_eq_true rfl⟩) (r_pv hK hP hS (ltX9 rfl) (ceX9 rfl) rfl) rfl rfl hl.1 rfl (lv_room (Nat.le_of_ble_eq_true rfl)) dX9_takeFault_126 ⟨Nat.le_of_ble_eq_true rfl, Nat.le_of_ble_eq_true rfl⟩) hS (fun H locs hP hS => ?_)
          refine lv_bipush (v := 59) hx hb dX9_takeFault_129 (by decide) ?_
          refine lv_icmp_eq (tgt := 210) hx hb dX9_takeFault_131 (by decide) (fun c131 => ?_) (fun c131 => ?_)
          · replace hf := if_t c131 hf
            exact w_X9_takeFault_210 hG C r92 h126 _ _ _ (lv_sub hl [1, 0] rfl) hP hS hf
          · replace hf := if_f c131 hf
            refine lv_aload_n hx hb dX9_takeFault_134 rfl (lv_at hl 1 rfl) ?_
            obtain ⟨h135, eh135, hf⟩ := bO_s hf
            refine r_callV (va_runV (As := []) (rest := []) ⟨hx, hb, hml, hown, hts⟩ (k_X9_readWord l hG eh135) (cwV 0 hts (gV wd1222 wd1224 wd29 wd82 wd1225) rfl rfl rfl (by decide +kernel) ⟨Nat.le_of_ble_eq_true rfl, Nat.le_of_ble_eq_true rfl⟩) (r_pv hK hP hS (ltX9 rfl) (ceX9 rfl) rfl) rfl rfl hl.1 rfl (lv_room (Nat.le_of_ble_eq_true rfl)) dX9_takeFault_135 ⟨Nat.le_of_ble_eq_true rfl, Nat.le_of_ble_eq_true rfl⟩) hS (fun H locs hP hS => ?_)
            refine lv_aload_n hx hb dX9_takeFault_138 rfl (lv_at hl 1 rfl) ?_
            refine r_get (a := 66) (v := .long h135.2) (C := RX9) (T := TX9) (N := 55) hx hb hts hinX9 hown hK hP (ltX9 rfl) (ceX9 rfl) rfl 23 (by decide) wd1058 rfl dX9_takeFault_139 ?_
            refine lv_bipush (v := 116) hx hb dX9_takeFault_142 (by decide) ?_
            refine lv_bipush (v := 105) hx hb dX9_takeFault_144 (by decide) ?_
            refine lv_bipush (v := 108) hx hb dX9_takeFault_146 (by decide) ?_
            refine lv_bipush (v := 108) hx hb dX9_takeFault_148 (by decide) ?_
            obtain ⟨r150, er150, hf⟩ := bO_s hf
            refine r_callL (va_runS (As := [.int 116, .int 105, .int 108, .int 108]) (rest := [.long h135.2]) ⟨hx, hb, hml, hown, hts⟩ (k_X9_code l hG (h := h135) er150) (va_cwS 4 hts (gS wd1232 wd1233 wd82 wd1234) rfl rfl rfl (by decide +kernel) ⟨Nat.le_of_ble_eq_true rfl, Nat.le_of_ble_eq_true rfl⟩) (r_ps hK hP hS) rfl rfl hl.1 rfl (lv_room (Nat.le_of_ble_eq_true rfl)) dX9_takeFault_150 ⟨Nat.le_of_ble_eq_true rfl, Nat.le_of_ble_eq_true rfl⟩) hS (fun H locs hP hS => ?_)
            refine W.lcmp hx hb dX9_takeFault_153 ?_
            refine lv_if_eq (tgt := 167) hx hb dX9_takeFault_154 (by decide) (fun c154 => ?_) (fun c154 => ?_)
            · replace hf := if_t c154 hf
              refine lv_aload_n hx hb dX9_takeFault_167 rfl (lv_at hl 1 rfl) ?_
              refine lv_aload_n hx hb dX9_takeFault_168 rfl (lv_at hl 1 rfl) ?_
              refine r_get (a := 66) (v := .int (h135.1 66 24)) (C := RX9) (T := TX9) (N := 55) hx hb hts hinX9 hown hK hP (ltX9 rfl) (ceX9 rfl) rfl 24 (by decide) wd1059 rfl dX9_takeFault_169 ?_
              obtain ⟨h172, eh172⟩ : ∃ y, y = hU h135 66 21 (h135.1 66 24) := ⟨_, rfl⟩
              replace hf := lt_at eh172 hf
              refine r_put (a := 66) (v := .int (h135.1 66 24)) (ty := .int) (h' := h172) (C := RX9) (T := TX9) (N := 55) hG hx hb hts hinX9 tyX9 tyX9_ok nmX9 hown hK hP hS (ltX9 rfl) (ceX9 rfl) rfl 21 (by decide) wd1056 rfl (by decide +kernel) rfl rfl (Nat.le_of_ble_eq_true rfl) (by rw [eh172]; exact fun j hj => cE_U hj) (by rw [eh172]; exact puX9_21 rfl _) dX9_takeFault_172 (fun H locs hP hS => ?_)
              refine lv_aload_n hx hb dX9_takeFault_175 rfl (lv_at hl 1 rfl) ?_
              refine lv_aload_n hx hb dX9_takeFault_176 rfl (lv_at hl 1 rfl) ?_
              refine r_get (a := 66) (v := .ref (gB G 86)) (C := RX9) (T := TX9) (N := 55) hx hb hts hinX9 hown hK hP (ltX9 rfl) (ceX9 rfl) rfl 33 (by decide) wd1068 rfl dX9_takeFault_177 ?_
              refine lv_aload_n hx hb dX9_takeFault_180 rfl (lv_at hl 1 rfl) ?_
              refine r_get (a := 66) (v := .int (h172.1 66 31)) (C := RX9) (T := TX9) (N := 55) hx hb hts hinX9 hown hK hP (ltX9 rfl) (ceX9 rfl) rfl 31 (by decide) wd1066 rfl dX9_takeFault_181 ?_
              obtain ⟨v184, ev184, hf⟩ := bO_s hf
              refine r_iald hx hb hK hP (arX9_33 rfl) ev184 dX9_takeFault_184 ?_
              refine lv_iconst (v := 1) hx hb dX9_takeFault_185 (by decide) ?_
              refine lv_iadd hx hb dX9_takeFault_186 ?_
              refine lv_aload_n hx hb dX9_takeFault_187 rfl (lv_at hl 1 rfl) ?_
              refine r_get (a := 66) (v := .int (h172.1 66 27)) (C := RX9) (T := TX9) (N := 55) hx hb hts hinX9 hown hK hP (ltX9 rfl) (ceX9 rfl) rfl 27 (by decide) wd1062 rfl dX9_takeFault_188 ?_
              refine lv_iconst (v := 1) hx hb dX9_takeFault_191 (by decide) ?_
              refine lv_isub hx hb dX9_takeFault_192 ?_
              obtain ⟨r193, h193, er193, hf⟩ := bP_s hf
              refine r_callI (va_runV (As := [.int (v184 + 1), .int ((h172.1 66 27) - 1)]) (rest := []) ⟨hx, hb, hml, hown, hts⟩ (k_X9_takeNumber l hG er193) (cwV 2 hts (gV wd1254 wd1256 wd34 wd82 wd1257) rfl rfl rfl (by decide +kernel) ⟨Nat.le_of_ble_eq_true rfl, Nat.le_of_ble_eq_true rfl⟩) (r_pv hK hP hS (ltX9 rfl) (ceX9 rfl) rfl) rfl rfl hl.1 rfl (lv_room (Nat.le_of_ble_eq_true rfl)) dX9_takeFault_193 ⟨Nat.le_of_ble_eq_true rfl, Nat.le_of_ble_eq_true rfl⟩) hS (fun H locs hP hS => ?_)
              refine lv_istore_n (lv' := [(2, .int r193), (0, .ref (gB G 66)), (1, .int x1)]) hx hb dX9_takeFault_196 rfl hl (by decide) rfl (fun ls hl => ?_)
              refine lv_aload_n hx hb dX9_takeFault_197 rfl (lv_at hl 1 rfl) ?_
              refine r_get (a := 66) (v := .ref (gB G 87)) (C := RX9) (T := TX9) (N := 55) hx hb hts hinX9 hown hK hP (ltX9 rfl) (ceX9 rfl) rfl 34 (by decide) wd1069 rfl dX9_takeFault_198 ?_
              refine lv_aload_n hx hb dX9_takeFault_201 rfl (lv_at hl 1 rfl) ?_
              refine r_get (a := 66) (v := .int (h193.1 66 31)) (C := RX9) (T := TX9) (N := 55) hx hb hts hinX9 hown hK hP (ltX9 rfl) (ceX9 rfl) rfl 31 (by decide) wd1066 rfl dX9_takeFault_202 ?_
              refine lv_aload_n hx hb dX9_takeFault_205 rfl (lv_at hl 1 rfl) ?_
              refine r_get (a := 66) (v := .int (h193.1 66 25)) (C := RX9) (T := TX9) (N := 55) hx hb hts hinX9 hown hK hP (ltX9 rfl) (ceX9 rfl) rfl 25 (by decide) wd1060 rfl dX9_takeFault_206 ?_
              obtain ⟨h209, eh209, hf⟩ := bO_s hf
              refine r_iast hG hx hb hK hP hS (arX9_34 rfl) eh209 dX9_takeFault_209 (fun H locs hP hS => ?_)
              exact w_X9_takeFault_210 hG C r193 h209 _ _ _ (lv_sub hl [1, 0] rfl) hP hS hf
            · replace hf := if_f c154 hf
              refine lv_aload_n hx hb dX9_takeFault_157 rfl (lv_at hl 1 rfl) ?_
              refine lv_iconst (v := 1) hx hb dX9_takeFault_158 (by decide) ?_
              refine lv_aload_n hx hb dX9_takeFault_159 rfl (lv_at hl 1 rfl) ?_
              refine r_get (a := 66) (v := .int (h135.1 66 21)) (C := RX9) (T := TX9) (N := 55) hx hb hts hinX9 hown hK hP (ltX9 rfl) (ceX9 rfl) rfl 21 (by decide) wd1056 rfl dX9_takeFault_160 ?_
              obtain ⟨r163, h163, er163, hf⟩ := bP_s hf
              refine r_callI (va_runV (As := [.int 1, .int (h135.1 66 21)]) (rest := []) ⟨hx, hb, hml, hown, hts⟩ (k_X9_breaks l hG er163) (cwV 2 hts (gV wd1238 wd1240 wd30 wd82 wd1241) rfl rfl rfl (by decide +kernel) ⟨Nat.le_of_ble_eq_true rfl, Nat.le_of_ble_eq_true rfl⟩) (r_pv hK hP hS (ltX9 rfl) (ceX9 rfl) rfl) rfl rfl hl.1 rfl (lv_room (Nat.le_of_ble_eq_true rfl)) dX9_takeFault_163 ⟨Nat.le_of_ble_eq_true rfl, Nat.le_of_ble_eq_true rfl⟩) hS (fun H locs hP hS => ?_)
              exact r_iret hx hb hr hlocks hP hS (re2 (Option.some.inj hf)) dX9_takeFault_166
        · replace hf := if_f c120 hf
          refine lv_iload_n hx hb dX9_takeFault_123 rfl (lv_at hl 0 rfl) ?_
          exact r_iret hx hb hr hlocks hP hS (re2 (Option.some.inj hf)) dX9_takeFault_124
      · replace hf := if_f c63 hf
        refine lv_aload_n hx hb dX9_takeFault_66 rfl (lv_at hl 1 rfl) ?_
        refine lv_iconst (v := 1) hx hb dX9_takeFault_67 (by decide) ?_
        refine lv_aload_n hx hb dX9_takeFault_68 rfl (lv_at hl 1 rfl) ?_
        refine r_get (a := 66) (v := .int (h44.1 66 21)) (C := RX9) (T := TX9) (N := 55) hx hb hts hinX9 hown hK hP (ltX9 rfl) (ceX9 rfl) rfl 21 (by decide) wd1056 rfl dX9_takeFault_69 ?_
        obtain ⟨r72, h72, er72, hf⟩ := bP_s hf
        refine r_callI (va_runV (As := [.int 1, .int (h44.1 66 21)]) (rest := []) ⟨hx, hb, hml, hown, hts⟩ (k_X9_breaks l hG er72) (cwV 2 hts (gV wd1238 wd1240 wd30 wd82 wd1241) rfl rfl rfl (by decide +kernel) ⟨Nat.le_of_ble_eq_true rfl, Nat.le_of_ble_eq_true rfl⟩) (r_pv hK hP hS (ltX9 rfl) (ceX9 rfl) rfl) rfl rfl hl.1 rfl (lv_room (Nat.le_of_ble_eq_true rfl)) dX9_takeFault_72 ⟨Nat.le_of_ble_eq_true rfl, Nat.le_of_ble_eq_true rfl⟩) hS (fun H locs hP hS => ?_)
        exact r_iret hx hb hr hlocks hP hS (re2 (Option.some.inj hf)) dX9_takeFault_75
    · replace hf := if_f c38 hf
      refine lv_iload_n hx hb dX9_takeFault_41 rfl (lv_at hl 0 rfl) ?_
      exact r_iret hx hb hr hlocks hP hS (re2 (Option.some.inj hf)) dX9_takeFault_42
  · replace hf := if_t c6 hf
    refine lv_aload_n hx hb dX9_takeFault_9 rfl (lv_at hl 0 rfl) ?_
    refine lv_iconst (v := 3) hx hb dX9_takeFault_10 (by decide) ?_
    refine lv_iload_n hx hb dX9_takeFault_11 rfl (lv_at hl 1 rfl) ?_
    obtain ⟨r12, h12, er12, hf⟩ := bP_s hf
    refine r_callI (va_runV (As := [.int 3, .int x1]) (rest := []) ⟨hx, hb, hml, hown, hts⟩ (k_X9_breaks l hG er12) (cwV 2 hts (gV wd1238 wd1240 wd30 wd82 wd1241) rfl rfl rfl (by decide +kernel) ⟨Nat.le_of_ble_eq_true rfl, Nat.le_of_ble_eq_true rfl⟩) (r_pv hK hP hS (ltX9 rfl) (ceX9 rfl) rfl) rfl rfl hl.1 rfl (lv_room (Nat.le_of_ble_eq_true rfl)) dX9_takeFault_12 ⟨Nat.le_of_ble_eq_true rfl, Nat.le_of_ble_eq_true rfl⟩) hS (fun H locs hP hS => ?_)
    exact r_iret hx hb hr hlocks hP hS (re2 (Option.some.inj hf)) dX9_takeFault_15
/-! CarriedBackModel.takeClause()I -/
abbrev rmX9_takeClause : Room := { frames := 5, cells := 0, slots := 0, locals := 118 }
abbrev vX9_takeClause : List Cond := Cond.code yX9_takeClause cX9_takeClause 3 (some .int) :: GW
def f_X9_takeClause_79 (x1 : Int32) (x2 : Int32) (h : PH) : Option (Int32 × PH) := lt' (hU h 66 21 (h.1 66 24)) (fun h84 => if x2 = 0 then (bP (f_X9_takeFault x1 h84) (fun r101 h101 => some (r101, h101))) else (bP (f_X9_takeChange x1 h84) (fun r93 h93 => some (r93, h93))))
set_option maxHeartbeats 4000000 in
set_option maxRecDepth 100000 in
theorem w_X9_takeClause_79 {l : Launch} {G : GC} (hG : GOK G) {rr : Int32} {hh : PH} {p : Program} {e : Env} {s : State} {m : MethodId} {args : Array Value} {below : List Frame} {meth : Method} {c : Code} (C : MC l G p s m args meth c RX9 cX9_takeClause 3 (some .int)) : ∀ (x1 : Int32) (x2 : Int32) (h : PH) (H : Heap) (locs : List Loc) (ls : Array Slot), lv_has ls 3 [(0, .ref (gB G 66)), (1, .int x1), (2, .int x2)] → WP G h H → SP G s H locs → f_X9_takeClause_79 x1 x2 h = some (rr, hh) → W p l e rmX9_takeClause s m args below meth c H locs 0 0 (MQ below (QI G rr hh) args s 0 0 (gA G)) (F0 m 79 ls []) := by
  obtain ⟨hx, hb, hr, hlocks, hml, hown, hts, hK⟩ := id C
  intro x1 x2 h H locs ls hl hP hS hf
  rw [f_X9_takeClause_79] at hf
  refine lv_aload_n hx hb dX9_takeClause_79 rfl (lv_at hl 0 rfl) ?_
  refine lv_aload_n hx hb dX9_takeClause_80 rfl (lv_at hl 0 rfl) ?_
  refine r_get (a := 66) (v := .int (h.1 66 24)) (C := RX9) (T := TX9) (N := 55) hx hb hts hinX9 hown hK hP (ltX9 rfl) (ceX9 rfl) rfl 24 (by decide) wd1059 rfl dX9_takeClause_81 ?_
  obtain ⟨h84, eh84⟩ : ∃ y, y = hU h 66 21 (h.1 66 24) := ⟨_, rfl⟩
  replace hf := lt_at eh84 hf
  refine r_put (a := 66) (v := .int (h.1 66 24)) (ty := .int) (h' := h84) (C := RX9) (T := TX9) (N := 55) hG hx hb hts hinX9 tyX9 tyX9_ok nmX9 hown hK hP hS (ltX9 rfl) (ceX9 rfl) rfl 21 (by decide) wd1056 rfl (by decide +kernel) rfl rfl (Nat.le_of_ble_eq_true rfl) (by rw [eh84]; exact fun j hj => cE_U hj) (by rw [eh84]; exact puX9_21 rfl _) dX9_takeClause_84 (fun H locs hP hS => ?_)
  refine lv_iload_n hx hb dX9_takeClause_87 rfl (lv_at hl 2 rfl) ?_
  refine lv_if_eq (tgt := 99) hx hb dX9_takeClause_88 (by decide) (fun c88 => ?_) (fun c88 => ?_)
  · replace hf := if_t c88 hf
    refine lv_aload_n hx hb dX9_takeClause_99 rfl (lv_at hl 0 rfl) ?_
    refine lv_iload_n hx hb dX9_takeClause_100 rfl (lv_at hl 1 rfl) ?_
    obtain ⟨r101, h101, er101, hf⟩ := bP_s hf
    refine r_callI (va_runV (As := [.int x1]) (rest := []) ⟨hx, hb, hml, hown, hts⟩ (k_X9_takeFault l hG er101) (cwV 1 hts (gV wd1275 wd1277 wd38 wd82 wd1278) rfl rfl rfl (by decide +kernel) ⟨Nat.le_of_ble_eq_true rfl, Nat.le_of_ble_eq_true rfl⟩) (r_pv hK hP hS (ltX9 rfl) (ceX9 rfl) rfl) rfl rfl hl.1 rfl (lv_room (Nat.le_of_ble_eq_true rfl)) dX9_takeClause_101 ⟨Nat.le_of_ble_eq_true rfl, Nat.le_of_ble_eq_true rfl⟩) hS (fun H locs hP hS => ?_)
    exact r_iret hx hb hr hlocks hP hS (re2 (Option.some.inj hf)) dX9_takeClause_104
  · replace hf := if_f c88 hf
    refine lv_aload_n hx hb dX9_takeClause_91 rfl (lv_at hl 0 rfl) ?_
    refine lv_iload_n hx hb dX9_takeClause_92 rfl (lv_at hl 1 rfl) ?_
    obtain ⟨r93, h93, er93, hf⟩ := bP_s hf
    refine r_callI (va_runV (As := [.int x1]) (rest := []) ⟨hx, hb, hml, hown, hts⟩ (k_X9_takeChange l hG er93) (cwV 1 hts (gV wd1242 wd1244 wd31 wd82 wd1245) rfl rfl rfl (by decide +kernel) ⟨Nat.le_of_ble_eq_true rfl, Nat.le_of_ble_eq_true rfl⟩) (r_pv hK hP hS (ltX9 rfl) (ceX9 rfl) rfl) rfl rfl hl.1 rfl (lv_room (Nat.le_of_ble_eq_true rfl)) dX9_takeClause_93 ⟨Nat.le_of_ble_eq_true rfl, Nat.le_of_ble_eq_true rfl⟩) hS (fun H locs hP hS => ?_)
    refine lv_goto (tgt := 104) hx hb dX9_takeClause_96 (by decide) ?_
    exact r_iret hx hb hr hlocks hP hS (re2 (Option.some.inj hf)) dX9_takeClause_104
def f_X9_takeClause_43 (x1 : Int32) (t0 : Int32) (h : PH) : Option (Int32 × PH) := if t0 = 0 then (bO (f_X9_code 102 97 117 108) (fun r60 => bO (f_X9_longer r60 116) (fun r65 => if (lg_cmp h.2 r65) = 0 then (f_X9_takeClause_79 x1 t0 h) else (bP (f_X9_breaks 1 x1 h) (fun r75 h75 => some (r75, h75)))))) else (f_X9_takeClause_79 x1 t0 h)
set_option maxHeartbeats 4000000 in
set_option maxRecDepth 100000 in
theorem w_X9_takeClause_43 {l : Launch} {G : GC} (hG : GOK G) {rr : Int32} {hh : PH} {p : Program} {e : Env} {s : State} {m : MethodId} {args : Array Value} {below : List Frame} {meth : Method} {c : Code} (C : MC l G p s m args meth c RX9 cX9_takeClause 3 (some .int)) : ∀ (x1 : Int32) (t0 : Int32) (h : PH) (H : Heap) (locs : List Loc) (ls : Array Slot), lv_has ls 3 [(0, .ref (gB G 66)), (1, .int x1)] → WP G h H → SP G s H locs → f_X9_takeClause_43 x1 t0 h = some (rr, hh) → W p l e rmX9_takeClause s m args below meth c H locs 0 0 (MQ below (QI G rr hh) args s 0 0 (gA G)) (F0 m 43 ls [.int t0]) := by
  obtain ⟨hx, hb, hr, hlocks, hml, hown, hts, hK⟩ := id C
  intro x1 t0 h H locs ls hl hP hS hf
  rw [f_X9_takeClause_43] at hf
  refine lv_istore_n (lv' := [(2, .int t0), (0, .ref (gB G 66)), (1, .int x1)]) hx hb dX9_takeClause_43 rfl hl (by decide) rfl (fun ls hl => ?_)
  refine lv_iload_n hx hb dX9_takeClause_44 rfl (lv_at hl 0 rfl) ?_
  refine lv_if_ne (tgt := 79) hx hb dX9_takeClause_45 (by decide) (fun c45 => ?_) (fun c45 => ?_)
  · replace hf := if_f c45 hf
    exact w_X9_takeClause_79 hG C x1 t0 h _ _ _ (lv_sub hl [1, 2, 0] rfl) hP hS hf
  · replace hf := if_t c45 hf
    refine lv_aload_n hx hb dX9_takeClause_48 rfl (lv_at hl 1 rfl) ?_
    refine r_get (a := 66) (v := .long h.2) (C := RX9) (T := TX9) (N := 55) hx hb hts hinX9 hown hK hP (ltX9 rfl) (ceX9 rfl) rfl 23 (by decide) wd1058 rfl dX9_takeClause_49 ?_
    refine lv_bipush (v := 102) hx hb dX9_takeClause_52 (by decide) ?_
    refine lv_bipush (v := 97) hx hb dX9_takeClause_54 (by decide) ?_
    refine lv_bipush (v := 117) hx hb dX9_takeClause_56 (by decide) ?_
    refine lv_bipush (v := 108) hx hb dX9_takeClause_58 (by decide) ?_
    obtain ⟨r60, er60, hf⟩ := bO_s hf
    refine r_callL (va_runS (As := [.int 102, .int 97, .int 117, .int 108]) (rest := [.long h.2]) ⟨hx, hb, hml, hown, hts⟩ (k_X9_code l hG (h := h) er60) (va_cwS 4 hts (gS wd1232 wd1233 wd82 wd1234) rfl rfl rfl (by decide +kernel) ⟨Nat.le_of_ble_eq_true rfl, Nat.le_of_ble_eq_true rfl⟩) (r_ps hK hP hS) rfl rfl hl.1 rfl (lv_room (Nat.le_of_ble_eq_true rfl)) dX9_takeClause_60 ⟨Nat.le_of_ble_eq_true rfl, Nat.le_of_ble_eq_true rfl⟩) hS (fun H locs hP hS => ?_)
    refine lv_bipush (v := 116) hx hb dX9_takeClause_63 (by decide) ?_
    obtain ⟨r65, er65, hf⟩ := bO_s hf
    refine r_callL (va_runS (As := [.long r60, .int 116]) (rest := [.long h.2]) ⟨hx, hb, hml, hown, hts⟩ (k_X9_longer l hG (h := h) er65) (va_cwS 2 hts (gS wd1235 wd1236 wd82 wd1237) rfl rfl rfl (by decide +kernel) ⟨Nat.le_of_ble_eq_true rfl, Nat.le_of_ble_eq_true rfl⟩) (r_ps hK hP hS) rfl rfl hl.1 rfl (lv_room (Nat.le_of_ble_eq_true rfl)) dX9_takeClause_65 ⟨Nat.le_of_ble_eq_true rfl, Nat.le_of_ble_eq_true rfl⟩) hS (fun H locs hP hS => ?_)
    refine W.lcmp hx hb dX9_takeClause_68 ?_
    refine lv_if_eq (tgt := 79) hx hb dX9_takeClause_69 (by decide) (fun c69 => ?_) (fun c69 => ?_)
    · replace hf := if_t c69 hf
      exact w_X9_takeClause_79 hG C x1 t0 h _ _ _ (lv_sub hl [1, 2, 0] rfl) hP hS hf
    · replace hf := if_f c69 hf
      refine lv_aload_n hx hb dX9_takeClause_72 rfl (lv_at hl 1 rfl) ?_
      refine lv_iconst (v := 1) hx hb dX9_takeClause_73 (by decide) ?_
      refine lv_iload_n hx hb dX9_takeClause_74 rfl (lv_at hl 2 rfl) ?_
      obtain ⟨r75, h75, er75, hf⟩ := bP_s hf
      refine r_callI (va_runV (As := [.int 1, .int x1]) (rest := []) ⟨hx, hb, hml, hown, hts⟩ (k_X9_breaks l hG er75) (cwV 2 hts (gV wd1238 wd1240 wd30 wd82 wd1241) rfl rfl rfl (by decide +kernel) ⟨Nat.le_of_ble_eq_true rfl, Nat.le_of_ble_eq_true rfl⟩) (r_pv hK hP hS (ltX9 rfl) (ceX9 rfl) rfl) rfl rfl hl.1 rfl (lv_room (Nat.le_of_ble_eq_true rfl)) dX9_takeClause_75 ⟨Nat.le_of_ble_eq_true rfl, Nat.le_of_ble_eq_true rfl⟩) hS (fun H locs hP hS => ?_)
      exact r_iret hx hb hr hlocks hP hS (re2 (Option.some.inj hf)) dX9_takeClause_78
def f_X9_takeClause (h : PH) : Option (Int32 × PH) := bO (f_X9_readWord h) (fun h1 => lt' ((h1.1 66 21)) (fun x1_8 => bO (f_X9_code 99 104 97 110) (fun r21 => bO (f_X9_longer r21 103) (fun r26 => bO (f_X9_longer r26 101) (fun r31 => if (lg_cmp h1.2 r31) = 0 then (f_X9_takeClause_43 x1_8 1 h1) else (f_X9_takeClause_43 x1_8 0 h1))))))
set_option maxHeartbeats 4000000 in
set_option maxRecDepth 100000 in
theorem k_X9_takeClause (l : Launch) {G : GC} (hG : GOK G) {rr : Int32} {h hh : PH} (hf : f_X9_takeClause h = some (rr, hh)) : CI l yX9_takeClause vX9_takeClause rmX9_takeClause G [.ref (gB G 66)] h rr hh := by
  refine Met.ofW (cc := cX9_takeClause) (maxL := 3) (ret := (some .int)) (by decide +kernel) rfl ?_
  intro p e s m args below meth c s₁ B hml hv
  obtain ⟨rfl, hP, hK⟩ := hv
  have C : MC l G p s m _ meth c RX9 cX9_takeClause 3 (some .int) := ⟨B.exec, B.bytes, B.returns, B.notSynchronized, hml, findClass_of_methodNamed B.named, fun w hw => atoms_spec (ws := vX9_takeClause) B.pre w (List.mem_cons_of_mem _ hw), hK⟩
  obtain ⟨hx, hb, hr, hlocks, -, hown, hts, -⟩ := id C
  have hl := lv_entry ([.ref (gB G 66)]) (n := 3) (Nat.le_of_ble_eq_true rfl)
  rw [lg_entry_eq]
  generalize (lg_sl ([.ref (gB G 66)]) ++ List.replicate (3 - (lg_sl ([.ref (gB G 66)])).length) Slot.unset).toArray = ls at hl ⊢
  have hl : lv_has ls 3 [(0, .ref (gB G 66))] := hl
  have hS : SP G s s.heap [] := va_S.rf
  replace hP : WP G h s.heap := hP
  rw [f_X9_takeClause] at hf
  refine lv_aload_n hx hb dX9_takeClause_0 rfl (lv_at hl 0 rfl) ?_
  obtain ⟨h1, eh1, hf⟩ := bO_s hf
  refine r_callV (va_runV (As := []) (rest := []) ⟨hx, hb, hml, hown, hts⟩ (k_X9_readWord l hG eh1) (cwV 0 hts (gV wd1222 wd1224 wd29 wd82 wd1225) rfl rfl rfl (by decide +kernel) ⟨Nat.le_of_ble_eq_true rfl, Nat.le_of_ble_eq_true rfl⟩) (r_pv hK hP hS (ltX9 rfl) (ceX9 rfl) rfl) rfl rfl hl.1 rfl (lv_room (Nat.le_of_ble_eq_true rfl)) dX9_takeClause_1 ⟨Nat.le_of_ble_eq_true rfl, Nat.le_of_ble_eq_true rfl⟩) hS (fun H locs hP hS => ?_)
  refine lv_aload_n hx hb dX9_takeClause_4 rfl (lv_at hl 0 rfl) ?_
  refine r_get (a := 66) (v := .int (h1.1 66 21)) (C := RX9) (T := TX9) (N := 55) hx hb hts hinX9 hown hK hP (ltX9 rfl) (ceX9 rfl) rfl 21 (by decide) wd1056 rfl dX9_takeClause_5 ?_
  refine lv_topi (fun x1_8 ex1_8 => ?_)
  replace hf := lt_at ex1_8 hf
  refine lv_istore_n (lv' := [(1, .int x1_8), (0, .ref (gB G 66))]) hx hb dX9_takeClause_8 rfl hl (by decide) rfl (fun ls hl => ?_)
  refine lv_aload_n hx hb dX9_takeClause_9 rfl (lv_at hl 1 rfl) ?_
  refine r_get (a := 66) (v := .long h1.2) (C := RX9) (T := TX9) (N := 55) hx hb hts hinX9 hown hK hP (ltX9 rfl) (ceX9 rfl) rfl 23 (by decide) wd1058 rfl dX9_takeClause_10 ?_
  refine lv_bipush (v := 99) hx hb dX9_takeClause_13 (by decide) ?_
  refine lv_bipush (v := 104) hx hb dX9_takeClause_15 (by decide) ?_
  refine lv_bipush (v := 97) hx hb dX9_takeClause_17 (by decide) ?_
  refine lv_bipush (v := 110) hx hb dX9_takeClause_19 (by decide) ?_
  obtain ⟨r21, er21, hf⟩ := bO_s hf
  refine r_callL (va_runS (As := [.int 99, .int 104, .int 97, .int 110]) (rest := [.long h1.2]) ⟨hx, hb, hml, hown, hts⟩ (k_X9_code l hG (h := h1) er21) (va_cwS 4 hts (gS wd1232 wd1233 wd82 wd1234) rfl rfl rfl (by decide +kernel) ⟨Nat.le_of_ble_eq_true rfl, Nat.le_of_ble_eq_true rfl⟩) (r_ps hK hP hS) rfl rfl hl.1 rfl (lv_room (Nat.le_of_ble_eq_true rfl)) dX9_takeClause_21 ⟨Nat.le_of_ble_eq_true rfl, Nat.le_of_ble_eq_true rfl⟩) hS (fun H locs hP hS => ?_)
  refine lv_bipush (v := 103) hx hb dX9_takeClause_24 (by decide) ?_
  obtain ⟨r26, er26, hf⟩ := bO_s hf
  refine r_callL (va_runS (As := [.long r21, .int 103]) (rest := [.long h1.2]) ⟨hx, hb, hml, hown, hts⟩ (k_X9_longer l hG (h := h1) er26) (va_cwS 2 hts (gS wd1235 wd1236 wd82 wd1237) rfl rfl rfl (by decide +kernel) ⟨Nat.le_of_ble_eq_true rfl, Nat.le_of_ble_eq_true rfl⟩) (r_ps hK hP hS) rfl rfl hl.1 rfl (lv_room (Nat.le_of_ble_eq_true rfl)) dX9_takeClause_26 ⟨Nat.le_of_ble_eq_true rfl, Nat.le_of_ble_eq_true rfl⟩) hS (fun H locs hP hS => ?_)
  refine lv_bipush (v := 101) hx hb dX9_takeClause_29 (by decide) ?_
  obtain ⟨r31, er31, hf⟩ := bO_s hf
  refine r_callL (va_runS (As := [.long r26, .int 101]) (rest := [.long h1.2]) ⟨hx, hb, hml, hown, hts⟩ (k_X9_longer l hG (h := h1) er31) (va_cwS 2 hts (gS wd1235 wd1236 wd82 wd1237) rfl rfl rfl (by decide +kernel) ⟨Nat.le_of_ble_eq_true rfl, Nat.le_of_ble_eq_true rfl⟩) (r_ps hK hP hS) rfl rfl hl.1 rfl (lv_room (Nat.le_of_ble_eq_true rfl)) dX9_takeClause_31 ⟨Nat.le_of_ble_eq_true rfl, Nat.le_of_ble_eq_true rfl⟩) hS (fun H locs hP hS => ?_)
  refine W.lcmp hx hb dX9_takeClause_34 ?_
  refine lv_if_ne (tgt := 42) hx hb dX9_takeClause_35 (by decide) (fun c35 => ?_) (fun c35 => ?_)
  · replace hf := if_f c35 hf
    refine lv_iconst (v := 0) hx hb dX9_takeClause_42 (by decide) ?_
    exact w_X9_takeClause_43 hG C x1_8 0 h1 _ _ _ (lv_sub hl [1, 0] rfl) hP hS hf
  · replace hf := if_t c35 hf
    refine lv_iconst (v := 1) hx hb dX9_takeClause_38 (by decide) ?_
    refine lv_goto (tgt := 43) hx hb dX9_takeClause_39 (by decide) ?_
    exact w_X9_takeClause_43 hG C x1_8 1 h1 _ _ _ (lv_sub hl [1, 0] rfl) hP hS hf
/-! CarriedBackModel.setter(II)I -/
abbrev rmX9_setter : Room := { frames := 0, cells := 0, slots := 0, locals := 0 }
abbrev vX9_setter : List Cond := Cond.code yX9_setter cX9_setter 5 (some .int) :: GW
def f_X9_setter_5 (x1 : Int32) (x2 : Int32) : Nat → Int32 → Int32 → PH → Option (Int32 × PH)
  | 0, _, _, _ => none
  | n + 1, x3, x4, h => if x1 ≤ x4 then (some (x3, h)) else (bO (ag h 67 384 ((16 * x4) + x2)) (fun v22 => if v22 ≤ 0 then ((f_X9_setter_5 x1 x2 n) x3 (x4 + 1) h) else ((f_X9_setter_5 x1 x2 n) x4 (x4 + 1) h)))
set_option maxHeartbeats 4000000 in
set_option maxRecDepth 100000 in
theorem w_X9_setter_5 {l : Launch} {G : GC} (hG : GOK G) {rr : Int32} {hh : PH} {p : Program} {e : Env} {s : State} {m : MethodId} {args : Array Value} {below : List Frame} {meth : Method} {c : Code} (C : MC l G p s m args meth c RX9 cX9_setter 5 (some .int)) (x1 : Int32) (x2 : Int32) : ∀ (n : Nat) (x3 : Int32) (x4 : Int32) (h : PH) (H : Heap) (locs : List Loc) (ls : Array Slot), lv_has ls 5 [(0, .ref (gB G 66)), (1, .int x1), (2, .int x2), (3, .int x3), (4, .int x4)] → WP G h H → SP G s H locs → f_X9_setter_5 x1 x2 n x3 x4 h = some (rr, hh) → W p l e rmX9_setter s m args below meth c H locs 0 0 (MQ below (QI G rr hh) args s 0 0 (gA G)) (F0 m 5 ls []) := by
  obtain ⟨hx, hb, hr, hlocks, hml, hown, hts, hK⟩ := id C
  intro n
  induction n with
  | zero => intro x3 x4 h H locs ls hl hP hS hf; rw [f_X9_setter_5] at hf; cases hf
  | succ n ih =>
    intro x3 x4 h H locs ls hl hP hS hf
    rw [f_X9_setter_5] at hf
    refine lv_iload hx hb dX9_setter_5 (lv_at hl 4 rfl) ?_
    refine lv_iload_n hx hb dX9_setter_7 rfl (lv_at hl 1 rfl) ?_
    refine lv_icmp_ge (tgt := 39) hx hb dX9_setter_8 (by decide) (fun c8 => ?_) (fun c8 => ?_)
    · replace hf := if_t c8 hf
      refine lv_iload_n hx hb dX9_setter_39 rfl (lv_at hl 3 rfl) ?_
      exact r_iret hx hb hr hlocks hP hS (re2 (Option.some.inj hf)) dX9_setter_40
    · replace hf := if_f c8 hf
      refine lv_aload_n hx hb dX9_setter_11 rfl (lv_at hl 0 rfl) ?_
      refine r_get (a := 66) (v := .ref (gB G 67)) (C := RX9) (T := TX9) (N := 55) hx hb hts hinX9 hown hK hP (ltX9 rfl) (ceX9 rfl) rfl 1 (by decide) wd1036 rfl dX9_setter_12 ?_
      refine lv_bipush (v := 16) hx hb dX9_setter_15 (by decide) ?_
      refine lv_iload hx hb dX9_setter_17 (lv_at hl 4 rfl) ?_
      refine lv_imul hx hb dX9_setter_19 ?_
      refine lv_iload_n hx hb dX9_setter_20 rfl (lv_at hl 2 rfl) ?_
      refine lv_iadd hx hb dX9_setter_21 ?_
      obtain ⟨v22, ev22, hf⟩ := bO_s hf
      refine r_iald hx hb hK hP (arX9_1 rfl) ev22 dX9_setter_22 ?_
      refine lv_if_le (tgt := 31) hx hb dX9_setter_23 (by decide) (fun c23 => ?_) (fun c23 => ?_)
      · replace hf := if_t c23 hf
        refine lv_iload_n hx hb dX9_setter_31 rfl (lv_at hl 3 rfl) ?_
        refine lv_istore_n (lv' := [(3, .int x3), (0, .ref (gB G 66)), (1, .int x1), (2, .int x2), (4, .int x4)]) hx hb dX9_setter_32 rfl hl (by decide) rfl (fun ls hl => ?_)
        refine lv_iinc (v := (x4 + 1)) (lv' := [(4, .int (x4 + 1)), (3, .int x3), (0, .ref (gB G 66)), (1, .int x1), (2, .int x2)]) hx hb dX9_setter_33 hl (k := 4) rfl rfl (by decide) rfl (fun ls hl => ?_)
        refine lv_goto (tgt := 5) hx hb dX9_setter_36 (by decide) ?_
        exact ih x3 (x4 + 1) h _ _ _ (lv_sub hl [2, 3, 4, 1, 0] rfl) hP hS hf
      · replace hf := if_f c23 hf
        refine lv_iload hx hb dX9_setter_26 (lv_at hl 4 rfl) ?_
        refine lv_goto (tgt := 32) hx hb dX9_setter_28 (by decide) ?_
        refine lv_istore_n (lv' := [(3, .int x4), (0, .ref (gB G 66)), (1, .int x1), (2, .int x2), (4, .int x4)]) hx hb dX9_setter_32 rfl hl (by decide) rfl (fun ls hl => ?_)
        refine lv_iinc (v := (x4 + 1)) (lv' := [(4, .int (x4 + 1)), (3, .int x4), (0, .ref (gB G 66)), (1, .int x1), (2, .int x2)]) hx hb dX9_setter_33 hl (k := 4) rfl rfl (by decide) rfl (fun ls hl => ?_)
        refine lv_goto (tgt := 5) hx hb dX9_setter_36 (by decide) ?_
        exact ih x4 (x4 + 1) h _ _ _ (lv_sub hl [2, 3, 4, 1, 0] rfl) hP hS hf
def f_X9_setter (x1 : Int32) (x2 : Int32) (h : PH) : Option (Int32 × PH) := f_X9_setter_5 x1 x2 FU (-1) 0 h
set_option maxHeartbeats 4000000 in
set_option maxRecDepth 100000 in
theorem k_X9_setter (l : Launch) {G : GC} (hG : GOK G) {x1 : Int32} {x2 : Int32} {rr : Int32} {h hh : PH} (hf : f_X9_setter x1 x2 h = some (rr, hh)) : CI l yX9_setter vX9_setter rmX9_setter G [.ref (gB G 66), .int x1, .int x2] h rr hh := by
  refine Met.ofW (cc := cX9_setter) (maxL := 5) (ret := (some .int)) (by decide +kernel) rfl ?_
  intro p e s m args below meth c s₁ B hml hv
  obtain ⟨rfl, hP, hK⟩ := hv
  have C : MC l G p s m _ meth c RX9 cX9_setter 5 (some .int) := ⟨B.exec, B.bytes, B.returns, B.notSynchronized, hml, findClass_of_methodNamed B.named, fun w hw => atoms_spec (ws := vX9_setter) B.pre w (List.mem_cons_of_mem _ hw), hK⟩
  obtain ⟨hx, hb, hr, hlocks, -, hown, hts, -⟩ := id C
  have hl := lv_entry ([.ref (gB G 66), .int x1, .int x2]) (n := 5) (Nat.le_of_ble_eq_true rfl)
  rw [lg_entry_eq]
  generalize (lg_sl ([.ref (gB G 66), .int x1, .int x2]) ++ List.replicate (5 - (lg_sl ([.ref (gB G 66), .int x1, .int x2])).length) Slot.unset).toArray = ls at hl ⊢
  have hl : lv_has ls 5 [(0, .ref (gB G 66)), (1, .int x1), (2, .int x2)] := hl
  have hS : SP G s s.heap [] := va_S.rf
  replace hP : WP G h s.heap := hP
  rw [f_X9_setter] at hf
  refine lv_iconst (v := (-1)) hx hb dX9_setter_0 (by decide) ?_
  refine lv_istore_n (lv' := [(3, .int (-1)), (0, .ref (gB G 66)), (1, .int x1), (2, .int x2)]) hx hb dX9_setter_1 rfl hl (by decide) rfl (fun ls hl => ?_)
  refine lv_iconst (v := 0) hx hb dX9_setter_2 (by decide) ?_
  refine lv_istore (lv' := [(4, .int 0), (3, .int (-1)), (0, .ref (gB G 66)), (1, .int x1), (2, .int x2)]) hx hb dX9_setter_3 hl (by decide) rfl (fun ls hl => ?_)
  exact w_X9_setter_5 hG C x1 x2 FU (-1) 0 h _ _ _ (lv_sub hl [2, 3, 4, 1, 0] rfl) hP hS hf
/-! CarriedBackModel.findAhead()V -/
abbrev rmX9_findAhead : Room := { frames := 1, cells := 0, slots := 0, locals := 24 }
abbrev vX9_findAhead : List Cond := Cond.code yX9_findAhead cX9_findAhead 4 none :: GW
def f_X9_findAhead_54 (x1 : Int32) (k2 : Int32 → PH → Option PH) (k12 : Int32 → PH → Option PH) (x2 : Int32) (t1 : Int32) (t2 : Int32) (h : PH) : Option PH := bO (asg h 88 400 t1 t2) (fun h54 => k12 (x2 + 1) h54)
set_option maxHeartbeats 4000000 in
set_option maxRecDepth 100000 in
theorem w_X9_findAhead_54 {l : Launch} {G : GC} (hG : GOK G) {hh : PH} {p : Program} {e : Env} {s : State} {m : MethodId} {args : Array Value} {below : List Frame} {meth : Method} {c : Code} (C : MC l G p s m args meth c RX9 cX9_findAhead 4 none) (x1 : Int32) (k2 : Int32 → PH → Option PH) (hk2 : ∀ (x1 : Int32) (h : PH) (H : Heap) (locs : List Loc) (ls : Array Slot), lv_has ls 4 [(0, .ref (gB G 66)), (1, .int x1)] → WP G h H → SP G s H locs → k2 x1 h = some hh → W p l e rmX9_findAhead s m args below meth c H locs 0 0 (MQ below (QV G hh) args s 0 0 (gA G)) (F0 m 2 ls [])) (k12 : Int32 → PH → Option PH) (hk12 : ∀ (x2 : Int32) (h : PH) (H : Heap) (locs : List Loc) (ls : Array Slot), lv_has ls 4 [(0, .ref (gB G 66)), (1, .int x1), (2, .int x2)] → WP G h H → SP G s H locs → k12 x2 h = some hh → W p l e rmX9_findAhead s m args below meth c H locs 0 0 (MQ below (QV G hh) args s 0 0 (gA G)) (F0 m 12 ls [])) : ∀ (x2 : Int32) (t1 : Int32) (t2 : Int32) (h : PH) (H : Heap) (locs : List Loc) (ls : Array Slot), lv_has ls 4 [(0, .ref (gB G 66)), (1, .int x1), (2, .int x2)] → WP G h H → SP G s H locs → f_X9_findAhead_54 x1 k2 k12 x2 t1 t2 h = some hh → W p l e rmX9_findAhead s m args below meth c H locs 0 0 (MQ below (QV G hh) args s 0 0 (gA G)) (F0 m 54 ls [.int t2, .int t1, .ref (gB G 88)]) := by
  obtain ⟨hx, hb, hr, hlocks, hml, hown, hts, hK⟩ := id C
  intro x2 t1 t2 h H locs ls hl hP hS hf
  rw [f_X9_findAhead_54] at hf
  obtain ⟨h54, eh54, hf⟩ := bO_s hf
  refine r_iast hG hx hb hK hP hS (arX9_36 rfl) eh54 dX9_findAhead_54 (fun H locs hP hS => ?_)
  refine lv_iinc (v := (x2 + 1)) (lv' := [(2, .int (x2 + 1)), (0, .ref (gB G 66)), (1, .int x1)]) hx hb dX9_findAhead_55 hl (k := 2) rfl rfl (by decide) rfl (fun ls hl => ?_)
  refine lv_goto (tgt := 12) hx hb dX9_findAhead_58 (by decide) ?_
  exact hk12 (x2 + 1) h54 _ _ _ (lv_sub hl [1, 2, 0] rfl) hP hS hf
def f_X9_findAhead_12 (x1 : Int32) (k2 : Int32 → PH → Option PH) : Nat → Int32 → PH → Option PH
  | 0, _, _ => none
  | n + 1, x2, h => if (16 : Int32) ≤ x2 then (k2 (x1 + 1) h) else (bP (f_X9_setter x1 x2 h) (fun r21 h21 => if (0 : Int32) ≤ r21 then (bO (ag h21 67 384 ((16 * r21) + x2)) (fun v53 => f_X9_findAhead_54 x1 k2 (f_X9_findAhead_12 x1 k2 n) x2 ((16 * x1) + x2) v53 h21)) else (f_X9_findAhead_54 x1 k2 (f_X9_findAhead_12 x1 k2 n) x2 ((16 * x1) + x2) 0 h21)))
set_option maxHeartbeats 4000000 in
set_option maxRecDepth 100000 in
theorem w_X9_findAhead_12 {l : Launch} {G : GC} (hG : GOK G) {hh : PH} {p : Program} {e : Env} {s : State} {m : MethodId} {args : Array Value} {below : List Frame} {meth : Method} {c : Code} (C : MC l G p s m args meth c RX9 cX9_findAhead 4 none) (x1 : Int32) (k2 : Int32 → PH → Option PH) (hk2 : ∀ (x1 : Int32) (h : PH) (H : Heap) (locs : List Loc) (ls : Array Slot), lv_has ls 4 [(0, .ref (gB G 66)), (1, .int x1)] → WP G h H → SP G s H locs → k2 x1 h = some hh → W p l e rmX9_findAhead s m args below meth c H locs 0 0 (MQ below (QV G hh) args s 0 0 (gA G)) (F0 m 2 ls [])) : ∀ (n : Nat) (x2 : Int32) (h : PH) (H : Heap) (locs : List Loc) (ls : Array Slot), lv_has ls 4 [(0, .ref (gB G 66)), (1, .int x1), (2, .int x2)] → WP G h H → SP G s H locs → f_X9_findAhead_12 x1 k2 n x2 h = some hh → W p l e rmX9_findAhead s m args below meth c H locs 0 0 (MQ below (QV G hh) args s 0 0 (gA G)) (F0 m 12 ls []) := by
  obtain ⟨hx, hb, hr, hlocks, hml, hown, hts, hK⟩ := id C
  intro n
  induction n with
  | zero => intro x2 h H locs ls hl hP hS hf; rw [f_X9_findAhead_12] at hf; cases hf
  | succ n ih =>
    intro x2 h H locs ls hl hP hS hf
    rw [f_X9_findAhead_12] at hf
    refine lv_iload_n hx hb dX9_findAhead_12 rfl (lv_at hl 2 rfl) ?_
    refine lv_bipush (v := 16) hx hb dX9_findAhead_13 (by decide) ?_
    refine lv_icmp_ge (tgt := 61) hx hb dX9_findAhead_15 (by decide) (fun c15 => ?_) (fun c15 => ?_)
    · replace hf := if_t c15 hf
      refine lv_iinc (v := (x1 + 1)) (lv' := [(1, .int (x1 + 1)), (0, .ref (gB G 66)), (2, .int x2)]) hx hb dX9_findAhead_61 hl (k := 1) rfl rfl (by decide) rfl (fun ls hl => ?_)
      refine lv_goto (tgt := 2) hx hb dX9_findAhead_64 (by decide) ?_
      exact hk2 (x1 + 1) h _ _ _ (lv_sub hl [1, 0] rfl) hP hS hf
    · replace hf := if_f c15 hf
      refine lv_aload_n hx hb dX9_findAhead_18 rfl (lv_at hl 0 rfl) ?_
      refine lv_iload_n hx hb dX9_findAhead_19 rfl (lv_at hl 1 rfl) ?_
      refine lv_iload_n hx hb dX9_findAhead_20 rfl (lv_at hl 2 rfl) ?_
      obtain ⟨r21, h21, er21, hf⟩ := bP_s hf
      refine r_callI (va_runV (As := [.int x1, .int x2]) (rest := []) ⟨hx, hb, hml, hown, hts⟩ (k_X9_setter l hG er21) (cwV 2 hts (gV wd1287 wd1289 wd41 wd82 wd1290) rfl rfl rfl (by decide +kernel) ⟨Nat.le_of_ble_eq_true rfl, Nat.le_of_ble_eq_true rfl⟩) (r_pv hK hP hS (ltX9 rfl) (ceX9 rfl) rfl) rfl rfl hl.1 rfl (lv_room (Nat.le_of_ble_eq_true rfl)) dX9_findAhead_21 ⟨Nat.le_of_ble_eq_true rfl, Nat.le_of_ble_eq_true rfl⟩) hS (fun H locs hP hS => ?_)
      refine lv_istore_n (lv' := [(3, .int r21), (0, .ref (gB G 66)), (1, .int x1), (2, .int x2)]) hx hb dX9_findAhead_24 rfl hl (by decide) rfl (fun ls hl => ?_)
      refine lv_aload_n hx hb dX9_findAhead_25 rfl (lv_at hl 1 rfl) ?_
      refine r_get (a := 66) (v := .ref (gB G 88)) (C := RX9) (T := TX9) (N := 55) hx hb hts hinX9 hown hK hP (ltX9 rfl) (ceX9 rfl) rfl 36 (by decide) wd1071 rfl dX9_findAhead_26 ?_
      refine lv_bipush (v := 16) hx hb dX9_findAhead_29 (by decide) ?_
      refine lv_iload_n hx hb dX9_findAhead_31 rfl (lv_at hl 2 rfl) ?_
      refine lv_imul hx hb dX9_findAhead_32 ?_
      refine lv_iload_n hx hb dX9_findAhead_33 rfl (lv_at hl 3 rfl) ?_
      refine lv_iadd hx hb dX9_findAhead_34 ?_
      refine lv_iload_n hx hb dX9_findAhead_35 rfl (lv_at hl 0 rfl) ?_
      refine lv_if_ge (tgt := 43) hx hb dX9_findAhead_36 (by decide) (fun c36 => ?_) (fun c36 => ?_)
      · replace hf := if_t c36 hf
        refine lv_aload_n hx hb dX9_findAhead_43 rfl (lv_at hl 1 rfl) ?_
        refine r_get (a := 66) (v := .ref (gB G 67)) (C := RX9) (T := TX9) (N := 55) hx hb hts hinX9 hown hK hP (ltX9 rfl) (ceX9 rfl) rfl 1 (by decide) wd1036 rfl dX9_findAhead_44 ?_
        refine lv_bipush (v := 16) hx hb dX9_findAhead_47 (by decide) ?_
        refine lv_iload_n hx hb dX9_findAhead_49 rfl (lv_at hl 0 rfl) ?_
        refine lv_imul hx hb dX9_findAhead_50 ?_
        refine lv_iload_n hx hb dX9_findAhead_51 rfl (lv_at hl 3 rfl) ?_
        refine lv_iadd hx hb dX9_findAhead_52 ?_
        obtain ⟨v53, ev53, hf⟩ := bO_s hf
        refine r_iald hx hb hK hP (arX9_1 rfl) ev53 dX9_findAhead_53 ?_
        exact w_X9_findAhead_54 hG C x1 k2 hk2 (f_X9_findAhead_12 x1 k2 n) ih x2 ((16 * x1) + x2) v53 h21 _ _ _ (lv_sub hl [1, 2, 3] rfl) hP hS hf
      · replace hf := if_f c36 hf
        refine lv_iconst (v := 0) hx hb dX9_findAhead_39 (by decide) ?_
        refine lv_goto (tgt := 54) hx hb dX9_findAhead_40 (by decide) ?_
        exact w_X9_findAhead_54 hG C x1 k2 hk2 (f_X9_findAhead_12 x1 k2 n) ih x2 ((16 * x1) + x2) 0 h21 _ _ _ (lv_sub hl [1, 2, 3] rfl) hP hS hf
def f_X9_findAhead_2 : Nat → Int32 → PH → Option PH
  | 0, _, _ => none
  | n + 1, x1, h => if (h.1 66 0) < x1 then (some h) else (f_X9_findAhead_12 x1 (f_X9_findAhead_2 n) FU 0 h)
set_option maxHeartbeats 4000000 in
set_option maxRecDepth 100000 in
theorem w_X9_findAhead_2 {l : Launch} {G : GC} (hG : GOK G) {hh : PH} {p : Program} {e : Env} {s : State} {m : MethodId} {args : Array Value} {below : List Frame} {meth : Method} {c : Code} (C : MC l G p s m args meth c RX9 cX9_findAhead 4 none) : ∀ (n : Nat) (x1 : Int32) (h : PH) (H : Heap) (locs : List Loc) (ls : Array Slot), lv_has ls 4 [(0, .ref (gB G 66)), (1, .int x1)] → WP G h H → SP G s H locs → f_X9_findAhead_2 n x1 h = some hh → W p l e rmX9_findAhead s m args below meth c H locs 0 0 (MQ below (QV G hh) args s 0 0 (gA G)) (F0 m 2 ls []) := by
  obtain ⟨hx, hb, hr, hlocks, hml, hown, hts, hK⟩ := id C
  intro n
  induction n with
  | zero => intro x1 h H locs ls hl hP hS hf; rw [f_X9_findAhead_2] at hf; cases hf
  | succ n ih =>
    intro x1 h H locs ls hl hP hS hf
    rw [f_X9_findAhead_2] at hf
    refine lv_iload_n hx hb dX9_findAhead_2 rfl (lv_at hl 1 rfl) ?_
    refine lv_aload_n hx hb dX9_findAhead_3 rfl (lv_at hl 0 rfl) ?_
    refine r_get (a := 66) (v := .int (h.1 66 0)) (C := RX9) (T := TX9) (N := 55) hx hb hts hinX9 hown hK hP (ltX9 rfl) (ceX9 rfl) rfl 0 (by decide) wd1035 rfl dX9_findAhead_4 ?_
    refine lv_icmp_gt (tgt := 67) hx hb dX9_findAhead_7 (by decide) (fun c7 => ?_) (fun c7 => ?_)
    · replace hf := if_t c7 hf
      exact r_vret hx hb hr hlocks hP hS (Option.some.inj hf) dX9_findAhead_67
    · replace hf := if_f c7 hf
      refine lv_iconst (v := 0) hx hb dX9_findAhead_10 (by decide) ?_
      refine lv_istore_n (lv' := [(2, .int 0), (0, .ref (gB G 66)), (1, .int x1)]) hx hb dX9_findAhead_11 rfl hl (by decide) rfl (fun ls hl => ?_)
      exact w_X9_findAhead_12 hG C x1 (f_X9_findAhead_2 n) ih FU 0 h _ _ _ (lv_sub hl [1, 2, 0] rfl) hP hS hf
def f_X9_findAhead (h : PH) : Option PH := f_X9_findAhead_2 FU 0 h
set_option maxHeartbeats 4000000 in
set_option maxRecDepth 100000 in
theorem k_X9_findAhead (l : Launch) {G : GC} (hG : GOK G) {h hh : PH} (hf : f_X9_findAhead h = some hh) : CV l yX9_findAhead vX9_findAhead rmX9_findAhead G [.ref (gB G 66)] h hh := by
  refine Met.ofW (cc := cX9_findAhead) (maxL := 4) (ret := none) (by decide +kernel) rfl ?_
  intro p e s m args below meth c s₁ B hml hv
  obtain ⟨rfl, hP, hK⟩ := hv
  have C : MC l G p s m _ meth c RX9 cX9_findAhead 4 none := ⟨B.exec, B.bytes, B.returns, B.notSynchronized, hml, findClass_of_methodNamed B.named, fun w hw => atoms_spec (ws := vX9_findAhead) B.pre w (List.mem_cons_of_mem _ hw), hK⟩
  obtain ⟨hx, hb, hr, hlocks, -, hown, hts, -⟩ := id C
  have hl := lv_entry ([.ref (gB G 66)]) (n := 4) (Nat.le_of_ble_eq_true rfl)
  rw [lg_entry_eq]
  generalize (lg_sl ([.ref (gB G 66)]) ++ List.replicate (4 - (lg_sl ([.ref (gB G 66)])).length) Slot.unset).toArray = ls at hl ⊢
  have hl : lv_has ls 4 [(0, .ref (gB G 66))] := hl
  have hS : SP G s s.heap [] := va_S.rf
  replace hP : WP G h s.heap := hP
  rw [f_X9_findAhead] at hf
  refine lv_iconst (v := 0) hx hb dX9_findAhead_0 (by decide) ?_
  refine lv_istore_n (lv' := [(1, .int 0), (0, .ref (gB G 66))]) hx hb dX9_findAhead_1 rfl hl (by decide) rfl (fun ls hl => ?_)
  exact w_X9_findAhead_2 hG C FU 0 h _ _ _ (lv_sub hl [1, 0] rfl) hP hS hf
/-! CarriedBackModel.keepTrunk()V -/
abbrev rmX9_keepTrunk : Room := { frames := 2, cells := 0, slots := 0, locals := 47 }
abbrev vX9_keepTrunk : List Cond := Cond.code yX9_keepTrunk cX9_keepTrunk 2 none :: GW
def f_X9_keepTrunk_89 : Nat → Int32 → PH → Option PH
  | 0, _, _ => none
  | n + 1, x1, h => if (h.1 66 4) ≤ x1 then (bO (f_X9_findAhead h) (fun h140 => lt' (hU h140 66 8 0) (fun h145 => lt' (hU h145 66 13 0) (fun h150 => bO (asg h150 97 2 0 (vp_nar .boolean 0)) (fun h159 => bO (asg h159 97 2 1 (vp_nar .boolean 0)) (fun h166 => some h166)))))) else (bO (ag h 85 10 x1) (fun v107 => bO (asg h 70 10 x1 v107) (fun h108 => bO (ag h108 86 10 x1) (fun v119 => bO (asg h108 71 10 x1 v119) (fun h120 => bO (ag h120 87 10 x1) (fun v131 => bO (asg h120 72 10 x1 v131) (fun h132 => (f_X9_keepTrunk_89 n) (x1 + 1) h132)))))))
set_option maxHeartbeats 4000000 in
set_option maxRecDepth 100000 in
theorem w_X9_keepTrunk_89 {l : Launch} {G : GC} (hG : GOK G) {hh : PH} {p : Program} {e : Env} {s : State} {m : MethodId} {args : Array Value} {below : List Frame} {meth : Method} {c : Code} (C : MC l G p s m args meth c RX9 cX9_keepTrunk 2 none) : ∀ (n : Nat) (x1 : Int32) (h : PH) (H : Heap) (locs : List Loc) (ls : Array Slot), lv_has ls 2 [(0, .ref (gB G 66)), (1, .int x1)] → WP G h H → SP G s H locs → f_X9_keepTrunk_89 n x1 h = some hh → W p l e rmX9_keepTrunk s m args below meth c H locs 0 0 (MQ below (QV G hh) args s 0 0 (gA G)) (F0 m 89 ls []) := by
  obtain ⟨hx, hb, hr, hlocks, hml, hown, hts, hK⟩ := id C
  intro n
  induction n with
  | zero => intro x1 h H locs ls hl hP hS hf; rw [f_X9_keepTrunk_89] at hf; cases hf
  | succ n ih =>
    intro x1 h H locs ls hl hP hS hf
    rw [f_X9_keepTrunk_89] at hf
    refine lv_iload_n hx hb dX9_keepTrunk_89 rfl (lv_at hl 1 rfl) ?_
    refine lv_aload_n hx hb dX9_keepTrunk_90 rfl (lv_at hl 0 rfl) ?_
    refine r_get (a := 66) (v := .int (h.1 66 4)) (C := RX9) (T := TX9) (N := 55) hx hb hts hinX9 hown hK hP (ltX9 rfl) (ceX9 rfl) rfl 4 (by decide) wd1039 rfl dX9_keepTrunk_91 ?_
    refine lv_icmp_ge (tgt := 139) hx hb dX9_keepTrunk_94 (by decide) (fun c94 => ?_) (fun c94 => ?_)
    · replace hf := if_t c94 hf
      refine lv_aload_n hx hb dX9_keepTrunk_139 rfl (lv_at hl 0 rfl) ?_
      obtain ⟨h140, eh140, hf⟩ := bO_s hf
      refine r_callV (va_runV (As := []) (rest := []) ⟨hx, hb, hml, hown, hts⟩ (k_X9_findAhead l hG eh140) (cwV 0 hts (gV wd1283 wd1285 wd40 wd82 wd1286) rfl rfl rfl (by decide +kernel) ⟨Nat.le_of_ble_eq_true rfl, Nat.le_of_ble_eq_true rfl⟩) (r_pv hK hP hS (ltX9 rfl) (ceX9 rfl) rfl) rfl rfl hl.1 rfl (lv_room (Nat.le_of_ble_eq_true rfl)) dX9_keepTrunk_140 ⟨Nat.le_of_ble_eq_true rfl, Nat.le_of_ble_eq_true rfl⟩) hS (fun H locs hP hS => ?_)
      refine lv_aload_n hx hb dX9_keepTrunk_143 rfl (lv_at hl 0 rfl) ?_
      refine lv_iconst (v := 0) hx hb dX9_keepTrunk_144 (by decide) ?_
      obtain ⟨h145, eh145⟩ : ∃ y, y = hU h140 66 8 0 := ⟨_, rfl⟩
      replace hf := lt_at eh145 hf
      refine r_put (a := 66) (v := .int 0) (ty := .int) (h' := h145) (C := RX9) (T := TX9) (N := 55) hG hx hb hts hinX9 tyX9 tyX9_ok nmX9 hown hK hP hS (ltX9 rfl) (ceX9 rfl) rfl 8 (by decide) wd1043 rfl (by decide +kernel) rfl rfl (Nat.le_of_ble_eq_true rfl) (by rw [eh145]; exact fun j hj => cE_U hj) (by rw [eh145]; exact puX9_8 rfl _) dX9_keepTrunk_145 (fun H locs hP hS => ?_)
      refine lv_aload_n hx hb dX9_keepTrunk_148 rfl (lv_at hl 0 rfl) ?_
      refine lv_iconst (v := 0) hx hb dX9_keepTrunk_149 (by decide) ?_
      obtain ⟨h150, eh150⟩ : ∃ y, y = hU h145 66 13 0 := ⟨_, rfl⟩
      replace hf := lt_at eh150 hf
      refine r_put (a := 66) (v := .int 0) (ty := .int) (h' := h150) (C := RX9) (T := TX9) (N := 55) hG hx hb hts hinX9 tyX9 tyX9_ok nmX9 hown hK hP hS (ltX9 rfl) (ceX9 rfl) rfl 13 (by decide) wd1048 rfl (by decide +kernel) rfl rfl (Nat.le_of_ble_eq_true rfl) (by rw [eh150]; exact fun j hj => cE_U hj) (by rw [eh150]; exact puX9_13 rfl _) dX9_keepTrunk_150 (fun H locs hP hS => ?_)
      refine lv_aload_n hx hb dX9_keepTrunk_153 rfl (lv_at hl 0 rfl) ?_
      refine r_get (a := 66) (v := .ref (gB G 97)) (C := RX9) (T := TX9) (N := 55) hx hb hts hinX9 hown hK hP (ltX9 rfl) (ceX9 rfl) rfl 54 (by decide) wd1089 rfl dX9_keepTrunk_154 ?_
      refine lv_iconst (v := 0) hx hb dX9_keepTrunk_157 (by decide) ?_
      refine lv_iconst (v := 0) hx hb dX9_keepTrunk_158 (by decide) ?_
      obtain ⟨h159, eh159, hf⟩ := bO_s hf
      refine r_zast hG hx hb hK hP hS (arX9_54 rfl) eh159 dX9_keepTrunk_159 (fun H locs hP hS => ?_)
      refine lv_aload_n hx hb dX9_keepTrunk_160 rfl (lv_at hl 0 rfl) ?_
      refine r_get (a := 66) (v := .ref (gB G 97)) (C := RX9) (T := TX9) (N := 55) hx hb hts hinX9 hown hK hP (ltX9 rfl) (ceX9 rfl) rfl 54 (by decide) wd1089 rfl dX9_keepTrunk_161 ?_
      refine lv_iconst (v := 1) hx hb dX9_keepTrunk_164 (by decide) ?_
      refine lv_iconst (v := 0) hx hb dX9_keepTrunk_165 (by decide) ?_
      obtain ⟨h166, eh166, hf⟩ := bO_s hf
      refine r_zast hG hx hb hK hP hS (arX9_54 rfl) eh166 dX9_keepTrunk_166 (fun H locs hP hS => ?_)
      exact r_vret hx hb hr hlocks hP hS (Option.some.inj hf) dX9_keepTrunk_167
    · replace hf := if_f c94 hf
      refine lv_aload_n hx hb dX9_keepTrunk_97 rfl (lv_at hl 0 rfl) ?_
      refine r_get (a := 66) (v := .ref (gB G 70)) (C := RX9) (T := TX9) (N := 55) hx hb hts hinX9 hown hK hP (ltX9 rfl) (ceX9 rfl) rfl 5 (by decide) wd1040 rfl dX9_keepTrunk_98 ?_
      refine lv_iload_n hx hb dX9_keepTrunk_101 rfl (lv_at hl 1 rfl) ?_
      refine lv_aload_n hx hb dX9_keepTrunk_102 rfl (lv_at hl 0 rfl) ?_
      refine r_get (a := 66) (v := .ref (gB G 85)) (C := RX9) (T := TX9) (N := 55) hx hb hts hinX9 hown hK hP (ltX9 rfl) (ceX9 rfl) rfl 32 (by decide) wd1067 rfl dX9_keepTrunk_103 ?_
      refine lv_iload_n hx hb dX9_keepTrunk_106 rfl (lv_at hl 1 rfl) ?_
      obtain ⟨v107, ev107, hf⟩ := bO_s hf
      refine r_iald hx hb hK hP (arX9_32 rfl) ev107 dX9_keepTrunk_107 ?_
      obtain ⟨h108, eh108, hf⟩ := bO_s hf
      refine r_iast hG hx hb hK hP hS (arX9_5 rfl) eh108 dX9_keepTrunk_108 (fun H locs hP hS => ?_)
      refine lv_aload_n hx hb dX9_keepTrunk_109 rfl (lv_at hl 0 rfl) ?_
      refine r_get (a := 66) (v := .ref (gB G 71)) (C := RX9) (T := TX9) (N := 55) hx hb hts hinX9 hown hK hP (ltX9 rfl) (ceX9 rfl) rfl 6 (by decide) wd1041 rfl dX9_keepTrunk_110 ?_
      refine lv_iload_n hx hb dX9_keepTrunk_113 rfl (lv_at hl 1 rfl) ?_
      refine lv_aload_n hx hb dX9_keepTrunk_114 rfl (lv_at hl 0 rfl) ?_
      refine r_get (a := 66) (v := .ref (gB G 86)) (C := RX9) (T := TX9) (N := 55) hx hb hts hinX9 hown hK hP (ltX9 rfl) (ceX9 rfl) rfl 33 (by decide) wd1068 rfl dX9_keepTrunk_115 ?_
      refine lv_iload_n hx hb dX9_keepTrunk_118 rfl (lv_at hl 1 rfl) ?_
      obtain ⟨v119, ev119, hf⟩ := bO_s hf
      refine r_iald hx hb hK hP (arX9_33 rfl) ev119 dX9_keepTrunk_119 ?_
      obtain ⟨h120, eh120, hf⟩ := bO_s hf
      refine r_iast hG hx hb hK hP hS (arX9_6 rfl) eh120 dX9_keepTrunk_120 (fun H locs hP hS => ?_)
      refine lv_aload_n hx hb dX9_keepTrunk_121 rfl (lv_at hl 0 rfl) ?_
      refine r_get (a := 66) (v := .ref (gB G 72)) (C := RX9) (T := TX9) (N := 55) hx hb hts hinX9 hown hK hP (ltX9 rfl) (ceX9 rfl) rfl 7 (by decide) wd1042 rfl dX9_keepTrunk_122 ?_
      refine lv_iload_n hx hb dX9_keepTrunk_125 rfl (lv_at hl 1 rfl) ?_
      refine lv_aload_n hx hb dX9_keepTrunk_126 rfl (lv_at hl 0 rfl) ?_
      refine r_get (a := 66) (v := .ref (gB G 87)) (C := RX9) (T := TX9) (N := 55) hx hb hts hinX9 hown hK hP (ltX9 rfl) (ceX9 rfl) rfl 34 (by decide) wd1069 rfl dX9_keepTrunk_127 ?_
      refine lv_iload_n hx hb dX9_keepTrunk_130 rfl (lv_at hl 1 rfl) ?_
      obtain ⟨v131, ev131, hf⟩ := bO_s hf
      refine r_iald hx hb hK hP (arX9_34 rfl) ev131 dX9_keepTrunk_131 ?_
      obtain ⟨h132, eh132, hf⟩ := bO_s hf
      refine r_iast hG hx hb hK hP hS (arX9_7 rfl) eh132 dX9_keepTrunk_132 (fun H locs hP hS => ?_)
      refine lv_iinc (v := (x1 + 1)) (lv' := [(1, .int (x1 + 1)), (0, .ref (gB G 66))]) hx hb dX9_keepTrunk_133 hl (k := 1) rfl rfl (by decide) rfl (fun ls hl => ?_)
      refine lv_goto (tgt := 89) hx hb dX9_keepTrunk_136 (by decide) ?_
      exact ih (x1 + 1) h132 _ _ _ (lv_sub hl [1, 0] rfl) hP hS hf
def f_X9_keepTrunk_49 : Nat → Int32 → PH → Option PH
  | 0, _, _ => none
  | n + 1, x1, h => if (h.1 66 0) ≤ x1 then (f_X9_keepTrunk_89 FU 0 h) else (bO (ag h 83 24 x1) (fun v67 => bO (asg h 68 24 x1 v67) (fun h68 => bO (ag h68 84 24 x1) (fun v79 => bO (asg h68 69 24 x1 v79) (fun h80 => (f_X9_keepTrunk_49 n) (x1 + 1) h80)))))
set_option maxHeartbeats 4000000 in
set_option maxRecDepth 100000 in
theorem w_X9_keepTrunk_49 {l : Launch} {G : GC} (hG : GOK G) {hh : PH} {p : Program} {e : Env} {s : State} {m : MethodId} {args : Array Value} {below : List Frame} {meth : Method} {c : Code} (C : MC l G p s m args meth c RX9 cX9_keepTrunk 2 none) : ∀ (n : Nat) (x1 : Int32) (h : PH) (H : Heap) (locs : List Loc) (ls : Array Slot), lv_has ls 2 [(0, .ref (gB G 66)), (1, .int x1)] → WP G h H → SP G s H locs → f_X9_keepTrunk_49 n x1 h = some hh → W p l e rmX9_keepTrunk s m args below meth c H locs 0 0 (MQ below (QV G hh) args s 0 0 (gA G)) (F0 m 49 ls []) := by
  obtain ⟨hx, hb, hr, hlocks, hml, hown, hts, hK⟩ := id C
  intro n
  induction n with
  | zero => intro x1 h H locs ls hl hP hS hf; rw [f_X9_keepTrunk_49] at hf; cases hf
  | succ n ih =>
    intro x1 h H locs ls hl hP hS hf
    rw [f_X9_keepTrunk_49] at hf
    refine lv_iload_n hx hb dX9_keepTrunk_49 rfl (lv_at hl 1 rfl) ?_
    refine lv_aload_n hx hb dX9_keepTrunk_50 rfl (lv_at hl 0 rfl) ?_
    refine r_get (a := 66) (v := .int (h.1 66 0)) (C := RX9) (T := TX9) (N := 55) hx hb hts hinX9 hown hK hP (ltX9 rfl) (ceX9 rfl) rfl 0 (by decide) wd1035 rfl dX9_keepTrunk_51 ?_
    refine lv_icmp_ge (tgt := 87) hx hb dX9_keepTrunk_54 (by decide) (fun c54 => ?_) (fun c54 => ?_)
    · replace hf := if_t c54 hf
      refine lv_iconst (v := 0) hx hb dX9_keepTrunk_87 (by decide) ?_
      refine lv_istore_n (lv' := [(1, .int 0), (0, .ref (gB G 66))]) hx hb dX9_keepTrunk_88 rfl hl (by decide) rfl (fun ls hl => ?_)
      exact w_X9_keepTrunk_89 hG C FU 0 h _ _ _ (lv_sub hl [1, 0] rfl) hP hS hf
    · replace hf := if_f c54 hf
      refine lv_aload_n hx hb dX9_keepTrunk_57 rfl (lv_at hl 0 rfl) ?_
      refine r_get (a := 66) (v := .ref (gB G 68)) (C := RX9) (T := TX9) (N := 55) hx hb hts hinX9 hown hK hP (ltX9 rfl) (ceX9 rfl) rfl 2 (by decide) wd1037 rfl dX9_keepTrunk_58 ?_
      refine lv_iload_n hx hb dX9_keepTrunk_61 rfl (lv_at hl 1 rfl) ?_
      refine lv_aload_n hx hb dX9_keepTrunk_62 rfl (lv_at hl 0 rfl) ?_
      refine r_get (a := 66) (v := .ref (gB G 83)) (C := RX9) (T := TX9) (N := 55) hx hb hts hinX9 hown hK hP (ltX9 rfl) (ceX9 rfl) rfl 29 (by decide) wd1064 rfl dX9_keepTrunk_63 ?_
      refine lv_iload_n hx hb dX9_keepTrunk_66 rfl (lv_at hl 1 rfl) ?_
      obtain ⟨v67, ev67, hf⟩ := bO_s hf
      refine r_iald hx hb hK hP (arX9_29 rfl) ev67 dX9_keepTrunk_67 ?_
      obtain ⟨h68, eh68, hf⟩ := bO_s hf
      refine r_iast hG hx hb hK hP hS (arX9_2 rfl) eh68 dX9_keepTrunk_68 (fun H locs hP hS => ?_)
      refine lv_aload_n hx hb dX9_keepTrunk_69 rfl (lv_at hl 0 rfl) ?_
      refine r_get (a := 66) (v := .ref (gB G 69)) (C := RX9) (T := TX9) (N := 55) hx hb hts hinX9 hown hK hP (ltX9 rfl) (ceX9 rfl) rfl 3 (by decide) wd1038 rfl dX9_keepTrunk_70 ?_
      refine lv_iload_n hx hb dX9_keepTrunk_73 rfl (lv_at hl 1 rfl) ?_
      refine lv_aload_n hx hb dX9_keepTrunk_74 rfl (lv_at hl 0 rfl) ?_
      refine r_get (a := 66) (v := .ref (gB G 84)) (C := RX9) (T := TX9) (N := 55) hx hb hts hinX9 hown hK hP (ltX9 rfl) (ceX9 rfl) rfl 30 (by decide) wd1065 rfl dX9_keepTrunk_75 ?_
      refine lv_iload_n hx hb dX9_keepTrunk_78 rfl (lv_at hl 1 rfl) ?_
      obtain ⟨v79, ev79, hf⟩ := bO_s hf
      refine r_iald hx hb hK hP (arX9_30 rfl) ev79 dX9_keepTrunk_79 ?_
      obtain ⟨h80, eh80, hf⟩ := bO_s hf
      refine r_iast hG hx hb hK hP hS (arX9_3 rfl) eh80 dX9_keepTrunk_80 (fun H locs hP hS => ?_)
      refine lv_iinc (v := (x1 + 1)) (lv' := [(1, .int (x1 + 1)), (0, .ref (gB G 66))]) hx hb dX9_keepTrunk_81 hl (k := 1) rfl rfl (by decide) rfl (fun ls hl => ?_)
      refine lv_goto (tgt := 49) hx hb dX9_keepTrunk_84 (by decide) ?_
      exact ih (x1 + 1) h80 _ _ _ (lv_sub hl [1, 0] rfl) hP hS hf
def f_X9_keepTrunk_18 : Nat → Int32 → PH → Option PH
  | 0, _, _ => none
  | n + 1, x1, h => if (16 * (h.1 66 0)) ≤ x1 then (f_X9_keepTrunk_49 FU 0 h) else (bO (ag h 82 384 x1) (fun v39 => bO (asg h 67 384 x1 v39) (fun h40 => (f_X9_keepTrunk_18 n) (x1 + 1) h40)))
set_option maxHeartbeats 4000000 in
set_option maxRecDepth 100000 in
theorem w_X9_keepTrunk_18 {l : Launch} {G : GC} (hG : GOK G) {hh : PH} {p : Program} {e : Env} {s : State} {m : MethodId} {args : Array Value} {below : List Frame} {meth : Method} {c : Code} (C : MC l G p s m args meth c RX9 cX9_keepTrunk 2 none) : ∀ (n : Nat) (x1 : Int32) (h : PH) (H : Heap) (locs : List Loc) (ls : Array Slot), lv_has ls 2 [(0, .ref (gB G 66)), (1, .int x1)] → WP G h H → SP G s H locs → f_X9_keepTrunk_18 n x1 h = some hh → W p l e rmX9_keepTrunk s m args below meth c H locs 0 0 (MQ below (QV G hh) args s 0 0 (gA G)) (F0 m 18 ls []) := by
  obtain ⟨hx, hb, hr, hlocks, hml, hown, hts, hK⟩ := id C
  intro n
  induction n with
  | zero => intro x1 h H locs ls hl hP hS hf; rw [f_X9_keepTrunk_18] at hf; cases hf
  | succ n ih =>
    intro x1 h H locs ls hl hP hS hf
    rw [f_X9_keepTrunk_18] at hf
    refine lv_iload_n hx hb dX9_keepTrunk_18 rfl (lv_at hl 1 rfl) ?_
    refine lv_bipush (v := 16) hx hb dX9_keepTrunk_19 (by decide) ?_
    refine lv_aload_n hx hb dX9_keepTrunk_21 rfl (lv_at hl 0 rfl) ?_
    refine r_get (a := 66) (v := .int (h.1 66 0)) (C := RX9) (T := TX9) (N := 55) hx hb hts hinX9 hown hK hP (ltX9 rfl) (ceX9 rfl) rfl 0 (by decide) wd1035 rfl dX9_keepTrunk_22 ?_
    refine lv_imul hx hb dX9_keepTrunk_25 ?_
    refine lv_icmp_ge (tgt := 47) hx hb dX9_keepTrunk_26 (by decide) (fun c26 => ?_) (fun c26 => ?_)
    · replace hf := if_t c26 hf
      refine lv_iconst (v := 0) hx hb dX9_keepTrunk_47 (by decide) ?_
      refine lv_istore_n (lv' := [(1, .int 0), (0, .ref (gB G 66))]) hx hb dX9_keepTrunk_48 rfl hl (by decide) rfl (fun ls hl => ?_)
      exact w_X9_keepTrunk_49 hG C FU 0 h _ _ _ (lv_sub hl [1, 0] rfl) hP hS hf
    · replace hf := if_f c26 hf
      refine lv_aload_n hx hb dX9_keepTrunk_29 rfl (lv_at hl 0 rfl) ?_
      refine r_get (a := 66) (v := .ref (gB G 67)) (C := RX9) (T := TX9) (N := 55) hx hb hts hinX9 hown hK hP (ltX9 rfl) (ceX9 rfl) rfl 1 (by decide) wd1036 rfl dX9_keepTrunk_30 ?_
      refine lv_iload_n hx hb dX9_keepTrunk_33 rfl (lv_at hl 1 rfl) ?_
      refine lv_aload_n hx hb dX9_keepTrunk_34 rfl (lv_at hl 0 rfl) ?_
      refine r_get (a := 66) (v := .ref (gB G 82)) (C := RX9) (T := TX9) (N := 55) hx hb hts hinX9 hown hK hP (ltX9 rfl) (ceX9 rfl) rfl 28 (by decide) wd1063 rfl dX9_keepTrunk_35 ?_
      refine lv_iload_n hx hb dX9_keepTrunk_38 rfl (lv_at hl 1 rfl) ?_
      obtain ⟨v39, ev39, hf⟩ := bO_s hf
      refine r_iald hx hb hK hP (arX9_28 rfl) ev39 dX9_keepTrunk_39 ?_
      obtain ⟨h40, eh40, hf⟩ := bO_s hf
      refine r_iast hG hx hb hK hP hS (arX9_1 rfl) eh40 dX9_keepTrunk_40 (fun H locs hP hS => ?_)
      refine lv_iinc (v := (x1 + 1)) (lv' := [(1, .int (x1 + 1)), (0, .ref (gB G 66))]) hx hb dX9_keepTrunk_41 hl (k := 1) rfl rfl (by decide) rfl (fun ls hl => ?_)
      refine lv_goto (tgt := 18) hx hb dX9_keepTrunk_44 (by decide) ?_
      exact ih (x1 + 1) h40 _ _ _ (lv_sub hl [1, 0] rfl) hP hS hf
def f_X9_keepTrunk (h : PH) : Option PH := lt' (hU h 66 0 (h.1 66 27)) (fun h5 => lt' (hU h5 66 4 (h5.1 66 31)) (fun h13 => f_X9_keepTrunk_18 FU 0 h13))
set_option maxHeartbeats 4000000 in
set_option maxRecDepth 100000 in
theorem k_X9_keepTrunk (l : Launch) {G : GC} (hG : GOK G) {h hh : PH} (hf : f_X9_keepTrunk h = some hh) : CV l yX9_keepTrunk vX9_keepTrunk rmX9_keepTrunk G [.ref (gB G 66)] h hh := by
  refine Met.ofW (cc := cX9_keepTrunk) (maxL := 2) (ret := none) (by decide +kernel) rfl ?_
  intro p e s m args below meth c s₁ B hml hv
  obtain ⟨rfl, hP, hK⟩ := hv
  have C : MC l G p s m _ meth c RX9 cX9_keepTrunk 2 none := ⟨B.exec, B.bytes, B.returns, B.notSynchronized, hml, findClass_of_methodNamed B.named, fun w hw => atoms_spec (ws := vX9_keepTrunk) B.pre w (List.mem_cons_of_mem _ hw), hK⟩
  obtain ⟨hx, hb, hr, hlocks, -, hown, hts, -⟩ := id C
  have hl := lv_entry ([.ref (gB G 66)]) (n := 2) (Nat.le_of_ble_eq_true rfl)
  rw [lg_entry_eq]
  generalize (lg_sl ([.ref (gB G 66)]) ++ List.replicate (2 - (lg_sl ([.ref (gB G 66)])).length) Slot.unset).toArray = ls at hl ⊢
  have hl : lv_has ls 2 [(0, .ref (gB G 66))] := hl
  have hS : SP G s s.heap [] := va_S.rf
  replace hP : WP G h s.heap := hP
  rw [f_X9_keepTrunk] at hf
  refine lv_aload_n hx hb dX9_keepTrunk_0 rfl (lv_at hl 0 rfl) ?_
  refine lv_aload_n hx hb dX9_keepTrunk_1 rfl (lv_at hl 0 rfl) ?_
  refine r_get (a := 66) (v := .int (h.1 66 27)) (C := RX9) (T := TX9) (N := 55) hx hb hts hinX9 hown hK hP (ltX9 rfl) (ceX9 rfl) rfl 27 (by decide) wd1062 rfl dX9_keepTrunk_2 ?_
  obtain ⟨h5, eh5⟩ : ∃ y, y = hU h 66 0 (h.1 66 27) := ⟨_, rfl⟩
  replace hf := lt_at eh5 hf
  refine r_put (a := 66) (v := .int (h.1 66 27)) (ty := .int) (h' := h5) (C := RX9) (T := TX9) (N := 55) hG hx hb hts hinX9 tyX9 tyX9_ok nmX9 hown hK hP hS (ltX9 rfl) (ceX9 rfl) rfl 0 (by decide) wd1035 rfl (by decide +kernel) rfl rfl (Nat.le_of_ble_eq_true rfl) (by rw [eh5]; exact fun j hj => cE_U hj) (by rw [eh5]; exact puX9_0 rfl _) dX9_keepTrunk_5 (fun H locs hP hS => ?_)
  refine lv_aload_n hx hb dX9_keepTrunk_8 rfl (lv_at hl 0 rfl) ?_
  refine lv_aload_n hx hb dX9_keepTrunk_9 rfl (lv_at hl 0 rfl) ?_
  refine r_get (a := 66) (v := .int (h5.1 66 31)) (C := RX9) (T := TX9) (N := 55) hx hb hts hinX9 hown hK hP (ltX9 rfl) (ceX9 rfl) rfl 31 (by decide) wd1066 rfl dX9_keepTrunk_10 ?_
  obtain ⟨h13, eh13⟩ : ∃ y, y = hU h5 66 4 (h5.1 66 31) := ⟨_, rfl⟩
  replace hf := lt_at eh13 hf
  refine r_put (a := 66) (v := .int (h5.1 66 31)) (ty := .int) (h' := h13) (C := RX9) (T := TX9) (N := 55) hG hx hb hts hinX9 tyX9 tyX9_ok nmX9 hown hK hP hS (ltX9 rfl) (ceX9 rfl) rfl 4 (by decide) wd1039 rfl (by decide +kernel) rfl rfl (Nat.le_of_ble_eq_true rfl) (by rw [eh13]; exact fun j hj => cE_U hj) (by rw [eh13]; exact puX9_4 rfl _) dX9_keepTrunk_13 (fun H locs hP hS => ?_)
  refine lv_iconst (v := 0) hx hb dX9_keepTrunk_16 (by decide) ?_
  refine lv_istore_n (lv' := [(1, .int 0), (0, .ref (gB G 66))]) hx hb dX9_keepTrunk_17 rfl hl (by decide) rfl (fun ls hl => ?_)
  exact w_X9_keepTrunk_18 hG C FU 0 h13 _ _ _ (lv_sub hl [1, 0] rfl) hP hS hf
/-! CarriedBackModel.trunk()I -/
abbrev rmX9_trunk : Room := { frames := 6, cells := 0, slots := 0, locals := 140 }
abbrev vX9_trunk : List Cond := Cond.code yX9_trunk cX9_trunk 2 (some .int) :: GW
def f_X9_trunk_46 (x1 : Int32) (h : PH) : Option (Int32 × PH) := lt' (hU h 66 19 0) (fun h48 => if x1 ≤ 0 then (bO (f_X9_keepTrunk h48) (fun h61 => some ((h61.1 66 0), h61))) else (some (((-10) - x1), h48)))
set_option maxHeartbeats 4000000 in
set_option maxRecDepth 100000 in
theorem w_X9_trunk_46 {l : Launch} {G : GC} (hG : GOK G) {rr : Int32} {hh : PH} {p : Program} {e : Env} {s : State} {m : MethodId} {args : Array Value} {below : List Frame} {meth : Method} {c : Code} (C : MC l G p s m args meth c RX9 cX9_trunk 2 (some .int)) : ∀ (x1 : Int32) (h : PH) (H : Heap) (locs : List Loc) (ls : Array Slot), lv_has ls 2 [(0, .ref (gB G 66)), (1, .int x1)] → WP G h H → SP G s H locs → f_X9_trunk_46 x1 h = some (rr, hh) → W p l e rmX9_trunk s m args below meth c H locs 0 0 (MQ below (QI G rr hh) args s 0 0 (gA G)) (F0 m 46 ls []) := by
  obtain ⟨hx, hb, hr, hlocks, hml, hown, hts, hK⟩ := id C
  intro x1 h H locs ls hl hP hS hf
  rw [f_X9_trunk_46] at hf
  refine lv_aload_n hx hb dX9_trunk_46 rfl (lv_at hl 0 rfl) ?_
  refine lv_iconst (v := 0) hx hb dX9_trunk_47 (by decide) ?_
  obtain ⟨h48, eh48⟩ : ∃ y, y = hU h 66 19 0 := ⟨_, rfl⟩
  replace hf := lt_at eh48 hf
  refine r_put (a := 66) (v := .int 0) (ty := .int) (h' := h48) (C := RX9) (T := TX9) (N := 55) hG hx hb hts hinX9 tyX9 tyX9_ok nmX9 hown hK hP hS (ltX9 rfl) (ceX9 rfl) rfl 19 (by decide) wd1054 rfl (by decide +kernel) rfl rfl (Nat.le_of_ble_eq_true rfl) (by rw [eh48]; exact fun j hj => cE_U hj) (by rw [eh48]; exact puX9_19 rfl _) dX9_trunk_48 (fun H locs hP hS => ?_)
  refine lv_iload_n hx hb dX9_trunk_51 rfl (lv_at hl 1 rfl) ?_
  refine lv_if_le (tgt := 60) hx hb dX9_trunk_52 (by decide) (fun c52 => ?_) (fun c52 => ?_)
  · replace hf := if_t c52 hf
    refine lv_aload_n hx hb dX9_trunk_60 rfl (lv_at hl 0 rfl) ?_
    obtain ⟨h61, eh61, hf⟩ := bO_s hf
    refine r_callV (va_runV (As := []) (rest := []) ⟨hx, hb, hml, hown, hts⟩ (k_X9_keepTrunk l hG eh61) (cwV 0 hts (gV wd1279 wd1281 wd39 wd82 wd1282) rfl rfl rfl (by decide +kernel) ⟨Nat.le_of_ble_eq_true rfl, Nat.le_of_ble_eq_true rfl⟩) (r_pv hK hP hS (ltX9 rfl) (ceX9 rfl) rfl) rfl rfl hl.1 rfl (lv_room (Nat.le_of_ble_eq_true rfl)) dX9_trunk_61 ⟨Nat.le_of_ble_eq_true rfl, Nat.le_of_ble_eq_true rfl⟩) hS (fun H locs hP hS => ?_)
    refine lv_aload_n hx hb dX9_trunk_64 rfl (lv_at hl 0 rfl) ?_
    refine r_get (a := 66) (v := .int (h61.1 66 0)) (C := RX9) (T := TX9) (N := 55) hx hb hts hinX9 hown hK hP (ltX9 rfl) (ceX9 rfl) rfl 0 (by decide) wd1035 rfl dX9_trunk_65 ?_
    exact r_iret hx hb hr hlocks hP hS (re2 (Option.some.inj hf)) dX9_trunk_68
  · replace hf := if_f c52 hf
    refine lv_bipush (v := (-10)) hx hb dX9_trunk_55 (by decide) ?_
    refine lv_iload_n hx hb dX9_trunk_57 rfl (lv_at hl 1 rfl) ?_
    refine lv_isub hx hb dX9_trunk_58 ?_
    exact r_iret hx hb hr hlocks hP hS (re2 (Option.some.inj hf)) dX9_trunk_59
def f_X9_trunk_27 : Nat → Int32 → PH → Option (Int32 × PH)
  | 0, _, _ => none
  | n + 1, x1, h => if x1 = 0 then (bP (f_X9_here h) (fun r32 h32 => if r32 < 0 then (f_X9_trunk_46 x1 h32) else (bP (f_X9_takeClause h32) (fun r39 h39 => (f_X9_trunk_27 n) r39 h39)))) else (f_X9_trunk_46 x1 h)
set_option maxHeartbeats 4000000 in
set_option maxRecDepth 100000 in
theorem w_X9_trunk_27 {l : Launch} {G : GC} (hG : GOK G) {rr : Int32} {hh : PH} {p : Program} {e : Env} {s : State} {m : MethodId} {args : Array Value} {below : List Frame} {meth : Method} {c : Code} (C : MC l G p s m args meth c RX9 cX9_trunk 2 (some .int)) : ∀ (n : Nat) (x1 : Int32) (h : PH) (H : Heap) (locs : List Loc) (ls : Array Slot), lv_has ls 2 [(0, .ref (gB G 66)), (1, .int x1)] → WP G h H → SP G s H locs → f_X9_trunk_27 n x1 h = some (rr, hh) → W p l e rmX9_trunk s m args below meth c H locs 0 0 (MQ below (QI G rr hh) args s 0 0 (gA G)) (F0 m 27 ls []) := by
  obtain ⟨hx, hb, hr, hlocks, hml, hown, hts, hK⟩ := id C
  intro n
  induction n with
  | zero => intro x1 h H locs ls hl hP hS hf; rw [f_X9_trunk_27] at hf; cases hf
  | succ n ih =>
    intro x1 h H locs ls hl hP hS hf
    rw [f_X9_trunk_27] at hf
    refine lv_iload_n hx hb dX9_trunk_27 rfl (lv_at hl 1 rfl) ?_
    refine lv_if_ne (tgt := 46) hx hb dX9_trunk_28 (by decide) (fun c28 => ?_) (fun c28 => ?_)
    · replace hf := if_f c28 hf
      exact w_X9_trunk_46 hG C x1 h _ _ _ (lv_sub hl [0, 1] rfl) hP hS hf
    · replace hf := if_t c28 hf
      refine lv_aload_n hx hb dX9_trunk_31 rfl (lv_at hl 0 rfl) ?_
      obtain ⟨r32, h32, er32, hf⟩ := bP_s hf
      refine r_callI (va_runV (As := []) (rest := []) ⟨hx, hb, hml, hown, hts⟩ (k_X9_here l hG er32) (cwV 0 hts (gV wd1214 wd1216 wd27 wd82 wd1217) rfl rfl rfl (by decide +kernel) ⟨Nat.le_of_ble_eq_true rfl, Nat.le_of_ble_eq_true rfl⟩) (r_pv hK hP hS (ltX9 rfl) (ceX9 rfl) rfl) rfl rfl hl.1 rfl (lv_room (Nat.le_of_ble_eq_true rfl)) dX9_trunk_32 ⟨Nat.le_of_ble_eq_true rfl, Nat.le_of_ble_eq_true rfl⟩) hS (fun H locs hP hS => ?_)
      refine lv_if_lt (tgt := 46) hx hb dX9_trunk_35 (by decide) (fun c35 => ?_) (fun c35 => ?_)
      · replace hf := if_t c35 hf
        exact w_X9_trunk_46 hG C x1 h32 _ _ _ (lv_sub hl [0, 1] rfl) hP hS hf
      · replace hf := if_f c35 hf
        refine lv_aload_n hx hb dX9_trunk_38 rfl (lv_at hl 0 rfl) ?_
        obtain ⟨r39, h39, er39, hf⟩ := bP_s hf
        refine r_callI (va_runV (As := []) (rest := []) ⟨hx, hb, hml, hown, hts⟩ (k_X9_takeClause l hG er39) (cwV 0 hts (gV wd1218 wd1220 wd28 wd82 wd1221) rfl rfl rfl (by decide +kernel) ⟨Nat.le_of_ble_eq_true rfl, Nat.le_of_ble_eq_true rfl⟩) (r_pv hK hP hS (ltX9 rfl) (ceX9 rfl) rfl) rfl rfl hl.1 rfl (lv_room (Nat.le_of_ble_eq_true rfl)) dX9_trunk_39 ⟨Nat.le_of_ble_eq_true rfl, Nat.le_of_ble_eq_true rfl⟩) hS (fun H locs hP hS => ?_)
        refine lv_istore_n (lv' := [(1, .int r39), (0, .ref (gB G 66))]) hx hb dX9_trunk_42 rfl hl (by decide) rfl (fun ls hl => ?_)
        refine lv_goto (tgt := 27) hx hb dX9_trunk_43 (by decide) ?_
        exact ih r39 h39 _ _ _ (lv_sub hl [1, 0] rfl) hP hS hf
def f_X9_trunk (h : PH) : Option (Int32 × PH) := lt' (hU h 66 20 (-1)) (fun h2 => lt' (hU h2 66 21 0) (fun h7 => lt' (hU h7 66 22 2) (fun h12 => lt' (hU h12 66 27 0) (fun h17 => lt' (hU h17 66 31 0) (fun h22 => f_X9_trunk_27 FU 0 h22)))))
set_option maxHeartbeats 4000000 in
set_option maxRecDepth 100000 in
theorem k_X9_trunk (l : Launch) {G : GC} (hG : GOK G) {rr : Int32} {h hh : PH} (hf : f_X9_trunk h = some (rr, hh)) : CI l yX9_trunk vX9_trunk rmX9_trunk G [.ref (gB G 66)] h rr hh := by
  refine Met.ofW (cc := cX9_trunk) (maxL := 2) (ret := (some .int)) (by decide +kernel) rfl ?_
  intro p e s m args below meth c s₁ B hml hv
  obtain ⟨rfl, hP, hK⟩ := hv
  have C : MC l G p s m _ meth c RX9 cX9_trunk 2 (some .int) := ⟨B.exec, B.bytes, B.returns, B.notSynchronized, hml, findClass_of_methodNamed B.named, fun w hw => atoms_spec (ws := vX9_trunk) B.pre w (List.mem_cons_of_mem _ hw), hK⟩
  obtain ⟨hx, hb, hr, hlocks, -, hown, hts, -⟩ := id C
  have hl := lv_entry ([.ref (gB G 66)]) (n := 2) (Nat.le_of_ble_eq_true rfl)
  rw [lg_entry_eq]
  generalize (lg_sl ([.ref (gB G 66)]) ++ List.replicate (2 - (lg_sl ([.ref (gB G 66)])).length) Slot.unset).toArray = ls at hl ⊢
  have hl : lv_has ls 2 [(0, .ref (gB G 66))] := hl
  have hS : SP G s s.heap [] := va_S.rf
  replace hP : WP G h s.heap := hP
  rw [f_X9_trunk] at hf
  refine lv_aload_n hx hb dX9_trunk_0 rfl (lv_at hl 0 rfl) ?_
  refine lv_iconst (v := (-1)) hx hb dX9_trunk_1 (by decide) ?_
  obtain ⟨h2, eh2⟩ : ∃ y, y = hU h 66 20 (-1) := ⟨_, rfl⟩
  replace hf := lt_at eh2 hf
  refine r_put (a := 66) (v := .int (-1)) (ty := .int) (h' := h2) (C := RX9) (T := TX9) (N := 55) hG hx hb hts hinX9 tyX9 tyX9_ok nmX9 hown hK hP hS (ltX9 rfl) (ceX9 rfl) rfl 20 (by decide) wd1055 rfl (by decide +kernel) rfl rfl (Nat.le_of_ble_eq_true rfl) (by rw [eh2]; exact fun j hj => cE_U hj) (by rw [eh2]; exact puX9_20 rfl _) dX9_trunk_2 (fun H locs hP hS => ?_)
  refine lv_aload_n hx hb dX9_trunk_5 rfl (lv_at hl 0 rfl) ?_
  refine lv_iconst (v := 0) hx hb dX9_trunk_6 (by decide) ?_
  obtain ⟨h7, eh7⟩ : ∃ y, y = hU h2 66 21 0 := ⟨_, rfl⟩
  replace hf := lt_at eh7 hf
  refine r_put (a := 66) (v := .int 0) (ty := .int) (h' := h7) (C := RX9) (T := TX9) (N := 55) hG hx hb hts hinX9 tyX9 tyX9_ok nmX9 hown hK hP hS (ltX9 rfl) (ceX9 rfl) rfl 21 (by decide) wd1056 rfl (by decide +kernel) rfl rfl (Nat.le_of_ble_eq_true rfl) (by rw [eh7]; exact fun j hj => cE_U hj) (by rw [eh7]; exact puX9_21 rfl _) dX9_trunk_7 (fun H locs hP hS => ?_)
  refine lv_aload_n hx hb dX9_trunk_10 rfl (lv_at hl 0 rfl) ?_
  refine lv_iconst (v := 2) hx hb dX9_trunk_11 (by decide) ?_
  obtain ⟨h12, eh12⟩ : ∃ y, y = hU h7 66 22 2 := ⟨_, rfl⟩
  replace hf := lt_at eh12 hf
  refine r_put (a := 66) (v := .int 2) (ty := .int) (h' := h12) (C := RX9) (T := TX9) (N := 55) hG hx hb hts hinX9 tyX9 tyX9_ok nmX9 hown hK hP hS (ltX9 rfl) (ceX9 rfl) rfl 22 (by decide) wd1057 rfl (by decide +kernel) rfl rfl (Nat.le_of_ble_eq_true rfl) (by rw [eh12]; exact fun j hj => cE_U hj) (by rw [eh12]; exact puX9_22 rfl _) dX9_trunk_12 (fun H locs hP hS => ?_)
  refine lv_aload_n hx hb dX9_trunk_15 rfl (lv_at hl 0 rfl) ?_
  refine lv_iconst (v := 0) hx hb dX9_trunk_16 (by decide) ?_
  obtain ⟨h17, eh17⟩ : ∃ y, y = hU h12 66 27 0 := ⟨_, rfl⟩
  replace hf := lt_at eh17 hf
  refine r_put (a := 66) (v := .int 0) (ty := .int) (h' := h17) (C := RX9) (T := TX9) (N := 55) hG hx hb hts hinX9 tyX9 tyX9_ok nmX9 hown hK hP hS (ltX9 rfl) (ceX9 rfl) rfl 27 (by decide) wd1062 rfl (by decide +kernel) rfl rfl (Nat.le_of_ble_eq_true rfl) (by rw [eh17]; exact fun j hj => cE_U hj) (by rw [eh17]; exact puX9_27 rfl _) dX9_trunk_17 (fun H locs hP hS => ?_)
  refine lv_aload_n hx hb dX9_trunk_20 rfl (lv_at hl 0 rfl) ?_
  refine lv_iconst (v := 0) hx hb dX9_trunk_21 (by decide) ?_
  obtain ⟨h22, eh22⟩ : ∃ y, y = hU h17 66 31 0 := ⟨_, rfl⟩
  replace hf := lt_at eh22 hf
  refine r_put (a := 66) (v := .int 0) (ty := .int) (h' := h22) (C := RX9) (T := TX9) (N := 55) hG hx hb hts hinX9 tyX9 tyX9_ok nmX9 hown hK hP hS (ltX9 rfl) (ceX9 rfl) rfl 31 (by decide) wd1066 rfl (by decide +kernel) rfl rfl (Nat.le_of_ble_eq_true rfl) (by rw [eh22]; exact fun j hj => cE_U hj) (by rw [eh22]; exact puX9_31 rfl _) dX9_trunk_22 (fun H locs hP hS => ?_)
  refine lv_iconst (v := 0) hx hb dX9_trunk_25 (by decide) ?_
  refine lv_istore_n (lv' := [(1, .int 0), (0, .ref (gB G 66))]) hx hb dX9_trunk_26 rfl hl (by decide) rfl (fun ls hl => ?_)
  exact w_X9_trunk_27 hG C FU 0 h22 _ _ _ (lv_sub hl [1, 0] rfl) hP hS hf
/-! CarriedBackModel.breach()I -/
abbrev rmX9_breach : Room := { frames := 0, cells := 0, slots := 0, locals := 0 }
abbrev vX9_breach : List Cond := Cond.code yX9_breach cX9_breach 1 (some .int) :: GW
def f_X9_breach (h : PH) : Option (Int32 × PH) := some ((h.1 66 20), h)
set_option maxHeartbeats 4000000 in
set_option maxRecDepth 100000 in
theorem k_X9_breach (l : Launch) {G : GC} (hG : GOK G) {rr : Int32} {h hh : PH} (hf : f_X9_breach h = some (rr, hh)) : CI l yX9_breach vX9_breach rmX9_breach G [.ref (gB G 66)] h rr hh := by
  refine Met.ofW (cc := cX9_breach) (maxL := 1) (ret := (some .int)) (by decide +kernel) rfl ?_
  intro p e s m args below meth c s₁ B hml hv
  obtain ⟨rfl, hP, hK⟩ := hv
  have C : MC l G p s m _ meth c RX9 cX9_breach 1 (some .int) := ⟨B.exec, B.bytes, B.returns, B.notSynchronized, hml, findClass_of_methodNamed B.named, fun w hw => atoms_spec (ws := vX9_breach) B.pre w (List.mem_cons_of_mem _ hw), hK⟩
  obtain ⟨hx, hb, hr, hlocks, -, hown, hts, -⟩ := id C
  have hl := lv_entry ([.ref (gB G 66)]) (n := 1) (Nat.le_of_ble_eq_true rfl)
  rw [lg_entry_eq]
  generalize (lg_sl ([.ref (gB G 66)]) ++ List.replicate (1 - (lg_sl ([.ref (gB G 66)])).length) Slot.unset).toArray = ls at hl ⊢
  have hl : lv_has ls 1 [(0, .ref (gB G 66))] := hl
  have hS : SP G s s.heap [] := va_S.rf
  replace hP : WP G h s.heap := hP
  rw [f_X9_breach] at hf
  refine lv_aload_n hx hb dX9_breach_0 rfl (lv_at hl 0 rfl) ?_
  refine r_get (a := 66) (v := .int (h.1 66 20)) (C := RX9) (T := TX9) (N := 55) hx hb hts hinX9 hown hK hP (ltX9 rfl) (ceX9 rfl) rfl 20 (by decide) wd1055 rfl dX9_breach_1 ?_
  exact r_iret hx hb hr hlocks hP hS (re2 (Option.some.inj hf)) dX9_breach_4
/-! CarriedBackModel.setsOf(I)I -/
abbrev rmX9_setsOf : Room := { frames := 0, cells := 0, slots := 0, locals := 0 }
abbrev vX9_setsOf : List Cond := Cond.code yX9_setsOf cX9_setsOf 4 (some .int) :: GW
def f_X9_setsOf_4 (x1 : Int32) : Nat → Int32 → Int32 → PH → Option (Int32 × PH)
  | 0, _, _, _ => none
  | n + 1, x2, x3, h => if (16 : Int32) ≤ x3 then (some (x2, h)) else (bO (ag h 67 384 ((16 * x1) + x3)) (fun v21 => if v21 ≤ 0 then (lt' ((x2 ||| 0)) (fun x2_33 => (f_X9_setsOf_4 x1 n) x2_33 (x3 + 1) h)) else (lt' ((x2 ||| (1 <<< (x3 &&& 31)))) (fun x2_33 => (f_X9_setsOf_4 x1 n) x2_33 (x3 + 1) h))))
set_option maxHeartbeats 4000000 in
set_option maxRecDepth 100000 in
theorem w_X9_setsOf_4 {l : Launch} {G : GC} (hG : GOK G) {rr : Int32} {hh : PH} {p : Program} {e : Env} {s : State} {m : MethodId} {args : Array Value} {below : List Frame} {meth : Method} {c : Code} (C : MC l G p s m args meth c RX9 cX9_setsOf 4 (some .int)) (x1 : Int32) : ∀ (n : Nat) (x2 : Int32) (x3 : Int32) (h : PH) (H : Heap) (locs : List Loc) (ls : Array Slot), lv_has ls 4 [(0, .ref (gB G 66)), (1, .int x1), (2, .int x2), (3, .int x3)] → WP G h H → SP G s H locs → f_X9_setsOf_4 x1 n x2 x3 h = some (rr, hh) → W p l e rmX9_setsOf s m args below meth c H locs 0 0 (MQ below (QI G rr hh) args s 0 0 (gA G)) (F0 m 4 ls []) := by
  obtain ⟨hx, hb, hr, hlocks, hml, hown, hts, hK⟩ := id C
  intro n
  induction n with
  | zero => intro x2 x3 h H locs ls hl hP hS hf; rw [f_X9_setsOf_4] at hf; cases hf
  | succ n ih =>
    intro x2 x3 h H locs ls hl hP hS hf
    rw [f_X9_setsOf_4] at hf
    refine lv_iload_n hx hb dX9_setsOf_4 rfl (lv_at hl 3 rfl) ?_
    refine lv_bipush (v := 16) hx hb dX9_setsOf_5 (by decide) ?_
    refine lv_icmp_ge (tgt := 40) hx hb dX9_setsOf_7 (by decide) (fun c7 => ?_) (fun c7 => ?_)
    · replace hf := if_t c7 hf
      refine lv_iload_n hx hb dX9_setsOf_40 rfl (lv_at hl 2 rfl) ?_
      exact r_iret hx hb hr hlocks hP hS (re2 (Option.some.inj hf)) dX9_setsOf_41
    · replace hf := if_f c7 hf
      refine lv_iload_n hx hb dX9_setsOf_10 rfl (lv_at hl 2 rfl) ?_
      refine lv_aload_n hx hb dX9_setsOf_11 rfl (lv_at hl 0 rfl) ?_
      refine r_get (a := 66) (v := .ref (gB G 67)) (C := RX9) (T := TX9) (N := 55) hx hb hts hinX9 hown hK hP (ltX9 rfl) (ceX9 rfl) rfl 1 (by decide) wd1036 rfl dX9_setsOf_12 ?_
      refine lv_bipush (v := 16) hx hb dX9_setsOf_15 (by decide) ?_
      refine lv_iload_n hx hb dX9_setsOf_17 rfl (lv_at hl 1 rfl) ?_
      refine lv_imul hx hb dX9_setsOf_18 ?_
      refine lv_iload_n hx hb dX9_setsOf_19 rfl (lv_at hl 3 rfl) ?_
      refine lv_iadd hx hb dX9_setsOf_20 ?_
      obtain ⟨v21, ev21, hf⟩ := bO_s hf
      refine r_iald hx hb hK hP (arX9_1 rfl) ev21 dX9_setsOf_21 ?_
      refine lv_if_le (tgt := 31) hx hb dX9_setsOf_22 (by decide) (fun c22 => ?_) (fun c22 => ?_)
      · replace hf := if_t c22 hf
        refine lv_iconst (v := 0) hx hb dX9_setsOf_31 (by decide) ?_
        refine lv_ior hx hb dX9_setsOf_32 ?_
        refine lv_topi (fun x2_33 ex2_33 => ?_)
        replace hf := lt_at ex2_33 hf
        refine lv_istore_n (lv' := [(2, .int x2_33), (0, .ref (gB G 66)), (1, .int x1), (3, .int x3)]) hx hb dX9_setsOf_33 rfl hl (by decide) rfl (fun ls hl => ?_)
        refine lv_iinc (v := (x3 + 1)) (lv' := [(3, .int (x3 + 1)), (2, .int x2_33), (0, .ref (gB G 66)), (1, .int x1)]) hx hb dX9_setsOf_34 hl (k := 3) rfl rfl (by decide) rfl (fun ls hl => ?_)
        refine lv_goto (tgt := 4) hx hb dX9_setsOf_37 (by decide) ?_
        exact ih x2_33 (x3 + 1) h _ _ _ (lv_sub hl [2, 3, 1, 0] rfl) hP hS hf
      · replace hf := if_f c22 hf
        refine lv_iconst (v := 1) hx hb dX9_setsOf_25 (by decide) ?_
        refine lv_iload_n hx hb dX9_setsOf_26 rfl (lv_at hl 3 rfl) ?_
        refine lv_ishl hx hb dX9_setsOf_27 ?_
        refine lv_goto (tgt := 32) hx hb dX9_setsOf_28 (by decide) ?_
        refine lv_ior hx hb dX9_setsOf_32 ?_
        refine lv_topi (fun x2_33 ex2_33 => ?_)
        replace hf := lt_at ex2_33 hf
        refine lv_istore_n (lv' := [(2, .int x2_33), (0, .ref (gB G 66)), (1, .int x1), (3, .int x3)]) hx hb dX9_setsOf_33 rfl hl (by decide) rfl (fun ls hl => ?_)
        refine lv_iinc (v := (x3 + 1)) (lv' := [(3, .int (x3 + 1)), (2, .int x2_33), (0, .ref (gB G 66)), (1, .int x1)]) hx hb dX9_setsOf_34 hl (k := 3) rfl rfl (by decide) rfl (fun ls hl => ?_)
        refine lv_goto (tgt := 4) hx hb dX9_setsOf_37 (by decide) ?_
        exact ih x2_33 (x3 + 1) h _ _ _ (lv_sub hl [2, 3, 1, 0] rfl) hP hS hf
def f_X9_setsOf (x1 : Int32) (h : PH) : Option (Int32 × PH) := f_X9_setsOf_4 x1 FU 0 0 h
set_option maxHeartbeats 4000000 in
set_option maxRecDepth 100000 in
theorem k_X9_setsOf (l : Launch) {G : GC} (hG : GOK G) {x1 : Int32} {rr : Int32} {h hh : PH} (hf : f_X9_setsOf x1 h = some (rr, hh)) : CI l yX9_setsOf vX9_setsOf rmX9_setsOf G [.ref (gB G 66), .int x1] h rr hh := by
  refine Met.ofW (cc := cX9_setsOf) (maxL := 4) (ret := (some .int)) (by decide +kernel) rfl ?_
  intro p e s m args below meth c s₁ B hml hv
  obtain ⟨rfl, hP, hK⟩ := hv
  have C : MC l G p s m _ meth c RX9 cX9_setsOf 4 (some .int) := ⟨B.exec, B.bytes, B.returns, B.notSynchronized, hml, findClass_of_methodNamed B.named, fun w hw => atoms_spec (ws := vX9_setsOf) B.pre w (List.mem_cons_of_mem _ hw), hK⟩
  obtain ⟨hx, hb, hr, hlocks, -, hown, hts, -⟩ := id C
  have hl := lv_entry ([.ref (gB G 66), .int x1]) (n := 4) (Nat.le_of_ble_eq_true rfl)
  rw [lg_entry_eq]
  generalize (lg_sl ([.ref (gB G 66), .int x1]) ++ List.replicate (4 - (lg_sl ([.ref (gB G 66), .int x1])).length) Slot.unset).toArray = ls at hl ⊢
  have hl : lv_has ls 4 [(0, .ref (gB G 66)), (1, .int x1)] := hl
  have hS : SP G s s.heap [] := va_S.rf
  replace hP : WP G h s.heap := hP
  rw [f_X9_setsOf] at hf
  refine lv_iconst (v := 0) hx hb dX9_setsOf_0 (by decide) ?_
  refine lv_istore_n (lv' := [(2, .int 0), (0, .ref (gB G 66)), (1, .int x1)]) hx hb dX9_setsOf_1 rfl hl (by decide) rfl (fun ls hl => ?_)
  refine lv_iconst (v := 0) hx hb dX9_setsOf_2 (by decide) ?_
  refine lv_istore_n (lv' := [(3, .int 0), (2, .int 0), (0, .ref (gB G 66)), (1, .int x1)]) hx hb dX9_setsOf_3 rfl hl (by decide) rfl (fun ls hl => ?_)
  exact w_X9_setsOf_4 hG C x1 FU 0 0 h _ _ _ (lv_sub hl [2, 3, 1, 0] rfl) hP hS hf
/-! CarriedBackModel.faultsBy(I[I)I -/
abbrev rmX9_faultsBy : Room := { frames := 0, cells := 0, slots := 0, locals := 0 }
abbrev vX9_faultsBy : List Cond := Cond.code yX9_faultsBy cX9_faultsBy 5 (some .int) :: GW
def f_X9_faultsBy_5 (V2 n2 : Nat) (x1 : Int32) : Nat → Int32 → Int32 → PH → Option (Int32 × PH)
  | 0, _, _, _ => none
  | n + 1, x3, x4, h => if (h.1 66 4) ≤ x4 then (some (x3, h)) else (bO (ag h V2 n2 x4) (fun v18 => if v18 = x1 then (lt' ((x3 ||| (1 <<< (x4 &&& 31)))) (fun x3_32 => (f_X9_faultsBy_5 V2 n2 x1 n) x3_32 (x4 + 1) h)) else (lt' ((x3 ||| 0)) (fun x3_32 => (f_X9_faultsBy_5 V2 n2 x1 n) x3_32 (x4 + 1) h))))
set_option maxHeartbeats 4000000 in
set_option maxRecDepth 100000 in
theorem w_X9_faultsBy_5 {l : Launch} {G : GC} (hG : GOK G) {rr : Int32} {hh : PH} {p : Program} {e : Env} {s : State} {m : MethodId} {args : Array Value} {below : List Frame} {meth : Method} {c : Code} (C : MC l G p s m args meth c RX9 cX9_faultsBy 5 (some .int)) (V2 n2 : Nat) (hV2 : isA V2 n2) (x1 : Int32) : ∀ (n : Nat) (x3 : Int32) (x4 : Int32) (h : PH) (H : Heap) (locs : List Loc) (ls : Array Slot), lv_has ls 5 [(0, .ref (gB G 66)), (1, .int x1), (2, .ref (gB G V2)), (3, .int x3), (4, .int x4)] → WP G h H → SP G s H locs → f_X9_faultsBy_5 V2 n2 x1 n x3 x4 h = some (rr, hh) → W p l e rmX9_faultsBy s m args below meth c H locs 0 0 (MQ below (QI G rr hh) args s 0 0 (gA G)) (F0 m 5 ls []) := by
  obtain ⟨hx, hb, hr, hlocks, hml, hown, hts, hK⟩ := id C
  intro n
  induction n with
  | zero => intro x3 x4 h H locs ls hl hP hS hf; rw [f_X9_faultsBy_5] at hf; cases hf
  | succ n ih =>
    intro x3 x4 h H locs ls hl hP hS hf
    rw [f_X9_faultsBy_5] at hf
    refine lv_iload hx hb dX9_faultsBy_5 (lv_at hl 4 rfl) ?_
    refine lv_aload_n hx hb dX9_faultsBy_7 rfl (lv_at hl 0 rfl) ?_
    refine r_get (a := 66) (v := .int (h.1 66 4)) (C := RX9) (T := TX9) (N := 55) hx hb hts hinX9 hown hK hP (ltX9 rfl) (ceX9 rfl) rfl 4 (by decide) wd1039 rfl dX9_faultsBy_8 ?_
    refine lv_icmp_ge (tgt := 39) hx hb dX9_faultsBy_11 (by decide) (fun c11 => ?_) (fun c11 => ?_)
    · replace hf := if_t c11 hf
      refine lv_iload_n hx hb dX9_faultsBy_39 rfl (lv_at hl 3 rfl) ?_
      exact r_iret hx hb hr hlocks hP hS (re2 (Option.some.inj hf)) dX9_faultsBy_40
    · replace hf := if_f c11 hf
      refine lv_iload_n hx hb dX9_faultsBy_14 rfl (lv_at hl 3 rfl) ?_
      refine lv_aload_n hx hb dX9_faultsBy_15 rfl (lv_at hl 2 rfl) ?_
      refine lv_iload hx hb dX9_faultsBy_16 (lv_at hl 4 rfl) ?_
      obtain ⟨v18, ev18, hf⟩ := bO_s hf
      refine r_iald hx hb hK hP hV2 ev18 dX9_faultsBy_18 ?_
      refine lv_iload_n hx hb dX9_faultsBy_19 rfl (lv_at hl 1 rfl) ?_
      refine lv_icmp_ne (tgt := 30) hx hb dX9_faultsBy_20 (by decide) (fun c20 => ?_) (fun c20 => ?_)
      · replace hf := if_f c20 hf
        refine lv_iconst (v := 0) hx hb dX9_faultsBy_30 (by decide) ?_
        refine lv_ior hx hb dX9_faultsBy_31 ?_
        refine lv_topi (fun x3_32 ex3_32 => ?_)
        replace hf := lt_at ex3_32 hf
        refine lv_istore_n (lv' := [(3, .int x3_32), (0, .ref (gB G 66)), (1, .int x1), (2, .ref (gB G V2)), (4, .int x4)]) hx hb dX9_faultsBy_32 rfl hl (by decide) rfl (fun ls hl => ?_)
        refine lv_iinc (v := (x4 + 1)) (lv' := [(4, .int (x4 + 1)), (3, .int x3_32), (0, .ref (gB G 66)), (1, .int x1), (2, .ref (gB G V2))]) hx hb dX9_faultsBy_33 hl (k := 4) rfl rfl (by decide) rfl (fun ls hl => ?_)
        refine lv_goto (tgt := 5) hx hb dX9_faultsBy_36 (by decide) ?_
        exact ih x3_32 (x4 + 1) h _ _ _ (lv_sub hl [2, 3, 4, 1, 0] rfl) hP hS hf
      · replace hf := if_t c20 hf
        refine lv_iconst (v := 1) hx hb dX9_faultsBy_23 (by decide) ?_
        refine lv_iload hx hb dX9_faultsBy_24 (lv_at hl 4 rfl) ?_
        refine lv_ishl hx hb dX9_faultsBy_26 ?_
        refine lv_goto (tgt := 31) hx hb dX9_faultsBy_27 (by decide) ?_
        refine lv_ior hx hb dX9_faultsBy_31 ?_
        refine lv_topi (fun x3_32 ex3_32 => ?_)
        replace hf := lt_at ex3_32 hf
        refine lv_istore_n (lv' := [(3, .int x3_32), (0, .ref (gB G 66)), (1, .int x1), (2, .ref (gB G V2)), (4, .int x4)]) hx hb dX9_faultsBy_32 rfl hl (by decide) rfl (fun ls hl => ?_)
        refine lv_iinc (v := (x4 + 1)) (lv' := [(4, .int (x4 + 1)), (3, .int x3_32), (0, .ref (gB G 66)), (1, .int x1), (2, .ref (gB G V2))]) hx hb dX9_faultsBy_33 hl (k := 4) rfl rfl (by decide) rfl (fun ls hl => ?_)
        refine lv_goto (tgt := 5) hx hb dX9_faultsBy_36 (by decide) ?_
        exact ih x3_32 (x4 + 1) h _ _ _ (lv_sub hl [2, 3, 4, 1, 0] rfl) hP hS hf
def f_X9_faultsBy (V2 n2 : Nat) (x1 : Int32) (h : PH) : Option (Int32 × PH) := f_X9_faultsBy_5 V2 n2 x1 FU 0 0 h
set_option maxHeartbeats 4000000 in
set_option maxRecDepth 100000 in
theorem k_X9_faultsBy (l : Launch) {G : GC} (hG : GOK G) (V2 n2 : Nat) (hV2 : isA V2 n2) {x1 : Int32} {rr : Int32} {h hh : PH} (hf : f_X9_faultsBy V2 n2 x1 h = some (rr, hh)) : CI l yX9_faultsBy vX9_faultsBy rmX9_faultsBy G [.ref (gB G 66), .int x1, .ref (gB G V2)] h rr hh := by
  refine Met.ofW (cc := cX9_faultsBy) (maxL := 5) (ret := (some .int)) (by decide +kernel) rfl ?_
  intro p e s m args below meth c s₁ B hml hv
  obtain ⟨rfl, hP, hK⟩ := hv
  have C : MC l G p s m _ meth c RX9 cX9_faultsBy 5 (some .int) := ⟨B.exec, B.bytes, B.returns, B.notSynchronized, hml, findClass_of_methodNamed B.named, fun w hw => atoms_spec (ws := vX9_faultsBy) B.pre w (List.mem_cons_of_mem _ hw), hK⟩
  obtain ⟨hx, hb, hr, hlocks, -, hown, hts, -⟩ := id C
  have hl := lv_entry ([.ref (gB G 66), .int x1, .ref (gB G V2)]) (n := 5) (Nat.le_of_ble_eq_true rfl)
  rw [lg_entry_eq]
  generalize (lg_sl ([.ref (gB G 66), .int x1, .ref (gB G V2)]) ++ List.replicate (5 - (lg_sl ([.ref (gB G 66), .int x1, .ref (gB G V2)])).length) Slot.unset).toArray = ls at hl ⊢
  have hl : lv_has ls 5 [(0, .ref (gB G 66)), (1, .int x1), (2, .ref (gB G V2))] := hl
  have hS : SP G s s.heap [] := va_S.rf
  replace hP : WP G h s.heap := hP
  rw [f_X9_faultsBy] at hf
  refine lv_iconst (v := 0) hx hb dX9_faultsBy_0 (by decide) ?_
  refine lv_istore_n (lv' := [(3, .int 0), (0, .ref (gB G 66)), (1, .int x1), (2, .ref (gB G V2))]) hx hb dX9_faultsBy_1 rfl hl (by decide) rfl (fun ls hl => ?_)
  refine lv_iconst (v := 0) hx hb dX9_faultsBy_2 (by decide) ?_
  refine lv_istore (lv' := [(4, .int 0), (3, .int 0), (0, .ref (gB G 66)), (1, .int x1), (2, .ref (gB G V2))]) hx hb dX9_faultsBy_3 hl (by decide) rfl (fun ls hl => ?_)
  exact w_X9_faultsBy_5 hG C V2 n2 hV2 x1 FU 0 0 h _ _ _ (lv_sub hl [2, 3, 4, 1, 0] rfl) hP hS hf
/-! CarriedBackModel.change(II)I -/
abbrev rmX9_change : Room := { frames := 2, cells := 0, slots := 0, locals := 46 }
abbrev vX9_change : List Cond := Cond.code yX9_change cX9_change 3 (some .int) :: GW
def f_X9_change (x1 : Int32) (x2 : Int32) (h : PH) : Option (Int32 × PH) := bP (f_X9_isChange x1 h) (fun r2 h2 => if r2 = 0 then (some ((-1001), h2)) else (if x2 = 0 then (bP (f_X9_setsOf x1 h2) (fun r50 h50 => some (r50, h50))) else (if x2 = 1 then (bO (ag h2 68 24 x1) (fun v59 => some (v59, h2))) else (if x2 = 2 then (bO (ag h2 69 24 x1) (fun v66 => some (v66, h2))) else (if x2 = 3 then (bP (f_X9_faultsBy 71 10 x1 h2) (fun r74 h74 => some (r74, h74))) else (if x2 = 4 then (bP (f_X9_faultsBy 72 10 x1 h2) (fun r84 h84 => some (r84, h84))) else (some ((-1002), h2))))))))
set_option maxHeartbeats 4000000 in
set_option maxRecDepth 100000 in
theorem k_X9_change (l : Launch) {G : GC} (hG : GOK G) {x1 : Int32} {x2 : Int32} {rr : Int32} {h hh : PH} (hf : f_X9_change x1 x2 h = some (rr, hh)) : CI l yX9_change vX9_change rmX9_change G [.ref (gB G 66), .int x1, .int x2] h rr hh := by
  refine Met.ofW (cc := cX9_change) (maxL := 3) (ret := (some .int)) (by decide +kernel) rfl ?_
  intro p e s m args below meth c s₁ B hml hv
  obtain ⟨rfl, hP, hK⟩ := hv
  have C : MC l G p s m _ meth c RX9 cX9_change 3 (some .int) := ⟨B.exec, B.bytes, B.returns, B.notSynchronized, hml, findClass_of_methodNamed B.named, fun w hw => atoms_spec (ws := vX9_change) B.pre w (List.mem_cons_of_mem _ hw), hK⟩
  obtain ⟨hx, hb, hr, hlocks, -, hown, hts, -⟩ := id C
  have hl := lv_entry ([.ref (gB G 66), .int x1, .int x2]) (n := 3) (Nat.le_of_ble_eq_true rfl)
  rw [lg_entry_eq]
  generalize (lg_sl ([.ref (gB G 66), .int x1, .int x2]) ++ List.replicate (3 - (lg_sl ([.ref (gB G 66), .int x1, .int x2])).length) Slot.unset).toArray = ls at hl ⊢
  have hl : lv_has ls 3 [(0, .ref (gB G 66)), (1, .int x1), (2, .int x2)] := hl
  have hS : SP G s s.heap [] := va_S.rf
  replace hP : WP G h s.heap := hP
  rw [f_X9_change] at hf
  refine lv_aload_n hx hb dX9_change_0 rfl (lv_at hl 0 rfl) ?_
  refine lv_iload_n hx hb dX9_change_1 rfl (lv_at hl 1 rfl) ?_
  obtain ⟨r2, h2, er2, hf⟩ := bP_s hf
  refine r_callI (va_runV (As := [.int x1]) (rest := []) ⟨hx, hb, hml, hown, hts⟩ (k_X9_isChange l hG er2) (cwV 1 hts (gV wd1299 wd1301 wd42 wd82 wd1302) rfl rfl rfl (by decide +kernel) ⟨Nat.le_of_ble_eq_true rfl, Nat.le_of_ble_eq_true rfl⟩) (r_pv hK hP hS (ltX9 rfl) (ceX9 rfl) rfl) rfl rfl hl.1 rfl (lv_room (Nat.le_of_ble_eq_true rfl)) dX9_change_2 ⟨Nat.le_of_ble_eq_true rfl, Nat.le_of_ble_eq_true rfl⟩) hS (fun H locs hP hS => ?_)
  refine lv_if_ne (tgt := 12) hx hb dX9_change_5 (by decide) (fun c5 => ?_) (fun c5 => ?_)
  · replace hf := if_f c5 hf
    refine lv_iload_n hx hb dX9_change_12 rfl (lv_at hl 2 rfl) ?_
    by_cases s13_0 : x2 = 0
    · replace hf := if_t s13_0 hf
      refine lv_tableIn (tgt := 48) hx hb dX9_change_13 (by rw [s13_0]; decide) (by rw [s13_0]; decide) (by rw [s13_0]; rfl) (by decide) ?_
      refine lv_aload_n hx hb dX9_change_48 rfl (lv_at hl 0 rfl) ?_
      refine lv_iload_n hx hb dX9_change_49 rfl (lv_at hl 1 rfl) ?_
      obtain ⟨r50, h50, er50, hf⟩ := bP_s hf
      refine r_callI (va_runV (As := [.int x1]) (rest := []) ⟨hx, hb, hml, hown, hts⟩ (k_X9_setsOf l hG er50) (cwV 1 hts (gV wd1303 wd1305 wd43 wd82 wd1306) rfl rfl rfl (by decide +kernel) ⟨Nat.le_of_ble_eq_true rfl, Nat.le_of_ble_eq_true rfl⟩) (r_pv hK hP hS (ltX9 rfl) (ceX9 rfl) rfl) rfl rfl hl.1 rfl (lv_room (Nat.le_of_ble_eq_true rfl)) dX9_change_50 ⟨Nat.le_of_ble_eq_true rfl, Nat.le_of_ble_eq_true rfl⟩) hS (fun H locs hP hS => ?_)
      exact r_iret hx hb hr hlocks hP hS (re2 (Option.some.inj hf)) dX9_change_53
    replace hf := if_f s13_0 hf
    by_cases s13_1 : x2 = 1
    · replace hf := if_t s13_1 hf
      refine lv_tableIn (tgt := 54) hx hb dX9_change_13 (by rw [s13_1]; decide) (by rw [s13_1]; decide) (by rw [s13_1]; rfl) (by decide) ?_
      refine lv_aload_n hx hb dX9_change_54 rfl (lv_at hl 0 rfl) ?_
      refine r_get (a := 66) (v := .ref (gB G 68)) (C := RX9) (T := TX9) (N := 55) hx hb hts hinX9 hown hK hP (ltX9 rfl) (ceX9 rfl) rfl 2 (by decide) wd1037 rfl dX9_change_55 ?_
      refine lv_iload_n hx hb dX9_change_58 rfl (lv_at hl 1 rfl) ?_
      obtain ⟨v59, ev59, hf⟩ := bO_s hf
      refine r_iald hx hb hK hP (arX9_2 rfl) ev59 dX9_change_59 ?_
      exact r_iret hx hb hr hlocks hP hS (re2 (Option.some.inj hf)) dX9_change_60
    replace hf := if_f s13_1 hf
    by_cases s13_2 : x2 = 2
    · replace hf := if_t s13_2 hf
      refine lv_tableIn (tgt := 61) hx hb dX9_change_13 (by rw [s13_2]; decide) (by rw [s13_2]; decide) (by rw [s13_2]; rfl) (by decide) ?_
      refine lv_aload_n hx hb dX9_change_61 rfl (lv_at hl 0 rfl) ?_
      refine r_get (a := 66) (v := .ref (gB G 69)) (C := RX9) (T := TX9) (N := 55) hx hb hts hinX9 hown hK hP (ltX9 rfl) (ceX9 rfl) rfl 3 (by decide) wd1038 rfl dX9_change_62 ?_
      refine lv_iload_n hx hb dX9_change_65 rfl (lv_at hl 1 rfl) ?_
      obtain ⟨v66, ev66, hf⟩ := bO_s hf
      refine r_iald hx hb hK hP (arX9_3 rfl) ev66 dX9_change_66 ?_
      exact r_iret hx hb hr hlocks hP hS (re2 (Option.some.inj hf)) dX9_change_67
    replace hf := if_f s13_2 hf
    by_cases s13_3 : x2 = 3
    · replace hf := if_t s13_3 hf
      refine lv_tableIn (tgt := 68) hx hb dX9_change_13 (by rw [s13_3]; decide) (by rw [s13_3]; decide) (by rw [s13_3]; rfl) (by decide) ?_
      refine lv_aload_n hx hb dX9_change_68 rfl (lv_at hl 0 rfl) ?_
      refine lv_iload_n hx hb dX9_change_69 rfl (lv_at hl 1 rfl) ?_
      refine lv_aload_n hx hb dX9_change_70 rfl (lv_at hl 0 rfl) ?_
      refine r_get (a := 66) (v := .ref (gB G 71)) (C := RX9) (T := TX9) (N := 55) hx hb hts hinX9 hown hK hP (ltX9 rfl) (ceX9 rfl) rfl 6 (by decide) wd1041 rfl dX9_change_71 ?_
      obtain ⟨r74, h74, er74, hf⟩ := bP_s hf
      refine r_callI (va_runV (As := [.int x1, .ref (gB G 71)]) (rest := []) ⟨hx, hb, hml, hown, hts⟩ (k_X9_faultsBy l hG 71 10 (arX9_6 rfl) er74) (cwV 2 hts (gV wd1307 wd1309 wd44 wd82 wd1310) rfl rfl rfl (by decide +kernel) ⟨Nat.le_of_ble_eq_true rfl, Nat.le_of_ble_eq_true rfl⟩) (r_pv hK hP hS (ltX9 rfl) (ceX9 rfl) rfl) rfl rfl hl.1 rfl (lv_room (Nat.le_of_ble_eq_true rfl)) dX9_change_74 ⟨Nat.le_of_ble_eq_true rfl, Nat.le_of_ble_eq_true rfl⟩) hS (fun H locs hP hS => ?_)
      exact r_iret hx hb hr hlocks hP hS (re2 (Option.some.inj hf)) dX9_change_77
    replace hf := if_f s13_3 hf
    by_cases s13_4 : x2 = 4
    · replace hf := if_t s13_4 hf
      refine lv_tableIn (tgt := 78) hx hb dX9_change_13 (by rw [s13_4]; decide) (by rw [s13_4]; decide) (by rw [s13_4]; rfl) (by decide) ?_
      refine lv_aload_n hx hb dX9_change_78 rfl (lv_at hl 0 rfl) ?_
      refine lv_iload_n hx hb dX9_change_79 rfl (lv_at hl 1 rfl) ?_
      refine lv_aload_n hx hb dX9_change_80 rfl (lv_at hl 0 rfl) ?_
      refine r_get (a := 66) (v := .ref (gB G 72)) (C := RX9) (T := TX9) (N := 55) hx hb hts hinX9 hown hK hP (ltX9 rfl) (ceX9 rfl) rfl 7 (by decide) wd1042 rfl dX9_change_81 ?_
      obtain ⟨r84, h84, er84, hf⟩ := bP_s hf
      refine r_callI (va_runV (As := [.int x1, .ref (gB G 72)]) (rest := []) ⟨hx, hb, hml, hown, hts⟩ (k_X9_faultsBy l hG 72 10 (arX9_7 rfl) er84) (cwV 2 hts (gV wd1307 wd1309 wd44 wd82 wd1310) rfl rfl rfl (by decide +kernel) ⟨Nat.le_of_ble_eq_true rfl, Nat.le_of_ble_eq_true rfl⟩) (r_pv hK hP hS (ltX9 rfl) (ceX9 rfl) rfl) rfl rfl hl.1 rfl (lv_room (Nat.le_of_ble_eq_true rfl)) dX9_change_84 ⟨Nat.le_of_ble_eq_true rfl, Nat.le_of_ble_eq_true rfl⟩) hS (fun H locs hP hS => ?_)
      exact r_iret hx hb hr hlocks hP hS (re2 (Option.some.inj hf)) dX9_change_87
    replace hf := if_f s13_4 hf
    refine lv_tableOut (tgt := 88) hx hb dX9_change_13 (sw_out (x := x2) 4 (by decide) (fun k hk => by
      rcases (show k = 0 ∨ k = 1 ∨ k = 2 ∨ k = 3 ∨ k = 4 by omega) with rfl | rfl | rfl | rfl | rfl
      · exact s13_0
      · exact s13_1
      · exact s13_2
      · exact s13_3
      · exact s13_4
      )) (by decide) ?_
    refine lv_sipush (v := (-1002)) hx hb dX9_change_88 (by decide) ?_
    exact r_iret hx hb hr hlocks hP hS (re2 (Option.some.inj hf)) dX9_change_91
  · replace hf := if_t c5 hf
    refine lv_sipush (v := (-1001)) hx hb dX9_change_8 (by decide) ?_
    exact r_iret hx hb hr hlocks hP hS (re2 (Option.some.inj hf)) dX9_change_11
