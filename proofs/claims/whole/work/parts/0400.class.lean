/-! CarriedBack$Text.append(IJ)V -/
abbrev rmX6_append : Room := { frames := 0, cells := 0, slots := 0, locals := 0 }
abbrev vX6_append : List Cond := Cond.code yX6_append cX6_append 5 none :: GW
def f_X6_append_5 (x2 : Int64) : Nat → Int32 → PH → Option PH
  | 0, _, _ => none
  | n + 1, x4, h => if x4 < 0 then (some h) else (if (500 : Int32) ≤ (h.1 1 1) then (some h) else (bO (asg h 2 500 (h.1 1 1) ((((x2 : Int64).toUInt64 >>> (((8 * x4) : Int32).toInt64.toUInt64 &&& Int64.toUInt64 63)).toInt64 : Int64).toInt32 &&& 255)) (fun h40 => lt' (hU h40 1 1 ((h40.1 1 1) + 1)) (fun h48 => (f_X6_append_5 x2 n) (x4 + (-1)) h48))))
set_option maxHeartbeats 4000000 in
set_option maxRecDepth 100000 in
theorem w_X6_append_5 {l : Launch} {G : GC} (hG : GOK G) {hh : PH} {p : Program} {e : Env} {s : State} {m : MethodId} {args : Array Value} {below : List Frame} {meth : Method} {c : Code} (C : MC l G p s m args meth c RX6 cX6_append 5 none) (x2 : Int64) : ∀ (n : Nat) (x4 : Int32) (h : PH) (H : Heap) (locs : List Loc) (ls : Array Slot), lv_has ls 5 [(0, .ref (gB G 1)), (2, .long x2), (4, .int x4)] → WP G h H → SP G s H locs → f_X6_append_5 x2 n x4 h = some hh → W p l e rmX6_append s m args below meth c H locs 0 0 (MQ below (QV G hh) args s 0 0 (gA G)) (F0 m 5 ls []) := by
  obtain ⟨hx, hb, hr, hlocks, hml, hown, hts, hK⟩ := id C
  intro n
  induction n with
  | zero => intro x4 h H locs ls hl hP hS hf; rw [f_X6_append_5] at hf; cases hf
  | succ n ih =>
    intro x4 h H locs ls hl hP hS hf
    rw [f_X6_append_5] at hf
    refine lv_iload hx hb dX6_append_5 (lv_at hl 2 rfl) ?_
    refine lv_if_lt (tgt := 57) hx hb dX6_append_7 (by decide) (fun c7 => ?_) (fun c7 => ?_)
    · replace hf := if_t c7 hf
      exact r_vret hx hb hr hlocks hP hS (Option.some.inj hf) dX6_append_57
    · replace hf := if_f c7 hf
      refine lv_aload_n hx hb dX6_append_10 rfl (lv_at hl 0 rfl) ?_
      refine r_get (a := 1) (v := .int (h.1 1 1)) (C := RX6) (T := TX6) (N := 2) hx hb hts hinX6 hown hK hP (ltX6 rfl) (ceX6 rfl) rfl 1 (by decide) wd106 rfl dX6_append_11 ?_
      refine lv_sipush (v := 500) hx hb dX6_append_14 (by decide) ?_
      refine lv_icmp_ge (tgt := 57) hx hb dX6_append_17 (by decide) (fun c17 => ?_) (fun c17 => ?_)
      · replace hf := if_t c17 hf
        exact r_vret hx hb hr hlocks hP hS (Option.some.inj hf) dX6_append_57
      · replace hf := if_f c17 hf
        refine lv_aload_n hx hb dX6_append_20 rfl (lv_at hl 0 rfl) ?_
        refine r_get (a := 1) (v := .ref (gB G 2)) (C := RX6) (T := TX6) (N := 2) hx hb hts hinX6 hown hK hP (ltX6 rfl) (ceX6 rfl) rfl 0 (by decide) wd104 rfl dX6_append_21 ?_
        refine lv_aload_n hx hb dX6_append_24 rfl (lv_at hl 0 rfl) ?_
        refine r_get (a := 1) (v := .int (h.1 1 1)) (C := RX6) (T := TX6) (N := 2) hx hb hts hinX6 hown hK hP (ltX6 rfl) (ceX6 rfl) rfl 1 (by decide) wd106 rfl dX6_append_25 ?_
        refine lv_lload_n hx hb dX6_append_28 rfl (lv_at hl 1 rfl) ?_
        refine lv_bipush (v := 8) hx hb dX6_append_29 (by decide) ?_
        refine lv_iload hx hb dX6_append_31 (lv_at hl 2 rfl) ?_
        refine lv_imul hx hb dX6_append_33 ?_
        refine lv_lushr hx hb dX6_append_34 rfl ?_
        refine lv_l2i hx hb dX6_append_35 rfl ?_
        refine lv_sipush (v := 255) hx hb dX6_append_36 (by decide) ?_
        refine lv_iand hx hb dX6_append_39 ?_
        obtain ⟨h40, eh40, hf⟩ := bO_s hf
        refine r_iast hG hx hb hK hP hS (arX6_0 rfl) eh40 dX6_append_40 (fun H locs hP hS => ?_)
        refine lv_aload_n hx hb dX6_append_41 rfl (lv_at hl 0 rfl) ?_
        refine lv_dup hx hb dX6_append_42 rfl ?_
        refine r_get (a := 1) (v := .int (h40.1 1 1)) (C := RX6) (T := TX6) (N := 2) hx hb hts hinX6 hown hK hP (ltX6 rfl) (ceX6 rfl) rfl 1 (by decide) wd106 rfl dX6_append_43 ?_
        refine lv_iconst (v := 1) hx hb dX6_append_46 (by decide) ?_
        refine lv_iadd hx hb dX6_append_47 ?_
        obtain ⟨h48, eh48⟩ : ∃ y, y = hU h40 1 1 ((h40.1 1 1) + 1) := ⟨_, rfl⟩
        replace hf := lt_at eh48 hf
        refine r_put (a := 1) (v := .int ((h40.1 1 1) + 1)) (ty := .int) (h' := h48) (C := RX6) (T := TX6) (N := 2) hG hx hb hts hinX6 tyX6 tyX6_ok nmX6 hown hK hP hS (ltX6 rfl) (ceX6 rfl) rfl 1 (by decide) wd106 rfl (by decide +kernel) rfl rfl (Nat.le_of_ble_eq_true rfl) (by rw [eh48]; exact fun j hj => cE_U hj) (by rw [eh48]; exact puX6_1 rfl _) dX6_append_48 (fun H locs hP hS => ?_)
        refine lv_iinc (v := (x4 + (-1))) (lv' := [(4, .int (x4 + (-1))), (0, .ref (gB G 1)), (2, .long x2)]) hx hb dX6_append_51 hl (k := 2) rfl rfl (by decide) rfl (fun ls hl => ?_)
        refine lv_goto (tgt := 5) hx hb dX6_append_54 (by decide) ?_
        exact ih (x4 + (-1)) h48 _ _ _ (lv_sub hl [1, 2, 0] rfl) hP hS hf
def f_X6_append (x1 : Int32) (x2 : Int64) (h : PH) : Option PH := lt' ((x1 - 1)) (fun x4_3 => f_X6_append_5 x2 FU x4_3 h)
set_option maxHeartbeats 4000000 in
set_option maxRecDepth 100000 in
theorem k_X6_append (l : Launch) {G : GC} (hG : GOK G) {x1 : Int32} {x2 : Int64} {h hh : PH} (hf : f_X6_append x1 x2 h = some hh) : CV l yX6_append vX6_append rmX6_append G [.ref (gB G 1), .int x1, .long x2] h hh := by
  refine Met.ofW (cc := cX6_append) (maxL := 5) (ret := none) (by decide +kernel) rfl ?_
  intro p e s m args below meth c s₁ B hml hv
  obtain ⟨rfl, hP, hK⟩ := hv
  have C : MC l G p s m _ meth c RX6 cX6_append 5 none := ⟨B.exec, B.bytes, B.returns, B.notSynchronized, hml, findClass_of_methodNamed B.named, fun w hw => atoms_spec (ws := vX6_append) B.pre w (List.mem_cons_of_mem _ hw), hK⟩
  obtain ⟨hx, hb, hr, hlocks, -, hown, hts, -⟩ := id C
  have hl := lv_entry ([.ref (gB G 1), .int x1, .long x2]) (n := 5) (Nat.le_of_ble_eq_true rfl)
  rw [lg_entry_eq]
  generalize (lg_sl ([.ref (gB G 1), .int x1, .long x2]) ++ List.replicate (5 - (lg_sl ([.ref (gB G 1), .int x1, .long x2])).length) Slot.unset).toArray = ls at hl ⊢
  have hl : lv_has ls 5 [(0, .ref (gB G 1)), (1, .int x1), (2, .long x2)] := hl
  have hS : SP G s s.heap [] := va_S.rf
  replace hP : WP G h s.heap := hP
  rw [f_X6_append] at hf
  refine lv_iload_n hx hb dX6_append_0 rfl (lv_at hl 1 rfl) ?_
  refine lv_iconst (v := 1) hx hb dX6_append_1 (by decide) ?_
  refine lv_isub hx hb dX6_append_2 ?_
  refine lv_topi (fun x4_3 ex4_3 => ?_)
  replace hf := lt_at ex4_3 hf
  refine lv_istore (lv' := [(4, .int x4_3), (0, .ref (gB G 1)), (1, .int x1), (2, .long x2)]) hx hb dX6_append_3 hl (by decide) rfl (fun ls hl => ?_)
  exact w_X6_append_5 hG C x2 FU x4_3 h _ _ _ (lv_sub hl [1, 3, 0] rfl) hP hS hf
/-! CarriedBack.feed(IJ)I -/
abbrev rmX8_feed : Room := { frames := 1, cells := 0, slots := 0, locals := 24 }
abbrev vX8_feed : List Cond := Cond.code yX8_feed cX8_feed 4 (some .int) :: GW
def f_X8_feed (x1 : Int32) (x2 : Int64) (h : PH) : Option (Int32 × PH) := if x1 < 1 then (some ((-1002), h)) else (if x1 ≤ 8 then (if ((h.1 1 1) + x1) ≤ 500 then (bO (f_X6_append x1 x2 h) (fun h40 => some ((h40.1 1 1), h40))) else (some ((-1004), h))) else (some ((-1002), h)))
set_option maxHeartbeats 4000000 in
set_option maxRecDepth 100000 in
theorem k_X8_feed (l : Launch) {G : GC} (hG : GOK G) {x1 : Int32} {x2 : Int64} {rr : Int32} {h hh : PH} (hf : f_X8_feed x1 x2 h = some (rr, hh)) : CI l yX8_feed vX8_feed rmX8_feed G [.ref (gB G 0), .int x1, .long x2] h rr hh := by
  refine Met.ofW (cc := cX8_feed) (maxL := 4) (ret := (some .int)) (by decide +kernel) rfl ?_
  intro p e s m args below meth c s₁ B hml hv
  obtain ⟨rfl, hP, hK⟩ := hv
  have C : MC l G p s m _ meth c RX8 cX8_feed 4 (some .int) := ⟨B.exec, B.bytes, B.returns, B.notSynchronized, hml, findClass_of_methodNamed B.named, fun w hw => atoms_spec (ws := vX8_feed) B.pre w (List.mem_cons_of_mem _ hw), hK⟩
  obtain ⟨hx, hb, hr, hlocks, -, hown, hts, -⟩ := id C
  have hl := lv_entry ([.ref (gB G 0), .int x1, .long x2]) (n := 4) (Nat.le_of_ble_eq_true rfl)
  rw [lg_entry_eq]
  generalize (lg_sl ([.ref (gB G 0), .int x1, .long x2]) ++ List.replicate (4 - (lg_sl ([.ref (gB G 0), .int x1, .long x2])).length) Slot.unset).toArray = ls at hl ⊢
  have hl : lv_has ls 4 [(0, .ref (gB G 0)), (1, .int x1), (2, .long x2)] := hl
  have hS : SP G s s.heap [] := va_S.rf
  replace hP : WP G h s.heap := hP
  rw [f_X8_feed] at hf
  refine lv_iload_n hx hb dX8_feed_0 rfl (lv_at hl 1 rfl) ?_
  refine lv_iconst (v := 1) hx hb dX8_feed_1 (by decide) ?_
  refine lv_icmp_lt (tgt := 11) hx hb dX8_feed_2 (by decide) (fun c2 => ?_) (fun c2 => ?_)
  · replace hf := if_t c2 hf
    refine lv_sipush (v := (-1002)) hx hb dX8_feed_11 (by decide) ?_
    exact r_iret hx hb hr hlocks hP hS (re2 (Option.some.inj hf)) dX8_feed_14
  · replace hf := if_f c2 hf
    refine lv_iload_n hx hb dX8_feed_5 rfl (lv_at hl 1 rfl) ?_
    refine lv_bipush (v := 8) hx hb dX8_feed_6 (by decide) ?_
    refine lv_icmp_le (tgt := 15) hx hb dX8_feed_8 (by decide) (fun c8 => ?_) (fun c8 => ?_)
    · replace hf := if_t c8 hf
      refine lv_aload_n hx hb dX8_feed_15 rfl (lv_at hl 0 rfl) ?_
      refine r_get (a := 0) (v := .ref (gB G 1)) (C := RX8) (T := TX8) (N := 14) hx hb hts hinX8 hown hK hP (ltX8 rfl) (ceX8 rfl) rfl 0 (by decide) wd362 rfl dX8_feed_16 ?_
      refine r_get (a := 1) (v := .int (h.1 1 1)) (C := RX6) (T := TX6) (N := 2) hx hb hts hinX6 hown hK hP (ltX6 rfl) (ceX6 rfl) rfl 1 (by decide) wd107 rfl dX8_feed_19 ?_
      refine lv_iload_n hx hb dX8_feed_22 rfl (lv_at hl 1 rfl) ?_
      refine lv_iadd hx hb dX8_feed_23 ?_
      refine lv_sipush (v := 500) hx hb dX8_feed_24 (by decide) ?_
      refine lv_icmp_le (tgt := 34) hx hb dX8_feed_27 (by decide) (fun c27 => ?_) (fun c27 => ?_)
      · replace hf := if_t c27 hf
        refine lv_aload_n hx hb dX8_feed_34 rfl (lv_at hl 0 rfl) ?_
        refine r_get (a := 0) (v := .ref (gB G 1)) (C := RX8) (T := TX8) (N := 14) hx hb hts hinX8 hown hK hP (ltX8 rfl) (ceX8 rfl) rfl 0 (by decide) wd362 rfl dX8_feed_35 ?_
        refine lv_iload_n hx hb dX8_feed_38 rfl (lv_at hl 1 rfl) ?_
        refine lv_lload_n hx hb dX8_feed_39 rfl (lv_at hl 2 rfl) ?_
        obtain ⟨h40, eh40, hf⟩ := bO_s hf
        refine r_callV (va_runV (As := [.int x1, .long x2]) (rest := []) ⟨hx, hb, hml, hown, hts⟩ (k_X6_append l hG eh40) (cwV 2 hts (gV wd409 wd410 wd411 wd74 wd412) rfl rfl rfl (by decide +kernel) ⟨Nat.le_of_ble_eq_true rfl, Nat.le_of_ble_eq_true rfl⟩) (r_pv hK hP hS (ltX6 rfl) (ceX6 rfl) rfl) rfl rfl hl.1 rfl (lv_room (Nat.le_of_ble_eq_true rfl)) dX8_feed_40 ⟨Nat.le_of_ble_eq_true rfl, Nat.le_of_ble_eq_true rfl⟩) hS (fun H locs hP hS => ?_)
        refine lv_aload_n hx hb dX8_feed_43 rfl (lv_at hl 0 rfl) ?_
        refine r_get (a := 0) (v := .ref (gB G 1)) (C := RX8) (T := TX8) (N := 14) hx hb hts hinX8 hown hK hP (ltX8 rfl) (ceX8 rfl) rfl 0 (by decide) wd362 rfl dX8_feed_44 ?_
        refine r_get (a := 1) (v := .int (h40.1 1 1)) (C := RX6) (T := TX6) (N := 2) hx hb hts hinX6 hown hK hP (ltX6 rfl) (ceX6 rfl) rfl 1 (by decide) wd107 rfl dX8_feed_47 ?_
        exact r_iret hx hb hr hlocks hP hS (re2 (Option.some.inj hf)) dX8_feed_50
      · replace hf := if_f c27 hf
        refine lv_sipush (v := (-1004)) hx hb dX8_feed_30 (by decide) ?_
        exact r_iret hx hb hr hlocks hP hS (re2 (Option.some.inj hf)) dX8_feed_33
    · replace hf := if_f c8 hf
      refine lv_sipush (v := (-1002)) hx hb dX8_feed_11 (by decide) ?_
      exact r_iret hx hb hr hlocks hP hS (re2 (Option.some.inj hf)) dX8_feed_14
/-! CarriedBack$Reader.kindOf(I)I -/
abbrev rmX3_kindOf : Room := { frames := 0, cells := 0, slots := 0, locals := 0 }
abbrev vX3_kindOf : List Cond := Cond.code yX3_kindOf cX3_kindOf 1 (some .int) :: GW
def f_X3_kindOf_14 (x0 : Int32) : Option Int32 := if x0 < 48 then (some 3) else (if (57 : Int32) < x0 then (some 3) else (some 2))
set_option maxHeartbeats 4000000 in
set_option maxRecDepth 100000 in
theorem w_X3_kindOf_14 {l : Launch} {G : GC} (hG : GOK G) {rr : Int32} {h : PH} {p : Program} {e : Env} {s : State} {m : MethodId} {args : Array Value} {below : List Frame} {meth : Method} {c : Code} (C : MC l G p s m args meth c RX3 cX3_kindOf 1 (some .int)) : ∀ (x0 : Int32) (H : Heap) (locs : List Loc) (ls : Array Slot), lv_has ls 1 [(0, .int x0)] → WP G h H → SP G s H locs → f_X3_kindOf_14 x0 = some rr → W p l e rmX3_kindOf s m args below meth c H locs 0 0 (MQ below (QI G rr h) args s 0 0 (gA G)) (F0 m 14 ls []) := by
  obtain ⟨hx, hb, hr, hlocks, hml, hown, hts, hK⟩ := id C
  intro x0 H locs ls hl hP hS hf
  rw [f_X3_kindOf_14] at hf
  refine lv_iload_n hx hb dX3_kindOf_14 rfl (lv_at hl 0 rfl) ?_
  refine lv_bipush (v := 48) hx hb dX3_kindOf_15 (by decide) ?_
  refine lv_icmp_lt (tgt := 30) hx hb dX3_kindOf_17 (by decide) (fun c17 => ?_) (fun c17 => ?_)
  · replace hf := if_t c17 hf
    refine lv_iconst (v := 3) hx hb dX3_kindOf_30 (by decide) ?_
    exact r_iret hx hb hr hlocks hP hS ⟨Option.some.inj hf, rfl⟩ dX3_kindOf_31
  · replace hf := if_f c17 hf
    refine lv_iload_n hx hb dX3_kindOf_20 rfl (lv_at hl 0 rfl) ?_
    refine lv_bipush (v := 57) hx hb dX3_kindOf_21 (by decide) ?_
    refine lv_icmp_gt (tgt := 30) hx hb dX3_kindOf_23 (by decide) (fun c23 => ?_) (fun c23 => ?_)
    · replace hf := if_t c23 hf
      refine lv_iconst (v := 3) hx hb dX3_kindOf_30 (by decide) ?_
      exact r_iret hx hb hr hlocks hP hS ⟨Option.some.inj hf, rfl⟩ dX3_kindOf_31
    · replace hf := if_f c23 hf
      refine lv_iconst (v := 2) hx hb dX3_kindOf_26 (by decide) ?_
      refine lv_goto (tgt := 31) hx hb dX3_kindOf_27 (by decide) ?_
      exact r_iret hx hb hr hlocks hP hS ⟨Option.some.inj hf, rfl⟩ dX3_kindOf_31
def f_X3_kindOf (x0 : Int32) : Option Int32 := if x0 < 97 then (f_X3_kindOf_14 x0) else (if (122 : Int32) < x0 then (f_X3_kindOf_14 x0) else (some 1))
set_option maxHeartbeats 4000000 in
set_option maxRecDepth 100000 in
theorem k_X3_kindOf (l : Launch) {G : GC} (hG : GOK G) {x0 : Int32} {rr : Int32} {h : PH} (hf : f_X3_kindOf x0 = some rr) : CI l yX3_kindOf vX3_kindOf rmX3_kindOf G [.int x0] h rr h := by
  refine Met.ofW (cc := cX3_kindOf) (maxL := 1) (ret := (some .int)) (by decide +kernel) rfl ?_
  intro p e s m args below meth c s₁ B hml hv
  obtain ⟨rfl, hP, hK⟩ := hv
  have C : MC l G p s m _ meth c RX3 cX3_kindOf 1 (some .int) := ⟨B.exec, B.bytes, B.returns, B.notSynchronized, hml, findClass_of_methodNamed B.named, fun w hw => atoms_spec (ws := vX3_kindOf) B.pre w (List.mem_cons_of_mem _ hw), hK⟩
  obtain ⟨hx, hb, hr, hlocks, -, hown, hts, -⟩ := id C
  have hl := lv_entry ([.int x0]) (n := 1) (Nat.le_of_ble_eq_true rfl)
  rw [lg_entry_eq]
  generalize (lg_sl ([.int x0]) ++ List.replicate (1 - (lg_sl ([.int x0])).length) Slot.unset).toArray = ls at hl ⊢
  have hl : lv_has ls 1 [(0, .int x0)] := hl
  have hS : SP G s s.heap [] := va_S.rf
  replace hP : WP G h s.heap := hP
  rw [f_X3_kindOf] at hf
  refine lv_iload_n hx hb dX3_kindOf_0 rfl (lv_at hl 0 rfl) ?_
  refine lv_bipush (v := 97) hx hb dX3_kindOf_1 (by decide) ?_
  refine lv_icmp_lt (tgt := 14) hx hb dX3_kindOf_3 (by decide) (fun c3 => ?_) (fun c3 => ?_)
  · replace hf := if_t c3 hf
    exact w_X3_kindOf_14 hG (h := h) C x0 _ _ _ (lv_sub hl [0] rfl) hP hS hf
  · replace hf := if_f c3 hf
    refine lv_iload_n hx hb dX3_kindOf_6 rfl (lv_at hl 0 rfl) ?_
    refine lv_bipush (v := 122) hx hb dX3_kindOf_7 (by decide) ?_
    refine lv_icmp_gt (tgt := 14) hx hb dX3_kindOf_9 (by decide) (fun c9 => ?_) (fun c9 => ?_)
    · replace hf := if_t c9 hf
      exact w_X3_kindOf_14 hG (h := h) C x0 _ _ _ (lv_sub hl [0] rfl) hP hS hf
    · replace hf := if_f c9 hf
      refine lv_iconst (v := 1) hx hb dX3_kindOf_12 (by decide) ?_
      exact r_iret hx hb hr hlocks hP hS ⟨Option.some.inj hf, rfl⟩ dX3_kindOf_13
/-! CarriedBack$Reader.step()V -/
abbrev rmX3_step : Room := { frames := 1, cells := 0, slots := 0, locals := 20 }
abbrev vX3_step : List Cond := Cond.code yX3_step cX3_step 3 none :: GW
def f_X3_step_119 (x2 : Int32) (h : PH) : Option PH := lt' (hU h 3 4 x2) (fun h121 => some h121)
set_option maxHeartbeats 4000000 in
set_option maxRecDepth 100000 in
theorem w_X3_step_119 {l : Launch} {G : GC} (hG : GOK G) {hh : PH} {p : Program} {e : Env} {s : State} {m : MethodId} {args : Array Value} {below : List Frame} {meth : Method} {c : Code} (C : MC l G p s m args meth c RX3 cX3_step 3 none) : ∀ (x2 : Int32) (h : PH) (H : Heap) (locs : List Loc) (ls : Array Slot), lv_has ls 3 [(0, .ref (gB G 3)), (2, .int x2)] → WP G h H → SP G s H locs → f_X3_step_119 x2 h = some hh → W p l e rmX3_step s m args below meth c H locs 0 0 (MQ below (QV G hh) args s 0 0 (gA G)) (F0 m 119 ls []) := by
  obtain ⟨hx, hb, hr, hlocks, hml, hown, hts, hK⟩ := id C
  intro x2 h H locs ls hl hP hS hf
  rw [f_X3_step_119] at hf
  refine lv_aload_n hx hb dX3_step_119 rfl (lv_at hl 0 rfl) ?_
  refine lv_iload_n hx hb dX3_step_120 rfl (lv_at hl 1 rfl) ?_
  obtain ⟨h121, eh121⟩ : ∃ y, y = hU h 3 4 x2 := ⟨_, rfl⟩
  replace hf := lt_at eh121 hf
  refine r_put (a := 3) (v := .int x2) (ty := .int) (h' := h121) (C := RX3) (T := TX3) (N := 8) hG hx hb hts hinX3 tyX3 tyX3_ok nmX3 hown hK hP hS (ltX3 rfl) (ceX3 rfl) rfl 4 (by decide) wd125 rfl (by decide +kernel) rfl rfl (Nat.le_of_ble_eq_true rfl) (by rw [eh121]; exact fun j hj => cE_U hj) (by rw [eh121]; exact puX3_4 rfl _) dX3_step_121 (fun H locs hP hS => ?_)
  exact r_vret hx hb hr hlocks hP hS (Option.some.inj hf) dX3_step_124
def f_X3_step_89 (x1 : Int32) : Nat → Int32 → PH → Option PH
  | 0, _, _ => none
  | n + 1, x2, h => if x1 ≤ x2 then (f_X3_step_119 x2 h) else (bO (ag h 2 500 x2) (fun v102 => bO (f_X3_kindOf v102) (fun r103 => if r103 = (h.1 3 2) then ((f_X3_step_89 x1 n) (x2 + 1) h) else (f_X3_step_119 x2 h))))
set_option maxHeartbeats 4000000 in
set_option maxRecDepth 100000 in
theorem w_X3_step_89 {l : Launch} {G : GC} (hG : GOK G) {hh : PH} {p : Program} {e : Env} {s : State} {m : MethodId} {args : Array Value} {below : List Frame} {meth : Method} {c : Code} (C : MC l G p s m args meth c RX3 cX3_step 3 none) (x1 : Int32) : ∀ (n : Nat) (x2 : Int32) (h : PH) (H : Heap) (locs : List Loc) (ls : Array Slot), lv_has ls 3 [(0, .ref (gB G 3)), (1, .int x1), (2, .int x2)] → WP G h H → SP G s H locs → f_X3_step_89 x1 n x2 h = some hh → W p l e rmX3_step s m args below meth c H locs 0 0 (MQ below (QV G hh) args s 0 0 (gA G)) (F0 m 89 ls []) := by
  obtain ⟨hx, hb, hr, hlocks, hml, hown, hts, hK⟩ := id C
  intro n
  induction n with
  | zero => intro x2 h H locs ls hl hP hS hf; rw [f_X3_step_89] at hf; cases hf
  | succ n ih =>
    intro x2 h H locs ls hl hP hS hf
    rw [f_X3_step_89] at hf
    refine lv_iload_n hx hb dX3_step_89 rfl (lv_at hl 2 rfl) ?_
    refine lv_iload_n hx hb dX3_step_90 rfl (lv_at hl 1 rfl) ?_
    refine lv_icmp_ge (tgt := 119) hx hb dX3_step_91 (by decide) (fun c91 => ?_) (fun c91 => ?_)
    · replace hf := if_t c91 hf
      exact w_X3_step_119 hG C x2 h _ _ _ (lv_sub hl [0, 2] rfl) hP hS hf
    · replace hf := if_f c91 hf
      refine lv_aload_n hx hb dX3_step_94 rfl (lv_at hl 0 rfl) ?_
      refine r_get (a := 3) (v := .ref (gB G 1)) (C := RX3) (T := TX3) (N := 8) hx hb hts hinX3 hown hK hP (ltX3 rfl) (ceX3 rfl) rfl 0 (by decide) wd121 rfl dX3_step_95 ?_
      refine r_get (a := 1) (v := .ref (gB G 2)) (C := RX6) (T := TX6) (N := 2) hx hb hts hinX6 hown hK hP (ltX6 rfl) (ceX6 rfl) rfl 0 (by decide) wd105 rfl dX3_step_98 ?_
      refine lv_iload_n hx hb dX3_step_101 rfl (lv_at hl 2 rfl) ?_
      obtain ⟨v102, ev102, hf⟩ := bO_s hf
      refine r_iald hx hb hK hP (arX6_0 rfl) ev102 dX3_step_102 ?_
      obtain ⟨r103, er103, hf⟩ := bO_s hf
      refine r_callI (va_runS (As := [.int v102]) (rest := []) ⟨hx, hb, hml, hown, hts⟩ (k_X3_kindOf l hG (h := h) er103) (va_cwS 1 hts (gS wd425 wd426 wd75 wd427) rfl rfl rfl (by decide +kernel) ⟨Nat.le_of_ble_eq_true rfl, Nat.le_of_ble_eq_true rfl⟩) (r_ps hK hP hS) rfl rfl hl.1 rfl (lv_room (Nat.le_of_ble_eq_true rfl)) dX3_step_103 ⟨Nat.le_of_ble_eq_true rfl, Nat.le_of_ble_eq_true rfl⟩) hS (fun H locs hP hS => ?_)
      refine lv_aload_n hx hb dX3_step_106 rfl (lv_at hl 0 rfl) ?_
      refine r_get (a := 3) (v := .int (h.1 3 2)) (C := RX3) (T := TX3) (N := 8) hx hb hts hinX3 hown hK hP (ltX3 rfl) (ceX3 rfl) rfl 2 (by decide) wd123 rfl dX3_step_107 ?_
      refine lv_icmp_ne (tgt := 119) hx hb dX3_step_110 (by decide) (fun c110 => ?_) (fun c110 => ?_)
      · replace hf := if_f c110 hf
        exact w_X3_step_119 hG C x2 h _ _ _ (lv_sub hl [0, 2] rfl) hP hS hf
      · replace hf := if_t c110 hf
        refine lv_iinc (v := (x2 + 1)) (lv' := [(2, .int (x2 + 1)), (0, .ref (gB G 3)), (1, .int x1)]) hx hb dX3_step_113 hl (k := 2) rfl rfl (by decide) rfl (fun ls hl => ?_)
        refine lv_goto (tgt := 89) hx hb dX3_step_116 (by decide) ?_
        exact ih (x2 + 1) h _ _ _ (lv_sub hl [1, 2, 0] rfl) hP hS hf
def f_X3_step_65 (x1 : Int32) (x2 : Int32) (t1 : Int32) (h : PH) : Option PH := lt' (hU h 3 2 t1) (fun h65 => if (h65.1 3 2) = 3 then (f_X3_step_119 (x2 + 1) h65) else (if (h65.1 3 2) = 0 then (f_X3_step_119 x2 h65) else (f_X3_step_89 x1 FU x2 h65)))
set_option maxHeartbeats 4000000 in
set_option maxRecDepth 100000 in
theorem w_X3_step_65 {l : Launch} {G : GC} (hG : GOK G) {hh : PH} {p : Program} {e : Env} {s : State} {m : MethodId} {args : Array Value} {below : List Frame} {meth : Method} {c : Code} (C : MC l G p s m args meth c RX3 cX3_step 3 none) : ∀ (x1 : Int32) (x2 : Int32) (t1 : Int32) (h : PH) (H : Heap) (locs : List Loc) (ls : Array Slot), lv_has ls 3 [(0, .ref (gB G 3)), (1, .int x1), (2, .int x2)] → WP G h H → SP G s H locs → f_X3_step_65 x1 x2 t1 h = some hh → W p l e rmX3_step s m args below meth c H locs 0 0 (MQ below (QV G hh) args s 0 0 (gA G)) (F0 m 65 ls [.int t1, .ref (gB G 3)]) := by
  obtain ⟨hx, hb, hr, hlocks, hml, hown, hts, hK⟩ := id C
  intro x1 x2 t1 h H locs ls hl hP hS hf
  rw [f_X3_step_65] at hf
  obtain ⟨h65, eh65⟩ : ∃ y, y = hU h 3 2 t1 := ⟨_, rfl⟩
  replace hf := lt_at eh65 hf
  refine r_put (a := 3) (v := .int t1) (ty := .int) (h' := h65) (C := RX3) (T := TX3) (N := 8) hG hx hb hts hinX3 tyX3 tyX3_ok nmX3 hown hK hP hS (ltX3 rfl) (ceX3 rfl) rfl 2 (by decide) wd123 rfl (by decide +kernel) rfl rfl (Nat.le_of_ble_eq_true rfl) (by rw [eh65]; exact fun j hj => cE_U hj) (by rw [eh65]; exact puX3_2 rfl _) dX3_step_65 (fun H locs hP hS => ?_)
  refine lv_aload_n hx hb dX3_step_68 rfl (lv_at hl 0 rfl) ?_
  refine r_get (a := 3) (v := .int (h65.1 3 2)) (C := RX3) (T := TX3) (N := 8) hx hb hts hinX3 hown hK hP (ltX3 rfl) (ceX3 rfl) rfl 2 (by decide) wd123 rfl dX3_step_69 ?_
  refine lv_iconst (v := 3) hx hb dX3_step_72 (by decide) ?_
  refine lv_icmp_ne (tgt := 82) hx hb dX3_step_73 (by decide) (fun c73 => ?_) (fun c73 => ?_)
  · replace hf := if_f c73 hf
    refine lv_aload_n hx hb dX3_step_82 rfl (lv_at hl 0 rfl) ?_
    refine r_get (a := 3) (v := .int (h65.1 3 2)) (C := RX3) (T := TX3) (N := 8) hx hb hts hinX3 hown hK hP (ltX3 rfl) (ceX3 rfl) rfl 2 (by decide) wd123 rfl dX3_step_83 ?_
    refine lv_if_eq (tgt := 119) hx hb dX3_step_86 (by decide) (fun c86 => ?_) (fun c86 => ?_)
    · replace hf := if_t c86 hf
      exact w_X3_step_119 hG C x2 h65 _ _ _ (lv_sub hl [0, 2] rfl) hP hS hf
    · replace hf := if_f c86 hf
      exact w_X3_step_89 hG C x1 FU x2 h65 _ _ _ (lv_sub hl [0, 1, 2] rfl) hP hS hf
  · replace hf := if_t c73 hf
    refine lv_iinc (v := (x2 + 1)) (lv' := [(2, .int (x2 + 1)), (0, .ref (gB G 3)), (1, .int x1)]) hx hb dX3_step_76 hl (k := 2) rfl rfl (by decide) rfl (fun ls hl => ?_)
    refine lv_goto (tgt := 119) hx hb dX3_step_79 (by decide) ?_
    exact w_X3_step_119 hG C (x2 + 1) h65 _ _ _ (lv_sub hl [1, 0] rfl) hP hS hf
def f_X3_step_38 (x1 : Int32) (x2 : Int32) (h : PH) : Option PH := lt' (hU h 3 3 x2) (fun h40 => if x1 ≤ x2 then (f_X3_step_65 x1 x2 0 h40) else (bO (ag h40 2 500 x2) (fun v57 => bO (f_X3_kindOf v57) (fun r58 => f_X3_step_65 x1 x2 r58 h40))))
set_option maxHeartbeats 4000000 in
set_option maxRecDepth 100000 in
theorem w_X3_step_38 {l : Launch} {G : GC} (hG : GOK G) {hh : PH} {p : Program} {e : Env} {s : State} {m : MethodId} {args : Array Value} {below : List Frame} {meth : Method} {c : Code} (C : MC l G p s m args meth c RX3 cX3_step 3 none) : ∀ (x1 : Int32) (x2 : Int32) (h : PH) (H : Heap) (locs : List Loc) (ls : Array Slot), lv_has ls 3 [(0, .ref (gB G 3)), (1, .int x1), (2, .int x2)] → WP G h H → SP G s H locs → f_X3_step_38 x1 x2 h = some hh → W p l e rmX3_step s m args below meth c H locs 0 0 (MQ below (QV G hh) args s 0 0 (gA G)) (F0 m 38 ls []) := by
  obtain ⟨hx, hb, hr, hlocks, hml, hown, hts, hK⟩ := id C
  intro x1 x2 h H locs ls hl hP hS hf
  rw [f_X3_step_38] at hf
  refine lv_aload_n hx hb dX3_step_38 rfl (lv_at hl 0 rfl) ?_
  refine lv_iload_n hx hb dX3_step_39 rfl (lv_at hl 2 rfl) ?_
  obtain ⟨h40, eh40⟩ : ∃ y, y = hU h 3 3 x2 := ⟨_, rfl⟩
  replace hf := lt_at eh40 hf
  refine r_put (a := 3) (v := .int x2) (ty := .int) (h' := h40) (C := RX3) (T := TX3) (N := 8) hG hx hb hts hinX3 tyX3 tyX3_ok nmX3 hown hK hP hS (ltX3 rfl) (ceX3 rfl) rfl 3 (by decide) wd124 rfl (by decide +kernel) rfl rfl (Nat.le_of_ble_eq_true rfl) (by rw [eh40]; exact fun j hj => cE_U hj) (by rw [eh40]; exact puX3_3 rfl _) dX3_step_40 (fun H locs hP hS => ?_)
  refine lv_aload_n hx hb dX3_step_43 rfl (lv_at hl 0 rfl) ?_
  refine lv_iload_n hx hb dX3_step_44 rfl (lv_at hl 2 rfl) ?_
  refine lv_iload_n hx hb dX3_step_45 rfl (lv_at hl 1 rfl) ?_
  refine lv_icmp_ge (tgt := 64) hx hb dX3_step_46 (by decide) (fun c46 => ?_) (fun c46 => ?_)
  · replace hf := if_t c46 hf
    refine lv_iconst (v := 0) hx hb dX3_step_64 (by decide) ?_
    exact w_X3_step_65 hG C x1 x2 0 h40 _ _ _ (lv_sub hl [0, 1, 2] rfl) hP hS hf
  · replace hf := if_f c46 hf
    refine lv_aload_n hx hb dX3_step_49 rfl (lv_at hl 0 rfl) ?_
    refine r_get (a := 3) (v := .ref (gB G 1)) (C := RX3) (T := TX3) (N := 8) hx hb hts hinX3 hown hK hP (ltX3 rfl) (ceX3 rfl) rfl 0 (by decide) wd121 rfl dX3_step_50 ?_
    refine r_get (a := 1) (v := .ref (gB G 2)) (C := RX6) (T := TX6) (N := 2) hx hb hts hinX6 hown hK hP (ltX6 rfl) (ceX6 rfl) rfl 0 (by decide) wd105 rfl dX3_step_53 ?_
    refine lv_iload_n hx hb dX3_step_56 rfl (lv_at hl 2 rfl) ?_
    obtain ⟨v57, ev57, hf⟩ := bO_s hf
    refine r_iald hx hb hK hP (arX6_0 rfl) ev57 dX3_step_57 ?_
    obtain ⟨r58, er58, hf⟩ := bO_s hf
    refine r_callI (va_runS (As := [.int v57]) (rest := [.ref (gB G 3)]) ⟨hx, hb, hml, hown, hts⟩ (k_X3_kindOf l hG (h := h40) er58) (va_cwS 1 hts (gS wd425 wd426 wd75 wd427) rfl rfl rfl (by decide +kernel) ⟨Nat.le_of_ble_eq_true rfl, Nat.le_of_ble_eq_true rfl⟩) (r_ps hK hP hS) rfl rfl hl.1 rfl (lv_room (Nat.le_of_ble_eq_true rfl)) dX3_step_58 ⟨Nat.le_of_ble_eq_true rfl, Nat.le_of_ble_eq_true rfl⟩) hS (fun H locs hP hS => ?_)
    refine lv_goto (tgt := 65) hx hb dX3_step_61 (by decide) ?_
    exact w_X3_step_65 hG C x1 x2 r58 h40 _ _ _ (lv_sub hl [0, 1, 2] rfl) hP hS hf
def f_X3_step_13 (x1 : Int32) : Nat → Int32 → PH → Option PH
  | 0, _, _ => none
  | n + 1, x2, h => if x1 ≤ x2 then (f_X3_step_38 x1 x2 h) else (bO (ag h 2 500 x2) (fun v26 => if v26 = 32 then ((f_X3_step_13 x1 n) (x2 + 1) h) else (f_X3_step_38 x1 x2 h)))
set_option maxHeartbeats 4000000 in
set_option maxRecDepth 100000 in
theorem w_X3_step_13 {l : Launch} {G : GC} (hG : GOK G) {hh : PH} {p : Program} {e : Env} {s : State} {m : MethodId} {args : Array Value} {below : List Frame} {meth : Method} {c : Code} (C : MC l G p s m args meth c RX3 cX3_step 3 none) (x1 : Int32) : ∀ (n : Nat) (x2 : Int32) (h : PH) (H : Heap) (locs : List Loc) (ls : Array Slot), lv_has ls 3 [(0, .ref (gB G 3)), (1, .int x1), (2, .int x2)] → WP G h H → SP G s H locs → f_X3_step_13 x1 n x2 h = some hh → W p l e rmX3_step s m args below meth c H locs 0 0 (MQ below (QV G hh) args s 0 0 (gA G)) (F0 m 13 ls []) := by
  obtain ⟨hx, hb, hr, hlocks, hml, hown, hts, hK⟩ := id C
  intro n
  induction n with
  | zero => intro x2 h H locs ls hl hP hS hf; rw [f_X3_step_13] at hf; cases hf
  | succ n ih =>
    intro x2 h H locs ls hl hP hS hf
    rw [f_X3_step_13] at hf
    refine lv_iload_n hx hb dX3_step_13 rfl (lv_at hl 2 rfl) ?_
    refine lv_iload_n hx hb dX3_step_14 rfl (lv_at hl 1 rfl) ?_
    refine lv_icmp_ge (tgt := 38) hx hb dX3_step_15 (by decide) (fun c15 => ?_) (fun c15 => ?_)
    · replace hf := if_t c15 hf
      exact w_X3_step_38 hG C x1 x2 h _ _ _ (lv_sub hl [0, 1, 2] rfl) hP hS hf
    · replace hf := if_f c15 hf
      refine lv_aload_n hx hb dX3_step_18 rfl (lv_at hl 0 rfl) ?_
      refine r_get (a := 3) (v := .ref (gB G 1)) (C := RX3) (T := TX3) (N := 8) hx hb hts hinX3 hown hK hP (ltX3 rfl) (ceX3 rfl) rfl 0 (by decide) wd121 rfl dX3_step_19 ?_
      refine r_get (a := 1) (v := .ref (gB G 2)) (C := RX6) (T := TX6) (N := 2) hx hb hts hinX6 hown hK hP (ltX6 rfl) (ceX6 rfl) rfl 0 (by decide) wd105 rfl dX3_step_22 ?_
      refine lv_iload_n hx hb dX3_step_25 rfl (lv_at hl 2 rfl) ?_
      obtain ⟨v26, ev26, hf⟩ := bO_s hf
      refine r_iald hx hb hK hP (arX6_0 rfl) ev26 dX3_step_26 ?_
      refine lv_bipush (v := 32) hx hb dX3_step_27 (by decide) ?_
      refine lv_icmp_ne (tgt := 38) hx hb dX3_step_29 (by decide) (fun c29 => ?_) (fun c29 => ?_)
      · replace hf := if_f c29 hf
        exact w_X3_step_38 hG C x1 x2 h _ _ _ (lv_sub hl [0, 1, 2] rfl) hP hS hf
      · replace hf := if_t c29 hf
        refine lv_iinc (v := (x2 + 1)) (lv' := [(2, .int (x2 + 1)), (0, .ref (gB G 3)), (1, .int x1)]) hx hb dX3_step_32 hl (k := 2) rfl rfl (by decide) rfl (fun ls hl => ?_)
        refine lv_goto (tgt := 13) hx hb dX3_step_35 (by decide) ?_
        exact ih (x2 + 1) h _ _ _ (lv_sub hl [1, 2, 0] rfl) hP hS hf
def f_X3_step (h : PH) : Option PH := lt' ((h.1 1 1)) (fun x1_7 => lt' ((h.1 3 4)) (fun x2_12 => f_X3_step_13 x1_7 FU x2_12 h))
set_option maxHeartbeats 4000000 in
set_option maxRecDepth 100000 in
theorem k_X3_step (l : Launch) {G : GC} (hG : GOK G) {h hh : PH} (hf : f_X3_step h = some hh) : CV l yX3_step vX3_step rmX3_step G [.ref (gB G 3)] h hh := by
  refine Met.ofW (cc := cX3_step) (maxL := 3) (ret := none) (by decide +kernel) rfl ?_
  intro p e s m args below meth c s₁ B hml hv
  obtain ⟨rfl, hP, hK⟩ := hv
  have C : MC l G p s m _ meth c RX3 cX3_step 3 none := ⟨B.exec, B.bytes, B.returns, B.notSynchronized, hml, findClass_of_methodNamed B.named, fun w hw => atoms_spec (ws := vX3_step) B.pre w (List.mem_cons_of_mem _ hw), hK⟩
  obtain ⟨hx, hb, hr, hlocks, -, hown, hts, -⟩ := id C
  have hl := lv_entry ([.ref (gB G 3)]) (n := 3) (Nat.le_of_ble_eq_true rfl)
  rw [lg_entry_eq]
  generalize (lg_sl ([.ref (gB G 3)]) ++ List.replicate (3 - (lg_sl ([.ref (gB G 3)])).length) Slot.unset).toArray = ls at hl ⊢
  have hl : lv_has ls 3 [(0, .ref (gB G 3))] := hl
  have hS : SP G s s.heap [] := va_S.rf
  replace hP : WP G h s.heap := hP
  rw [f_X3_step] at hf
  refine lv_aload_n hx hb dX3_step_0 rfl (lv_at hl 0 rfl) ?_
  refine r_get (a := 3) (v := .ref (gB G 1)) (C := RX3) (T := TX3) (N := 8) hx hb hts hinX3 hown hK hP (ltX3 rfl) (ceX3 rfl) rfl 0 (by decide) wd121 rfl dX3_step_1 ?_
  refine r_get (a := 1) (v := .int (h.1 1 1)) (C := RX6) (T := TX6) (N := 2) hx hb hts hinX6 hown hK hP (ltX6 rfl) (ceX6 rfl) rfl 1 (by decide) wd108 rfl dX3_step_4 ?_
  refine lv_topi (fun x1_7 ex1_7 => ?_)
  replace hf := lt_at ex1_7 hf
  refine lv_istore_n (lv' := [(1, .int x1_7), (0, .ref (gB G 3))]) hx hb dX3_step_7 rfl hl (by decide) rfl (fun ls hl => ?_)
  refine lv_aload_n hx hb dX3_step_8 rfl (lv_at hl 1 rfl) ?_
  refine r_get (a := 3) (v := .int (h.1 3 4)) (C := RX3) (T := TX3) (N := 8) hx hb hts hinX3 hown hK hP (ltX3 rfl) (ceX3 rfl) rfl 4 (by decide) wd125 rfl dX3_step_9 ?_
  refine lv_topi (fun x2_12 ex2_12 => ?_)
  replace hf := lt_at ex2_12 hf
  refine lv_istore_n (lv' := [(2, .int x2_12), (1, .int x1_7), (0, .ref (gB G 3))]) hx hb dX3_step_12 rfl hl (by decide) rfl (fun ls hl => ?_)
  exact w_X3_step_13 hG C x1_7 FU x2_12 h _ _ _ (lv_sub hl [2, 1, 0] rfl) hP hS hf
/-! CarriedBack$Reader.begin(I)V -/
abbrev rmX3_begin : Room := { frames := 2, cells := 0, slots := 0, locals := 42 }
abbrev vX3_begin : List Cond := Cond.code yX3_begin cX3_begin 2 none :: GW
def f_X3_begin (x1 : Int32) (h : PH) : Option PH := lt' (hU h 3 1 x1) (fun h2 => lt' (hU h2 3 4 0) (fun h7 => lt' (hU h7 3 6 0) (fun h12 => lt' (hU h12 3 7 (-1)) (fun h17 => bO (f_X3_step h17) (fun h21 => some h21)))))
set_option maxHeartbeats 4000000 in
set_option maxRecDepth 100000 in
theorem k_X3_begin (l : Launch) {G : GC} (hG : GOK G) {x1 : Int32} {h hh : PH} (hf : f_X3_begin x1 h = some hh) : CV l yX3_begin vX3_begin rmX3_begin G [.ref (gB G 3), .int x1] h hh := by
  refine Met.ofW (cc := cX3_begin) (maxL := 2) (ret := none) (by decide +kernel) rfl ?_
  intro p e s m args below meth c s₁ B hml hv
  obtain ⟨rfl, hP, hK⟩ := hv
  have C : MC l G p s m _ meth c RX3 cX3_begin 2 none := ⟨B.exec, B.bytes, B.returns, B.notSynchronized, hml, findClass_of_methodNamed B.named, fun w hw => atoms_spec (ws := vX3_begin) B.pre w (List.mem_cons_of_mem _ hw), hK⟩
  obtain ⟨hx, hb, hr, hlocks, -, hown, hts, -⟩ := id C
  have hl := lv_entry ([.ref (gB G 3), .int x1]) (n := 2) (Nat.le_of_ble_eq_true rfl)
  rw [lg_entry_eq]
  generalize (lg_sl ([.ref (gB G 3), .int x1]) ++ List.replicate (2 - (lg_sl ([.ref (gB G 3), .int x1])).length) Slot.unset).toArray = ls at hl ⊢
  have hl : lv_has ls 2 [(0, .ref (gB G 3)), (1, .int x1)] := hl
  have hS : SP G s s.heap [] := va_S.rf
  replace hP : WP G h s.heap := hP
  rw [f_X3_begin] at hf
  refine lv_aload_n hx hb dX3_begin_0 rfl (lv_at hl 0 rfl) ?_
  refine lv_iload_n hx hb dX3_begin_1 rfl (lv_at hl 1 rfl) ?_
  obtain ⟨h2, eh2⟩ : ∃ y, y = hU h 3 1 x1 := ⟨_, rfl⟩
  replace hf := lt_at eh2 hf
  refine r_put (a := 3) (v := .int x1) (ty := .int) (h' := h2) (C := RX3) (T := TX3) (N := 8) hG hx hb hts hinX3 tyX3 tyX3_ok nmX3 hown hK hP hS (ltX3 rfl) (ceX3 rfl) rfl 1 (by decide) wd122 rfl (by decide +kernel) rfl rfl (Nat.le_of_ble_eq_true rfl) (by rw [eh2]; exact fun j hj => cE_U hj) (by rw [eh2]; exact puX3_1 rfl _) dX3_begin_2 (fun H locs hP hS => ?_)
  refine lv_aload_n hx hb dX3_begin_5 rfl (lv_at hl 0 rfl) ?_
  refine lv_iconst (v := 0) hx hb dX3_begin_6 (by decide) ?_
  obtain ⟨h7, eh7⟩ : ∃ y, y = hU h2 3 4 0 := ⟨_, rfl⟩
  replace hf := lt_at eh7 hf
  refine r_put (a := 3) (v := .int 0) (ty := .int) (h' := h7) (C := RX3) (T := TX3) (N := 8) hG hx hb hts hinX3 tyX3 tyX3_ok nmX3 hown hK hP hS (ltX3 rfl) (ceX3 rfl) rfl 4 (by decide) wd125 rfl (by decide +kernel) rfl rfl (Nat.le_of_ble_eq_true rfl) (by rw [eh7]; exact fun j hj => cE_U hj) (by rw [eh7]; exact puX3_4 rfl _) dX3_begin_7 (fun H locs hP hS => ?_)
  refine lv_aload_n hx hb dX3_begin_10 rfl (lv_at hl 0 rfl) ?_
  refine lv_iconst (v := 0) hx hb dX3_begin_11 (by decide) ?_
  obtain ⟨h12, eh12⟩ : ∃ y, y = hU h7 3 6 0 := ⟨_, rfl⟩
  replace hf := lt_at eh12 hf
  refine r_put (a := 3) (v := .int 0) (ty := .int) (h' := h12) (C := RX3) (T := TX3) (N := 8) hG hx hb hts hinX3 tyX3 tyX3_ok nmX3 hown hK hP hS (ltX3 rfl) (ceX3 rfl) rfl 6 (by decide) wd127 rfl (by decide +kernel) rfl rfl (Nat.le_of_ble_eq_true rfl) (by rw [eh12]; exact fun j hj => cE_U hj) (by rw [eh12]; exact puX3_6 rfl _) dX3_begin_12 (fun H locs hP hS => ?_)
  refine lv_aload_n hx hb dX3_begin_15 rfl (lv_at hl 0 rfl) ?_
  refine lv_iconst (v := (-1)) hx hb dX3_begin_16 (by decide) ?_
  obtain ⟨h17, eh17⟩ : ∃ y, y = hU h12 3 7 (-1) := ⟨_, rfl⟩
  replace hf := lt_at eh17 hf
  refine r_put (a := 3) (v := .int (-1)) (ty := .int) (h' := h17) (C := RX3) (T := TX3) (N := 8) hG hx hb hts hinX3 tyX3 tyX3_ok nmX3 hown hK hP hS (ltX3 rfl) (ceX3 rfl) rfl 7 (by decide) wd129 rfl (by decide +kernel) rfl rfl (Nat.le_of_ble_eq_true rfl) (by rw [eh17]; exact fun j hj => cE_U hj) (by rw [eh17]; exact puX3_7 rfl _) dX3_begin_17 (fun H locs hP hS => ?_)
  refine lv_aload_n hx hb dX3_begin_20 rfl (lv_at hl 0 rfl) ?_
  obtain ⟨h21, eh21, hf⟩ := bO_s hf
  refine r_callV (va_runV (As := []) (rest := []) ⟨hx, hb, hml, hown, hts⟩ (k_X3_step l hG eh21) (cwV 0 hts (gV wd421 wd422 wd423 wd75 wd424) rfl rfl rfl (by decide +kernel) ⟨Nat.le_of_ble_eq_true rfl, Nat.le_of_ble_eq_true rfl⟩) (r_pv hK hP hS (ltX3 rfl) (ceX3 rfl) rfl) rfl rfl hl.1 rfl (lv_room (Nat.le_of_ble_eq_true rfl)) dX3_begin_21 ⟨Nat.le_of_ble_eq_true rfl, Nat.le_of_ble_eq_true rfl⟩) hS (fun H locs hP hS => ?_)
  exact r_vret hx hb hr hlocks hP hS (Option.some.inj hf) dX3_begin_24
/-! CarriedBack$Reader.atEnd()Z -/
abbrev rmX3_atEnd : Room := { frames := 0, cells := 0, slots := 0, locals := 0 }
abbrev vX3_atEnd : List Cond := Cond.code yX3_atEnd cX3_atEnd 1 (some .boolean) :: GW
def f_X3_atEnd (h : PH) : Option (Int32 × PH) := if (h.1 3 2) = 0 then (some (1, h)) else (some (0, h))
set_option maxHeartbeats 4000000 in
set_option maxRecDepth 100000 in
theorem k_X3_atEnd (l : Launch) {G : GC} (hG : GOK G) {rr : Int32} {h hh : PH} (hf : f_X3_atEnd h = some (rr, hh)) : CI l yX3_atEnd vX3_atEnd rmX3_atEnd G [.ref (gB G 3)] h rr hh := by
  refine Met.ofW (cc := cX3_atEnd) (maxL := 1) (ret := (some .boolean)) (by decide +kernel) rfl ?_
  intro p e s m args below meth c s₁ B hml hv
  obtain ⟨rfl, hP, hK⟩ := hv
  have C : MC l G p s m _ meth c RX3 cX3_atEnd 1 (some .boolean) := ⟨B.exec, B.bytes, B.returns, B.notSynchronized, hml, findClass_of_methodNamed B.named, fun w hw => atoms_spec (ws := vX3_atEnd) B.pre w (List.mem_cons_of_mem _ hw), hK⟩
  obtain ⟨hx, hb, hr, hlocks, -, hown, hts, -⟩ := id C
  have hl := lv_entry ([.ref (gB G 3)]) (n := 1) (Nat.le_of_ble_eq_true rfl)
  rw [lg_entry_eq]
  generalize (lg_sl ([.ref (gB G 3)]) ++ List.replicate (1 - (lg_sl ([.ref (gB G 3)])).length) Slot.unset).toArray = ls at hl ⊢
  have hl : lv_has ls 1 [(0, .ref (gB G 3))] := hl
  have hS : SP G s s.heap [] := va_S.rf
  replace hP : WP G h s.heap := hP
  rw [f_X3_atEnd] at hf
  refine lv_aload_n hx hb dX3_atEnd_0 rfl (lv_at hl 0 rfl) ?_
  refine r_get (a := 3) (v := .int (h.1 3 2)) (C := RX3) (T := TX3) (N := 8) hx hb hts hinX3 hown hK hP (ltX3 rfl) (ceX3 rfl) rfl 2 (by decide) wd123 rfl dX3_atEnd_1 ?_
  refine lv_if_ne (tgt := 11) hx hb dX3_atEnd_4 (by decide) (fun c4 => ?_) (fun c4 => ?_)
  · replace hf := if_f c4 hf
    refine lv_iconst (v := 0) hx hb dX3_atEnd_11 (by decide) ?_
    exact r_zret hx hb hr rfl hlocks hP hS (re2 (Option.some.inj hf)) dX3_atEnd_12
  · replace hf := if_t c4 hf
    refine lv_iconst (v := 1) hx hb dX3_atEnd_7 (by decide) ?_
    refine lv_goto (tgt := 12) hx hb dX3_atEnd_8 (by decide) ?_
    exact r_zret hx hb hr rfl hlocks hP hS (re2 (Option.some.inj hf)) dX3_atEnd_12
/-! CarriedBack$Reader.isWord(Ljava/lang/String;)Z -/
abbrev rmX3_isWord : Room := { frames := 4, cells := 0, slots := 0, locals := 85 }
abbrev vX3_isWord : List Cond := Cond.code yX3_isWord cX3_isWord 3 (some .boolean) :: GW
def f_X3_isWord_28 (w1 : Nat) : Nat → Int32 → PH → Option (Int32 × PH)
  | 0, _, _ => none
  | n + 1, x2, h => bO (f_J0_length_8abf5 w1) (fun r30 => if r30 ≤ x2 then (some (1, h)) else (bO (ag h 2 500 ((h.1 3 3) + x2)) (fun v49 => bO (f_J0_charAt_5068e w1 x2) (fun r52 => if v49 = r52 then ((f_X3_isWord_28 w1 n) (x2 + 1) h) else (some (0, h))))))
set_option maxHeartbeats 4000000 in
set_option maxRecDepth 100000 in
theorem w_X3_isWord_28 {l : Launch} {G : GC} (hG : GOK G) {rr : Int32} {hh : PH} {p : Program} {e : Env} {s : State} {m : MethodId} {args : Array Value} {below : List Frame} {meth : Method} {c : Code} (C : MC l G p s m args meth c RX3 cX3_isWord 3 (some .boolean)) (w1 : Nat) (hw1 : w1 < 10) : ∀ (n : Nat) (x2 : Int32) (h : PH) (H : Heap) (locs : List Loc) (ls : Array Slot), lv_has ls 3 [(0, .ref (gB G 3)), (1, .ref (gk G w1)), (2, .int x2)] → WP G h H → SP G s H locs → f_X3_isWord_28 w1 n x2 h = some (rr, hh) → W p l e rmX3_isWord s m args below meth c H locs 0 0 (MQ below (QI G rr hh) args s 0 0 (gA G)) (F0 m 28 ls []) := by
  obtain ⟨hx, hb, hr, hlocks, hml, hown, hts, hK⟩ := id C
  intro n
  induction n with
  | zero => intro x2 h H locs ls hl hP hS hf; rw [f_X3_isWord_28] at hf; cases hf
  | succ n ih =>
    intro x2 h H locs ls hl hP hS hf
    rw [f_X3_isWord_28] at hf
    refine lv_iload_n hx hb dX3_isWord_28 rfl (lv_at hl 2 rfl) ?_
    refine lv_aload_n hx hb dX3_isWord_29 rfl (lv_at hl 1 rfl) ?_
    obtain ⟨r30, er30, hf⟩ := bO_s hf
    refine r_callI (va_runV (As := []) (rest := [.int x2]) ⟨hx, hb, hml, hown, hts⟩ (k_J0_length_8abf5 l hG w1 hw1 (h := h) er30) (cwV 0 hts (gV wd441 wd442 wd443 wd83 wd444) rfl rfl rfl (by decide +kernel) ⟨Nat.le_of_ble_eq_true rfl, Nat.le_of_ble_eq_true rfl⟩) (r_pvS hK hP hS hw1) rfl rfl hl.1 rfl (lv_room (Nat.le_of_ble_eq_true rfl)) dX3_isWord_30 ⟨Nat.le_of_ble_eq_true rfl, Nat.le_of_ble_eq_true rfl⟩) hS (fun H locs hP hS => ?_)
    refine lv_icmp_ge (tgt := 66) hx hb dX3_isWord_33 (by decide) (fun c33 => ?_) (fun c33 => ?_)
    · replace hf := if_t c33 hf
      refine lv_iconst (v := 1) hx hb dX3_isWord_66 (by decide) ?_
      exact r_zret hx hb hr rfl hlocks hP hS (re2 (Option.some.inj hf)) dX3_isWord_67
    · replace hf := if_f c33 hf
      refine lv_aload_n hx hb dX3_isWord_36 rfl (lv_at hl 0 rfl) ?_
      refine r_get (a := 3) (v := .ref (gB G 1)) (C := RX3) (T := TX3) (N := 8) hx hb hts hinX3 hown hK hP (ltX3 rfl) (ceX3 rfl) rfl 0 (by decide) wd121 rfl dX3_isWord_37 ?_
      refine r_get (a := 1) (v := .ref (gB G 2)) (C := RX6) (T := TX6) (N := 2) hx hb hts hinX6 hown hK hP (ltX6 rfl) (ceX6 rfl) rfl 0 (by decide) wd105 rfl dX3_isWord_40 ?_
      refine lv_aload_n hx hb dX3_isWord_43 rfl (lv_at hl 0 rfl) ?_
      refine r_get (a := 3) (v := .int (h.1 3 3)) (C := RX3) (T := TX3) (N := 8) hx hb hts hinX3 hown hK hP (ltX3 rfl) (ceX3 rfl) rfl 3 (by decide) wd124 rfl dX3_isWord_44 ?_
      refine lv_iload_n hx hb dX3_isWord_47 rfl (lv_at hl 2 rfl) ?_
      refine lv_iadd hx hb dX3_isWord_48 ?_
      obtain ⟨v49, ev49, hf⟩ := bO_s hf
      refine r_iald hx hb hK hP (arX6_0 rfl) ev49 dX3_isWord_49 ?_
      refine lv_aload_n hx hb dX3_isWord_50 rfl (lv_at hl 1 rfl) ?_
      refine lv_iload_n hx hb dX3_isWord_51 rfl (lv_at hl 2 rfl) ?_
      obtain ⟨r52, er52, hf⟩ := bO_s hf
      refine r_callI (va_runV (As := [.int x2]) (rest := [.int v49]) ⟨hx, hb, hml, hown, hts⟩ (k_J0_charAt_5068e l hG w1 hw1 (h := h) er52) (cwV 1 hts (gV wd451 wd452 wd453 wd83 wd454) rfl rfl rfl (by decide +kernel) ⟨Nat.le_of_ble_eq_true rfl, Nat.le_of_ble_eq_true rfl⟩) (r_pvS hK hP hS hw1) rfl rfl hl.1 rfl (lv_room (Nat.le_of_ble_eq_true rfl)) dX3_isWord_52 ⟨Nat.le_of_ble_eq_true rfl, Nat.le_of_ble_eq_true rfl⟩) hS (fun H locs hP hS => ?_)
      refine lv_icmp_eq (tgt := 60) hx hb dX3_isWord_55 (by decide) (fun c55 => ?_) (fun c55 => ?_)
      · replace hf := if_t c55 hf
        refine lv_iinc (v := (x2 + 1)) (lv' := [(2, .int (x2 + 1)), (0, .ref (gB G 3)), (1, .ref (gk G w1))]) hx hb dX3_isWord_60 hl (k := 2) rfl rfl (by decide) rfl (fun ls hl => ?_)
        refine lv_goto (tgt := 28) hx hb dX3_isWord_63 (by decide) ?_
        exact ih (x2 + 1) h _ _ _ (lv_sub hl [1, 2, 0] rfl) hP hS hf
      · replace hf := if_f c55 hf
        refine lv_iconst (v := 0) hx hb dX3_isWord_58 (by decide) ?_
        exact r_zret hx hb hr rfl hlocks hP hS (re2 (Option.some.inj hf)) dX3_isWord_59
def f_X3_isWord (w1 : Nat) (h : PH) : Option (Int32 × PH) := if (h.1 3 2) = 1 then (bO (f_J0_length_8abf5 w1) (fun r18 => if ((h.1 3 4) - (h.1 3 3)) = r18 then (f_X3_isWord_28 w1 FU 0 h) else (some (0, h)))) else (some (0, h))
set_option maxHeartbeats 4000000 in
set_option maxRecDepth 100000 in
theorem k_X3_isWord (l : Launch) {G : GC} (hG : GOK G) (w1 : Nat) (hw1 : w1 < 10) {rr : Int32} {h hh : PH} (hf : f_X3_isWord w1 h = some (rr, hh)) : CI l yX3_isWord vX3_isWord rmX3_isWord G [.ref (gB G 3), .ref (gk G w1)] h rr hh := by
  refine Met.ofW (cc := cX3_isWord) (maxL := 3) (ret := (some .boolean)) (by decide +kernel) rfl ?_
  intro p e s m args below meth c s₁ B hml hv
  obtain ⟨rfl, hP, hK⟩ := hv
  have C : MC l G p s m _ meth c RX3 cX3_isWord 3 (some .boolean) := ⟨B.exec, B.bytes, B.returns, B.notSynchronized, hml, findClass_of_methodNamed B.named, fun w hw => atoms_spec (ws := vX3_isWord) B.pre w (List.mem_cons_of_mem _ hw), hK⟩
  obtain ⟨hx, hb, hr, hlocks, -, hown, hts, -⟩ := id C
  have hl := lv_entry ([.ref (gB G 3), .ref (gk G w1)]) (n := 3) (Nat.le_of_ble_eq_true rfl)
  rw [lg_entry_eq]
  generalize (lg_sl ([.ref (gB G 3), .ref (gk G w1)]) ++ List.replicate (3 - (lg_sl ([.ref (gB G 3), .ref (gk G w1)])).length) Slot.unset).toArray = ls at hl ⊢
  have hl : lv_has ls 3 [(0, .ref (gB G 3)), (1, .ref (gk G w1))] := hl
  have hS : SP G s s.heap [] := va_S.rf
  replace hP : WP G h s.heap := hP
  rw [f_X3_isWord] at hf
  refine lv_aload_n hx hb dX3_isWord_0 rfl (lv_at hl 0 rfl) ?_
  refine r_get (a := 3) (v := .int (h.1 3 2)) (C := RX3) (T := TX3) (N := 8) hx hb hts hinX3 hown hK hP (ltX3 rfl) (ceX3 rfl) rfl 2 (by decide) wd123 rfl dX3_isWord_1 ?_
  refine lv_iconst (v := 1) hx hb dX3_isWord_4 (by decide) ?_
  refine lv_icmp_ne (tgt := 24) hx hb dX3_isWord_5 (by decide) (fun c5 => ?_) (fun c5 => ?_)
  · replace hf := if_f c5 hf
    refine lv_iconst (v := 0) hx hb dX3_isWord_24 (by decide) ?_
    exact r_zret hx hb hr rfl hlocks hP hS (re2 (Option.some.inj hf)) dX3_isWord_25
  · replace hf := if_t c5 hf
    refine lv_aload_n hx hb dX3_isWord_8 rfl (lv_at hl 0 rfl) ?_
    refine r_get (a := 3) (v := .int (h.1 3 4)) (C := RX3) (T := TX3) (N := 8) hx hb hts hinX3 hown hK hP (ltX3 rfl) (ceX3 rfl) rfl 4 (by decide) wd125 rfl dX3_isWord_9 ?_
    refine lv_aload_n hx hb dX3_isWord_12 rfl (lv_at hl 0 rfl) ?_
    refine r_get (a := 3) (v := .int (h.1 3 3)) (C := RX3) (T := TX3) (N := 8) hx hb hts hinX3 hown hK hP (ltX3 rfl) (ceX3 rfl) rfl 3 (by decide) wd124 rfl dX3_isWord_13 ?_
    refine lv_isub hx hb dX3_isWord_16 ?_
    refine lv_aload_n hx hb dX3_isWord_17 rfl (lv_at hl 1 rfl) ?_
    obtain ⟨r18, er18, hf⟩ := bO_s hf
    refine r_callI (va_runV (As := []) (rest := [.int ((h.1 3 4) - (h.1 3 3))]) ⟨hx, hb, hml, hown, hts⟩ (k_J0_length_8abf5 l hG w1 hw1 (h := h) er18) (cwV 0 hts (gV wd441 wd442 wd443 wd83 wd444) rfl rfl rfl (by decide +kernel) ⟨Nat.le_of_ble_eq_true rfl, Nat.le_of_ble_eq_true rfl⟩) (r_pvS hK hP hS hw1) rfl rfl hl.1 rfl (lv_room (Nat.le_of_ble_eq_true rfl)) dX3_isWord_18 ⟨Nat.le_of_ble_eq_true rfl, Nat.le_of_ble_eq_true rfl⟩) hS (fun H locs hP hS => ?_)
    refine lv_icmp_eq (tgt := 26) hx hb dX3_isWord_21 (by decide) (fun c21 => ?_) (fun c21 => ?_)
    · replace hf := if_t c21 hf
      refine lv_iconst (v := 0) hx hb dX3_isWord_26 (by decide) ?_
      refine lv_istore_n (lv' := [(2, .int 0), (0, .ref (gB G 3)), (1, .ref (gk G w1))]) hx hb dX3_isWord_27 rfl hl (by decide) rfl (fun ls hl => ?_)
      exact w_X3_isWord_28 hG C w1 hw1 FU 0 h _ _ _ (lv_sub hl [1, 2, 0] rfl) hP hS hf
    · replace hf := if_f c21 hf
      refine lv_iconst (v := 0) hx hb dX3_isWord_24 (by decide) ?_
      exact r_zret hx hb hr rfl hlocks hP hS (re2 (Option.some.inj hf)) dX3_isWord_25
/-! CarriedBack$Reader.refuse(I)Z -/
abbrev rmX3_refuse : Room := { frames := 0, cells := 0, slots := 0, locals := 0 }
abbrev vX3_refuse : List Cond := Cond.code yX3_refuse cX3_refuse 2 (some .boolean) :: GW
def f_X3_refuse (x1 : Int32) (h : PH) : Option (Int32 × PH) := lt' (hU h 3 6 x1) (fun h2 => lt' (hU h2 3 7 (h2.1 3 3)) (fun h10 => some (0, h10)))
set_option maxHeartbeats 4000000 in
set_option maxRecDepth 100000 in
theorem k_X3_refuse (l : Launch) {G : GC} (hG : GOK G) {x1 : Int32} {rr : Int32} {h hh : PH} (hf : f_X3_refuse x1 h = some (rr, hh)) : CI l yX3_refuse vX3_refuse rmX3_refuse G [.ref (gB G 3), .int x1] h rr hh := by
  refine Met.ofW (cc := cX3_refuse) (maxL := 2) (ret := (some .boolean)) (by decide +kernel) rfl ?_
  intro p e s m args below meth c s₁ B hml hv
  obtain ⟨rfl, hP, hK⟩ := hv
  have C : MC l G p s m _ meth c RX3 cX3_refuse 2 (some .boolean) := ⟨B.exec, B.bytes, B.returns, B.notSynchronized, hml, findClass_of_methodNamed B.named, fun w hw => atoms_spec (ws := vX3_refuse) B.pre w (List.mem_cons_of_mem _ hw), hK⟩
  obtain ⟨hx, hb, hr, hlocks, -, hown, hts, -⟩ := id C
  have hl := lv_entry ([.ref (gB G 3), .int x1]) (n := 2) (Nat.le_of_ble_eq_true rfl)
  rw [lg_entry_eq]
  generalize (lg_sl ([.ref (gB G 3), .int x1]) ++ List.replicate (2 - (lg_sl ([.ref (gB G 3), .int x1])).length) Slot.unset).toArray = ls at hl ⊢
  have hl : lv_has ls 2 [(0, .ref (gB G 3)), (1, .int x1)] := hl
  have hS : SP G s s.heap [] := va_S.rf
  replace hP : WP G h s.heap := hP
  rw [f_X3_refuse] at hf
  refine lv_aload_n hx hb dX3_refuse_0 rfl (lv_at hl 0 rfl) ?_
  refine lv_iload_n hx hb dX3_refuse_1 rfl (lv_at hl 1 rfl) ?_
  obtain ⟨h2, eh2⟩ : ∃ y, y = hU h 3 6 x1 := ⟨_, rfl⟩
  replace hf := lt_at eh2 hf
  refine r_put (a := 3) (v := .int x1) (ty := .int) (h' := h2) (C := RX3) (T := TX3) (N := 8) hG hx hb hts hinX3 tyX3 tyX3_ok nmX3 hown hK hP hS (ltX3 rfl) (ceX3 rfl) rfl 6 (by decide) wd127 rfl (by decide +kernel) rfl rfl (Nat.le_of_ble_eq_true rfl) (by rw [eh2]; exact fun j hj => cE_U hj) (by rw [eh2]; exact puX3_6 rfl _) dX3_refuse_2 (fun H locs hP hS => ?_)
  refine lv_aload_n hx hb dX3_refuse_5 rfl (lv_at hl 0 rfl) ?_
  refine lv_aload_n hx hb dX3_refuse_6 rfl (lv_at hl 0 rfl) ?_
  refine r_get (a := 3) (v := .int (h2.1 3 3)) (C := RX3) (T := TX3) (N := 8) hx hb hts hinX3 hown hK hP (ltX3 rfl) (ceX3 rfl) rfl 3 (by decide) wd124 rfl dX3_refuse_7 ?_
  obtain ⟨h10, eh10⟩ : ∃ y, y = hU h2 3 7 (h2.1 3 3) := ⟨_, rfl⟩
  replace hf := lt_at eh10 hf
  refine r_put (a := 3) (v := .int (h2.1 3 3)) (ty := .int) (h' := h10) (C := RX3) (T := TX3) (N := 8) hG hx hb hts hinX3 tyX3 tyX3_ok nmX3 hown hK hP hS (ltX3 rfl) (ceX3 rfl) rfl 7 (by decide) wd129 rfl (by decide +kernel) rfl rfl (Nat.le_of_ble_eq_true rfl) (by rw [eh10]; exact fun j hj => cE_U hj) (by rw [eh10]; exact puX3_7 rfl _) dX3_refuse_10 (fun H locs hP hS => ?_)
  refine lv_iconst (v := 0) hx hb dX3_refuse_13 (by decide) ?_
  exact r_zret hx hb hr rfl hlocks hP hS (re2 (Option.some.inj hf)) dX3_refuse_14
/-! CarriedBack$Trunk.clearChange(I)V -/
abbrev rmX7_clearChange : Room := { frames := 0, cells := 0, slots := 0, locals := 0 }
abbrev vX7_clearChange : List Cond := Cond.code yX7_clearChange cX7_clearChange 3 none :: GW
def f_X7_clearChange_23 (a0 : Nat) (x1 : Int32) : Nat → Int32 → PH → Option PH
  | 0, _, _ => none
  | n + 1, x2, h => if (16 : Int32) ≤ x2 then (some h) else (bO (asg h (a0 + 4) 384 ((x1 * 16) + x2) 0) (fun h40 => (f_X7_clearChange_23 a0 x1 n) (x2 + 1) h40))
set_option maxHeartbeats 4000000 in
set_option maxRecDepth 100000 in
theorem w_X7_clearChange_23 {l : Launch} {G : GC} (hG : GOK G) {hh : PH} {p : Program} {e : Env} {s : State} {m : MethodId} {args : Array Value} {below : List Frame} {meth : Method} {c : Code} (C : MC l G p s m args meth c RX7 cX7_clearChange 3 none) (a0 : Nat) (ha0 : kdX7 a0) (x1 : Int32) : ∀ (n : Nat) (x2 : Int32) (h : PH) (H : Heap) (locs : List Loc) (ls : Array Slot), lv_has ls 3 [(0, .ref (gB G a0)), (1, .int x1), (2, .int x2)] → WP G h H → SP G s H locs → f_X7_clearChange_23 a0 x1 n x2 h = some hh → W p l e rmX7_clearChange s m args below meth c H locs 0 0 (MQ below (QV G hh) args s 0 0 (gA G)) (F0 m 23 ls []) := by
  obtain ⟨hx, hb, hr, hlocks, hml, hown, hts, hK⟩ := id C
  intro n
  induction n with
  | zero => intro x2 h H locs ls hl hP hS hf; rw [f_X7_clearChange_23] at hf; cases hf
  | succ n ih =>
    intro x2 h H locs ls hl hP hS hf
    rw [f_X7_clearChange_23] at hf
    refine lv_iload_n hx hb dX7_clearChange_23 rfl (lv_at hl 2 rfl) ?_
    refine lv_bipush (v := 16) hx hb dX7_clearChange_24 (by decide) ?_
    refine lv_icmp_ge (tgt := 47) hx hb dX7_clearChange_26 (by decide) (fun c26 => ?_) (fun c26 => ?_)
    · replace hf := if_t c26 hf
      exact r_vret hx hb hr hlocks hP hS (Option.some.inj hf) dX7_clearChange_47
    · replace hf := if_f c26 hf
      refine lv_aload_n hx hb dX7_clearChange_29 rfl (lv_at hl 0 rfl) ?_
      refine r_get (a := a0) (v := .ref (gB G (a0 + 4))) (C := RX7) (T := TX7) (N := 10) hx hb hts hinX7 hown hK hP (ltX7 ha0) (ceX7 ha0) rfl 4 (by decide) wd164 rfl dX7_clearChange_30 ?_
      refine lv_iload_n hx hb dX7_clearChange_33 rfl (lv_at hl 1 rfl) ?_
      refine lv_bipush (v := 16) hx hb dX7_clearChange_34 (by decide) ?_
      refine lv_imul hx hb dX7_clearChange_36 ?_
      refine lv_iload_n hx hb dX7_clearChange_37 rfl (lv_at hl 2 rfl) ?_
      refine lv_iadd hx hb dX7_clearChange_38 ?_
      refine lv_iconst (v := 0) hx hb dX7_clearChange_39 (by decide) ?_
      obtain ⟨h40, eh40, hf⟩ := bO_s hf
      refine r_iast hG hx hb hK hP hS (arX7_4 ha0) eh40 dX7_clearChange_40 (fun H locs hP hS => ?_)
      refine lv_iinc (v := (x2 + 1)) (lv' := [(2, .int (x2 + 1)), (0, .ref (gB G a0)), (1, .int x1)]) hx hb dX7_clearChange_41 hl (k := 2) rfl rfl (by decide) rfl (fun ls hl => ?_)
      refine lv_goto (tgt := 23) hx hb dX7_clearChange_44 (by decide) ?_
      exact ih (x2 + 1) h40 _ _ _ (lv_sub hl [1, 2, 0] rfl) hP hS hf
def f_X7_clearChange (a0 : Nat) (x1 : Int32) (h : PH) : Option PH := bO (asg h (a0 + 1) 24 x1 0) (fun h6 => bO (asg h6 (a0 + 2) 24 x1 0) (fun h13 => bO (asg h13 (a0 + 3) 24 x1 0) (fun h20 => f_X7_clearChange_23 a0 x1 FU 0 h20)))
set_option maxHeartbeats 4000000 in
set_option maxRecDepth 100000 in
theorem k_X7_clearChange (l : Launch) {G : GC} (hG : GOK G) (a0 : Nat) (ha0 : kdX7 a0) {x1 : Int32} {h hh : PH} (hf : f_X7_clearChange a0 x1 h = some hh) : CV l yX7_clearChange vX7_clearChange rmX7_clearChange G [.ref (gB G a0), .int x1] h hh := by
  refine Met.ofW (cc := cX7_clearChange) (maxL := 3) (ret := none) (by decide +kernel) rfl ?_
  intro p e s m args below meth c s₁ B hml hv
  obtain ⟨rfl, hP, hK⟩ := hv
  have C : MC l G p s m _ meth c RX7 cX7_clearChange 3 none := ⟨B.exec, B.bytes, B.returns, B.notSynchronized, hml, findClass_of_methodNamed B.named, fun w hw => atoms_spec (ws := vX7_clearChange) B.pre w (List.mem_cons_of_mem _ hw), hK⟩
  obtain ⟨hx, hb, hr, hlocks, -, hown, hts, -⟩ := id C
  have hl := lv_entry ([.ref (gB G a0), .int x1]) (n := 3) (Nat.le_of_ble_eq_true rfl)
  rw [lg_entry_eq]
  generalize (lg_sl ([.ref (gB G a0), .int x1]) ++ List.replicate (3 - (lg_sl ([.ref (gB G a0), .int x1])).length) Slot.unset).toArray = ls at hl ⊢
  have hl : lv_has ls 3 [(0, .ref (gB G a0)), (1, .int x1)] := hl
  have hS : SP G s s.heap [] := va_S.rf
  replace hP : WP G h s.heap := hP
  rw [f_X7_clearChange] at hf
  refine lv_aload_n hx hb dX7_clearChange_0 rfl (lv_at hl 0 rfl) ?_
  refine r_get (a := a0) (v := .ref (gB G (a0 + 1))) (C := RX7) (T := TX7) (N := 10) hx hb hts hinX7 hown hK hP (ltX7 ha0) (ceX7 ha0) rfl 1 (by decide) wd158 rfl dX7_clearChange_1 ?_
  refine lv_iload_n hx hb dX7_clearChange_4 rfl (lv_at hl 1 rfl) ?_
  refine lv_iconst (v := 0) hx hb dX7_clearChange_5 (by decide) ?_
  obtain ⟨h6, eh6, hf⟩ := bO_s hf
  refine r_iast hG hx hb hK hP hS (arX7_1 ha0) eh6 dX7_clearChange_6 (fun H locs hP hS => ?_)
  refine lv_aload_n hx hb dX7_clearChange_7 rfl (lv_at hl 0 rfl) ?_
  refine r_get (a := a0) (v := .ref (gB G (a0 + 2))) (C := RX7) (T := TX7) (N := 10) hx hb hts hinX7 hown hK hP (ltX7 ha0) (ceX7 ha0) rfl 2 (by decide) wd160 rfl dX7_clearChange_8 ?_
  refine lv_iload_n hx hb dX7_clearChange_11 rfl (lv_at hl 1 rfl) ?_
  refine lv_iconst (v := 0) hx hb dX7_clearChange_12 (by decide) ?_
  obtain ⟨h13, eh13, hf⟩ := bO_s hf
  refine r_iast hG hx hb hK hP hS (arX7_2 ha0) eh13 dX7_clearChange_13 (fun H locs hP hS => ?_)
  refine lv_aload_n hx hb dX7_clearChange_14 rfl (lv_at hl 0 rfl) ?_
  refine r_get (a := a0) (v := .ref (gB G (a0 + 3))) (C := RX7) (T := TX7) (N := 10) hx hb hts hinX7 hown hK hP (ltX7 ha0) (ceX7 ha0) rfl 3 (by decide) wd162 rfl dX7_clearChange_15 ?_
  refine lv_iload_n hx hb dX7_clearChange_18 rfl (lv_at hl 1 rfl) ?_
  refine lv_iconst (v := 0) hx hb dX7_clearChange_19 (by decide) ?_
  obtain ⟨h20, eh20, hf⟩ := bO_s hf
  refine r_iast hG hx hb hK hP hS (arX7_3 ha0) eh20 dX7_clearChange_20 (fun H locs hP hS => ?_)
  refine lv_iconst (v := 0) hx hb dX7_clearChange_21 (by decide) ?_
  refine lv_istore_n (lv' := [(2, .int 0), (0, .ref (gB G a0)), (1, .int x1)]) hx hb dX7_clearChange_22 rfl hl (by decide) rfl (fun ls hl => ?_)
  exact w_X7_clearChange_23 hG C a0 ha0 x1 FU 0 h20 _ _ _ (lv_sub hl [1, 2, 0] rfl) hP hS hf
/-! CarriedBack$Reader.takeWord(Ljava/lang/String;)Z -/
abbrev rmX3_takeWord : Room := { frames := 5, cells := 0, slots := 0, locals := 107 }
abbrev vX3_takeWord : List Cond := Cond.code yX3_takeWord cX3_takeWord 2 (some .boolean) :: GW
def f_X3_takeWord (w1 : Nat) (h : PH) : Option (Int32 × PH) := bP (f_X3_isWord w1 h) (fun r2 h2 => if r2 = 0 then (some (0, h2)) else (bO (f_X3_step h2) (fun h11 => some (1, h11))))
set_option maxHeartbeats 4000000 in
set_option maxRecDepth 100000 in
theorem k_X3_takeWord (l : Launch) {G : GC} (hG : GOK G) (w1 : Nat) (hw1 : w1 < 10) {rr : Int32} {h hh : PH} (hf : f_X3_takeWord w1 h = some (rr, hh)) : CI l yX3_takeWord vX3_takeWord rmX3_takeWord G [.ref (gB G 3), .ref (gk G w1)] h rr hh := by
  refine Met.ofW (cc := cX3_takeWord) (maxL := 2) (ret := (some .boolean)) (by decide +kernel) rfl ?_
  intro p e s m args below meth c s₁ B hml hv
  obtain ⟨rfl, hP, hK⟩ := hv
  have C : MC l G p s m _ meth c RX3 cX3_takeWord 2 (some .boolean) := ⟨B.exec, B.bytes, B.returns, B.notSynchronized, hml, findClass_of_methodNamed B.named, fun w hw => atoms_spec (ws := vX3_takeWord) B.pre w (List.mem_cons_of_mem _ hw), hK⟩
  obtain ⟨hx, hb, hr, hlocks, -, hown, hts, -⟩ := id C
  have hl := lv_entry ([.ref (gB G 3), .ref (gk G w1)]) (n := 2) (Nat.le_of_ble_eq_true rfl)
  rw [lg_entry_eq]
  generalize (lg_sl ([.ref (gB G 3), .ref (gk G w1)]) ++ List.replicate (2 - (lg_sl ([.ref (gB G 3), .ref (gk G w1)])).length) Slot.unset).toArray = ls at hl ⊢
  have hl : lv_has ls 2 [(0, .ref (gB G 3)), (1, .ref (gk G w1))] := hl
  have hS : SP G s s.heap [] := va_S.rf
  replace hP : WP G h s.heap := hP
  rw [f_X3_takeWord] at hf
  refine lv_aload_n hx hb dX3_takeWord_0 rfl (lv_at hl 0 rfl) ?_
  refine lv_aload_n hx hb dX3_takeWord_1 rfl (lv_at hl 1 rfl) ?_
  obtain ⟨r2, h2, er2, hf⟩ := bP_s hf
  refine r_callI (va_runV (As := [.ref (gk G w1)]) (rest := []) ⟨hx, hb, hml, hown, hts⟩ (k_X3_isWord l hG w1 hw1 er2) (cwV 1 hts (gV wd507 wd438 wd439 wd75 wd440) rfl rfl rfl (by decide +kernel) ⟨Nat.le_of_ble_eq_true rfl, Nat.le_of_ble_eq_true rfl⟩) (r_pv hK hP hS (ltX3 rfl) (ceX3 rfl) rfl) rfl rfl hl.1 rfl (lv_room (Nat.le_of_ble_eq_true rfl)) dX3_takeWord_2 ⟨Nat.le_of_ble_eq_true rfl, Nat.le_of_ble_eq_true rfl⟩) hS (fun H locs hP hS => ?_)
  refine lv_if_ne (tgt := 10) hx hb dX3_takeWord_5 (by decide) (fun c5 => ?_) (fun c5 => ?_)
  · replace hf := if_f c5 hf
    refine lv_aload_n hx hb dX3_takeWord_10 rfl (lv_at hl 0 rfl) ?_
    obtain ⟨h11, eh11, hf⟩ := bO_s hf
    refine r_callV (va_runV (As := []) (rest := []) ⟨hx, hb, hml, hown, hts⟩ (k_X3_step l hG eh11) (cwV 0 hts (gV wd421 wd422 wd423 wd75 wd424) rfl rfl rfl (by decide +kernel) ⟨Nat.le_of_ble_eq_true rfl, Nat.le_of_ble_eq_true rfl⟩) (r_pv hK hP hS (ltX3 rfl) (ceX3 rfl) rfl) rfl rfl hl.1 rfl (lv_room (Nat.le_of_ble_eq_true rfl)) dX3_takeWord_11 ⟨Nat.le_of_ble_eq_true rfl, Nat.le_of_ble_eq_true rfl⟩) hS (fun H locs hP hS => ?_)
    refine lv_iconst (v := 1) hx hb dX3_takeWord_14 (by decide) ?_
    exact r_zret hx hb hr rfl hlocks hP hS (re2 (Option.some.inj hf)) dX3_takeWord_15
  · replace hf := if_t c5 hf
    refine lv_iconst (v := 0) hx hb dX3_takeWord_8 (by decide) ?_
    exact r_zret hx hb hr rfl hlocks hP hS (re2 (Option.some.inj hf)) dX3_takeWord_9
/-! CarriedBack$Reader.fits(II)Z -/
abbrev rmX3_fits : Room := { frames := 1, cells := 0, slots := 0, locals := 21 }
abbrev vX3_fits : List Cond := Cond.code yX3_fits cX3_fits 4 (some .boolean) :: GW
def f_X3_fits_109 (t0 : Int32) (h : PH) : Option (Int32 × PH) := if t0 = 0 then (bP (f_X3_refuse 2 h) (fun r116 h116 => if r116 = 0 then (some (0, h116)) else (some (1, h116)))) else (some (1, h))
set_option maxHeartbeats 4000000 in
set_option maxRecDepth 100000 in
theorem w_X3_fits_109 {l : Launch} {G : GC} (hG : GOK G) {rr : Int32} {hh : PH} {p : Program} {e : Env} {s : State} {m : MethodId} {args : Array Value} {below : List Frame} {meth : Method} {c : Code} (C : MC l G p s m args meth c RX3 cX3_fits 4 (some .boolean)) : ∀ (t0 : Int32) (h : PH) (H : Heap) (locs : List Loc) (ls : Array Slot), lv_has ls 4 [(0, .ref (gB G 3))] → WP G h H → SP G s H locs → f_X3_fits_109 t0 h = some (rr, hh) → W p l e rmX3_fits s m args below meth c H locs 0 0 (MQ below (QI G rr hh) args s 0 0 (gA G)) (F0 m 109 ls [.int t0]) := by
  obtain ⟨hx, hb, hr, hlocks, hml, hown, hts, hK⟩ := id C
  intro t0 h H locs ls hl hP hS hf
  rw [f_X3_fits_109] at hf
  refine lv_istore_n (lv' := [(3, .int t0), (0, .ref (gB G 3))]) hx hb dX3_fits_109 rfl hl (by decide) rfl (fun ls hl => ?_)
  refine lv_iload_n hx hb dX3_fits_110 rfl (lv_at hl 0 rfl) ?_
  refine lv_if_ne (tgt := 122) hx hb dX3_fits_111 (by decide) (fun c111 => ?_) (fun c111 => ?_)
  · replace hf := if_f c111 hf
    refine lv_iconst (v := 1) hx hb dX3_fits_122 (by decide) ?_
    refine lv_goto (tgt := 127) hx hb dX3_fits_123 (by decide) ?_
    exact r_zret hx hb hr rfl hlocks hP hS (re2 (Option.some.inj hf)) dX3_fits_127
  · replace hf := if_t c111 hf
    refine lv_aload_n hx hb dX3_fits_114 rfl (lv_at hl 1 rfl) ?_
    refine lv_iconst (v := 2) hx hb dX3_fits_115 (by decide) ?_
    obtain ⟨r116, h116, er116, hf⟩ := bP_s hf
    refine r_callI (va_runV (As := [.int 2]) (rest := []) ⟨hx, hb, hml, hown, hts⟩ (k_X3_refuse l hG er116) (cwV 1 hts (gV wd520 wd494 wd495 wd75 wd496) rfl rfl rfl (by decide +kernel) ⟨Nat.le_of_ble_eq_true rfl, Nat.le_of_ble_eq_true rfl⟩) (r_pv hK hP hS (ltX3 rfl) (ceX3 rfl) rfl) rfl rfl hl.1 rfl (lv_room (Nat.le_of_ble_eq_true rfl)) dX3_fits_116 ⟨Nat.le_of_ble_eq_true rfl, Nat.le_of_ble_eq_true rfl⟩) hS (fun H locs hP hS => ?_)
    refine lv_if_eq (tgt := 126) hx hb dX3_fits_119 (by decide) (fun c119 => ?_) (fun c119 => ?_)
    · replace hf := if_t c119 hf
      refine lv_iconst (v := 0) hx hb dX3_fits_126 (by decide) ?_
      exact r_zret hx hb hr rfl hlocks hP hS (re2 (Option.some.inj hf)) dX3_fits_127
    · replace hf := if_f c119 hf
      refine lv_iconst (v := 1) hx hb dX3_fits_122 (by decide) ?_
      refine lv_goto (tgt := 127) hx hb dX3_fits_123 (by decide) ?_
      exact r_zret hx hb hr rfl hlocks hP hS (re2 (Option.some.inj hf)) dX3_fits_127
def f_X3_fits_108 (h : PH) : Option (Int32 × PH) := f_X3_fits_109 0 h
set_option maxHeartbeats 4000000 in
set_option maxRecDepth 100000 in
theorem w_X3_fits_108 {l : Launch} {G : GC} (hG : GOK G) {rr : Int32} {hh : PH} {p : Program} {e : Env} {s : State} {m : MethodId} {args : Array Value} {below : List Frame} {meth : Method} {c : Code} (C : MC l G p s m args meth c RX3 cX3_fits 4 (some .boolean)) : ∀ (h : PH) (H : Heap) (locs : List Loc) (ls : Array Slot), lv_has ls 4 [(0, .ref (gB G 3))] → WP G h H → SP G s H locs → f_X3_fits_108 h = some (rr, hh) → W p l e rmX3_fits s m args below meth c H locs 0 0 (MQ below (QI G rr hh) args s 0 0 (gA G)) (F0 m 108 ls []) := by
  obtain ⟨hx, hb, hr, hlocks, hml, hown, hts, hK⟩ := id C
  intro h H locs ls hl hP hS hf
  rw [f_X3_fits_108] at hf
  refine lv_iconst (v := 0) hx hb dX3_fits_108 (by decide) ?_
  exact w_X3_fits_109 hG C 0 h _ _ _ (lv_sub hl [0] rfl) hP hS hf
def f_X3_fits_72 (x1 : Int32) (x2 : Int32) (h : PH) : Option (Int32 × PH) := if (h.1 3 1) < ((h.1 3 4) - (h.1 3 3)) then (f_X3_fits_108 h) else (if (h.1 3 5) < x1 then (f_X3_fits_108 h) else (if x2 < (h.1 3 5) then (f_X3_fits_108 h) else (f_X3_fits_109 1 h)))
set_option maxHeartbeats 4000000 in
set_option maxRecDepth 100000 in
theorem w_X3_fits_72 {l : Launch} {G : GC} (hG : GOK G) {rr : Int32} {hh : PH} {p : Program} {e : Env} {s : State} {m : MethodId} {args : Array Value} {below : List Frame} {meth : Method} {c : Code} (C : MC l G p s m args meth c RX3 cX3_fits 4 (some .boolean)) : ∀ (x1 : Int32) (x2 : Int32) (h : PH) (H : Heap) (locs : List Loc) (ls : Array Slot), lv_has ls 4 [(0, .ref (gB G 3)), (1, .int x1), (2, .int x2)] → WP G h H → SP G s H locs → f_X3_fits_72 x1 x2 h = some (rr, hh) → W p l e rmX3_fits s m args below meth c H locs 0 0 (MQ below (QI G rr hh) args s 0 0 (gA G)) (F0 m 72 ls []) := by
  obtain ⟨hx, hb, hr, hlocks, hml, hown, hts, hK⟩ := id C
  intro x1 x2 h H locs ls hl hP hS hf
  rw [f_X3_fits_72] at hf
  refine lv_aload_n hx hb dX3_fits_72 rfl (lv_at hl 0 rfl) ?_
  refine r_get (a := 3) (v := .int (h.1 3 4)) (C := RX3) (T := TX3) (N := 8) hx hb hts hinX3 hown hK hP (ltX3 rfl) (ceX3 rfl) rfl 4 (by decide) wd125 rfl dX3_fits_73 ?_
  refine lv_aload_n hx hb dX3_fits_76 rfl (lv_at hl 0 rfl) ?_
  refine r_get (a := 3) (v := .int (h.1 3 3)) (C := RX3) (T := TX3) (N := 8) hx hb hts hinX3 hown hK hP (ltX3 rfl) (ceX3 rfl) rfl 3 (by decide) wd124 rfl dX3_fits_77 ?_
  refine lv_isub hx hb dX3_fits_80 ?_
  refine lv_aload_n hx hb dX3_fits_81 rfl (lv_at hl 0 rfl) ?_
  refine r_get (a := 3) (v := .int (h.1 3 1)) (C := RX3) (T := TX3) (N := 8) hx hb hts hinX3 hown hK hP (ltX3 rfl) (ceX3 rfl) rfl 1 (by decide) wd122 rfl dX3_fits_82 ?_
  refine lv_icmp_gt (tgt := 108) hx hb dX3_fits_85 (by decide) (fun c85 => ?_) (fun c85 => ?_)
  · replace hf := if_t c85 hf
    exact w_X3_fits_108 hG C h _ _ _ (lv_sub hl [0] rfl) hP hS hf
  · replace hf := if_f c85 hf
    refine lv_aload_n hx hb dX3_fits_88 rfl (lv_at hl 0 rfl) ?_
    refine r_get (a := 3) (v := .int (h.1 3 5)) (C := RX3) (T := TX3) (N := 8) hx hb hts hinX3 hown hK hP (ltX3 rfl) (ceX3 rfl) rfl 5 (by decide) wd126 rfl dX3_fits_89 ?_
    refine lv_iload_n hx hb dX3_fits_92 rfl (lv_at hl 1 rfl) ?_
    refine lv_icmp_lt (tgt := 108) hx hb dX3_fits_93 (by decide) (fun c93 => ?_) (fun c93 => ?_)
    · replace hf := if_t c93 hf
      exact w_X3_fits_108 hG C h _ _ _ (lv_sub hl [0] rfl) hP hS hf
    · replace hf := if_f c93 hf
      refine lv_aload_n hx hb dX3_fits_96 rfl (lv_at hl 0 rfl) ?_
      refine r_get (a := 3) (v := .int (h.1 3 5)) (C := RX3) (T := TX3) (N := 8) hx hb hts hinX3 hown hK hP (ltX3 rfl) (ceX3 rfl) rfl 5 (by decide) wd126 rfl dX3_fits_97 ?_
      refine lv_iload_n hx hb dX3_fits_100 rfl (lv_at hl 2 rfl) ?_
      refine lv_icmp_gt (tgt := 108) hx hb dX3_fits_101 (by decide) (fun c101 => ?_) (fun c101 => ?_)
      · replace hf := if_t c101 hf
        exact w_X3_fits_108 hG C h _ _ _ (lv_sub hl [0] rfl) hP hS hf
      · replace hf := if_f c101 hf
        refine lv_iconst (v := 1) hx hb dX3_fits_104 (by decide) ?_
        refine lv_goto (tgt := 109) hx hb dX3_fits_105 (by decide) ?_
        exact w_X3_fits_109 hG C 1 h _ _ _ (lv_sub hl [0] rfl) hP hS hf
def f_X3_fits_24 (x1 : Int32) (x2 : Int32) : Nat → Int32 → PH → Option (Int32 × PH)
  | 0, _, _ => none
  | n + 1, x3, h => if (h.1 3 4) ≤ x3 then (f_X3_fits_72 x1 x2 h) else (if ((h.1 3 3) + 3) ≤ x3 then (f_X3_fits_72 x1 x2 h) else (bO (ag h 2 500 x3) (fun v58 => lt' (hU h 3 5 (((10 * (h.1 3 5)) + v58) - 48)) (fun h63 => (f_X3_fits_24 x1 x2 n) (x3 + 1) h63))))
set_option maxHeartbeats 4000000 in
set_option maxRecDepth 100000 in
theorem w_X3_fits_24 {l : Launch} {G : GC} (hG : GOK G) {rr : Int32} {hh : PH} {p : Program} {e : Env} {s : State} {m : MethodId} {args : Array Value} {below : List Frame} {meth : Method} {c : Code} (C : MC l G p s m args meth c RX3 cX3_fits 4 (some .boolean)) (x1 : Int32) (x2 : Int32) : ∀ (n : Nat) (x3 : Int32) (h : PH) (H : Heap) (locs : List Loc) (ls : Array Slot), lv_has ls 4 [(0, .ref (gB G 3)), (1, .int x1), (2, .int x2), (3, .int x3)] → WP G h H → SP G s H locs → f_X3_fits_24 x1 x2 n x3 h = some (rr, hh) → W p l e rmX3_fits s m args below meth c H locs 0 0 (MQ below (QI G rr hh) args s 0 0 (gA G)) (F0 m 24 ls []) := by
  obtain ⟨hx, hb, hr, hlocks, hml, hown, hts, hK⟩ := id C
  intro n
  induction n with
  | zero => intro x3 h H locs ls hl hP hS hf; rw [f_X3_fits_24] at hf; cases hf
  | succ n ih =>
    intro x3 h H locs ls hl hP hS hf
    rw [f_X3_fits_24] at hf
    refine lv_iload_n hx hb dX3_fits_24 rfl (lv_at hl 3 rfl) ?_
    refine lv_aload_n hx hb dX3_fits_25 rfl (lv_at hl 0 rfl) ?_
    refine r_get (a := 3) (v := .int (h.1 3 4)) (C := RX3) (T := TX3) (N := 8) hx hb hts hinX3 hown hK hP (ltX3 rfl) (ceX3 rfl) rfl 4 (by decide) wd125 rfl dX3_fits_26 ?_
    refine lv_icmp_ge (tgt := 72) hx hb dX3_fits_29 (by decide) (fun c29 => ?_) (fun c29 => ?_)
    · replace hf := if_t c29 hf
      exact w_X3_fits_72 hG C x1 x2 h _ _ _ (lv_sub hl [0, 1, 2] rfl) hP hS hf
    · replace hf := if_f c29 hf
      refine lv_iload_n hx hb dX3_fits_32 rfl (lv_at hl 3 rfl) ?_
      refine lv_aload_n hx hb dX3_fits_33 rfl (lv_at hl 0 rfl) ?_
      refine r_get (a := 3) (v := .int (h.1 3 3)) (C := RX3) (T := TX3) (N := 8) hx hb hts hinX3 hown hK hP (ltX3 rfl) (ceX3 rfl) rfl 3 (by decide) wd124 rfl dX3_fits_34 ?_
      refine lv_iconst (v := 3) hx hb dX3_fits_37 (by decide) ?_
      refine lv_iadd hx hb dX3_fits_38 ?_
      refine lv_icmp_ge (tgt := 72) hx hb dX3_fits_39 (by decide) (fun c39 => ?_) (fun c39 => ?_)
      · replace hf := if_t c39 hf
        exact w_X3_fits_72 hG C x1 x2 h _ _ _ (lv_sub hl [0, 1, 2] rfl) hP hS hf
      · replace hf := if_f c39 hf
        refine lv_aload_n hx hb dX3_fits_42 rfl (lv_at hl 0 rfl) ?_
        refine lv_bipush (v := 10) hx hb dX3_fits_43 (by decide) ?_
        refine lv_aload_n hx hb dX3_fits_45 rfl (lv_at hl 0 rfl) ?_
        refine r_get (a := 3) (v := .int (h.1 3 5)) (C := RX3) (T := TX3) (N := 8) hx hb hts hinX3 hown hK hP (ltX3 rfl) (ceX3 rfl) rfl 5 (by decide) wd126 rfl dX3_fits_46 ?_
        refine lv_imul hx hb dX3_fits_49 ?_
        refine lv_aload_n hx hb dX3_fits_50 rfl (lv_at hl 0 rfl) ?_
        refine r_get (a := 3) (v := .ref (gB G 1)) (C := RX3) (T := TX3) (N := 8) hx hb hts hinX3 hown hK hP (ltX3 rfl) (ceX3 rfl) rfl 0 (by decide) wd121 rfl dX3_fits_51 ?_
        refine r_get (a := 1) (v := .ref (gB G 2)) (C := RX6) (T := TX6) (N := 2) hx hb hts hinX6 hown hK hP (ltX6 rfl) (ceX6 rfl) rfl 0 (by decide) wd105 rfl dX3_fits_54 ?_
        refine lv_iload_n hx hb dX3_fits_57 rfl (lv_at hl 3 rfl) ?_
        obtain ⟨v58, ev58, hf⟩ := bO_s hf
        refine r_iald hx hb hK hP (arX6_0 rfl) ev58 dX3_fits_58 ?_
        refine lv_iadd hx hb dX3_fits_59 ?_
        refine lv_bipush (v := 48) hx hb dX3_fits_60 (by decide) ?_
        refine lv_isub hx hb dX3_fits_62 ?_
        obtain ⟨h63, eh63⟩ : ∃ y, y = hU h 3 5 (((10 * (h.1 3 5)) + v58) - 48) := ⟨_, rfl⟩
        replace hf := lt_at eh63 hf
        refine r_put (a := 3) (v := .int (((10 * (h.1 3 5)) + v58) - 48)) (ty := .int) (h' := h63) (C := RX3) (T := TX3) (N := 8) hG hx hb hts hinX3 tyX3 tyX3_ok nmX3 hown hK hP hS (ltX3 rfl) (ceX3 rfl) rfl 5 (by decide) wd126 rfl (by decide +kernel) rfl rfl (Nat.le_of_ble_eq_true rfl) (by rw [eh63]; exact fun j hj => cE_U hj) (by rw [eh63]; exact puX3_5 rfl _) dX3_fits_63 (fun H locs hP hS => ?_)
        refine lv_iinc (v := (x3 + 1)) (lv' := [(3, .int (x3 + 1)), (0, .ref (gB G 3)), (1, .int x1), (2, .int x2)]) hx hb dX3_fits_66 hl (k := 3) rfl rfl (by decide) rfl (fun ls hl => ?_)
        refine lv_goto (tgt := 24) hx hb dX3_fits_69 (by decide) ?_
        exact ih (x3 + 1) h63 _ _ _ (lv_sub hl [1, 2, 3, 0] rfl) hP hS hf
def f_X3_fits (x1 : Int32) (x2 : Int32) (h : PH) : Option (Int32 × PH) := if (h.1 3 2) = 2 then (lt' (hU h 3 5 0) (fun h16 => lt' ((h16.1 3 3)) (fun x3_23 => f_X3_fits_24 x1 x2 FU x3_23 h16))) else (bP (f_X3_refuse 1 h) (fun r10 h10 => zr r10 (r10, h10)))
set_option maxHeartbeats 4000000 in
set_option maxRecDepth 100000 in
theorem k_X3_fits (l : Launch) {G : GC} (hG : GOK G) {x1 : Int32} {x2 : Int32} {rr : Int32} {h hh : PH} (hf : f_X3_fits x1 x2 h = some (rr, hh)) : CI l yX3_fits vX3_fits rmX3_fits G [.ref (gB G 3), .int x1, .int x2] h rr hh := by
  refine Met.ofW (cc := cX3_fits) (maxL := 4) (ret := (some .boolean)) (by decide +kernel) rfl ?_
  intro p e s m args below meth c s₁ B hml hv
  obtain ⟨rfl, hP, hK⟩ := hv
  have C : MC l G p s m _ meth c RX3 cX3_fits 4 (some .boolean) := ⟨B.exec, B.bytes, B.returns, B.notSynchronized, hml, findClass_of_methodNamed B.named, fun w hw => atoms_spec (ws := vX3_fits) B.pre w (List.mem_cons_of_mem _ hw), hK⟩
  obtain ⟨hx, hb, hr, hlocks, -, hown, hts, -⟩ := id C
  have hl := lv_entry ([.ref (gB G 3), .int x1, .int x2]) (n := 4) (Nat.le_of_ble_eq_true rfl)
  rw [lg_entry_eq]
  generalize (lg_sl ([.ref (gB G 3), .int x1, .int x2]) ++ List.replicate (4 - (lg_sl ([.ref (gB G 3), .int x1, .int x2])).length) Slot.unset).toArray = ls at hl ⊢
  have hl : lv_has ls 4 [(0, .ref (gB G 3)), (1, .int x1), (2, .int x2)] := hl
  have hS : SP G s s.heap [] := va_S.rf
  replace hP : WP G h s.heap := hP
  rw [f_X3_fits] at hf
  refine lv_aload_n hx hb dX3_fits_0 rfl (lv_at hl 0 rfl) ?_
  refine r_get (a := 3) (v := .int (h.1 3 2)) (C := RX3) (T := TX3) (N := 8) hx hb hts hinX3 hown hK hP (ltX3 rfl) (ceX3 rfl) rfl 2 (by decide) wd123 rfl dX3_fits_1 ?_
  refine lv_iconst (v := 2) hx hb dX3_fits_4 (by decide) ?_
  refine lv_icmp_eq (tgt := 14) hx hb dX3_fits_5 (by decide) (fun c5 => ?_) (fun c5 => ?_)
  · replace hf := if_t c5 hf
    refine lv_aload_n hx hb dX3_fits_14 rfl (lv_at hl 0 rfl) ?_
    refine lv_iconst (v := 0) hx hb dX3_fits_15 (by decide) ?_
    obtain ⟨h16, eh16⟩ : ∃ y, y = hU h 3 5 0 := ⟨_, rfl⟩
    replace hf := lt_at eh16 hf
    refine r_put (a := 3) (v := .int 0) (ty := .int) (h' := h16) (C := RX3) (T := TX3) (N := 8) hG hx hb hts hinX3 tyX3 tyX3_ok nmX3 hown hK hP hS (ltX3 rfl) (ceX3 rfl) rfl 5 (by decide) wd126 rfl (by decide +kernel) rfl rfl (Nat.le_of_ble_eq_true rfl) (by rw [eh16]; exact fun j hj => cE_U hj) (by rw [eh16]; exact puX3_5 rfl _) dX3_fits_16 (fun H locs hP hS => ?_)
    refine lv_aload_n hx hb dX3_fits_19 rfl (lv_at hl 0 rfl) ?_
    refine r_get (a := 3) (v := .int (h16.1 3 3)) (C := RX3) (T := TX3) (N := 8) hx hb hts hinX3 hown hK hP (ltX3 rfl) (ceX3 rfl) rfl 3 (by decide) wd124 rfl dX3_fits_20 ?_
    refine lv_topi (fun x3_23 ex3_23 => ?_)
    replace hf := lt_at ex3_23 hf
    refine lv_istore_n (lv' := [(3, .int x3_23), (0, .ref (gB G 3)), (1, .int x1), (2, .int x2)]) hx hb dX3_fits_23 rfl hl (by decide) rfl (fun ls hl => ?_)
    exact w_X3_fits_24 hG C x1 x2 FU x3_23 h16 _ _ _ (lv_sub hl [1, 2, 3, 0] rfl) hP hS hf
  · replace hf := if_f c5 hf
    refine lv_aload_n hx hb dX3_fits_8 rfl (lv_at hl 0 rfl) ?_
    refine lv_iconst (v := 1) hx hb dX3_fits_9 (by decide) ?_
    obtain ⟨r10, h10, er10, hf⟩ := bP_s hf
    refine r_callI (va_runV (As := [.int 1]) (rest := []) ⟨hx, hb, hml, hown, hts⟩ (k_X3_refuse l hG er10) (cwV 1 hts (gV wd520 wd494 wd495 wd75 wd496) rfl rfl rfl (by decide +kernel) ⟨Nat.le_of_ble_eq_true rfl, Nat.le_of_ble_eq_true rfl⟩) (r_pv hK hP hS (ltX3 rfl) (ceX3 rfl) rfl) rfl rfl hl.1 rfl (lv_room (Nat.le_of_ble_eq_true rfl)) dX3_fits_10 ⟨Nat.le_of_ble_eq_true rfl, Nat.le_of_ble_eq_true rfl⟩) hS (fun H locs hP hS => ?_)
    obtain ⟨hz, hf⟩ := zr_s hf
    exact r_zret hx hb hr hz hlocks hP hS (re2 hf) dX3_fits_13
/-! CarriedBack.has(II)Z -/
abbrev rmX8_has : Room := { frames := 0, cells := 0, slots := 0, locals := 0 }
abbrev vX8_has : List Cond := Cond.code yX8_has cX8_has 2 (some .boolean) :: GW
def f_X8_has (x0 : Int32) (x1 : Int32) : Option Int32 := if ((x0 >>> (x1 &&& 31)) &&& 1) = 0 then (some 0) else (some 1)
set_option maxHeartbeats 4000000 in
set_option maxRecDepth 100000 in
theorem k_X8_has (l : Launch) {G : GC} (hG : GOK G) {x0 : Int32} {x1 : Int32} {rr : Int32} {h : PH} (hf : f_X8_has x0 x1 = some rr) : CI l yX8_has vX8_has rmX8_has G [.int x0, .int x1] h rr h := by
  refine Met.ofW (cc := cX8_has) (maxL := 2) (ret := (some .boolean)) (by decide +kernel) rfl ?_
  intro p e s m args below meth c s₁ B hml hv
  obtain ⟨rfl, hP, hK⟩ := hv
  have C : MC l G p s m _ meth c RX8 cX8_has 2 (some .boolean) := ⟨B.exec, B.bytes, B.returns, B.notSynchronized, hml, findClass_of_methodNamed B.named, fun w hw => atoms_spec (ws := vX8_has) B.pre w (List.mem_cons_of_mem _ hw), hK⟩
  obtain ⟨hx, hb, hr, hlocks, -, hown, hts, -⟩ := id C
  have hl := lv_entry ([.int x0, .int x1]) (n := 2) (Nat.le_of_ble_eq_true rfl)
  rw [lg_entry_eq]
  generalize (lg_sl ([.int x0, .int x1]) ++ List.replicate (2 - (lg_sl ([.int x0, .int x1])).length) Slot.unset).toArray = ls at hl ⊢
  have hl : lv_has ls 2 [(0, .int x0), (1, .int x1)] := hl
  have hS : SP G s s.heap [] := va_S.rf
  replace hP : WP G h s.heap := hP
  rw [f_X8_has] at hf
  refine lv_iload_n hx hb dX8_has_0 rfl (lv_at hl 0 rfl) ?_
  refine lv_iload_n hx hb dX8_has_1 rfl (lv_at hl 1 rfl) ?_
  refine lv_ishr hx hb dX8_has_2 ?_
  refine lv_iconst (v := 1) hx hb dX8_has_3 (by decide) ?_
  refine lv_iand hx hb dX8_has_4 ?_
  refine lv_if_eq (tgt := 12) hx hb dX8_has_5 (by decide) (fun c5 => ?_) (fun c5 => ?_)
  · replace hf := if_t c5 hf
    refine lv_iconst (v := 0) hx hb dX8_has_12 (by decide) ?_
    exact r_zret hx hb hr rfl hlocks hP hS ⟨Option.some.inj hf, rfl⟩ dX8_has_13
  · replace hf := if_f c5 hf
    refine lv_iconst (v := 1) hx hb dX8_has_8 (by decide) ?_
    refine lv_goto (tgt := 13) hx hb dX8_has_9 (by decide) ?_
    exact r_zret hx hb hr rfl hlocks hP hS ⟨Option.some.inj hf, rfl⟩ dX8_has_13
/-! CarriedBack$Reader.needNew(III)I -/
abbrev rmX3_needNew : Room := { frames := 2, cells := 0, slots := 0, locals := 44 }
abbrev vX3_needNew : List Cond := Cond.code yX3_needNew cX3_needNew 4 (some .int) :: GW
def f_X3_needNew_39 (h : PH) : Option (Int32 × PH) := bO (f_X3_step h) (fun h40 => some ((h40.1 3 5), h40))
set_option maxHeartbeats 4000000 in
set_option maxRecDepth 100000 in
theorem w_X3_needNew_39 {l : Launch} {G : GC} (hG : GOK G) {rr : Int32} {hh : PH} {p : Program} {e : Env} {s : State} {m : MethodId} {args : Array Value} {below : List Frame} {meth : Method} {c : Code} (C : MC l G p s m args meth c RX3 cX3_needNew 4 (some .int)) : ∀ (h : PH) (H : Heap) (locs : List Loc) (ls : Array Slot), lv_has ls 4 [(0, .ref (gB G 3))] → WP G h H → SP G s H locs → f_X3_needNew_39 h = some (rr, hh) → W p l e rmX3_needNew s m args below meth c H locs 0 0 (MQ below (QI G rr hh) args s 0 0 (gA G)) (F0 m 39 ls []) := by
  obtain ⟨hx, hb, hr, hlocks, hml, hown, hts, hK⟩ := id C
  intro h H locs ls hl hP hS hf
  rw [f_X3_needNew_39] at hf
  refine lv_aload_n hx hb dX3_needNew_39 rfl (lv_at hl 0 rfl) ?_
  obtain ⟨h40, eh40, hf⟩ := bO_s hf
  refine r_callV (va_runV (As := []) (rest := []) ⟨hx, hb, hml, hown, hts⟩ (k_X3_step l hG eh40) (cwV 0 hts (gV wd421 wd422 wd423 wd75 wd424) rfl rfl rfl (by decide +kernel) ⟨Nat.le_of_ble_eq_true rfl, Nat.le_of_ble_eq_true rfl⟩) (r_pv hK hP hS (ltX3 rfl) (ceX3 rfl) rfl) rfl rfl hl.1 rfl (lv_room (Nat.le_of_ble_eq_true rfl)) dX3_needNew_40 ⟨Nat.le_of_ble_eq_true rfl, Nat.le_of_ble_eq_true rfl⟩) hS (fun H locs hP hS => ?_)
  refine lv_aload_n hx hb dX3_needNew_43 rfl (lv_at hl 0 rfl) ?_
  refine r_get (a := 3) (v := .int (h40.1 3 5)) (C := RX3) (T := TX3) (N := 8) hx hb hts hinX3 hown hK hP (ltX3 rfl) (ceX3 rfl) rfl 5 (by decide) wd126 rfl dX3_needNew_44 ?_
  exact r_iret hx hb hr hlocks hP hS (re2 (Option.some.inj hf)) dX3_needNew_47
def f_X3_needNew (x1 : Int32) (x2 : Int32) (x3 : Int32) (h : PH) : Option (Int32 × PH) := bP (f_X3_fits x1 x2 h) (fun r3 h3 => if r3 = 0 then (some ((-1), h3)) else (if (16 : Int32) ≤ (h3.1 3 5) then (f_X3_needNew_39 h3) else (bO (f_X8_has x3 (h3.1 3 5)) (fun r25 => if r25 = 0 then (f_X3_needNew_39 h3) else (bP (f_X3_refuse 4 h3) (fun r33 h33 => some ((-1), h33)))))))
set_option maxHeartbeats 4000000 in
set_option maxRecDepth 100000 in
theorem k_X3_needNew (l : Launch) {G : GC} (hG : GOK G) {x1 : Int32} {x2 : Int32} {x3 : Int32} {rr : Int32} {h hh : PH} (hf : f_X3_needNew x1 x2 x3 h = some (rr, hh)) : CI l yX3_needNew vX3_needNew rmX3_needNew G [.ref (gB G 3), .int x1, .int x2, .int x3] h rr hh := by
  refine Met.ofW (cc := cX3_needNew) (maxL := 4) (ret := (some .int)) (by decide +kernel) rfl ?_
  intro p e s m args below meth c s₁ B hml hv
  obtain ⟨rfl, hP, hK⟩ := hv
  have C : MC l G p s m _ meth c RX3 cX3_needNew 4 (some .int) := ⟨B.exec, B.bytes, B.returns, B.notSynchronized, hml, findClass_of_methodNamed B.named, fun w hw => atoms_spec (ws := vX3_needNew) B.pre w (List.mem_cons_of_mem _ hw), hK⟩
  obtain ⟨hx, hb, hr, hlocks, -, hown, hts, -⟩ := id C
  have hl := lv_entry ([.ref (gB G 3), .int x1, .int x2, .int x3]) (n := 4) (Nat.le_of_ble_eq_true rfl)
  rw [lg_entry_eq]
  generalize (lg_sl ([.ref (gB G 3), .int x1, .int x2, .int x3]) ++ List.replicate (4 - (lg_sl ([.ref (gB G 3), .int x1, .int x2, .int x3])).length) Slot.unset).toArray = ls at hl ⊢
  have hl : lv_has ls 4 [(0, .ref (gB G 3)), (1, .int x1), (2, .int x2), (3, .int x3)] := hl
  have hS : SP G s s.heap [] := va_S.rf
  replace hP : WP G h s.heap := hP
  rw [f_X3_needNew] at hf
  refine lv_aload_n hx hb dX3_needNew_0 rfl (lv_at hl 0 rfl) ?_
  refine lv_iload_n hx hb dX3_needNew_1 rfl (lv_at hl 1 rfl) ?_
  refine lv_iload_n hx hb dX3_needNew_2 rfl (lv_at hl 2 rfl) ?_
  obtain ⟨r3, h3, er3, hf⟩ := bP_s hf
  refine r_callI (va_runV (As := [.int x1, .int x2]) (rest := []) ⟨hx, hb, hml, hown, hts⟩ (k_X3_fits l hG er3) (cwV 2 hts (gV wd516 wd518 wd3 wd75 wd519) rfl rfl rfl (by decide +kernel) ⟨Nat.le_of_ble_eq_true rfl, Nat.le_of_ble_eq_true rfl⟩) (r_pv hK hP hS (ltX3 rfl) (ceX3 rfl) rfl) rfl rfl hl.1 rfl (lv_room (Nat.le_of_ble_eq_true rfl)) dX3_needNew_3 ⟨Nat.le_of_ble_eq_true rfl, Nat.le_of_ble_eq_true rfl⟩) hS (fun H locs hP hS => ?_)
  refine lv_if_ne (tgt := 11) hx hb dX3_needNew_6 (by decide) (fun c6 => ?_) (fun c6 => ?_)
  · replace hf := if_f c6 hf
    refine lv_aload_n hx hb dX3_needNew_11 rfl (lv_at hl 0 rfl) ?_
    refine r_get (a := 3) (v := .int (h3.1 3 5)) (C := RX3) (T := TX3) (N := 8) hx hb hts hinX3 hown hK hP (ltX3 rfl) (ceX3 rfl) rfl 5 (by decide) wd126 rfl dX3_needNew_12 ?_
    refine lv_bipush (v := 16) hx hb dX3_needNew_15 (by decide) ?_
    refine lv_icmp_ge (tgt := 39) hx hb dX3_needNew_17 (by decide) (fun c17 => ?_) (fun c17 => ?_)
    · replace hf := if_t c17 hf
      exact w_X3_needNew_39 hG C h3 _ _ _ (lv_sub hl [0] rfl) hP hS hf
    · replace hf := if_f c17 hf
      refine lv_iload_n hx hb dX3_needNew_20 rfl (lv_at hl 3 rfl) ?_
      refine lv_aload_n hx hb dX3_needNew_21 rfl (lv_at hl 0 rfl) ?_
      refine r_get (a := 3) (v := .int (h3.1 3 5)) (C := RX3) (T := TX3) (N := 8) hx hb hts hinX3 hown hK hP (ltX3 rfl) (ceX3 rfl) rfl 5 (by decide) wd126 rfl dX3_needNew_22 ?_
      obtain ⟨r25, er25, hf⟩ := bO_s hf
      refine r_callI (va_runSN (As := [.int x3, .int (h3.1 3 5)]) (rest := []) ⟨hx, hb, hml, hown, hts⟩ (k_X8_has l hG (h := h3) er25) ⟨va_cnB 2 hts (gC wd523) rfl rfl rfl (host := "CarriedBack") (hK.2.1 _ (by decide +kernel)) (hts _ wd73) (by decide +kernel) ⟨Nat.le_of_ble_eq_true rfl, Nat.le_of_ble_eq_true rfl⟩, hts _ wd522, trivial⟩ (r_ps hK hP hS) rfl rfl hl.1 rfl (lv_room (Nat.le_of_ble_eq_true rfl)) dX3_needNew_25 ⟨Nat.le_of_ble_eq_true rfl, Nat.le_of_ble_eq_true rfl⟩) hS (fun H locs hP hS => ?_)
      refine lv_if_eq (tgt := 39) hx hb dX3_needNew_28 (by decide) (fun c28 => ?_) (fun c28 => ?_)
      · replace hf := if_t c28 hf
        exact w_X3_needNew_39 hG C h3 _ _ _ (lv_sub hl [0] rfl) hP hS hf
      · replace hf := if_f c28 hf
        refine lv_aload_n hx hb dX3_needNew_31 rfl (lv_at hl 0 rfl) ?_
        refine lv_iconst (v := 4) hx hb dX3_needNew_32 (by decide) ?_
        obtain ⟨r33, h33, er33, hf⟩ := bP_s hf
        refine r_callI (va_runV (As := [.int 4]) (rest := []) ⟨hx, hb, hml, hown, hts⟩ (k_X3_refuse l hG er33) (cwV 1 hts (gV wd520 wd494 wd495 wd75 wd496) rfl rfl rfl (by decide +kernel) ⟨Nat.le_of_ble_eq_true rfl, Nat.le_of_ble_eq_true rfl⟩) (r_pv hK hP hS (ltX3 rfl) (ceX3 rfl) rfl) rfl rfl hl.1 rfl (lv_room (Nat.le_of_ble_eq_true rfl)) dX3_needNew_33 ⟨Nat.le_of_ble_eq_true rfl, Nat.le_of_ble_eq_true rfl⟩) hS (fun H locs hP hS => ?_)
        refine lv_pop hx hb dX3_needNew_36 rfl ?_
        refine lv_iconst (v := (-1)) hx hb dX3_needNew_37 (by decide) ?_
        exact r_iret hx hb hr hlocks hP hS (re2 (Option.some.inj hf)) dX3_needNew_38
  · replace hf := if_t c6 hf
    refine lv_iconst (v := (-1)) hx hb dX3_needNew_9 (by decide) ?_
    exact r_iret hx hb hr hlocks hP hS (re2 (Option.some.inj hf)) dX3_needNew_10
/-! CarriedBack$Reader.needNumber(II)I -/
abbrev rmX3_needNumber : Room := { frames := 2, cells := 0, slots := 0, locals := 44 }
abbrev vX3_needNumber : List Cond := Cond.code yX3_needNumber cX3_needNumber 3 (some .int) :: GW
def f_X3_needNumber (x1 : Int32) (x2 : Int32) (h : PH) : Option (Int32 × PH) := bP (f_X3_fits x1 x2 h) (fun r3 h3 => if r3 = 0 then (some ((-1), h3)) else (bO (f_X3_step h3) (fun h12 => some ((h12.1 3 5), h12))))
set_option maxHeartbeats 4000000 in
set_option maxRecDepth 100000 in
theorem k_X3_needNumber (l : Launch) {G : GC} (hG : GOK G) {x1 : Int32} {x2 : Int32} {rr : Int32} {h hh : PH} (hf : f_X3_needNumber x1 x2 h = some (rr, hh)) : CI l yX3_needNumber vX3_needNumber rmX3_needNumber G [.ref (gB G 3), .int x1, .int x2] h rr hh := by
  refine Met.ofW (cc := cX3_needNumber) (maxL := 3) (ret := (some .int)) (by decide +kernel) rfl ?_
  intro p e s m args below meth c s₁ B hml hv
  obtain ⟨rfl, hP, hK⟩ := hv
  have C : MC l G p s m _ meth c RX3 cX3_needNumber 3 (some .int) := ⟨B.exec, B.bytes, B.returns, B.notSynchronized, hml, findClass_of_methodNamed B.named, fun w hw => atoms_spec (ws := vX3_needNumber) B.pre w (List.mem_cons_of_mem _ hw), hK⟩
  obtain ⟨hx, hb, hr, hlocks, -, hown, hts, -⟩ := id C
  have hl := lv_entry ([.ref (gB G 3), .int x1, .int x2]) (n := 3) (Nat.le_of_ble_eq_true rfl)
  rw [lg_entry_eq]
  generalize (lg_sl ([.ref (gB G 3), .int x1, .int x2]) ++ List.replicate (3 - (lg_sl ([.ref (gB G 3), .int x1, .int x2])).length) Slot.unset).toArray = ls at hl ⊢
  have hl : lv_has ls 3 [(0, .ref (gB G 3)), (1, .int x1), (2, .int x2)] := hl
  have hS : SP G s s.heap [] := va_S.rf
  replace hP : WP G h s.heap := hP
  rw [f_X3_needNumber] at hf
  refine lv_aload_n hx hb dX3_needNumber_0 rfl (lv_at hl 0 rfl) ?_
  refine lv_iload_n hx hb dX3_needNumber_1 rfl (lv_at hl 1 rfl) ?_
  refine lv_iload_n hx hb dX3_needNumber_2 rfl (lv_at hl 2 rfl) ?_
  obtain ⟨r3, h3, er3, hf⟩ := bP_s hf
  refine r_callI (va_runV (As := [.int x1, .int x2]) (rest := []) ⟨hx, hb, hml, hown, hts⟩ (k_X3_fits l hG er3) (cwV 2 hts (gV wd516 wd518 wd3 wd75 wd519) rfl rfl rfl (by decide +kernel) ⟨Nat.le_of_ble_eq_true rfl, Nat.le_of_ble_eq_true rfl⟩) (r_pv hK hP hS (ltX3 rfl) (ceX3 rfl) rfl) rfl rfl hl.1 rfl (lv_room (Nat.le_of_ble_eq_true rfl)) dX3_needNumber_3 ⟨Nat.le_of_ble_eq_true rfl, Nat.le_of_ble_eq_true rfl⟩) hS (fun H locs hP hS => ?_)
  refine lv_if_ne (tgt := 11) hx hb dX3_needNumber_6 (by decide) (fun c6 => ?_) (fun c6 => ?_)
  · replace hf := if_f c6 hf
    refine lv_aload_n hx hb dX3_needNumber_11 rfl (lv_at hl 0 rfl) ?_
    obtain ⟨h12, eh12, hf⟩ := bO_s hf
    refine r_callV (va_runV (As := []) (rest := []) ⟨hx, hb, hml, hown, hts⟩ (k_X3_step l hG eh12) (cwV 0 hts (gV wd421 wd422 wd423 wd75 wd424) rfl rfl rfl (by decide +kernel) ⟨Nat.le_of_ble_eq_true rfl, Nat.le_of_ble_eq_true rfl⟩) (r_pv hK hP hS (ltX3 rfl) (ceX3 rfl) rfl) rfl rfl hl.1 rfl (lv_room (Nat.le_of_ble_eq_true rfl)) dX3_needNumber_12 ⟨Nat.le_of_ble_eq_true rfl, Nat.le_of_ble_eq_true rfl⟩) hS (fun H locs hP hS => ?_)
    refine lv_aload_n hx hb dX3_needNumber_15 rfl (lv_at hl 0 rfl) ?_
    refine r_get (a := 3) (v := .int (h12.1 3 5)) (C := RX3) (T := TX3) (N := 8) hx hb hts hinX3 hown hK hP (ltX3 rfl) (ceX3 rfl) rfl 5 (by decide) wd126 rfl dX3_needNumber_16 ?_
    exact r_iret hx hb hr hlocks hP hS (re2 (Option.some.inj hf)) dX3_needNumber_19
  · replace hf := if_t c6 hf
    refine lv_iconst (v := (-1)) hx hb dX3_needNumber_9 (by decide) ?_
    exact r_iret hx hb hr hlocks hP hS (re2 (Option.some.inj hf)) dX3_needNumber_10
/-! CarriedBack$Reader.isSign(C)Z -/
abbrev rmX3_isSign : Room := { frames := 0, cells := 0, slots := 0, locals := 0 }
abbrev vX3_isSign : List Cond := Cond.code yX3_isSign cX3_isSign 2 (some .boolean) :: GW
def f_X3_isSign (x1 : Int32) (h : PH) : Option (Int32 × PH) := if (h.1 3 2) = 3 then (bO (ag h 2 500 (h.1 3 3)) (fun v19 => if v19 = x1 then (some (1, h)) else (some (0, h)))) else (some (0, h))
set_option maxHeartbeats 4000000 in
set_option maxRecDepth 100000 in
theorem k_X3_isSign (l : Launch) {G : GC} (hG : GOK G) {x1 : Int32} {rr : Int32} {h hh : PH} (hf : f_X3_isSign x1 h = some (rr, hh)) : CI l yX3_isSign vX3_isSign rmX3_isSign G [.ref (gB G 3), .int x1] h rr hh := by
  refine Met.ofW (cc := cX3_isSign) (maxL := 2) (ret := (some .boolean)) (by decide +kernel) rfl ?_
  intro p e s m args below meth c s₁ B hml hv
  obtain ⟨rfl, hP, hK⟩ := hv
  have C : MC l G p s m _ meth c RX3 cX3_isSign 2 (some .boolean) := ⟨B.exec, B.bytes, B.returns, B.notSynchronized, hml, findClass_of_methodNamed B.named, fun w hw => atoms_spec (ws := vX3_isSign) B.pre w (List.mem_cons_of_mem _ hw), hK⟩
  obtain ⟨hx, hb, hr, hlocks, -, hown, hts, -⟩ := id C
  have hl := lv_entry ([.ref (gB G 3), .int x1]) (n := 2) (Nat.le_of_ble_eq_true rfl)
  rw [lg_entry_eq]
  generalize (lg_sl ([.ref (gB G 3), .int x1]) ++ List.replicate (2 - (lg_sl ([.ref (gB G 3), .int x1])).length) Slot.unset).toArray = ls at hl ⊢
  have hl : lv_has ls 2 [(0, .ref (gB G 3)), (1, .int x1)] := hl
  have hS : SP G s s.heap [] := va_S.rf
  replace hP : WP G h s.heap := hP
  rw [f_X3_isSign] at hf
  refine lv_aload_n hx hb dX3_isSign_0 rfl (lv_at hl 0 rfl) ?_
  refine r_get (a := 3) (v := .int (h.1 3 2)) (C := RX3) (T := TX3) (N := 8) hx hb hts hinX3 hown hK hP (ltX3 rfl) (ceX3 rfl) rfl 2 (by decide) wd123 rfl dX3_isSign_1 ?_
  refine lv_iconst (v := 3) hx hb dX3_isSign_4 (by decide) ?_
  refine lv_icmp_ne (tgt := 28) hx hb dX3_isSign_5 (by decide) (fun c5 => ?_) (fun c5 => ?_)
  · replace hf := if_f c5 hf
    refine lv_iconst (v := 0) hx hb dX3_isSign_28 (by decide) ?_
    exact r_zret hx hb hr rfl hlocks hP hS (re2 (Option.some.inj hf)) dX3_isSign_29
  · replace hf := if_t c5 hf
    refine lv_aload_n hx hb dX3_isSign_8 rfl (lv_at hl 0 rfl) ?_
    refine r_get (a := 3) (v := .ref (gB G 1)) (C := RX3) (T := TX3) (N := 8) hx hb hts hinX3 hown hK hP (ltX3 rfl) (ceX3 rfl) rfl 0 (by decide) wd121 rfl dX3_isSign_9 ?_
    refine r_get (a := 1) (v := .ref (gB G 2)) (C := RX6) (T := TX6) (N := 2) hx hb hts hinX6 hown hK hP (ltX6 rfl) (ceX6 rfl) rfl 0 (by decide) wd105 rfl dX3_isSign_12 ?_
    refine lv_aload_n hx hb dX3_isSign_15 rfl (lv_at hl 0 rfl) ?_
    refine r_get (a := 3) (v := .int (h.1 3 3)) (C := RX3) (T := TX3) (N := 8) hx hb hts hinX3 hown hK hP (ltX3 rfl) (ceX3 rfl) rfl 3 (by decide) wd124 rfl dX3_isSign_16 ?_
    obtain ⟨v19, ev19, hf⟩ := bO_s hf
    refine r_iald hx hb hK hP (arX6_0 rfl) ev19 dX3_isSign_19 ?_
    refine lv_iload_n hx hb dX3_isSign_20 rfl (lv_at hl 1 rfl) ?_
    refine lv_icmp_ne (tgt := 28) hx hb dX3_isSign_21 (by decide) (fun c21 => ?_) (fun c21 => ?_)
    · replace hf := if_f c21 hf
      refine lv_iconst (v := 0) hx hb dX3_isSign_28 (by decide) ?_
      exact r_zret hx hb hr rfl hlocks hP hS (re2 (Option.some.inj hf)) dX3_isSign_29
    · replace hf := if_t c21 hf
      refine lv_iconst (v := 1) hx hb dX3_isSign_24 (by decide) ?_
      refine lv_goto (tgt := 29) hx hb dX3_isSign_25 (by decide) ?_
      exact r_zret hx hb hr rfl hlocks hP hS (re2 (Option.some.inj hf)) dX3_isSign_29
/-! CarriedBack$Reader.takeSign(C)Z -/
abbrev rmX3_takeSign : Room := { frames := 2, cells := 0, slots := 0, locals := 42 }
abbrev vX3_takeSign : List Cond := Cond.code yX3_takeSign cX3_takeSign 2 (some .boolean) :: GW
def f_X3_takeSign (x1 : Int32) (h : PH) : Option (Int32 × PH) := bP (f_X3_isSign x1 h) (fun r2 h2 => if r2 = 0 then (some (0, h2)) else (bO (f_X3_step h2) (fun h11 => some (1, h11))))
set_option maxHeartbeats 4000000 in
set_option maxRecDepth 100000 in
theorem k_X3_takeSign (l : Launch) {G : GC} (hG : GOK G) {x1 : Int32} {rr : Int32} {h hh : PH} (hf : f_X3_takeSign x1 h = some (rr, hh)) : CI l yX3_takeSign vX3_takeSign rmX3_takeSign G [.ref (gB G 3), .int x1] h rr hh := by
  refine Met.ofW (cc := cX3_takeSign) (maxL := 2) (ret := (some .boolean)) (by decide +kernel) rfl ?_
  intro p e s m args below meth c s₁ B hml hv
  obtain ⟨rfl, hP, hK⟩ := hv
  have C : MC l G p s m _ meth c RX3 cX3_takeSign 2 (some .boolean) := ⟨B.exec, B.bytes, B.returns, B.notSynchronized, hml, findClass_of_methodNamed B.named, fun w hw => atoms_spec (ws := vX3_takeSign) B.pre w (List.mem_cons_of_mem _ hw), hK⟩
  obtain ⟨hx, hb, hr, hlocks, -, hown, hts, -⟩ := id C
  have hl := lv_entry ([.ref (gB G 3), .int x1]) (n := 2) (Nat.le_of_ble_eq_true rfl)
  rw [lg_entry_eq]
  generalize (lg_sl ([.ref (gB G 3), .int x1]) ++ List.replicate (2 - (lg_sl ([.ref (gB G 3), .int x1])).length) Slot.unset).toArray = ls at hl ⊢
  have hl : lv_has ls 2 [(0, .ref (gB G 3)), (1, .int x1)] := hl
  have hS : SP G s s.heap [] := va_S.rf
  replace hP : WP G h s.heap := hP
  rw [f_X3_takeSign] at hf
  refine lv_aload_n hx hb dX3_takeSign_0 rfl (lv_at hl 0 rfl) ?_
  refine lv_iload_n hx hb dX3_takeSign_1 rfl (lv_at hl 1 rfl) ?_
  obtain ⟨r2, h2, er2, hf⟩ := bP_s hf
  refine r_callI (va_runV (As := [.int x1]) (rest := []) ⟨hx, hb, hml, hown, hts⟩ (k_X3_isSign l hG er2) (cwV 1 hts (gV wd532 wd534 wd4 wd75 wd535) rfl rfl rfl (by decide +kernel) ⟨Nat.le_of_ble_eq_true rfl, Nat.le_of_ble_eq_true rfl⟩) (r_pv hK hP hS (ltX3 rfl) (ceX3 rfl) rfl) rfl rfl hl.1 rfl (lv_room (Nat.le_of_ble_eq_true rfl)) dX3_takeSign_2 ⟨Nat.le_of_ble_eq_true rfl, Nat.le_of_ble_eq_true rfl⟩) hS (fun H locs hP hS => ?_)
  refine lv_if_ne (tgt := 10) hx hb dX3_takeSign_5 (by decide) (fun c5 => ?_) (fun c5 => ?_)
  · replace hf := if_f c5 hf
    refine lv_aload_n hx hb dX3_takeSign_10 rfl (lv_at hl 0 rfl) ?_
    obtain ⟨h11, eh11, hf⟩ := bO_s hf
    refine r_callV (va_runV (As := []) (rest := []) ⟨hx, hb, hml, hown, hts⟩ (k_X3_step l hG eh11) (cwV 0 hts (gV wd421 wd422 wd423 wd75 wd424) rfl rfl rfl (by decide +kernel) ⟨Nat.le_of_ble_eq_true rfl, Nat.le_of_ble_eq_true rfl⟩) (r_pv hK hP hS (ltX3 rfl) (ceX3 rfl) rfl) rfl rfl hl.1 rfl (lv_room (Nat.le_of_ble_eq_true rfl)) dX3_takeSign_11 ⟨Nat.le_of_ble_eq_true rfl, Nat.le_of_ble_eq_true rfl⟩) hS (fun H locs hP hS => ?_)
    refine lv_iconst (v := 1) hx hb dX3_takeSign_14 (by decide) ?_
    exact r_zret hx hb hr rfl hlocks hP hS (re2 (Option.some.inj hf)) dX3_takeSign_15
  · replace hf := if_t c5 hf
    refine lv_iconst (v := 0) hx hb dX3_takeSign_8 (by decide) ?_
    exact r_zret hx hb hr rfl hlocks hP hS (re2 (Option.some.inj hf)) dX3_takeSign_9
/-! CarriedBack$Trunk.readSettings(LCarriedBack$Reader;I)Z -/
abbrev rmX7_readSettings : Room := { frames := 3, cells := 0, slots := 0, locals := 67 }
abbrev vX7_readSettings : List Cond := Cond.code yX7_readSettings cX7_readSettings 6 (some .boolean) :: GW
def f_X7_readSettings_2 (a0 : Nat) (x2 : Int32) : Nat → Int32 → PH → Option (Int32 × PH)
  | 0, _, _ => none
  | n + 1, x3, h => if (16 : Int32) < x3 then (some (0, h)) else (bO (ag h (a0 + 1) 24 x2) (fun v17 => bP (f_X3_needNew 0 15 v17 h) (fun r18 h18 => if r18 = (-1) then (some (0, h18)) else (bP (f_X3_needNumber 1 99 h18) (fun r35 h35 => if r35 = (-1) then (some (0, h35)) else (bO (ag h35 (a0 + 1) 24 x2) (fun v54 => bO (asg h35 (a0 + 1) 24 x2 (v54 ||| (1 <<< (r18 &&& 31)))) (fun h60 => bO (asg h60 (a0 + 4) 384 ((x2 * 16) + r18) r35) (fun h74 => bP (f_X3_takeSign 44 h74) (fun r78 h78 => if r78 = 0 then (some (1, h78)) else ((f_X7_readSettings_2 a0 x2 n) (x3 + 1) h78)))))))))))
set_option maxHeartbeats 4000000 in
set_option maxRecDepth 100000 in
theorem w_X7_readSettings_2 {l : Launch} {G : GC} (hG : GOK G) {rr : Int32} {hh : PH} {p : Program} {e : Env} {s : State} {m : MethodId} {args : Array Value} {below : List Frame} {meth : Method} {c : Code} (C : MC l G p s m args meth c RX7 cX7_readSettings 6 (some .boolean)) (a0 : Nat) (ha0 : kdX7 a0) (x2 : Int32) : ∀ (n : Nat) (x3 : Int32) (h : PH) (H : Heap) (locs : List Loc) (ls : Array Slot), lv_has ls 6 [(0, .ref (gB G a0)), (1, .ref (gB G 3)), (2, .int x2), (3, .int x3)] → WP G h H → SP G s H locs → f_X7_readSettings_2 a0 x2 n x3 h = some (rr, hh) → W p l e rmX7_readSettings s m args below meth c H locs 0 0 (MQ below (QI G rr hh) args s 0 0 (gA G)) (F0 m 2 ls []) := by
  obtain ⟨hx, hb, hr, hlocks, hml, hown, hts, hK⟩ := id C
  intro n
  induction n with
  | zero => intro x3 h H locs ls hl hP hS hf; rw [f_X7_readSettings_2] at hf; cases hf
  | succ n ih =>
    intro x3 h H locs ls hl hP hS hf
    rw [f_X7_readSettings_2] at hf
    refine lv_iload_n hx hb dX7_readSettings_2 rfl (lv_at hl 3 rfl) ?_
    refine lv_bipush (v := 16) hx hb dX7_readSettings_3 (by decide) ?_
    refine lv_icmp_gt (tgt := 92) hx hb dX7_readSettings_5 (by decide) (fun c5 => ?_) (fun c5 => ?_)
    · replace hf := if_t c5 hf
      refine lv_iconst (v := 0) hx hb dX7_readSettings_92 (by decide) ?_
      exact r_zret hx hb hr rfl hlocks hP hS (re2 (Option.some.inj hf)) dX7_readSettings_93
    · replace hf := if_f c5 hf
      refine lv_aload_n hx hb dX7_readSettings_8 rfl (lv_at hl 1 rfl) ?_
      refine lv_iconst (v := 0) hx hb dX7_readSettings_9 (by decide) ?_
      refine lv_bipush (v := 15) hx hb dX7_readSettings_10 (by decide) ?_
      refine lv_aload_n hx hb dX7_readSettings_12 rfl (lv_at hl 0 rfl) ?_
      refine r_get (a := a0) (v := .ref (gB G (a0 + 1))) (C := RX7) (T := TX7) (N := 10) hx hb hts hinX7 hown hK hP (ltX7 ha0) (ceX7 ha0) rfl 1 (by decide) wd158 rfl dX7_readSettings_13 ?_
      refine lv_iload_n hx hb dX7_readSettings_16 rfl (lv_at hl 2 rfl) ?_
      obtain ⟨v17, ev17, hf⟩ := bO_s hf
      refine r_iald hx hb hK hP (arX7_1 ha0) ev17 dX7_readSettings_17 ?_
      obtain ⟨r18, h18, er18, hf⟩ := bP_s hf
      refine r_callI (va_runV (As := [.int 0, .int 15, .int v17]) (rest := []) ⟨hx, hb, hml, hown, hts⟩ (k_X3_needNew l hG er18) (cwV 3 hts (gV wd512 wd513 wd514 wd75 wd515) rfl rfl rfl (by decide +kernel) ⟨Nat.le_of_ble_eq_true rfl, Nat.le_of_ble_eq_true rfl⟩) (r_pv hK hP hS (ltX3 rfl) (ceX3 rfl) rfl) rfl rfl hl.1 rfl (lv_room (Nat.le_of_ble_eq_true rfl)) dX7_readSettings_18 ⟨Nat.le_of_ble_eq_true rfl, Nat.le_of_ble_eq_true rfl⟩) hS (fun H locs hP hS => ?_)
      refine lv_istore (lv' := [(4, .int r18), (0, .ref (gB G a0)), (1, .ref (gB G 3)), (2, .int x2), (3, .int x3)]) hx hb dX7_readSettings_21 hl (by decide) rfl (fun ls hl => ?_)
      refine lv_iload hx hb dX7_readSettings_23 (lv_at hl 0 rfl) ?_
      refine lv_iconst (v := (-1)) hx hb dX7_readSettings_25 (by decide) ?_
      refine lv_icmp_ne (tgt := 31) hx hb dX7_readSettings_26 (by decide) (fun c26 => ?_) (fun c26 => ?_)
      · replace hf := if_f c26 hf
        refine lv_aload_n hx hb dX7_readSettings_31 rfl (lv_at hl 2 rfl) ?_
        refine lv_iconst (v := 1) hx hb dX7_readSettings_32 (by decide) ?_
        refine lv_bipush (v := 99) hx hb dX7_readSettings_33 (by decide) ?_
        obtain ⟨r35, h35, er35, hf⟩ := bP_s hf
        refine r_callI (va_runV (As := [.int 1, .int 99]) (rest := []) ⟨hx, hb, hml, hown, hts⟩ (k_X3_needNumber l hG er35) (cwV 2 hts (gV wd524 wd525 wd526 wd75 wd527) rfl rfl rfl (by decide +kernel) ⟨Nat.le_of_ble_eq_true rfl, Nat.le_of_ble_eq_true rfl⟩) (r_pv hK hP hS (ltX3 rfl) (ceX3 rfl) rfl) rfl rfl hl.1 rfl (lv_room (Nat.le_of_ble_eq_true rfl)) dX7_readSettings_35 ⟨Nat.le_of_ble_eq_true rfl, Nat.le_of_ble_eq_true rfl⟩) hS (fun H locs hP hS => ?_)
        refine lv_istore (lv' := [(5, .int r35), (4, .int r18), (0, .ref (gB G a0)), (1, .ref (gB G 3)), (2, .int x2), (3, .int x3)]) hx hb dX7_readSettings_38 hl (by decide) rfl (fun ls hl => ?_)
        refine lv_iload hx hb dX7_readSettings_40 (lv_at hl 0 rfl) ?_
        refine lv_iconst (v := (-1)) hx hb dX7_readSettings_42 (by decide) ?_
        refine lv_icmp_ne (tgt := 48) hx hb dX7_readSettings_43 (by decide) (fun c43 => ?_) (fun c43 => ?_)
        · replace hf := if_f c43 hf
          refine lv_aload_n hx hb dX7_readSettings_48 rfl (lv_at hl 2 rfl) ?_
          refine r_get (a := a0) (v := .ref (gB G (a0 + 1))) (C := RX7) (T := TX7) (N := 10) hx hb hts hinX7 hown hK hP (ltX7 ha0) (ceX7 ha0) rfl 1 (by decide) wd158 rfl dX7_readSettings_49 ?_
          refine lv_iload_n hx hb dX7_readSettings_52 rfl (lv_at hl 4 rfl) ?_
          refine lv_dup2_11 hx hb dX7_readSettings_53 rfl rfl ?_
          obtain ⟨v54, ev54, hf⟩ := bO_s hf
          refine r_iald hx hb hK hP (arX7_1 ha0) ev54 dX7_readSettings_54 ?_
          refine lv_iconst (v := 1) hx hb dX7_readSettings_55 (by decide) ?_
          refine lv_iload hx hb dX7_readSettings_56 (lv_at hl 1 rfl) ?_
          refine lv_ishl hx hb dX7_readSettings_58 ?_
          refine lv_ior hx hb dX7_readSettings_59 ?_
          obtain ⟨h60, eh60, hf⟩ := bO_s hf
          refine r_iast hG hx hb hK hP hS (arX7_1 ha0) eh60 dX7_readSettings_60 (fun H locs hP hS => ?_)
          refine lv_aload_n hx hb dX7_readSettings_61 rfl (lv_at hl 2 rfl) ?_
          refine r_get (a := a0) (v := .ref (gB G (a0 + 4))) (C := RX7) (T := TX7) (N := 10) hx hb hts hinX7 hown hK hP (ltX7 ha0) (ceX7 ha0) rfl 4 (by decide) wd164 rfl dX7_readSettings_62 ?_
          refine lv_iload_n hx hb dX7_readSettings_65 rfl (lv_at hl 4 rfl) ?_
          refine lv_bipush (v := 16) hx hb dX7_readSettings_66 (by decide) ?_
          refine lv_imul hx hb dX7_readSettings_68 ?_
          refine lv_iload hx hb dX7_readSettings_69 (lv_at hl 1 rfl) ?_
          refine lv_iadd hx hb dX7_readSettings_71 ?_
          refine lv_iload hx hb dX7_readSettings_72 (lv_at hl 0 rfl) ?_
          obtain ⟨h74, eh74, hf⟩ := bO_s hf
          refine r_iast hG hx hb hK hP hS (arX7_4 ha0) eh74 dX7_readSettings_74 (fun H locs hP hS => ?_)
          refine lv_aload_n hx hb dX7_readSettings_75 rfl (lv_at hl 3 rfl) ?_
          refine lv_bipush (v := 44) hx hb dX7_readSettings_76 (by decide) ?_
          obtain ⟨r78, h78, er78, hf⟩ := bP_s hf
          refine r_callI (va_runV (As := [.int 44]) (rest := []) ⟨hx, hb, hml, hown, hts⟩ (k_X3_takeSign l hG er78) (cwV 1 hts (gV wd528 wd529 wd530 wd75 wd531) rfl rfl rfl (by decide +kernel) ⟨Nat.le_of_ble_eq_true rfl, Nat.le_of_ble_eq_true rfl⟩) (r_pv hK hP hS (ltX3 rfl) (ceX3 rfl) rfl) rfl rfl hl.1 rfl (lv_room (Nat.le_of_ble_eq_true rfl)) dX7_readSettings_78 ⟨Nat.le_of_ble_eq_true rfl, Nat.le_of_ble_eq_true rfl⟩) hS (fun H locs hP hS => ?_)
          refine lv_if_ne (tgt := 86) hx hb dX7_readSettings_81 (by decide) (fun c81 => ?_) (fun c81 => ?_)
          · replace hf := if_f c81 hf
            refine lv_iinc (v := (x3 + 1)) (lv' := [(3, .int (x3 + 1)), (5, .int r35), (4, .int r18), (0, .ref (gB G a0)), (1, .ref (gB G 3)), (2, .int x2)]) hx hb dX7_readSettings_86 hl (k := 5) rfl rfl (by decide) rfl (fun ls hl => ?_)
            refine lv_goto (tgt := 2) hx hb dX7_readSettings_89 (by decide) ?_
            exact ih (x3 + 1) h78 _ _ _ (lv_sub hl [3, 4, 5, 0] rfl) hP hS hf
          · replace hf := if_t c81 hf
            refine lv_iconst (v := 1) hx hb dX7_readSettings_84 (by decide) ?_
            exact r_zret hx hb hr rfl hlocks hP hS (re2 (Option.some.inj hf)) dX7_readSettings_85
        · replace hf := if_t c43 hf
          refine lv_iconst (v := 0) hx hb dX7_readSettings_46 (by decide) ?_
          exact r_zret hx hb hr rfl hlocks hP hS (re2 (Option.some.inj hf)) dX7_readSettings_47
      · replace hf := if_t c26 hf
        refine lv_iconst (v := 0) hx hb dX7_readSettings_29 (by decide) ?_
        exact r_zret hx hb hr rfl hlocks hP hS (re2 (Option.some.inj hf)) dX7_readSettings_30
def f_X7_readSettings (a0 : Nat) (x2 : Int32) (h : PH) : Option (Int32 × PH) := f_X7_readSettings_2 a0 x2 FU 0 h
set_option maxHeartbeats 4000000 in
set_option maxRecDepth 100000 in
theorem k_X7_readSettings (l : Launch) {G : GC} (hG : GOK G) (a0 : Nat) (ha0 : kdX7 a0) {x2 : Int32} {rr : Int32} {h hh : PH} (hf : f_X7_readSettings a0 x2 h = some (rr, hh)) : CI l yX7_readSettings vX7_readSettings rmX7_readSettings G [.ref (gB G a0), .ref (gB G 3), .int x2] h rr hh := by
  refine Met.ofW (cc := cX7_readSettings) (maxL := 6) (ret := (some .boolean)) (by decide +kernel) rfl ?_
  intro p e s m args below meth c s₁ B hml hv
  obtain ⟨rfl, hP, hK⟩ := hv
  have C : MC l G p s m _ meth c RX7 cX7_readSettings 6 (some .boolean) := ⟨B.exec, B.bytes, B.returns, B.notSynchronized, hml, findClass_of_methodNamed B.named, fun w hw => atoms_spec (ws := vX7_readSettings) B.pre w (List.mem_cons_of_mem _ hw), hK⟩
  obtain ⟨hx, hb, hr, hlocks, -, hown, hts, -⟩ := id C
  have hl := lv_entry ([.ref (gB G a0), .ref (gB G 3), .int x2]) (n := 6) (Nat.le_of_ble_eq_true rfl)
  rw [lg_entry_eq]
  generalize (lg_sl ([.ref (gB G a0), .ref (gB G 3), .int x2]) ++ List.replicate (6 - (lg_sl ([.ref (gB G a0), .ref (gB G 3), .int x2])).length) Slot.unset).toArray = ls at hl ⊢
  have hl : lv_has ls 6 [(0, .ref (gB G a0)), (1, .ref (gB G 3)), (2, .int x2)] := hl
  have hS : SP G s s.heap [] := va_S.rf
  replace hP : WP G h s.heap := hP
  rw [f_X7_readSettings] at hf
  refine lv_iconst (v := 0) hx hb dX7_readSettings_0 (by decide) ?_
  refine lv_istore_n (lv' := [(3, .int 0), (0, .ref (gB G a0)), (1, .ref (gB G 3)), (2, .int x2)]) hx hb dX7_readSettings_1 rfl hl (by decide) rfl (fun ls hl => ?_)
  exact w_X7_readSettings_2 hG C a0 ha0 x2 FU 0 h _ _ _ (lv_sub hl [1, 2, 3, 0] rfl) hP hS hf
/-! CarriedBack$Trunk.readReads(LCarriedBack$Reader;I)Z -/
abbrev rmX7_readReads : Room := { frames := 3, cells := 0, slots := 0, locals := 67 }
abbrev vX7_readReads : List Cond := Cond.code yX7_readReads cX7_readReads 5 (some .boolean) :: GW
def f_X7_readReads_2 (a0 : Nat) (x2 : Int32) : Nat → Int32 → PH → Option (Int32 × PH)
  | 0, _, _ => none
  | n + 1, x3, h => if (16 : Int32) < x3 then (some (0, h)) else (bO (ag h (a0 + 2) 24 x2) (fun v17 => bP (f_X3_needNew 0 15 v17 h) (fun r18 h18 => if r18 = (-1) then (some (0, h18)) else (bO (ag h18 (a0 + 2) 24 x2) (fun v37 => bO (asg h18 (a0 + 2) 24 x2 (v37 ||| (1 <<< (r18 &&& 31)))) (fun h43 => bP (f_X3_takeSign 44 h43) (fun r47 h47 => if r47 = 0 then (some (1, h47)) else ((f_X7_readReads_2 a0 x2 n) (x3 + 1) h47))))))))
set_option maxHeartbeats 4000000 in
set_option maxRecDepth 100000 in
theorem w_X7_readReads_2 {l : Launch} {G : GC} (hG : GOK G) {rr : Int32} {hh : PH} {p : Program} {e : Env} {s : State} {m : MethodId} {args : Array Value} {below : List Frame} {meth : Method} {c : Code} (C : MC l G p s m args meth c RX7 cX7_readReads 5 (some .boolean)) (a0 : Nat) (ha0 : kdX7 a0) (x2 : Int32) : ∀ (n : Nat) (x3 : Int32) (h : PH) (H : Heap) (locs : List Loc) (ls : Array Slot), lv_has ls 5 [(0, .ref (gB G a0)), (1, .ref (gB G 3)), (2, .int x2), (3, .int x3)] → WP G h H → SP G s H locs → f_X7_readReads_2 a0 x2 n x3 h = some (rr, hh) → W p l e rmX7_readReads s m args below meth c H locs 0 0 (MQ below (QI G rr hh) args s 0 0 (gA G)) (F0 m 2 ls []) := by
  obtain ⟨hx, hb, hr, hlocks, hml, hown, hts, hK⟩ := id C
  intro n
  induction n with
  | zero => intro x3 h H locs ls hl hP hS hf; rw [f_X7_readReads_2] at hf; cases hf
  | succ n ih =>
    intro x3 h H locs ls hl hP hS hf
    rw [f_X7_readReads_2] at hf
    refine lv_iload_n hx hb dX7_readReads_2 rfl (lv_at hl 3 rfl) ?_
    refine lv_bipush (v := 16) hx hb dX7_readReads_3 (by decide) ?_
    refine lv_icmp_gt (tgt := 61) hx hb dX7_readReads_5 (by decide) (fun c5 => ?_) (fun c5 => ?_)
    · replace hf := if_t c5 hf
      refine lv_iconst (v := 0) hx hb dX7_readReads_61 (by decide) ?_
      exact r_zret hx hb hr rfl hlocks hP hS (re2 (Option.some.inj hf)) dX7_readReads_62
    · replace hf := if_f c5 hf
      refine lv_aload_n hx hb dX7_readReads_8 rfl (lv_at hl 1 rfl) ?_
      refine lv_iconst (v := 0) hx hb dX7_readReads_9 (by decide) ?_
      refine lv_bipush (v := 15) hx hb dX7_readReads_10 (by decide) ?_
      refine lv_aload_n hx hb dX7_readReads_12 rfl (lv_at hl 0 rfl) ?_
      refine r_get (a := a0) (v := .ref (gB G (a0 + 2))) (C := RX7) (T := TX7) (N := 10) hx hb hts hinX7 hown hK hP (ltX7 ha0) (ceX7 ha0) rfl 2 (by decide) wd160 rfl dX7_readReads_13 ?_
      refine lv_iload_n hx hb dX7_readReads_16 rfl (lv_at hl 2 rfl) ?_
      obtain ⟨v17, ev17, hf⟩ := bO_s hf
      refine r_iald hx hb hK hP (arX7_2 ha0) ev17 dX7_readReads_17 ?_
      obtain ⟨r18, h18, er18, hf⟩ := bP_s hf
      refine r_callI (va_runV (As := [.int 0, .int 15, .int v17]) (rest := []) ⟨hx, hb, hml, hown, hts⟩ (k_X3_needNew l hG er18) (cwV 3 hts (gV wd512 wd513 wd514 wd75 wd515) rfl rfl rfl (by decide +kernel) ⟨Nat.le_of_ble_eq_true rfl, Nat.le_of_ble_eq_true rfl⟩) (r_pv hK hP hS (ltX3 rfl) (ceX3 rfl) rfl) rfl rfl hl.1 rfl (lv_room (Nat.le_of_ble_eq_true rfl)) dX7_readReads_18 ⟨Nat.le_of_ble_eq_true rfl, Nat.le_of_ble_eq_true rfl⟩) hS (fun H locs hP hS => ?_)
      refine lv_istore (lv' := [(4, .int r18), (0, .ref (gB G a0)), (1, .ref (gB G 3)), (2, .int x2), (3, .int x3)]) hx hb dX7_readReads_21 hl (by decide) rfl (fun ls hl => ?_)
      refine lv_iload hx hb dX7_readReads_23 (lv_at hl 0 rfl) ?_
      refine lv_iconst (v := (-1)) hx hb dX7_readReads_25 (by decide) ?_
      refine lv_icmp_ne (tgt := 31) hx hb dX7_readReads_26 (by decide) (fun c26 => ?_) (fun c26 => ?_)
      · replace hf := if_f c26 hf
        refine lv_aload_n hx hb dX7_readReads_31 rfl (lv_at hl 1 rfl) ?_
        refine r_get (a := a0) (v := .ref (gB G (a0 + 2))) (C := RX7) (T := TX7) (N := 10) hx hb hts hinX7 hown hK hP (ltX7 ha0) (ceX7 ha0) rfl 2 (by decide) wd160 rfl dX7_readReads_32 ?_
        refine lv_iload_n hx hb dX7_readReads_35 rfl (lv_at hl 3 rfl) ?_
        refine lv_dup2_11 hx hb dX7_readReads_36 rfl rfl ?_
        obtain ⟨v37, ev37, hf⟩ := bO_s hf
        refine r_iald hx hb hK hP (arX7_2 ha0) ev37 dX7_readReads_37 ?_
        refine lv_iconst (v := 1) hx hb dX7_readReads_38 (by decide) ?_
        refine lv_iload hx hb dX7_readReads_39 (lv_at hl 0 rfl) ?_
        refine lv_ishl hx hb dX7_readReads_41 ?_
        refine lv_ior hx hb dX7_readReads_42 ?_
        obtain ⟨h43, eh43, hf⟩ := bO_s hf
        refine r_iast hG hx hb hK hP hS (arX7_2 ha0) eh43 dX7_readReads_43 (fun H locs hP hS => ?_)
        refine lv_aload_n hx hb dX7_readReads_44 rfl (lv_at hl 2 rfl) ?_
        refine lv_bipush (v := 44) hx hb dX7_readReads_45 (by decide) ?_
        obtain ⟨r47, h47, er47, hf⟩ := bP_s hf
        refine r_callI (va_runV (As := [.int 44]) (rest := []) ⟨hx, hb, hml, hown, hts⟩ (k_X3_takeSign l hG er47) (cwV 1 hts (gV wd528 wd529 wd530 wd75 wd531) rfl rfl rfl (by decide +kernel) ⟨Nat.le_of_ble_eq_true rfl, Nat.le_of_ble_eq_true rfl⟩) (r_pv hK hP hS (ltX3 rfl) (ceX3 rfl) rfl) rfl rfl hl.1 rfl (lv_room (Nat.le_of_ble_eq_true rfl)) dX7_readReads_47 ⟨Nat.le_of_ble_eq_true rfl, Nat.le_of_ble_eq_true rfl⟩) hS (fun H locs hP hS => ?_)
        refine lv_if_ne (tgt := 55) hx hb dX7_readReads_50 (by decide) (fun c50 => ?_) (fun c50 => ?_)
        · replace hf := if_f c50 hf
          refine lv_iinc (v := (x3 + 1)) (lv' := [(3, .int (x3 + 1)), (4, .int r18), (0, .ref (gB G a0)), (1, .ref (gB G 3)), (2, .int x2)]) hx hb dX7_readReads_55 hl (k := 4) rfl rfl (by decide) rfl (fun ls hl => ?_)
          refine lv_goto (tgt := 2) hx hb dX7_readReads_58 (by decide) ?_
          exact ih (x3 + 1) h47 _ _ _ (lv_sub hl [2, 3, 4, 0] rfl) hP hS hf
        · replace hf := if_t c50 hf
          refine lv_iconst (v := 1) hx hb dX7_readReads_53 (by decide) ?_
          exact r_zret hx hb hr rfl hlocks hP hS (re2 (Option.some.inj hf)) dX7_readReads_54
      · replace hf := if_t c26 hf
        refine lv_iconst (v := 0) hx hb dX7_readReads_29 (by decide) ?_
        exact r_zret hx hb hr rfl hlocks hP hS (re2 (Option.some.inj hf)) dX7_readReads_30
def f_X7_readReads (a0 : Nat) (x2 : Int32) (h : PH) : Option (Int32 × PH) := f_X7_readReads_2 a0 x2 FU 0 h
set_option maxHeartbeats 4000000 in
set_option maxRecDepth 100000 in
theorem k_X7_readReads (l : Launch) {G : GC} (hG : GOK G) (a0 : Nat) (ha0 : kdX7 a0) {x2 : Int32} {rr : Int32} {h hh : PH} (hf : f_X7_readReads a0 x2 h = some (rr, hh)) : CI l yX7_readReads vX7_readReads rmX7_readReads G [.ref (gB G a0), .ref (gB G 3), .int x2] h rr hh := by
  refine Met.ofW (cc := cX7_readReads) (maxL := 5) (ret := (some .boolean)) (by decide +kernel) rfl ?_
  intro p e s m args below meth c s₁ B hml hv
  obtain ⟨rfl, hP, hK⟩ := hv
  have C : MC l G p s m _ meth c RX7 cX7_readReads 5 (some .boolean) := ⟨B.exec, B.bytes, B.returns, B.notSynchronized, hml, findClass_of_methodNamed B.named, fun w hw => atoms_spec (ws := vX7_readReads) B.pre w (List.mem_cons_of_mem _ hw), hK⟩
  obtain ⟨hx, hb, hr, hlocks, -, hown, hts, -⟩ := id C
  have hl := lv_entry ([.ref (gB G a0), .ref (gB G 3), .int x2]) (n := 5) (Nat.le_of_ble_eq_true rfl)
  rw [lg_entry_eq]
  generalize (lg_sl ([.ref (gB G a0), .ref (gB G 3), .int x2]) ++ List.replicate (5 - (lg_sl ([.ref (gB G a0), .ref (gB G 3), .int x2])).length) Slot.unset).toArray = ls at hl ⊢
  have hl : lv_has ls 5 [(0, .ref (gB G a0)), (1, .ref (gB G 3)), (2, .int x2)] := hl
  have hS : SP G s s.heap [] := va_S.rf
  replace hP : WP G h s.heap := hP
  rw [f_X7_readReads] at hf
  refine lv_iconst (v := 0) hx hb dX7_readReads_0 (by decide) ?_
  refine lv_istore_n (lv' := [(3, .int 0), (0, .ref (gB G a0)), (1, .ref (gB G 3)), (2, .int x2)]) hx hb dX7_readReads_1 rfl hl (by decide) rfl (fun ls hl => ?_)
  exact w_X7_readReads_2 hG C a0 ha0 x2 FU 0 h _ _ _ (lv_sub hl [1, 2, 3, 0] rfl) hP hS hf
/-! CarriedBack$Reader.needSign(C)Z -/
abbrev rmX3_needSign : Room := { frames := 3, cells := 0, slots := 0, locals := 63 }
abbrev vX3_needSign : List Cond := Cond.code yX3_needSign cX3_needSign 2 (some .boolean) :: GW
def f_X3_needSign (x1 : Int32) (h : PH) : Option (Int32 × PH) := bP (f_X3_takeSign x1 h) (fun r2 h2 => if r2 = 0 then (bP (f_X3_refuse 1 h2) (fun r10 h10 => if r10 = 0 then (some (0, h10)) else (some (1, h10)))) else (some (1, h2)))
set_option maxHeartbeats 4000000 in
set_option maxRecDepth 100000 in
theorem k_X3_needSign (l : Launch) {G : GC} (hG : GOK G) {x1 : Int32} {rr : Int32} {h hh : PH} (hf : f_X3_needSign x1 h = some (rr, hh)) : CI l yX3_needSign vX3_needSign rmX3_needSign G [.ref (gB G 3), .int x1] h rr hh := by
  refine Met.ofW (cc := cX3_needSign) (maxL := 2) (ret := (some .boolean)) (by decide +kernel) rfl ?_
  intro p e s m args below meth c s₁ B hml hv
  obtain ⟨rfl, hP, hK⟩ := hv
  have C : MC l G p s m _ meth c RX3 cX3_needSign 2 (some .boolean) := ⟨B.exec, B.bytes, B.returns, B.notSynchronized, hml, findClass_of_methodNamed B.named, fun w hw => atoms_spec (ws := vX3_needSign) B.pre w (List.mem_cons_of_mem _ hw), hK⟩
  obtain ⟨hx, hb, hr, hlocks, -, hown, hts, -⟩ := id C
  have hl := lv_entry ([.ref (gB G 3), .int x1]) (n := 2) (Nat.le_of_ble_eq_true rfl)
  rw [lg_entry_eq]
  generalize (lg_sl ([.ref (gB G 3), .int x1]) ++ List.replicate (2 - (lg_sl ([.ref (gB G 3), .int x1])).length) Slot.unset).toArray = ls at hl ⊢
  have hl : lv_has ls 2 [(0, .ref (gB G 3)), (1, .int x1)] := hl
  have hS : SP G s s.heap [] := va_S.rf
  replace hP : WP G h s.heap := hP
  rw [f_X3_needSign] at hf
  refine lv_aload_n hx hb dX3_needSign_0 rfl (lv_at hl 0 rfl) ?_
  refine lv_iload_n hx hb dX3_needSign_1 rfl (lv_at hl 1 rfl) ?_
  obtain ⟨r2, h2, er2, hf⟩ := bP_s hf
  refine r_callI (va_runV (As := [.int x1]) (rest := []) ⟨hx, hb, hml, hown, hts⟩ (k_X3_takeSign l hG er2) (cwV 1 hts (gV wd546 wd529 wd530 wd75 wd531) rfl rfl rfl (by decide +kernel) ⟨Nat.le_of_ble_eq_true rfl, Nat.le_of_ble_eq_true rfl⟩) (r_pv hK hP hS (ltX3 rfl) (ceX3 rfl) rfl) rfl rfl hl.1 rfl (lv_room (Nat.le_of_ble_eq_true rfl)) dX3_needSign_2 ⟨Nat.le_of_ble_eq_true rfl, Nat.le_of_ble_eq_true rfl⟩) hS (fun H locs hP hS => ?_)
  refine lv_if_ne (tgt := 16) hx hb dX3_needSign_5 (by decide) (fun c5 => ?_) (fun c5 => ?_)
  · replace hf := if_f c5 hf
    refine lv_iconst (v := 1) hx hb dX3_needSign_16 (by decide) ?_
    refine lv_goto (tgt := 21) hx hb dX3_needSign_17 (by decide) ?_
    exact r_zret hx hb hr rfl hlocks hP hS (re2 (Option.some.inj hf)) dX3_needSign_21
  · replace hf := if_t c5 hf
    refine lv_aload_n hx hb dX3_needSign_8 rfl (lv_at hl 0 rfl) ?_
    refine lv_iconst (v := 1) hx hb dX3_needSign_9 (by decide) ?_
    obtain ⟨r10, h10, er10, hf⟩ := bP_s hf
    refine r_callI (va_runV (As := [.int 1]) (rest := []) ⟨hx, hb, hml, hown, hts⟩ (k_X3_refuse l hG er10) (cwV 1 hts (gV wd520 wd494 wd495 wd75 wd496) rfl rfl rfl (by decide +kernel) ⟨Nat.le_of_ble_eq_true rfl, Nat.le_of_ble_eq_true rfl⟩) (r_pv hK hP hS (ltX3 rfl) (ceX3 rfl) rfl) rfl rfl hl.1 rfl (lv_room (Nat.le_of_ble_eq_true rfl)) dX3_needSign_10 ⟨Nat.le_of_ble_eq_true rfl, Nat.le_of_ble_eq_true rfl⟩) hS (fun H locs hP hS => ?_)
    refine lv_if_eq (tgt := 20) hx hb dX3_needSign_13 (by decide) (fun c13 => ?_) (fun c13 => ?_)
    · replace hf := if_t c13 hf
      refine lv_iconst (v := 0) hx hb dX3_needSign_20 (by decide) ?_
      exact r_zret hx hb hr rfl hlocks hP hS (re2 (Option.some.inj hf)) dX3_needSign_21
    · replace hf := if_f c13 hf
      refine lv_iconst (v := 1) hx hb dX3_needSign_16 (by decide) ?_
      refine lv_goto (tgt := 21) hx hb dX3_needSign_17 (by decide) ?_
      exact r_zret hx hb hr rfl hlocks hP hS (re2 (Option.some.inj hf)) dX3_needSign_21
/-! CarriedBack$Trunk.putOn(I[II)V -/
abbrev rmX7_putOn : Room := { frames := 1, cells := 0, slots := 0, locals := 21 }
abbrev vX7_putOn : List Cond := Cond.code yX7_putOn cX7_putOn 5 none :: GW
def f_X7_putOn_3 (a0 : Nat) (V2 n2 : Nat) (x1 : Int32) (x3 : Int32) : Nat → Int32 → PH → Option PH
  | 0, _, _ => none
  | n + 1, x4, h => if (16 : Int32) ≤ x4 then (some h) else (bO (ag h (a0 + 1) 24 x1) (fun v15 => bO (f_X8_has v15 x4) (fun r18 => if r18 = 0 then ((f_X7_putOn_3 a0 V2 n2 x1 x3 n) (x4 + 1) h) else (bO (ag h (a0 + 4) 384 ((x1 * 16) + x4)) (fun v43 => bO (asg h V2 n2 ((x3 * 16) + x4) v43) (fun h44 => (f_X7_putOn_3 a0 V2 n2 x1 x3 n) (x4 + 1) h44))))))
set_option maxHeartbeats 4000000 in
set_option maxRecDepth 100000 in
theorem w_X7_putOn_3 {l : Launch} {G : GC} (hG : GOK G) {hh : PH} {p : Program} {e : Env} {s : State} {m : MethodId} {args : Array Value} {below : List Frame} {meth : Method} {c : Code} (C : MC l G p s m args meth c RX7 cX7_putOn 5 none) (a0 : Nat) (ha0 : kdX7 a0) (V2 n2 : Nat) (hV2 : isA V2 n2) (x1 : Int32) (x3 : Int32) : ∀ (n : Nat) (x4 : Int32) (h : PH) (H : Heap) (locs : List Loc) (ls : Array Slot), lv_has ls 5 [(0, .ref (gB G a0)), (1, .int x1), (2, .ref (gB G V2)), (3, .int x3), (4, .int x4)] → WP G h H → SP G s H locs → f_X7_putOn_3 a0 V2 n2 x1 x3 n x4 h = some hh → W p l e rmX7_putOn s m args below meth c H locs 0 0 (MQ below (QV G hh) args s 0 0 (gA G)) (F0 m 3 ls []) := by
  obtain ⟨hx, hb, hr, hlocks, hml, hown, hts, hK⟩ := id C
  intro n
  induction n with
  | zero => intro x4 h H locs ls hl hP hS hf; rw [f_X7_putOn_3] at hf; cases hf
  | succ n ih =>
    intro x4 h H locs ls hl hP hS hf
    rw [f_X7_putOn_3] at hf
    refine lv_iload hx hb dX7_putOn_3 (lv_at hl 4 rfl) ?_
    refine lv_bipush (v := 16) hx hb dX7_putOn_5 (by decide) ?_
    refine lv_icmp_ge (tgt := 51) hx hb dX7_putOn_7 (by decide) (fun c7 => ?_) (fun c7 => ?_)
    · replace hf := if_t c7 hf
      exact r_vret hx hb hr hlocks hP hS (Option.some.inj hf) dX7_putOn_51
    · replace hf := if_f c7 hf
      refine lv_aload_n hx hb dX7_putOn_10 rfl (lv_at hl 0 rfl) ?_
      refine r_get (a := a0) (v := .ref (gB G (a0 + 1))) (C := RX7) (T := TX7) (N := 10) hx hb hts hinX7 hown hK hP (ltX7 ha0) (ceX7 ha0) rfl 1 (by decide) wd158 rfl dX7_putOn_11 ?_
      refine lv_iload_n hx hb dX7_putOn_14 rfl (lv_at hl 1 rfl) ?_
      obtain ⟨v15, ev15, hf⟩ := bO_s hf
      refine r_iald hx hb hK hP (arX7_1 ha0) ev15 dX7_putOn_15 ?_
      refine lv_iload hx hb dX7_putOn_16 (lv_at hl 4 rfl) ?_
      obtain ⟨r18, er18, hf⟩ := bO_s hf
      refine r_callI (va_runSN (As := [.int v15, .int x4]) (rest := []) ⟨hx, hb, hml, hown, hts⟩ (k_X8_has l hG (h := h) er18) ⟨va_cnB 2 hts (gC wd523) rfl rfl rfl (host := "CarriedBack") (hK.2.1 _ (by decide +kernel)) (hts _ wd73) (by decide +kernel) ⟨Nat.le_of_ble_eq_true rfl, Nat.le_of_ble_eq_true rfl⟩, hts _ wd522, trivial⟩ (r_ps hK hP hS) rfl rfl hl.1 rfl (lv_room (Nat.le_of_ble_eq_true rfl)) dX7_putOn_18 ⟨Nat.le_of_ble_eq_true rfl, Nat.le_of_ble_eq_true rfl⟩) hS (fun H locs hP hS => ?_)
      refine lv_if_eq (tgt := 45) hx hb dX7_putOn_21 (by decide) (fun c21 => ?_) (fun c21 => ?_)
      · replace hf := if_t c21 hf
        refine lv_iinc (v := (x4 + 1)) (lv' := [(4, .int (x4 + 1)), (0, .ref (gB G a0)), (1, .int x1), (2, .ref (gB G V2)), (3, .int x3)]) hx hb dX7_putOn_45 hl (k := 4) rfl rfl (by decide) rfl (fun ls hl => ?_)
        refine lv_goto (tgt := 3) hx hb dX7_putOn_48 (by decide) ?_
        exact ih (x4 + 1) h _ _ _ (lv_sub hl [1, 2, 3, 4, 0] rfl) hP hS hf
      · replace hf := if_f c21 hf
        refine lv_aload_n hx hb dX7_putOn_24 rfl (lv_at hl 2 rfl) ?_
        refine lv_iload_n hx hb dX7_putOn_25 rfl (lv_at hl 3 rfl) ?_
        refine lv_bipush (v := 16) hx hb dX7_putOn_26 (by decide) ?_
        refine lv_imul hx hb dX7_putOn_28 ?_
        refine lv_iload hx hb dX7_putOn_29 (lv_at hl 4 rfl) ?_
        refine lv_iadd hx hb dX7_putOn_31 ?_
        refine lv_aload_n hx hb dX7_putOn_32 rfl (lv_at hl 0 rfl) ?_
        refine r_get (a := a0) (v := .ref (gB G (a0 + 4))) (C := RX7) (T := TX7) (N := 10) hx hb hts hinX7 hown hK hP (ltX7 ha0) (ceX7 ha0) rfl 4 (by decide) wd164 rfl dX7_putOn_33 ?_
        refine lv_iload_n hx hb dX7_putOn_36 rfl (lv_at hl 1 rfl) ?_
        refine lv_bipush (v := 16) hx hb dX7_putOn_37 (by decide) ?_
        refine lv_imul hx hb dX7_putOn_39 ?_
        refine lv_iload hx hb dX7_putOn_40 (lv_at hl 4 rfl) ?_
        refine lv_iadd hx hb dX7_putOn_42 ?_
        obtain ⟨v43, ev43, hf⟩ := bO_s hf
        refine r_iald hx hb hK hP (arX7_4 ha0) ev43 dX7_putOn_43 ?_
        obtain ⟨h44, eh44, hf⟩ := bO_s hf
        refine r_iast hG hx hb hK hP hS hV2 eh44 dX7_putOn_44 (fun H locs hP hS => ?_)
        refine lv_iinc (v := (x4 + 1)) (lv' := [(4, .int (x4 + 1)), (0, .ref (gB G a0)), (1, .int x1), (2, .ref (gB G V2)), (3, .int x3)]) hx hb dX7_putOn_45 hl (k := 4) rfl rfl (by decide) rfl (fun ls hl => ?_)
        refine lv_goto (tgt := 3) hx hb dX7_putOn_48 (by decide) ?_
        exact ih (x4 + 1) h44 _ _ _ (lv_sub hl [1, 2, 3, 4, 0] rfl) hP hS hf
def f_X7_putOn (a0 : Nat) (V2 n2 : Nat) (x1 : Int32) (x3 : Int32) (h : PH) : Option PH := f_X7_putOn_3 a0 V2 n2 x1 x3 FU 0 h
set_option maxHeartbeats 4000000 in
set_option maxRecDepth 100000 in
theorem k_X7_putOn (l : Launch) {G : GC} (hG : GOK G) (a0 : Nat) (ha0 : kdX7 a0) (V2 n2 : Nat) (hV2 : isA V2 n2) {x1 : Int32} {x3 : Int32} {h hh : PH} (hf : f_X7_putOn a0 V2 n2 x1 x3 h = some hh) : CV l yX7_putOn vX7_putOn rmX7_putOn G [.ref (gB G a0), .int x1, .ref (gB G V2), .int x3] h hh := by
  refine Met.ofW (cc := cX7_putOn) (maxL := 5) (ret := none) (by decide +kernel) rfl ?_
  intro p e s m args below meth c s₁ B hml hv
  obtain ⟨rfl, hP, hK⟩ := hv
  have C : MC l G p s m _ meth c RX7 cX7_putOn 5 none := ⟨B.exec, B.bytes, B.returns, B.notSynchronized, hml, findClass_of_methodNamed B.named, fun w hw => atoms_spec (ws := vX7_putOn) B.pre w (List.mem_cons_of_mem _ hw), hK⟩
  obtain ⟨hx, hb, hr, hlocks, -, hown, hts, -⟩ := id C
  have hl := lv_entry ([.ref (gB G a0), .int x1, .ref (gB G V2), .int x3]) (n := 5) (Nat.le_of_ble_eq_true rfl)
  rw [lg_entry_eq]
  generalize (lg_sl ([.ref (gB G a0), .int x1, .ref (gB G V2), .int x3]) ++ List.replicate (5 - (lg_sl ([.ref (gB G a0), .int x1, .ref (gB G V2), .int x3])).length) Slot.unset).toArray = ls at hl ⊢
  have hl : lv_has ls 5 [(0, .ref (gB G a0)), (1, .int x1), (2, .ref (gB G V2)), (3, .int x3)] := hl
  have hS : SP G s s.heap [] := va_S.rf
  replace hP : WP G h s.heap := hP
  rw [f_X7_putOn] at hf
  refine lv_iconst (v := 0) hx hb dX7_putOn_0 (by decide) ?_
  refine lv_istore (lv' := [(4, .int 0), (0, .ref (gB G a0)), (1, .int x1), (2, .ref (gB G V2)), (3, .int x3)]) hx hb dX7_putOn_1 hl (by decide) rfl (fun ls hl => ?_)
  exact w_X7_putOn_3 hG C a0 ha0 V2 n2 hV2 x1 x3 FU 0 h _ _ _ (lv_sub hl [1, 2, 3, 4, 0] rfl) hP hS hf
/-! CarriedBack$Trunk.layBehind(I)V -/
abbrev rmX7_layBehind : Room := { frames := 2, cells := 0, slots := 0, locals := 45 }
abbrev vX7_layBehind : List Cond := Cond.code yX7_layBehind cX7_layBehind 2 none :: GW
def f_X7_layBehind (a0 : Nat) (x1 : Int32) (h : PH) : Option PH := bO (cpy h (a0 + 5) 400 (x1 * 16) (a0 + 5) 400 ((x1 + 1) * 16) 16) (fun h20 => bO (f_X7_putOn a0 (a0 + 5) 400 x1 (x1 + 1) h20) (fun h32 => some h32))
set_option maxHeartbeats 4000000 in
set_option maxRecDepth 100000 in
theorem k_X7_layBehind (l : Launch) {G : GC} (hG : GOK G) (a0 : Nat) (ha0 : kdX7 a0) {x1 : Int32} {h hh : PH} (hf : f_X7_layBehind a0 x1 h = some hh) : CV l yX7_layBehind vX7_layBehind rmX7_layBehind G [.ref (gB G a0), .int x1] h hh := by
  refine Met.ofW (cc := cX7_layBehind) (maxL := 2) (ret := none) (by decide +kernel) rfl ?_
  intro p e s m args below meth c s₁ B hml hv
  obtain ⟨rfl, hP, hK⟩ := hv
  have C : MC l G p s m _ meth c RX7 cX7_layBehind 2 none := ⟨B.exec, B.bytes, B.returns, B.notSynchronized, hml, findClass_of_methodNamed B.named, fun w hw => atoms_spec (ws := vX7_layBehind) B.pre w (List.mem_cons_of_mem _ hw), hK⟩
  obtain ⟨hx, hb, hr, hlocks, -, hown, hts, -⟩ := id C
  have hl := lv_entry ([.ref (gB G a0), .int x1]) (n := 2) (Nat.le_of_ble_eq_true rfl)
  rw [lg_entry_eq]
  generalize (lg_sl ([.ref (gB G a0), .int x1]) ++ List.replicate (2 - (lg_sl ([.ref (gB G a0), .int x1])).length) Slot.unset).toArray = ls at hl ⊢
  have hl : lv_has ls 2 [(0, .ref (gB G a0)), (1, .int x1)] := hl
  have hS : SP G s s.heap [] := va_S.rf
  replace hP : WP G h s.heap := hP
  rw [f_X7_layBehind] at hf
  refine lv_aload_n hx hb dX7_layBehind_0 rfl (lv_at hl 0 rfl) ?_
  refine r_get (a := a0) (v := .ref (gB G (a0 + 5))) (C := RX7) (T := TX7) (N := 10) hx hb hts hinX7 hown hK hP (ltX7 ha0) (ceX7 ha0) rfl 5 (by decide) wd166 rfl dX7_layBehind_1 ?_
  refine lv_iload_n hx hb dX7_layBehind_4 rfl (lv_at hl 1 rfl) ?_
  refine lv_bipush (v := 16) hx hb dX7_layBehind_5 (by decide) ?_
  refine lv_imul hx hb dX7_layBehind_7 ?_
  refine lv_aload_n hx hb dX7_layBehind_8 rfl (lv_at hl 0 rfl) ?_
  refine r_get (a := a0) (v := .ref (gB G (a0 + 5))) (C := RX7) (T := TX7) (N := 10) hx hb hts hinX7 hown hK hP (ltX7 ha0) (ceX7 ha0) rfl 5 (by decide) wd166 rfl dX7_layBehind_9 ?_
  refine lv_iload_n hx hb dX7_layBehind_12 rfl (lv_at hl 1 rfl) ?_
  refine lv_iconst (v := 1) hx hb dX7_layBehind_13 (by decide) ?_
  refine lv_iadd hx hb dX7_layBehind_14 ?_
  refine lv_bipush (v := 16) hx hb dX7_layBehind_15 (by decide) ?_
  refine lv_imul hx hb dX7_layBehind_17 ?_
  refine lv_bipush (v := 16) hx hb dX7_layBehind_18 (by decide) ?_
  obtain ⟨h20, eh20, hf⟩ := bO_s hf
  refine r_cpy hG hx hb (by rw [hml]; exact hl.1.symm) hown hts wd551 wd553 wd552 wd87 hK hP hS (arX7_5 ha0) (arX7_5 ha0) eh20 (Nat.le_of_ble_eq_true rfl) (Nat.le_of_ble_eq_true rfl) dX7_layBehind_20 (fun H locs hP hS => ?_)
  refine lv_aload_n hx hb dX7_layBehind_23 rfl (lv_at hl 0 rfl) ?_
  refine lv_iload_n hx hb dX7_layBehind_24 rfl (lv_at hl 1 rfl) ?_
  refine lv_aload_n hx hb dX7_layBehind_25 rfl (lv_at hl 0 rfl) ?_
  refine r_get (a := a0) (v := .ref (gB G (a0 + 5))) (C := RX7) (T := TX7) (N := 10) hx hb hts hinX7 hown hK hP (ltX7 ha0) (ceX7 ha0) rfl 5 (by decide) wd166 rfl dX7_layBehind_26 ?_
  refine lv_iload_n hx hb dX7_layBehind_29 rfl (lv_at hl 1 rfl) ?_
  refine lv_iconst (v := 1) hx hb dX7_layBehind_30 (by decide) ?_
  refine lv_iadd hx hb dX7_layBehind_31 ?_
  obtain ⟨h32, eh32, hf⟩ := bO_s hf
  refine r_callV (va_runV (As := [.int x1, .ref (gB G (a0 + 5)), .int (x1 + 1)]) (rest := []) ⟨hx, hb, hml, hown, hts⟩ (k_X7_putOn l hG a0 ha0 (a0 + 5) 400 (arX7_5 ha0) eh32) (cwV 3 hts (gV wd554 wd555 wd556 wd76 wd557) rfl rfl rfl (by decide +kernel) ⟨Nat.le_of_ble_eq_true rfl, Nat.le_of_ble_eq_true rfl⟩) (r_pv hK hP hS (ltX7 ha0) (ceX7 ha0) rfl) rfl rfl hl.1 rfl (lv_room (Nat.le_of_ble_eq_true rfl)) dX7_layBehind_32 ⟨Nat.le_of_ble_eq_true rfl, Nat.le_of_ble_eq_true rfl⟩) hS (fun H locs hP hS => ?_)
  exact r_vret hx hb hr hlocks hP hS (Option.some.inj hf) dX7_layBehind_35
/-! CarriedBack$Trunk.readChange(LCarriedBack$Reader;)Z -/
abbrev rmX7_readChange : Room := { frames := 6, cells := 0, slots := 0, locals := 128 }
abbrev vX7_readChange : List Cond := Cond.code yX7_readChange cX7_readChange 4 (some .boolean) :: GW
def f_X7_readChange_97 (a0 : Nat) (x2 : Int32) (h : PH) : Option (Int32 × PH) := bP (f_X3_needSign 59 h) (fun r100 h100 => if r100 = 0 then (some (0, h100)) else (bO (f_X7_layBehind a0 x2 h100) (fun h110 => lt' (hU h110 a0 0 (x2 + 1)) (fun h117 => some (1, h117)))))
set_option maxHeartbeats 4000000 in
set_option maxRecDepth 100000 in
theorem w_X7_readChange_97 {l : Launch} {G : GC} (hG : GOK G) {rr : Int32} {hh : PH} {p : Program} {e : Env} {s : State} {m : MethodId} {args : Array Value} {below : List Frame} {meth : Method} {c : Code} (C : MC l G p s m args meth c RX7 cX7_readChange 4 (some .boolean)) (a0 : Nat) (ha0 : kdX7 a0) : ∀ (x2 : Int32) (h : PH) (H : Heap) (locs : List Loc) (ls : Array Slot), lv_has ls 4 [(0, .ref (gB G a0)), (1, .ref (gB G 3)), (2, .int x2)] → WP G h H → SP G s H locs → f_X7_readChange_97 a0 x2 h = some (rr, hh) → W p l e rmX7_readChange s m args below meth c H locs 0 0 (MQ below (QI G rr hh) args s 0 0 (gA G)) (F0 m 97 ls []) := by
  obtain ⟨hx, hb, hr, hlocks, hml, hown, hts, hK⟩ := id C
  intro x2 h H locs ls hl hP hS hf
  rw [f_X7_readChange_97] at hf
  refine lv_aload_n hx hb dX7_readChange_97 rfl (lv_at hl 1 rfl) ?_
  refine lv_bipush (v := 59) hx hb dX7_readChange_98 (by decide) ?_
  obtain ⟨r100, h100, er100, hf⟩ := bP_s hf
  refine r_callI (va_runV (As := [.int 59]) (rest := []) ⟨hx, hb, hml, hown, hts⟩ (k_X3_needSign l hG er100) (cwV 1 hts (gV wd542 wd543 wd544 wd75 wd545) rfl rfl rfl (by decide +kernel) ⟨Nat.le_of_ble_eq_true rfl, Nat.le_of_ble_eq_true rfl⟩) (r_pv hK hP hS (ltX3 rfl) (ceX3 rfl) rfl) rfl rfl hl.1 rfl (lv_room (Nat.le_of_ble_eq_true rfl)) dX7_readChange_100 ⟨Nat.le_of_ble_eq_true rfl, Nat.le_of_ble_eq_true rfl⟩) hS (fun H locs hP hS => ?_)
  refine lv_if_ne (tgt := 108) hx hb dX7_readChange_103 (by decide) (fun c103 => ?_) (fun c103 => ?_)
  · replace hf := if_f c103 hf
    refine lv_aload_n hx hb dX7_readChange_108 rfl (lv_at hl 0 rfl) ?_
    refine lv_iload_n hx hb dX7_readChange_109 rfl (lv_at hl 2 rfl) ?_
    obtain ⟨h110, eh110, hf⟩ := bO_s hf
    refine r_callV (va_runV (As := [.int x2]) (rest := []) ⟨hx, hb, hml, hown, hts⟩ (k_X7_layBehind l hG a0 ha0 eh110) (cwV 1 hts (gV wd547 wd549 wd6 wd76 wd550) rfl rfl rfl (by decide +kernel) ⟨Nat.le_of_ble_eq_true rfl, Nat.le_of_ble_eq_true rfl⟩) (r_pv hK hP hS (ltX7 ha0) (ceX7 ha0) rfl) rfl rfl hl.1 rfl (lv_room (Nat.le_of_ble_eq_true rfl)) dX7_readChange_110 ⟨Nat.le_of_ble_eq_true rfl, Nat.le_of_ble_eq_true rfl⟩) hS (fun H locs hP hS => ?_)
    refine lv_aload_n hx hb dX7_readChange_113 rfl (lv_at hl 0 rfl) ?_
    refine lv_iload_n hx hb dX7_readChange_114 rfl (lv_at hl 2 rfl) ?_
    refine lv_iconst (v := 1) hx hb dX7_readChange_115 (by decide) ?_
    refine lv_iadd hx hb dX7_readChange_116 ?_
    obtain ⟨h117, eh117⟩ : ∃ y, y = hU h110 a0 0 (x2 + 1) := ⟨_, rfl⟩
    replace hf := lt_at eh117 hf
    refine r_put (a := a0) (v := .int (x2 + 1)) (ty := .int) (h' := h117) (C := RX7) (T := TX7) (N := 10) hG hx hb hts hinX7 tyX7 tyX7_ok nmX7 hown hK hP hS (ltX7 ha0) (ceX7 ha0) rfl 0 (by decide) wd154 rfl (by decide +kernel) rfl rfl (Nat.le_of_ble_eq_true rfl) (by rw [eh117]; exact fun j hj => cE_U hj) (by rw [eh117]; exact puX7_0 ha0 _) dX7_readChange_117 (fun H locs hP hS => ?_)
    refine lv_iconst (v := 1) hx hb dX7_readChange_120 (by decide) ?_
    exact r_zret hx hb hr rfl hlocks hP hS (re2 (Option.some.inj hf)) dX7_readChange_121
  · replace hf := if_t c103 hf
    refine lv_iconst (v := 0) hx hb dX7_readChange_106 (by decide) ?_
    exact r_zret hx hb hr rfl hlocks hP hS (re2 (Option.some.inj hf)) dX7_readChange_107
def f_X7_readChange_66 (a0 : Nat) (x2 : Int32) (h : PH) : Option (Int32 × PH) := bP (f_X3_takeWord 4 h) (fun r69 h69 => if r69 = 0 then (f_X7_readChange_97 a0 x2 h69) else (bP (f_X3_needNumber 0 9 h69) (fun r79 h79 => if r79 = (-1) then (some (0, h79)) else (bO (asg h79 (a0 + 3) 24 x2 r79) (fun h96 => f_X7_readChange_97 a0 x2 h96)))))
set_option maxHeartbeats 4000000 in
set_option maxRecDepth 100000 in
theorem w_X7_readChange_66 {l : Launch} {G : GC} (hG : GOK G) {rr : Int32} {hh : PH} {p : Program} {e : Env} {s : State} {m : MethodId} {args : Array Value} {below : List Frame} {meth : Method} {c : Code} (C : MC l G p s m args meth c RX7 cX7_readChange 4 (some .boolean)) (a0 : Nat) (ha0 : kdX7 a0) : ∀ (x2 : Int32) (h : PH) (H : Heap) (locs : List Loc) (ls : Array Slot), lv_has ls 4 [(0, .ref (gB G a0)), (1, .ref (gB G 3)), (2, .int x2)] → WP G h H → SP G s H locs → f_X7_readChange_66 a0 x2 h = some (rr, hh) → W p l e rmX7_readChange s m args below meth c H locs 0 0 (MQ below (QI G rr hh) args s 0 0 (gA G)) (F0 m 66 ls []) := by
  obtain ⟨hx, hb, hr, hlocks, hml, hown, hts, hK⟩ := id C
  intro x2 h H locs ls hl hP hS hf
  rw [f_X7_readChange_66] at hf
  refine lv_aload_n hx hb dX7_readChange_66 rfl (lv_at hl 1 rfl) ?_
  refine va_ldcS (tx := "risk") hx hb hown (hK.2.2.2.1 (RX7, 99, "risk", 4) (by decide +kernel)) dX7_readChange_67 ?_
  obtain ⟨r69, h69, er69, hf⟩ := bP_s hf
  refine r_callI (va_runV (As := [.ref (gk G 4)]) (rest := []) ⟨hx, hb, hml, hown, hts⟩ (k_X3_takeWord l hG 4 (by decide) er69) (cwV 1 hts (gV wd503 wd504 wd505 wd75 wd506) rfl rfl rfl (by decide +kernel) ⟨Nat.le_of_ble_eq_true rfl, Nat.le_of_ble_eq_true rfl⟩) (r_pv hK hP hS (ltX3 rfl) (ceX3 rfl) rfl) rfl rfl hl.1 rfl (lv_room (Nat.le_of_ble_eq_true rfl)) dX7_readChange_69 ⟨Nat.le_of_ble_eq_true rfl, Nat.le_of_ble_eq_true rfl⟩) hS (fun H locs hP hS => ?_)
  refine lv_if_eq (tgt := 97) hx hb dX7_readChange_72 (by decide) (fun c72 => ?_) (fun c72 => ?_)
  · replace hf := if_t c72 hf
    exact w_X7_readChange_97 hG C a0 ha0 x2 h69 _ _ _ (lv_sub hl [0, 1, 2] rfl) hP hS hf
  · replace hf := if_f c72 hf
    refine lv_aload_n hx hb dX7_readChange_75 rfl (lv_at hl 1 rfl) ?_
    refine lv_iconst (v := 0) hx hb dX7_readChange_76 (by decide) ?_
    refine lv_bipush (v := 9) hx hb dX7_readChange_77 (by decide) ?_
    obtain ⟨r79, h79, er79, hf⟩ := bP_s hf
    refine r_callI (va_runV (As := [.int 0, .int 9]) (rest := []) ⟨hx, hb, hml, hown, hts⟩ (k_X3_needNumber l hG er79) (cwV 2 hts (gV wd524 wd525 wd526 wd75 wd527) rfl rfl rfl (by decide +kernel) ⟨Nat.le_of_ble_eq_true rfl, Nat.le_of_ble_eq_true rfl⟩) (r_pv hK hP hS (ltX3 rfl) (ceX3 rfl) rfl) rfl rfl hl.1 rfl (lv_room (Nat.le_of_ble_eq_true rfl)) dX7_readChange_79 ⟨Nat.le_of_ble_eq_true rfl, Nat.le_of_ble_eq_true rfl⟩) hS (fun H locs hP hS => ?_)
    refine lv_istore_n (lv' := [(3, .int r79), (0, .ref (gB G a0)), (1, .ref (gB G 3)), (2, .int x2)]) hx hb dX7_readChange_82 rfl hl (by decide) rfl (fun ls hl => ?_)
    refine lv_iload_n hx hb dX7_readChange_83 rfl (lv_at hl 0 rfl) ?_
    refine lv_iconst (v := (-1)) hx hb dX7_readChange_84 (by decide) ?_
    refine lv_icmp_ne (tgt := 90) hx hb dX7_readChange_85 (by decide) (fun c85 => ?_) (fun c85 => ?_)
    · replace hf := if_f c85 hf
      refine lv_aload_n hx hb dX7_readChange_90 rfl (lv_at hl 1 rfl) ?_
      refine r_get (a := a0) (v := .ref (gB G (a0 + 3))) (C := RX7) (T := TX7) (N := 10) hx hb hts hinX7 hown hK hP (ltX7 ha0) (ceX7 ha0) rfl 3 (by decide) wd162 rfl dX7_readChange_91 ?_
      refine lv_iload_n hx hb dX7_readChange_94 rfl (lv_at hl 3 rfl) ?_
      refine lv_iload_n hx hb dX7_readChange_95 rfl (lv_at hl 0 rfl) ?_
      obtain ⟨h96, eh96, hf⟩ := bO_s hf
      refine r_iast hG hx hb hK hP hS (arX7_3 ha0) eh96 dX7_readChange_96 (fun H locs hP hS => ?_)
      exact w_X7_readChange_97 hG C a0 ha0 x2 h96 _ _ _ (lv_sub hl [1, 2, 3] rfl) hP hS hf
    · replace hf := if_t c85 hf
      refine lv_iconst (v := 0) hx hb dX7_readChange_88 (by decide) ?_
      exact r_zret hx hb hr rfl hlocks hP hS (re2 (Option.some.inj hf)) dX7_readChange_89
def f_X7_readChange_46 (a0 : Nat) (x2 : Int32) (h : PH) : Option (Int32 × PH) := bP (f_X3_takeWord 3 h) (fun r49 h49 => if r49 = 0 then (f_X7_readChange_66 a0 x2 h49) else (bP (f_X7_readReads a0 x2 h49) (fun r58 h58 => if r58 = 0 then (some (0, h58)) else (f_X7_readChange_66 a0 x2 h58))))
set_option maxHeartbeats 4000000 in
set_option maxRecDepth 100000 in
theorem w_X7_readChange_46 {l : Launch} {G : GC} (hG : GOK G) {rr : Int32} {hh : PH} {p : Program} {e : Env} {s : State} {m : MethodId} {args : Array Value} {below : List Frame} {meth : Method} {c : Code} (C : MC l G p s m args meth c RX7 cX7_readChange 4 (some .boolean)) (a0 : Nat) (ha0 : kdX7 a0) : ∀ (x2 : Int32) (h : PH) (H : Heap) (locs : List Loc) (ls : Array Slot), lv_has ls 4 [(0, .ref (gB G a0)), (1, .ref (gB G 3)), (2, .int x2)] → WP G h H → SP G s H locs → f_X7_readChange_46 a0 x2 h = some (rr, hh) → W p l e rmX7_readChange s m args below meth c H locs 0 0 (MQ below (QI G rr hh) args s 0 0 (gA G)) (F0 m 46 ls []) := by
  obtain ⟨hx, hb, hr, hlocks, hml, hown, hts, hK⟩ := id C
  intro x2 h H locs ls hl hP hS hf
  rw [f_X7_readChange_46] at hf
  refine lv_aload_n hx hb dX7_readChange_46 rfl (lv_at hl 1 rfl) ?_
  refine va_ldcS (tx := "reads") hx hb hown (hK.2.2.2.1 (RX7, 94, "reads", 3) (by decide +kernel)) dX7_readChange_47 ?_
  obtain ⟨r49, h49, er49, hf⟩ := bP_s hf
  refine r_callI (va_runV (As := [.ref (gk G 3)]) (rest := []) ⟨hx, hb, hml, hown, hts⟩ (k_X3_takeWord l hG 3 (by decide) er49) (cwV 1 hts (gV wd503 wd504 wd505 wd75 wd506) rfl rfl rfl (by decide +kernel) ⟨Nat.le_of_ble_eq_true rfl, Nat.le_of_ble_eq_true rfl⟩) (r_pv hK hP hS (ltX3 rfl) (ceX3 rfl) rfl) rfl rfl hl.1 rfl (lv_room (Nat.le_of_ble_eq_true rfl)) dX7_readChange_49 ⟨Nat.le_of_ble_eq_true rfl, Nat.le_of_ble_eq_true rfl⟩) hS (fun H locs hP hS => ?_)
  refine lv_if_eq (tgt := 66) hx hb dX7_readChange_52 (by decide) (fun c52 => ?_) (fun c52 => ?_)
  · replace hf := if_t c52 hf
    exact w_X7_readChange_66 hG C a0 ha0 x2 h49 _ _ _ (lv_sub hl [0, 1, 2] rfl) hP hS hf
  · replace hf := if_f c52 hf
    refine lv_aload_n hx hb dX7_readChange_55 rfl (lv_at hl 0 rfl) ?_
    refine lv_aload_n hx hb dX7_readChange_56 rfl (lv_at hl 1 rfl) ?_
    refine lv_iload_n hx hb dX7_readChange_57 rfl (lv_at hl 2 rfl) ?_
    obtain ⟨r58, h58, er58, hf⟩ := bP_s hf
    refine r_callI (va_runV (As := [.ref (gB G 3), .int x2]) (rest := []) ⟨hx, hb, hml, hown, hts⟩ (k_X7_readReads l hG a0 ha0 er58) (cwV 2 hts (gV wd537 wd539 wd5 wd76 wd540) rfl rfl rfl (by decide +kernel) ⟨Nat.le_of_ble_eq_true rfl, Nat.le_of_ble_eq_true rfl⟩) (r_pv hK hP hS (ltX7 ha0) (ceX7 ha0) rfl) rfl rfl hl.1 rfl (lv_room (Nat.le_of_ble_eq_true rfl)) dX7_readChange_58 ⟨Nat.le_of_ble_eq_true rfl, Nat.le_of_ble_eq_true rfl⟩) hS (fun H locs hP hS => ?_)
    refine lv_if_ne (tgt := 66) hx hb dX7_readChange_61 (by decide) (fun c61 => ?_) (fun c61 => ?_)
    · replace hf := if_f c61 hf
      exact w_X7_readChange_66 hG C a0 ha0 x2 h58 _ _ _ (lv_sub hl [0, 1, 2] rfl) hP hS hf
    · replace hf := if_t c61 hf
      refine lv_iconst (v := 0) hx hb dX7_readChange_64 (by decide) ?_
      exact r_zret hx hb hr rfl hlocks hP hS (re2 (Option.some.inj hf)) dX7_readChange_65
def f_X7_readChange (a0 : Nat) (h : PH) : Option (Int32 × PH) := lt' ((h.1 a0 0)) (fun x2_4 => if x2_4 < 24 then (bO (f_X3_step h) (fun h18 => bO (f_X7_clearChange a0 x2_4 h18) (fun h23 => bP (f_X3_takeWord 2 h23) (fun r29 h29 => if r29 = 0 then (f_X7_readChange_46 a0 x2_4 h29) else (bP (f_X7_readSettings a0 x2_4 h29) (fun r38 h38 => if r38 = 0 then (some (0, h38)) else (f_X7_readChange_46 a0 x2_4 h38))))))) else (bP (f_X3_refuse 3 h) (fun r13 h13 => zr r13 (r13, h13))))
set_option maxHeartbeats 4000000 in
set_option maxRecDepth 100000 in
theorem k_X7_readChange (l : Launch) {G : GC} (hG : GOK G) (a0 : Nat) (ha0 : kdX7 a0) {rr : Int32} {h hh : PH} (hf : f_X7_readChange a0 h = some (rr, hh)) : CI l yX7_readChange vX7_readChange rmX7_readChange G [.ref (gB G a0), .ref (gB G 3)] h rr hh := by
  refine Met.ofW (cc := cX7_readChange) (maxL := 4) (ret := (some .boolean)) (by decide +kernel) rfl ?_
  intro p e s m args below meth c s₁ B hml hv
  obtain ⟨rfl, hP, hK⟩ := hv
  have C : MC l G p s m _ meth c RX7 cX7_readChange 4 (some .boolean) := ⟨B.exec, B.bytes, B.returns, B.notSynchronized, hml, findClass_of_methodNamed B.named, fun w hw => atoms_spec (ws := vX7_readChange) B.pre w (List.mem_cons_of_mem _ hw), hK⟩
  obtain ⟨hx, hb, hr, hlocks, -, hown, hts, -⟩ := id C
  have hl := lv_entry ([.ref (gB G a0), .ref (gB G 3)]) (n := 4) (Nat.le_of_ble_eq_true rfl)
  rw [lg_entry_eq]
  generalize (lg_sl ([.ref (gB G a0), .ref (gB G 3)]) ++ List.replicate (4 - (lg_sl ([.ref (gB G a0), .ref (gB G 3)])).length) Slot.unset).toArray = ls at hl ⊢
  have hl : lv_has ls 4 [(0, .ref (gB G a0)), (1, .ref (gB G 3))] := hl
  have hS : SP G s s.heap [] := va_S.rf
  replace hP : WP G h s.heap := hP
  rw [f_X7_readChange] at hf
  refine lv_aload_n hx hb dX7_readChange_0 rfl (lv_at hl 0 rfl) ?_
  refine r_get (a := a0) (v := .int (h.1 a0 0)) (C := RX7) (T := TX7) (N := 10) hx hb hts hinX7 hown hK hP (ltX7 ha0) (ceX7 ha0) rfl 0 (by decide) wd154 rfl dX7_readChange_1 ?_
  refine lv_topi (fun x2_4 ex2_4 => ?_)
  replace hf := lt_at ex2_4 hf
  refine lv_istore_n (lv' := [(2, .int x2_4), (0, .ref (gB G a0)), (1, .ref (gB G 3))]) hx hb dX7_readChange_4 rfl hl (by decide) rfl (fun ls hl => ?_)
  refine lv_iload_n hx hb dX7_readChange_5 rfl (lv_at hl 0 rfl) ?_
  refine lv_bipush (v := 24) hx hb dX7_readChange_6 (by decide) ?_
  refine lv_icmp_lt (tgt := 17) hx hb dX7_readChange_8 (by decide) (fun c8 => ?_) (fun c8 => ?_)
  · replace hf := if_t c8 hf
    refine lv_aload_n hx hb dX7_readChange_17 rfl (lv_at hl 2 rfl) ?_
    obtain ⟨h18, eh18, hf⟩ := bO_s hf
    refine r_callV (va_runV (As := []) (rest := []) ⟨hx, hb, hml, hown, hts⟩ (k_X3_step l hG eh18) (cwV 0 hts (gV wd497 wd422 wd423 wd75 wd424) rfl rfl rfl (by decide +kernel) ⟨Nat.le_of_ble_eq_true rfl, Nat.le_of_ble_eq_true rfl⟩) (r_pv hK hP hS (ltX3 rfl) (ceX3 rfl) rfl) rfl rfl hl.1 rfl (lv_room (Nat.le_of_ble_eq_true rfl)) dX7_readChange_18 ⟨Nat.le_of_ble_eq_true rfl, Nat.le_of_ble_eq_true rfl⟩) hS (fun H locs hP hS => ?_)
    refine lv_aload_n hx hb dX7_readChange_21 rfl (lv_at hl 1 rfl) ?_
    refine lv_iload_n hx hb dX7_readChange_22 rfl (lv_at hl 0 rfl) ?_
    obtain ⟨h23, eh23, hf⟩ := bO_s hf
    refine r_callV (va_runV (As := [.int x2_4]) (rest := []) ⟨hx, hb, hml, hown, hts⟩ (k_X7_clearChange l hG a0 ha0 eh23) (cwV 1 hts (gV wd498 wd500 wd1 wd76 wd501) rfl rfl rfl (by decide +kernel) ⟨Nat.le_of_ble_eq_true rfl, Nat.le_of_ble_eq_true rfl⟩) (r_pv hK hP hS (ltX7 ha0) (ceX7 ha0) rfl) rfl rfl hl.1 rfl (lv_room (Nat.le_of_ble_eq_true rfl)) dX7_readChange_23 ⟨Nat.le_of_ble_eq_true rfl, Nat.le_of_ble_eq_true rfl⟩) hS (fun H locs hP hS => ?_)
    refine lv_aload_n hx hb dX7_readChange_26 rfl (lv_at hl 2 rfl) ?_
    refine va_ldcS (tx := "sets") hx hb hown (hK.2.2.2.1 (RX7, 85, "sets", 2) (by decide +kernel)) dX7_readChange_27 ?_
    obtain ⟨r29, h29, er29, hf⟩ := bP_s hf
    refine r_callI (va_runV (As := [.ref (gk G 2)]) (rest := []) ⟨hx, hb, hml, hown, hts⟩ (k_X3_takeWord l hG 2 (by decide) er29) (cwV 1 hts (gV wd503 wd504 wd505 wd75 wd506) rfl rfl rfl (by decide +kernel) ⟨Nat.le_of_ble_eq_true rfl, Nat.le_of_ble_eq_true rfl⟩) (r_pv hK hP hS (ltX3 rfl) (ceX3 rfl) rfl) rfl rfl hl.1 rfl (lv_room (Nat.le_of_ble_eq_true rfl)) dX7_readChange_29 ⟨Nat.le_of_ble_eq_true rfl, Nat.le_of_ble_eq_true rfl⟩) hS (fun H locs hP hS => ?_)
    refine lv_if_eq (tgt := 46) hx hb dX7_readChange_32 (by decide) (fun c32 => ?_) (fun c32 => ?_)
    · replace hf := if_t c32 hf
      exact w_X7_readChange_46 hG C a0 ha0 x2_4 h29 _ _ _ (lv_sub hl [1, 2, 0] rfl) hP hS hf
    · replace hf := if_f c32 hf
      refine lv_aload_n hx hb dX7_readChange_35 rfl (lv_at hl 1 rfl) ?_
      refine lv_aload_n hx hb dX7_readChange_36 rfl (lv_at hl 2 rfl) ?_
      refine lv_iload_n hx hb dX7_readChange_37 rfl (lv_at hl 0 rfl) ?_
      obtain ⟨r38, h38, er38, hf⟩ := bP_s hf
      refine r_callI (va_runV (As := [.ref (gB G 3), .int x2_4]) (rest := []) ⟨hx, hb, hml, hown, hts⟩ (k_X7_readSettings l hG a0 ha0 er38) (cwV 2 hts (gV wd508 wd510 wd2 wd76 wd511) rfl rfl rfl (by decide +kernel) ⟨Nat.le_of_ble_eq_true rfl, Nat.le_of_ble_eq_true rfl⟩) (r_pv hK hP hS (ltX7 ha0) (ceX7 ha0) rfl) rfl rfl hl.1 rfl (lv_room (Nat.le_of_ble_eq_true rfl)) dX7_readChange_38 ⟨Nat.le_of_ble_eq_true rfl, Nat.le_of_ble_eq_true rfl⟩) hS (fun H locs hP hS => ?_)
      refine lv_if_ne (tgt := 46) hx hb dX7_readChange_41 (by decide) (fun c41 => ?_) (fun c41 => ?_)
      · replace hf := if_f c41 hf
        exact w_X7_readChange_46 hG C a0 ha0 x2_4 h38 _ _ _ (lv_sub hl [1, 2, 0] rfl) hP hS hf
      · replace hf := if_t c41 hf
        refine lv_iconst (v := 0) hx hb dX7_readChange_44 (by decide) ?_
        exact r_zret hx hb hr rfl hlocks hP hS (re2 (Option.some.inj hf)) dX7_readChange_45
  · replace hf := if_f c8 hf
    refine lv_aload_n hx hb dX7_readChange_11 rfl (lv_at hl 2 rfl) ?_
    refine lv_iconst (v := 3) hx hb dX7_readChange_12 (by decide) ?_
    obtain ⟨r13, h13, er13, hf⟩ := bP_s hf
    refine r_callI (va_runV (As := [.int 3]) (rest := []) ⟨hx, hb, hml, hown, hts⟩ (k_X3_refuse l hG er13) (cwV 1 hts (gV wd493 wd494 wd495 wd75 wd496) rfl rfl rfl (by decide +kernel) ⟨Nat.le_of_ble_eq_true rfl, Nat.le_of_ble_eq_true rfl⟩) (r_pv hK hP hS (ltX3 rfl) (ceX3 rfl) rfl) rfl rfl hl.1 rfl (lv_room (Nat.le_of_ble_eq_true rfl)) dX7_readChange_13 ⟨Nat.le_of_ble_eq_true rfl, Nat.le_of_ble_eq_true rfl⟩) hS (fun H locs hP hS => ?_)
    obtain ⟨hz, hf⟩ := zr_s hf
    exact r_zret hx hb hr hz hlocks hP hS (re2 hf) dX7_readChange_16
/-! CarriedBack$Reader.needWord(Ljava/lang/String;)Z -/
abbrev rmX3_needWord : Room := { frames := 6, cells := 0, slots := 0, locals := 128 }
abbrev vX3_needWord : List Cond := Cond.code yX3_needWord cX3_needWord 2 (some .boolean) :: GW
def f_X3_needWord (w1 : Nat) (h : PH) : Option (Int32 × PH) := bP (f_X3_takeWord w1 h) (fun r2 h2 => if r2 = 0 then (bP (f_X3_refuse 1 h2) (fun r10 h10 => if r10 = 0 then (some (0, h10)) else (some (1, h10)))) else (some (1, h2)))
set_option maxHeartbeats 4000000 in
set_option maxRecDepth 100000 in
theorem k_X3_needWord (l : Launch) {G : GC} (hG : GOK G) (w1 : Nat) (hw1 : w1 < 10) {rr : Int32} {h hh : PH} (hf : f_X3_needWord w1 h = some (rr, hh)) : CI l yX3_needWord vX3_needWord rmX3_needWord G [.ref (gB G 3), .ref (gk G w1)] h rr hh := by
  refine Met.ofW (cc := cX3_needWord) (maxL := 2) (ret := (some .boolean)) (by decide +kernel) rfl ?_
  intro p e s m args below meth c s₁ B hml hv
  obtain ⟨rfl, hP, hK⟩ := hv
  have C : MC l G p s m _ meth c RX3 cX3_needWord 2 (some .boolean) := ⟨B.exec, B.bytes, B.returns, B.notSynchronized, hml, findClass_of_methodNamed B.named, fun w hw => atoms_spec (ws := vX3_needWord) B.pre w (List.mem_cons_of_mem _ hw), hK⟩
  obtain ⟨hx, hb, hr, hlocks, -, hown, hts, -⟩ := id C
  have hl := lv_entry ([.ref (gB G 3), .ref (gk G w1)]) (n := 2) (Nat.le_of_ble_eq_true rfl)
  rw [lg_entry_eq]
  generalize (lg_sl ([.ref (gB G 3), .ref (gk G w1)]) ++ List.replicate (2 - (lg_sl ([.ref (gB G 3), .ref (gk G w1)])).length) Slot.unset).toArray = ls at hl ⊢
  have hl : lv_has ls 2 [(0, .ref (gB G 3)), (1, .ref (gk G w1))] := hl
  have hS : SP G s s.heap [] := va_S.rf
  replace hP : WP G h s.heap := hP
  rw [f_X3_needWord] at hf
  refine lv_aload_n hx hb dX3_needWord_0 rfl (lv_at hl 0 rfl) ?_
  refine lv_aload_n hx hb dX3_needWord_1 rfl (lv_at hl 1 rfl) ?_
  obtain ⟨r2, h2, er2, hf⟩ := bP_s hf
  refine r_callI (va_runV (As := [.ref (gk G w1)]) (rest := []) ⟨hx, hb, hml, hown, hts⟩ (k_X3_takeWord l hG w1 hw1 er2) (cwV 1 hts (gV wd569 wd504 wd505 wd75 wd506) rfl rfl rfl (by decide +kernel) ⟨Nat.le_of_ble_eq_true rfl, Nat.le_of_ble_eq_true rfl⟩) (r_pv hK hP hS (ltX3 rfl) (ceX3 rfl) rfl) rfl rfl hl.1 rfl (lv_room (Nat.le_of_ble_eq_true rfl)) dX3_needWord_2 ⟨Nat.le_of_ble_eq_true rfl, Nat.le_of_ble_eq_true rfl⟩) hS (fun H locs hP hS => ?_)
  refine lv_if_ne (tgt := 16) hx hb dX3_needWord_5 (by decide) (fun c5 => ?_) (fun c5 => ?_)
  · replace hf := if_f c5 hf
    refine lv_iconst (v := 1) hx hb dX3_needWord_16 (by decide) ?_
    refine lv_goto (tgt := 21) hx hb dX3_needWord_17 (by decide) ?_
    exact r_zret hx hb hr rfl hlocks hP hS (re2 (Option.some.inj hf)) dX3_needWord_21
  · replace hf := if_t c5 hf
    refine lv_aload_n hx hb dX3_needWord_8 rfl (lv_at hl 0 rfl) ?_
    refine lv_iconst (v := 1) hx hb dX3_needWord_9 (by decide) ?_
    obtain ⟨r10, h10, er10, hf⟩ := bP_s hf
    refine r_callI (va_runV (As := [.int 1]) (rest := []) ⟨hx, hb, hml, hown, hts⟩ (k_X3_refuse l hG er10) (cwV 1 hts (gV wd520 wd494 wd495 wd75 wd496) rfl rfl rfl (by decide +kernel) ⟨Nat.le_of_ble_eq_true rfl, Nat.le_of_ble_eq_true rfl⟩) (r_pv hK hP hS (ltX3 rfl) (ceX3 rfl) rfl) rfl rfl hl.1 rfl (lv_room (Nat.le_of_ble_eq_true rfl)) dX3_needWord_10 ⟨Nat.le_of_ble_eq_true rfl, Nat.le_of_ble_eq_true rfl⟩) hS (fun H locs hP hS => ?_)
    refine lv_if_eq (tgt := 20) hx hb dX3_needWord_13 (by decide) (fun c13 => ?_) (fun c13 => ?_)
    · replace hf := if_t c13 hf
      refine lv_iconst (v := 0) hx hb dX3_needWord_20 (by decide) ?_
      exact r_zret hx hb hr rfl hlocks hP hS (re2 (Option.some.inj hf)) dX3_needWord_21
    · replace hf := if_f c13 hf
      refine lv_iconst (v := 1) hx hb dX3_needWord_16 (by decide) ?_
      refine lv_goto (tgt := 21) hx hb dX3_needWord_17 (by decide) ?_
      exact r_zret hx hb hr rfl hlocks hP hS (re2 (Option.some.inj hf)) dX3_needWord_21
/-! CarriedBack$Trunk.readFault(LCarriedBack$Reader;)Z -/
abbrev rmX7_readFault : Room := { frames := 7, cells := 0, slots := 0, locals := 149 }
abbrev vX7_readFault : List Cond := Cond.code yX7_readFault cX7_readFault 6 (some .boolean) :: GW
def f_X7_readFault_102 (a0 : Nat) (x2 : Int32) (x3 : Int32) (x4 : Int32) (x5 : Int32) (h : PH) : Option (Int32 × PH) := bP (f_X3_needSign 59 h) (fun r105 h105 => if r105 = 0 then (some (0, h105)) else (bO (asg h105 (a0 + 6) 10 x2 x3) (fun h119 => bO (asg h119 (a0 + 7) 10 x2 x4) (fun h127 => bO (asg h127 (a0 + 8) 10 x2 x5) (fun h135 => lt' (hU h135 a0 6 (x2 + 1)) (fun h140 => some (1, h140)))))))
set_option maxHeartbeats 4000000 in
set_option maxRecDepth 100000 in
theorem w_X7_readFault_102 {l : Launch} {G : GC} (hG : GOK G) {rr : Int32} {hh : PH} {p : Program} {e : Env} {s : State} {m : MethodId} {args : Array Value} {below : List Frame} {meth : Method} {c : Code} (C : MC l G p s m args meth c RX7 cX7_readFault 6 (some .boolean)) (a0 : Nat) (ha0 : kdX7 a0) : ∀ (x2 : Int32) (x3 : Int32) (x4 : Int32) (x5 : Int32) (h : PH) (H : Heap) (locs : List Loc) (ls : Array Slot), lv_has ls 6 [(0, .ref (gB G a0)), (1, .ref (gB G 3)), (2, .int x2), (3, .int x3), (4, .int x4), (5, .int x5)] → WP G h H → SP G s H locs → f_X7_readFault_102 a0 x2 x3 x4 x5 h = some (rr, hh) → W p l e rmX7_readFault s m args below meth c H locs 0 0 (MQ below (QI G rr hh) args s 0 0 (gA G)) (F0 m 102 ls []) := by
  obtain ⟨hx, hb, hr, hlocks, hml, hown, hts, hK⟩ := id C
  intro x2 x3 x4 x5 h H locs ls hl hP hS hf
  rw [f_X7_readFault_102] at hf
  refine lv_aload_n hx hb dX7_readFault_102 rfl (lv_at hl 1 rfl) ?_
  refine lv_bipush (v := 59) hx hb dX7_readFault_103 (by decide) ?_
  obtain ⟨r105, h105, er105, hf⟩ := bP_s hf
  refine r_callI (va_runV (As := [.int 59]) (rest := []) ⟨hx, hb, hml, hown, hts⟩ (k_X3_needSign l hG er105) (cwV 1 hts (gV wd542 wd543 wd544 wd75 wd545) rfl rfl rfl (by decide +kernel) ⟨Nat.le_of_ble_eq_true rfl, Nat.le_of_ble_eq_true rfl⟩) (r_pv hK hP hS (ltX3 rfl) (ceX3 rfl) rfl) rfl rfl hl.1 rfl (lv_room (Nat.le_of_ble_eq_true rfl)) dX7_readFault_105 ⟨Nat.le_of_ble_eq_true rfl, Nat.le_of_ble_eq_true rfl⟩) hS (fun H locs hP hS => ?_)
  refine lv_if_ne (tgt := 113) hx hb dX7_readFault_108 (by decide) (fun c108 => ?_) (fun c108 => ?_)
  · replace hf := if_f c108 hf
    refine lv_aload_n hx hb dX7_readFault_113 rfl (lv_at hl 0 rfl) ?_
    refine r_get (a := a0) (v := .ref (gB G (a0 + 6))) (C := RX7) (T := TX7) (N := 10) hx hb hts hinX7 hown hK hP (ltX7 ha0) (ceX7 ha0) rfl 7 (by decide) wd172 rfl dX7_readFault_114 ?_
    refine lv_iload_n hx hb dX7_readFault_117 rfl (lv_at hl 2 rfl) ?_
    refine lv_iload_n hx hb dX7_readFault_118 rfl (lv_at hl 3 rfl) ?_
    obtain ⟨h119, eh119, hf⟩ := bO_s hf
    refine r_iast hG hx hb hK hP hS (arX7_7 ha0) eh119 dX7_readFault_119 (fun H locs hP hS => ?_)
    refine lv_aload_n hx hb dX7_readFault_120 rfl (lv_at hl 0 rfl) ?_
    refine r_get (a := a0) (v := .ref (gB G (a0 + 7))) (C := RX7) (T := TX7) (N := 10) hx hb hts hinX7 hown hK hP (ltX7 ha0) (ceX7 ha0) rfl 8 (by decide) wd174 rfl dX7_readFault_121 ?_
    refine lv_iload_n hx hb dX7_readFault_124 rfl (lv_at hl 2 rfl) ?_
    refine lv_iload hx hb dX7_readFault_125 (lv_at hl 4 rfl) ?_
    obtain ⟨h127, eh127, hf⟩ := bO_s hf
    refine r_iast hG hx hb hK hP hS (arX7_8 ha0) eh127 dX7_readFault_127 (fun H locs hP hS => ?_)
    refine lv_aload_n hx hb dX7_readFault_128 rfl (lv_at hl 0 rfl) ?_
    refine r_get (a := a0) (v := .ref (gB G (a0 + 8))) (C := RX7) (T := TX7) (N := 10) hx hb hts hinX7 hown hK hP (ltX7 ha0) (ceX7 ha0) rfl 9 (by decide) wd176 rfl dX7_readFault_129 ?_
    refine lv_iload_n hx hb dX7_readFault_132 rfl (lv_at hl 2 rfl) ?_
    refine lv_iload hx hb dX7_readFault_133 (lv_at hl 5 rfl) ?_
    obtain ⟨h135, eh135, hf⟩ := bO_s hf
    refine r_iast hG hx hb hK hP hS (arX7_9 ha0) eh135 dX7_readFault_135 (fun H locs hP hS => ?_)
    refine lv_aload_n hx hb dX7_readFault_136 rfl (lv_at hl 0 rfl) ?_
    refine lv_iload_n hx hb dX7_readFault_137 rfl (lv_at hl 2 rfl) ?_
    refine lv_iconst (v := 1) hx hb dX7_readFault_138 (by decide) ?_
    refine lv_iadd hx hb dX7_readFault_139 ?_
    obtain ⟨h140, eh140⟩ : ∃ y, y = hU h135 a0 6 (x2 + 1) := ⟨_, rfl⟩
    replace hf := lt_at eh140 hf
    refine r_put (a := a0) (v := .int (x2 + 1)) (ty := .int) (h' := h140) (C := RX7) (T := TX7) (N := 10) hG hx hb hts hinX7 tyX7 tyX7_ok nmX7 hown hK hP hS (ltX7 ha0) (ceX7 ha0) rfl 6 (by decide) wd169 rfl (by decide +kernel) rfl rfl (Nat.le_of_ble_eq_true rfl) (by rw [eh140]; exact fun j hj => cE_U hj) (by rw [eh140]; exact puX7_6 ha0 _) dX7_readFault_140 (fun H locs hP hS => ?_)
    refine lv_iconst (v := 1) hx hb dX7_readFault_143 (by decide) ?_
    exact r_zret hx hb hr rfl hlocks hP hS (re2 (Option.some.inj hf)) dX7_readFault_144
  · replace hf := if_t c108 hf
    refine lv_iconst (v := 0) hx hb dX7_readFault_111 (by decide) ?_
    exact r_zret hx hb hr rfl hlocks hP hS (re2 (Option.some.inj hf)) dX7_readFault_112
def f_X7_readFault (a0 : Nat) (h : PH) : Option (Int32 × PH) := lt' ((h.1 a0 6)) (fun x2_4 => if x2_4 < 10 then (bO (f_X3_step h) (fun h18 => bP (f_X3_needNumber 1 99 h18) (fun r25 h25 => if r25 = (-1) then (some (0, h25)) else (bP (f_X3_needWord 5 h25) (fun r37 h37 => if r37 = 0 then (some (0, h37)) else (bP (f_X3_needNumber 0 ((h37.1 a0 0) - 1) h37) (fun r53 h53 => if r53 = (-1) then (some (0, h53)) else (bP (f_X3_takeWord 6 h53) (fun r72 h72 => if r72 = 0 then (f_X7_readFault_102 a0 x2_4 r25 r53 (-1) h72) else (bP (f_X3_needNumber (r53 + 1) ((h72.1 a0 0) - 1) h72) (fun r89 h89 => if r89 = (-1) then (some (0, h89)) else (f_X7_readFault_102 a0 x2_4 r25 r53 r89 h89)))))))))))) else (bP (f_X3_refuse 3 h) (fun r13 h13 => zr r13 (r13, h13))))
set_option maxHeartbeats 4000000 in
set_option maxRecDepth 100000 in
theorem k_X7_readFault (l : Launch) {G : GC} (hG : GOK G) (a0 : Nat) (ha0 : kdX7 a0) {rr : Int32} {h hh : PH} (hf : f_X7_readFault a0 h = some (rr, hh)) : CI l yX7_readFault vX7_readFault rmX7_readFault G [.ref (gB G a0), .ref (gB G 3)] h rr hh := by
  refine Met.ofW (cc := cX7_readFault) (maxL := 6) (ret := (some .boolean)) (by decide +kernel) rfl ?_
  intro p e s m args below meth c s₁ B hml hv
  obtain ⟨rfl, hP, hK⟩ := hv
  have C : MC l G p s m _ meth c RX7 cX7_readFault 6 (some .boolean) := ⟨B.exec, B.bytes, B.returns, B.notSynchronized, hml, findClass_of_methodNamed B.named, fun w hw => atoms_spec (ws := vX7_readFault) B.pre w (List.mem_cons_of_mem _ hw), hK⟩
  obtain ⟨hx, hb, hr, hlocks, -, hown, hts, -⟩ := id C
  have hl := lv_entry ([.ref (gB G a0), .ref (gB G 3)]) (n := 6) (Nat.le_of_ble_eq_true rfl)
  rw [lg_entry_eq]
  generalize (lg_sl ([.ref (gB G a0), .ref (gB G 3)]) ++ List.replicate (6 - (lg_sl ([.ref (gB G a0), .ref (gB G 3)])).length) Slot.unset).toArray = ls at hl ⊢
  have hl : lv_has ls 6 [(0, .ref (gB G a0)), (1, .ref (gB G 3))] := hl
  have hS : SP G s s.heap [] := va_S.rf
  replace hP : WP G h s.heap := hP
  rw [f_X7_readFault] at hf
  refine lv_aload_n hx hb dX7_readFault_0 rfl (lv_at hl 0 rfl) ?_
  refine r_get (a := a0) (v := .int (h.1 a0 6)) (C := RX7) (T := TX7) (N := 10) hx hb hts hinX7 hown hK hP (ltX7 ha0) (ceX7 ha0) rfl 6 (by decide) wd169 rfl dX7_readFault_1 ?_
  refine lv_topi (fun x2_4 ex2_4 => ?_)
  replace hf := lt_at ex2_4 hf
  refine lv_istore_n (lv' := [(2, .int x2_4), (0, .ref (gB G a0)), (1, .ref (gB G 3))]) hx hb dX7_readFault_4 rfl hl (by decide) rfl (fun ls hl => ?_)
  refine lv_iload_n hx hb dX7_readFault_5 rfl (lv_at hl 0 rfl) ?_
  refine lv_bipush (v := 10) hx hb dX7_readFault_6 (by decide) ?_
  refine lv_icmp_lt (tgt := 17) hx hb dX7_readFault_8 (by decide) (fun c8 => ?_) (fun c8 => ?_)
  · replace hf := if_t c8 hf
    refine lv_aload_n hx hb dX7_readFault_17 rfl (lv_at hl 2 rfl) ?_
    obtain ⟨h18, eh18, hf⟩ := bO_s hf
    refine r_callV (va_runV (As := []) (rest := []) ⟨hx, hb, hml, hown, hts⟩ (k_X3_step l hG eh18) (cwV 0 hts (gV wd497 wd422 wd423 wd75 wd424) rfl rfl rfl (by decide +kernel) ⟨Nat.le_of_ble_eq_true rfl, Nat.le_of_ble_eq_true rfl⟩) (r_pv hK hP hS (ltX3 rfl) (ceX3 rfl) rfl) rfl rfl hl.1 rfl (lv_room (Nat.le_of_ble_eq_true rfl)) dX7_readFault_18 ⟨Nat.le_of_ble_eq_true rfl, Nat.le_of_ble_eq_true rfl⟩) hS (fun H locs hP hS => ?_)
    refine lv_aload_n hx hb dX7_readFault_21 rfl (lv_at hl 2 rfl) ?_
    refine lv_iconst (v := 1) hx hb dX7_readFault_22 (by decide) ?_
    refine lv_bipush (v := 99) hx hb dX7_readFault_23 (by decide) ?_
    obtain ⟨r25, h25, er25, hf⟩ := bP_s hf
    refine r_callI (va_runV (As := [.int 1, .int 99]) (rest := []) ⟨hx, hb, hml, hown, hts⟩ (k_X3_needNumber l hG er25) (cwV 2 hts (gV wd524 wd525 wd526 wd75 wd527) rfl rfl rfl (by decide +kernel) ⟨Nat.le_of_ble_eq_true rfl, Nat.le_of_ble_eq_true rfl⟩) (r_pv hK hP hS (ltX3 rfl) (ceX3 rfl) rfl) rfl rfl hl.1 rfl (lv_room (Nat.le_of_ble_eq_true rfl)) dX7_readFault_25 ⟨Nat.le_of_ble_eq_true rfl, Nat.le_of_ble_eq_true rfl⟩) hS (fun H locs hP hS => ?_)
    refine lv_istore_n (lv' := [(3, .int r25), (2, .int x2_4), (0, .ref (gB G a0)), (1, .ref (gB G 3))]) hx hb dX7_readFault_28 rfl hl (by decide) rfl (fun ls hl => ?_)
    refine lv_iload_n hx hb dX7_readFault_29 rfl (lv_at hl 0 rfl) ?_
    refine lv_iconst (v := (-1)) hx hb dX7_readFault_30 (by decide) ?_
    refine lv_icmp_eq (tgt := 43) hx hb dX7_readFault_31 (by decide) (fun c31 => ?_) (fun c31 => ?_)
    · replace hf := if_t c31 hf
      refine lv_iconst (v := 0) hx hb dX7_readFault_43 (by decide) ?_
      exact r_zret hx hb hr rfl hlocks hP hS (re2 (Option.some.inj hf)) dX7_readFault_44
    · replace hf := if_f c31 hf
      refine lv_aload_n hx hb dX7_readFault_34 rfl (lv_at hl 3 rfl) ?_
      refine va_ldcS (tx := "from") hx hb hown (hK.2.2.2.1 (RX7, 123, "from", 5) (by decide +kernel)) dX7_readFault_35 ?_
      obtain ⟨r37, h37, er37, hf⟩ := bP_s hf
      refine r_callI (va_runV (As := [.ref (gk G 5)]) (rest := []) ⟨hx, hb, hml, hown, hts⟩ (k_X3_needWord l hG 5 (by decide) er37) (cwV 1 hts (gV wd565 wd566 wd567 wd75 wd568) rfl rfl rfl (by decide +kernel) ⟨Nat.le_of_ble_eq_true rfl, Nat.le_of_ble_eq_true rfl⟩) (r_pv hK hP hS (ltX3 rfl) (ceX3 rfl) rfl) rfl rfl hl.1 rfl (lv_room (Nat.le_of_ble_eq_true rfl)) dX7_readFault_37 ⟨Nat.le_of_ble_eq_true rfl, Nat.le_of_ble_eq_true rfl⟩) hS (fun H locs hP hS => ?_)
      refine lv_if_ne (tgt := 45) hx hb dX7_readFault_40 (by decide) (fun c40 => ?_) (fun c40 => ?_)
      · replace hf := if_f c40 hf
        refine lv_aload_n hx hb dX7_readFault_45 rfl (lv_at hl 3 rfl) ?_
        refine lv_iconst (v := 0) hx hb dX7_readFault_46 (by decide) ?_
        refine lv_aload_n hx hb dX7_readFault_47 rfl (lv_at hl 2 rfl) ?_
        refine r_get (a := a0) (v := .int (h37.1 a0 0)) (C := RX7) (T := TX7) (N := 10) hx hb hts hinX7 hown hK hP (ltX7 ha0) (ceX7 ha0) rfl 0 (by decide) wd154 rfl dX7_readFault_48 ?_
        refine lv_iconst (v := 1) hx hb dX7_readFault_51 (by decide) ?_
        refine lv_isub hx hb dX7_readFault_52 ?_
        obtain ⟨r53, h53, er53, hf⟩ := bP_s hf
        refine r_callI (va_runV (As := [.int 0, .int ((h37.1 a0 0) - 1)]) (rest := []) ⟨hx, hb, hml, hown, hts⟩ (k_X3_needNumber l hG er53) (cwV 2 hts (gV wd524 wd525 wd526 wd75 wd527) rfl rfl rfl (by decide +kernel) ⟨Nat.le_of_ble_eq_true rfl, Nat.le_of_ble_eq_true rfl⟩) (r_pv hK hP hS (ltX3 rfl) (ceX3 rfl) rfl) rfl rfl hl.1 rfl (lv_room (Nat.le_of_ble_eq_true rfl)) dX7_readFault_53 ⟨Nat.le_of_ble_eq_true rfl, Nat.le_of_ble_eq_true rfl⟩) hS (fun H locs hP hS => ?_)
        refine lv_istore (lv' := [(4, .int r53), (3, .int r25), (2, .int x2_4), (0, .ref (gB G a0)), (1, .ref (gB G 3))]) hx hb dX7_readFault_56 hl (by decide) rfl (fun ls hl => ?_)
        refine lv_iload hx hb dX7_readFault_58 (lv_at hl 0 rfl) ?_
        refine lv_iconst (v := (-1)) hx hb dX7_readFault_60 (by decide) ?_
        refine lv_icmp_ne (tgt := 66) hx hb dX7_readFault_61 (by decide) (fun c61 => ?_) (fun c61 => ?_)
        · replace hf := if_f c61 hf
          refine lv_iconst (v := (-1)) hx hb dX7_readFault_66 (by decide) ?_
          refine lv_istore (lv' := [(5, .int (-1)), (4, .int r53), (3, .int r25), (2, .int x2_4), (0, .ref (gB G a0)), (1, .ref (gB G 3))]) hx hb dX7_readFault_67 hl (by decide) rfl (fun ls hl => ?_)
          refine lv_aload_n hx hb dX7_readFault_69 rfl (lv_at hl 5 rfl) ?_
          refine va_ldcS (tx := "till") hx hb hown (hK.2.2.2.1 (RX7, 128, "till", 6) (by decide +kernel)) dX7_readFault_70 ?_
          obtain ⟨r72, h72, er72, hf⟩ := bP_s hf
          refine r_callI (va_runV (As := [.ref (gk G 6)]) (rest := []) ⟨hx, hb, hml, hown, hts⟩ (k_X3_takeWord l hG 6 (by decide) er72) (cwV 1 hts (gV wd503 wd504 wd505 wd75 wd506) rfl rfl rfl (by decide +kernel) ⟨Nat.le_of_ble_eq_true rfl, Nat.le_of_ble_eq_true rfl⟩) (r_pv hK hP hS (ltX3 rfl) (ceX3 rfl) rfl) rfl rfl hl.1 rfl (lv_room (Nat.le_of_ble_eq_true rfl)) dX7_readFault_72 ⟨Nat.le_of_ble_eq_true rfl, Nat.le_of_ble_eq_true rfl⟩) hS (fun H locs hP hS => ?_)
          refine lv_if_eq (tgt := 102) hx hb dX7_readFault_75 (by decide) (fun c75 => ?_) (fun c75 => ?_)
          · replace hf := if_t c75 hf
            exact w_X7_readFault_102 hG C a0 ha0 x2_4 r25 r53 (-1) h72 _ _ _ (lv_sub hl [4, 5, 3, 2, 1, 0] rfl) hP hS hf
          · replace hf := if_f c75 hf
            refine lv_aload_n hx hb dX7_readFault_78 rfl (lv_at hl 5 rfl) ?_
            refine lv_iload hx hb dX7_readFault_79 (lv_at hl 1 rfl) ?_
            refine lv_iconst (v := 1) hx hb dX7_readFault_81 (by decide) ?_
            refine lv_iadd hx hb dX7_readFault_82 ?_
            refine lv_aload_n hx hb dX7_readFault_83 rfl (lv_at hl 4 rfl) ?_
            refine r_get (a := a0) (v := .int (h72.1 a0 0)) (C := RX7) (T := TX7) (N := 10) hx hb hts hinX7 hown hK hP (ltX7 ha0) (ceX7 ha0) rfl 0 (by decide) wd154 rfl dX7_readFault_84 ?_
            refine lv_iconst (v := 1) hx hb dX7_readFault_87 (by decide) ?_
            refine lv_isub hx hb dX7_readFault_88 ?_
            obtain ⟨r89, h89, er89, hf⟩ := bP_s hf
            refine r_callI (va_runV (As := [.int (r53 + 1), .int ((h72.1 a0 0) - 1)]) (rest := []) ⟨hx, hb, hml, hown, hts⟩ (k_X3_needNumber l hG er89) (cwV 2 hts (gV wd524 wd525 wd526 wd75 wd527) rfl rfl rfl (by decide +kernel) ⟨Nat.le_of_ble_eq_true rfl, Nat.le_of_ble_eq_true rfl⟩) (r_pv hK hP hS (ltX3 rfl) (ceX3 rfl) rfl) rfl rfl hl.1 rfl (lv_room (Nat.le_of_ble_eq_true rfl)) dX7_readFault_89 ⟨Nat.le_of_ble_eq_true rfl, Nat.le_of_ble_eq_true rfl⟩) hS (fun H locs hP hS => ?_)
            refine lv_istore (lv' := [(5, .int r89), (4, .int r53), (3, .int r25), (2, .int x2_4), (0, .ref (gB G a0)), (1, .ref (gB G 3))]) hx hb dX7_readFault_92 hl (by decide) rfl (fun ls hl => ?_)
            refine lv_iload hx hb dX7_readFault_94 (lv_at hl 0 rfl) ?_
            refine lv_iconst (v := (-1)) hx hb dX7_readFault_96 (by decide) ?_
            refine lv_icmp_ne (tgt := 102) hx hb dX7_readFault_97 (by decide) (fun c97 => ?_) (fun c97 => ?_)
            · replace hf := if_f c97 hf
              exact w_X7_readFault_102 hG C a0 ha0 x2_4 r25 r53 r89 h89 _ _ _ (lv_sub hl [4, 5, 3, 2, 1, 0] rfl) hP hS hf
            · replace hf := if_t c97 hf
              refine lv_iconst (v := 0) hx hb dX7_readFault_100 (by decide) ?_
              exact r_zret hx hb hr rfl hlocks hP hS (re2 (Option.some.inj hf)) dX7_readFault_101
        · replace hf := if_t c61 hf
          refine lv_iconst (v := 0) hx hb dX7_readFault_64 (by decide) ?_
          exact r_zret hx hb hr rfl hlocks hP hS (re2 (Option.some.inj hf)) dX7_readFault_65
      · replace hf := if_t c40 hf
        refine lv_iconst (v := 0) hx hb dX7_readFault_43 (by decide) ?_
        exact r_zret hx hb hr rfl hlocks hP hS (re2 (Option.some.inj hf)) dX7_readFault_44
  · replace hf := if_f c8 hf
    refine lv_aload_n hx hb dX7_readFault_11 rfl (lv_at hl 2 rfl) ?_
    refine lv_iconst (v := 3) hx hb dX7_readFault_12 (by decide) ?_
    obtain ⟨r13, h13, er13, hf⟩ := bP_s hf
    refine r_callI (va_runV (As := [.int 3]) (rest := []) ⟨hx, hb, hml, hown, hts⟩ (k_X3_refuse l hG er13) (cwV 1 hts (gV wd493 wd494 wd495 wd75 wd496) rfl rfl rfl (by decide +kernel) ⟨Nat.le_of_ble_eq_true rfl, Nat.le_of_ble_eq_true rfl⟩) (r_pv hK hP hS (ltX3 rfl) (ceX3 rfl) rfl) rfl rfl hl.1 rfl (lv_room (Nat.le_of_ble_eq_true rfl)) dX7_readFault_13 ⟨Nat.le_of_ble_eq_true rfl, Nat.le_of_ble_eq_true rfl⟩) hS (fun H locs hP hS => ?_)
    obtain ⟨hz, hf⟩ := zr_s hf
    exact r_zret hx hb hr hz hlocks hP hS (re2 hf) dX7_readFault_16
/-! CarriedBack$Trunk.readFrom(LCarriedBack$Reader;)Z -/
abbrev rmX7_readFrom : Room := { frames := 8, cells := 0, slots := 0, locals := 174 }
abbrev vX7_readFrom : List Cond := Cond.code yX7_readFrom cX7_readFrom 4 (some .boolean) :: GW
def f_X7_readFrom_68 (a0 : Nat) (k12 : Int32 → PH → Option (Int32 × PH)) (x2 : Int32) (x3 : Int32) (h : PH) : Option (Int32 × PH) := if x3 = 0 then (some (0, h)) else (k12 (x2 + 1) h)
set_option maxHeartbeats 4000000 in
set_option maxRecDepth 100000 in
theorem w_X7_readFrom_68 {l : Launch} {G : GC} (hG : GOK G) {rr : Int32} {hh : PH} {p : Program} {e : Env} {s : State} {m : MethodId} {args : Array Value} {below : List Frame} {meth : Method} {c : Code} (C : MC l G p s m args meth c RX7 cX7_readFrom 4 (some .boolean)) (a0 : Nat) (ha0 : kdX7 a0) (k12 : Int32 → PH → Option (Int32 × PH)) (hk12 : ∀ (x2 : Int32) (h : PH) (H : Heap) (locs : List Loc) (ls : Array Slot), lv_has ls 4 [(0, .ref (gB G a0)), (1, .ref (gB G 3)), (2, .int x2)] → WP G h H → SP G s H locs → k12 x2 h = some (rr, hh) → W p l e rmX7_readFrom s m args below meth c H locs 0 0 (MQ below (QI G rr hh) args s 0 0 (gA G)) (F0 m 12 ls [])) : ∀ (x2 : Int32) (x3 : Int32) (h : PH) (H : Heap) (locs : List Loc) (ls : Array Slot), lv_has ls 4 [(0, .ref (gB G a0)), (1, .ref (gB G 3)), (2, .int x2), (3, .int x3)] → WP G h H → SP G s H locs → f_X7_readFrom_68 a0 k12 x2 x3 h = some (rr, hh) → W p l e rmX7_readFrom s m args below meth c H locs 0 0 (MQ below (QI G rr hh) args s 0 0 (gA G)) (F0 m 68 ls []) := by
  obtain ⟨hx, hb, hr, hlocks, hml, hown, hts, hK⟩ := id C
  intro x2 x3 h H locs ls hl hP hS hf
  rw [f_X7_readFrom_68] at hf
  refine lv_iload_n hx hb dX7_readFrom_68 rfl (lv_at hl 3 rfl) ?_
  refine lv_if_ne (tgt := 74) hx hb dX7_readFrom_69 (by decide) (fun c69 => ?_) (fun c69 => ?_)
  · replace hf := if_f c69 hf
    refine lv_iinc (v := (x2 + 1)) (lv' := [(2, .int (x2 + 1)), (0, .ref (gB G a0)), (1, .ref (gB G 3)), (3, .int x3)]) hx hb dX7_readFrom_74 hl (k := 2) rfl rfl (by decide) rfl (fun ls hl => ?_)
    refine lv_goto (tgt := 12) hx hb dX7_readFrom_77 (by decide) ?_
    exact hk12 (x2 + 1) h _ _ _ (lv_sub hl [1, 2, 0] rfl) hP hS hf
  · replace hf := if_t c69 hf
    refine lv_iconst (v := 0) hx hb dX7_readFrom_72 (by decide) ?_
    exact r_zret hx hb hr rfl hlocks hP hS (re2 (Option.some.inj hf)) dX7_readFrom_73
def f_X7_readFrom_12 (a0 : Nat) : Nat → Int32 → PH → Option (Int32 × PH)
  | 0, _, _ => none
  | n + 1, x2, h => if (500 : Int32) ≤ x2 then (some (1, h)) else (bP (f_X3_atEnd h) (fun r20 h20 => if r20 = 0 then (bP (f_X3_isWord 0 h20) (fun r29 h29 => if r29 = 0 then (bP (f_X3_isWord 1 h29) (fun r47 h47 => if r47 = 0 then (bP (f_X3_refuse 1 h47) (fun r64 h64 => f_X7_readFrom_68 a0 (f_X7_readFrom_12 a0 n) x2 r64 h64)) else (bP (f_X7_readFault a0 h47) (fun r55 h55 => f_X7_readFrom_68 a0 (f_X7_readFrom_12 a0 n) x2 r55 h55)))) else (bP (f_X7_readChange a0 h29) (fun r37 h37 => f_X7_readFrom_68 a0 (f_X7_readFrom_12 a0 n) x2 r37 h37)))) else (some (1, h20))))
set_option maxHeartbeats 4000000 in
set_option maxRecDepth 100000 in
theorem w_X7_readFrom_12 {l : Launch} {G : GC} (hG : GOK G) {rr : Int32} {hh : PH} {p : Program} {e : Env} {s : State} {m : MethodId} {args : Array Value} {below : List Frame} {meth : Method} {c : Code} (C : MC l G p s m args meth c RX7 cX7_readFrom 4 (some .boolean)) (a0 : Nat) (ha0 : kdX7 a0) : ∀ (n : Nat) (x2 : Int32) (h : PH) (H : Heap) (locs : List Loc) (ls : Array Slot), lv_has ls 4 [(0, .ref (gB G a0)), (1, .ref (gB G 3)), (2, .int x2)] → WP G h H → SP G s H locs → f_X7_readFrom_12 a0 n x2 h = some (rr, hh) → W p l e rmX7_readFrom s m args below meth c H locs 0 0 (MQ below (QI G rr hh) args s 0 0 (gA G)) (F0 m 12 ls []) := by
  obtain ⟨hx, hb, hr, hlocks, hml, hown, hts, hK⟩ := id C
  intro n
  induction n with
  | zero => intro x2 h H locs ls hl hP hS hf; rw [f_X7_readFrom_12] at hf; cases hf
  | succ n ih =>
    intro x2 h H locs ls hl hP hS hf
    rw [f_X7_readFrom_12] at hf
    refine lv_iload_n hx hb dX7_readFrom_12 rfl (lv_at hl 2 rfl) ?_
    refine lv_sipush (v := 500) hx hb dX7_readFrom_13 (by decide) ?_
    refine lv_icmp_ge (tgt := 80) hx hb dX7_readFrom_16 (by decide) (fun c16 => ?_) (fun c16 => ?_)
    · replace hf := if_t c16 hf
      refine lv_iconst (v := 1) hx hb dX7_readFrom_80 (by decide) ?_
      exact r_zret hx hb hr rfl hlocks hP hS (re2 (Option.some.inj hf)) dX7_readFrom_81
    · replace hf := if_f c16 hf
      refine lv_aload_n hx hb dX7_readFrom_19 rfl (lv_at hl 1 rfl) ?_
      obtain ⟨r20, h20, er20, hf⟩ := bP_s hf
      refine r_callI (va_runV (As := []) (rest := []) ⟨hx, hb, hml, hown, hts⟩ (k_X3_atEnd l hG er20) (cwV 0 hts (gV wd432 wd433 wd434 wd75 wd435) rfl rfl rfl (by decide +kernel) ⟨Nat.le_of_ble_eq_true rfl, Nat.le_of_ble_eq_true rfl⟩) (r_pv hK hP hS (ltX3 rfl) (ceX3 rfl) rfl) rfl rfl hl.1 rfl (lv_room (Nat.le_of_ble_eq_true rfl)) dX7_readFrom_20 ⟨Nat.le_of_ble_eq_true rfl, Nat.le_of_ble_eq_true rfl⟩) hS (fun H locs hP hS => ?_)
      refine lv_if_ne (tgt := 80) hx hb dX7_readFrom_23 (by decide) (fun c23 => ?_) (fun c23 => ?_)
      · replace hf := if_f c23 hf
        refine lv_iconst (v := 1) hx hb dX7_readFrom_80 (by decide) ?_
        exact r_zret hx hb hr rfl hlocks hP hS (re2 (Option.some.inj hf)) dX7_readFrom_81
      · replace hf := if_t c23 hf
        refine lv_aload_n hx hb dX7_readFrom_26 rfl (lv_at hl 1 rfl) ?_
        refine va_ldcS (tx := "change") hx hb hown (hK.2.2.2.1 (RX7, 59, "change", 0) (by decide +kernel)) dX7_readFrom_27 ?_
        obtain ⟨r29, h29, er29, hf⟩ := bP_s hf
        refine r_callI (va_runV (As := [.ref (gk G 0)]) (rest := []) ⟨hx, hb, hml, hown, hts⟩ (k_X3_isWord l hG 0 (by decide) er29) (cwV 1 hts (gV wd437 wd438 wd439 wd75 wd440) rfl rfl rfl (by decide +kernel) ⟨Nat.le_of_ble_eq_true rfl, Nat.le_of_ble_eq_true rfl⟩) (r_pv hK hP hS (ltX3 rfl) (ceX3 rfl) rfl) rfl rfl hl.1 rfl (lv_room (Nat.le_of_ble_eq_true rfl)) dX7_readFrom_29 ⟨Nat.le_of_ble_eq_true rfl, Nat.le_of_ble_eq_true rfl⟩) hS (fun H locs hP hS => ?_)
        refine lv_if_eq (tgt := 44) hx hb dX7_readFrom_32 (by decide) (fun c32 => ?_) (fun c32 => ?_)
        · replace hf := if_t c32 hf
          refine lv_aload_n hx hb dX7_readFrom_44 rfl (lv_at hl 1 rfl) ?_
          refine va_ldcS (tx := "fault") hx hb hown (hK.2.2.2.1 (RX7, 69, "fault", 1) (by decide +kernel)) dX7_readFrom_45 ?_
          obtain ⟨r47, h47, er47, hf⟩ := bP_s hf
          refine r_callI (va_runV (As := [.ref (gk G 1)]) (rest := []) ⟨hx, hb, hml, hown, hts⟩ (k_X3_isWord l hG 1 (by decide) er47) (cwV 1 hts (gV wd437 wd438 wd439 wd75 wd440) rfl rfl rfl (by decide +kernel) ⟨Nat.le_of_ble_eq_true rfl, Nat.le_of_ble_eq_true rfl⟩) (r_pv hK hP hS (ltX3 rfl) (ceX3 rfl) rfl) rfl rfl hl.1 rfl (lv_room (Nat.le_of_ble_eq_true rfl)) dX7_readFrom_47 ⟨Nat.le_of_ble_eq_true rfl, Nat.le_of_ble_eq_true rfl⟩) hS (fun H locs hP hS => ?_)
          refine lv_if_eq (tgt := 62) hx hb dX7_readFrom_50 (by decide) (fun c50 => ?_) (fun c50 => ?_)
          · replace hf := if_t c50 hf
            refine lv_aload_n hx hb dX7_readFrom_62 rfl (lv_at hl 1 rfl) ?_
            refine lv_iconst (v := 1) hx hb dX7_readFrom_63 (by decide) ?_
            obtain ⟨r64, h64, er64, hf⟩ := bP_s hf
            refine r_callI (va_runV (As := [.int 1]) (rest := []) ⟨hx, hb, hml, hown, hts⟩ (k_X3_refuse l hG er64) (cwV 1 hts (gV wd493 wd494 wd495 wd75 wd496) rfl rfl rfl (by decide +kernel) ⟨Nat.le_of_ble_eq_true rfl, Nat.le_of_ble_eq_true rfl⟩) (r_pv hK hP hS (ltX3 rfl) (ceX3 rfl) rfl) rfl rfl hl.1 rfl (lv_room (Nat.le_of_ble_eq_true rfl)) dX7_readFrom_64 ⟨Nat.le_of_ble_eq_true rfl, Nat.le_of_ble_eq_true rfl⟩) hS (fun H locs hP hS => ?_)
            refine lv_istore_n (lv' := [(3, .int r64), (0, .ref (gB G a0)), (1, .ref (gB G 3)), (2, .int x2)]) hx hb dX7_readFrom_67 rfl hl (by decide) rfl (fun ls hl => ?_)
            exact w_X7_readFrom_68 hG C a0 ha0 (f_X7_readFrom_12 a0 n) ih x2 r64 h64 _ _ _ (lv_sub hl [1, 2, 3, 0] rfl) hP hS hf
          · replace hf := if_f c50 hf
            refine lv_aload_n hx hb dX7_readFrom_53 rfl (lv_at hl 0 rfl) ?_
            refine lv_aload_n hx hb dX7_readFrom_54 rfl (lv_at hl 1 rfl) ?_
            obtain ⟨r55, h55, er55, hf⟩ := bP_s hf
            refine r_callI (va_runV (As := [.ref (gB G 3)]) (rest := []) ⟨hx, hb, hml, hown, hts⟩ (k_X7_readFault l hG a0 ha0 er55) (cwV 1 hts (gV wd560 wd562 wd7 wd76 wd563) rfl rfl rfl (by decide +kernel) ⟨Nat.le_of_ble_eq_true rfl, Nat.le_of_ble_eq_true rfl⟩) (r_pv hK hP hS (ltX7 ha0) (ceX7 ha0) rfl) rfl rfl hl.1 rfl (lv_room (Nat.le_of_ble_eq_true rfl)) dX7_readFrom_55 ⟨Nat.le_of_ble_eq_true rfl, Nat.le_of_ble_eq_true rfl⟩) hS (fun H locs hP hS => ?_)
            refine lv_istore_n (lv' := [(3, .int r55), (0, .ref (gB G a0)), (1, .ref (gB G 3)), (2, .int x2)]) hx hb dX7_readFrom_58 rfl hl (by decide) rfl (fun ls hl => ?_)
            refine lv_goto (tgt := 68) hx hb dX7_readFrom_59 (by decide) ?_
            exact w_X7_readFrom_68 hG C a0 ha0 (f_X7_readFrom_12 a0 n) ih x2 r55 h55 _ _ _ (lv_sub hl [1, 2, 3, 0] rfl) hP hS hf
        · replace hf := if_f c32 hf
          refine lv_aload_n hx hb dX7_readFrom_35 rfl (lv_at hl 0 rfl) ?_
          refine lv_aload_n hx hb dX7_readFrom_36 rfl (lv_at hl 1 rfl) ?_
          obtain ⟨r37, h37, er37, hf⟩ := bP_s hf
          refine r_callI (va_runV (As := [.ref (gB G 3)]) (rest := []) ⟨hx, hb, hml, hown, hts⟩ (k_X7_readChange l hG a0 ha0 er37) (cwV 1 hts (gV wd489 wd491 wd0 wd76 wd492) rfl rfl rfl (by decide +kernel) ⟨Nat.le_of_ble_eq_true rfl, Nat.le_of_ble_eq_true rfl⟩) (r_pv hK hP hS (ltX7 ha0) (ceX7 ha0) rfl) rfl rfl hl.1 rfl (lv_room (Nat.le_of_ble_eq_true rfl)) dX7_readFrom_37 ⟨Nat.le_of_ble_eq_true rfl, Nat.le_of_ble_eq_true rfl⟩) hS (fun H locs hP hS => ?_)
          refine lv_istore_n (lv' := [(3, .int r37), (0, .ref (gB G a0)), (1, .ref (gB G 3)), (2, .int x2)]) hx hb dX7_readFrom_40 rfl hl (by decide) rfl (fun ls hl => ?_)
          refine lv_goto (tgt := 68) hx hb dX7_readFrom_41 (by decide) ?_
          exact w_X7_readFrom_68 hG C a0 ha0 (f_X7_readFrom_12 a0 n) ih x2 r37 h37 _ _ _ (lv_sub hl [1, 2, 3, 0] rfl) hP hS hf
def f_X7_readFrom (a0 : Nat) (h : PH) : Option (Int32 × PH) := lt' (hU h a0 0 0) (fun h2 => lt' (hU h2 a0 6 0) (fun h7 => f_X7_readFrom_12 a0 FU 0 h7))
set_option maxHeartbeats 4000000 in
set_option maxRecDepth 100000 in
theorem k_X7_readFrom (l : Launch) {G : GC} (hG : GOK G) (a0 : Nat) (ha0 : kdX7 a0) {rr : Int32} {h hh : PH} (hf : f_X7_readFrom a0 h = some (rr, hh)) : CI l yX7_readFrom vX7_readFrom rmX7_readFrom G [.ref (gB G a0), .ref (gB G 3)] h rr hh := by
  refine Met.ofW (cc := cX7_readFrom) (maxL := 4) (ret := (some .boolean)) (by decide +kernel) rfl ?_
  intro p e s m args below meth c s₁ B hml hv
  obtain ⟨rfl, hP, hK⟩ := hv
  have C : MC l G p s m _ meth c RX7 cX7_readFrom 4 (some .boolean) := ⟨B.exec, B.bytes, B.returns, B.notSynchronized, hml, findClass_of_methodNamed B.named, fun w hw => atoms_spec (ws := vX7_readFrom) B.pre w (List.mem_cons_of_mem _ hw), hK⟩
  obtain ⟨hx, hb, hr, hlocks, -, hown, hts, -⟩ := id C
  have hl := lv_entry ([.ref (gB G a0), .ref (gB G 3)]) (n := 4) (Nat.le_of_ble_eq_true rfl)
  rw [lg_entry_eq]
  generalize (lg_sl ([.ref (gB G a0), .ref (gB G 3)]) ++ List.replicate (4 - (lg_sl ([.ref (gB G a0), .ref (gB G 3)])).length) Slot.unset).toArray = ls at hl ⊢
  have hl : lv_has ls 4 [(0, .ref (gB G a0)), (1, .ref (gB G 3))] := hl
  have hS : SP G s s.heap [] := va_S.rf
  replace hP : WP G h s.heap := hP
  rw [f_X7_readFrom] at hf
  refine lv_aload_n hx hb dX7_readFrom_0 rfl (lv_at hl 0 rfl) ?_
  refine lv_iconst (v := 0) hx hb dX7_readFrom_1 (by decide) ?_
  obtain ⟨h2, eh2⟩ : ∃ y, y = hU h a0 0 0 := ⟨_, rfl⟩
  replace hf := lt_at eh2 hf
  refine r_put (a := a0) (v := .int 0) (ty := .int) (h' := h2) (C := RX7) (T := TX7) (N := 10) hG hx hb hts hinX7 tyX7 tyX7_ok nmX7 hown hK hP hS (ltX7 ha0) (ceX7 ha0) rfl 0 (by decide) wd154 rfl (by decide +kernel) rfl rfl (Nat.le_of_ble_eq_true rfl) (by rw [eh2]; exact fun j hj => cE_U hj) (by rw [eh2]; exact puX7_0 ha0 _) dX7_readFrom_2 (fun H locs hP hS => ?_)
  refine lv_aload_n hx hb dX7_readFrom_5 rfl (lv_at hl 0 rfl) ?_
  refine lv_iconst (v := 0) hx hb dX7_readFrom_6 (by decide) ?_
  obtain ⟨h7, eh7⟩ : ∃ y, y = hU h2 a0 6 0 := ⟨_, rfl⟩
  replace hf := lt_at eh7 hf
  refine r_put (a := a0) (v := .int 0) (ty := .int) (h' := h7) (C := RX7) (T := TX7) (N := 10) hG hx hb hts hinX7 tyX7 tyX7_ok nmX7 hown hK hP hS (ltX7 ha0) (ceX7 ha0) rfl 6 (by decide) wd169 rfl (by decide +kernel) rfl rfl (Nat.le_of_ble_eq_true rfl) (by rw [eh7]; exact fun j hj => cE_U hj) (by rw [eh7]; exact puX7_6 ha0 _) dX7_readFrom_7 (fun H locs hP hS => ?_)
  refine lv_iconst (v := 0) hx hb dX7_readFrom_10 (by decide) ?_
  refine lv_istore_n (lv' := [(2, .int 0), (0, .ref (gB G a0)), (1, .ref (gB G 3))]) hx hb dX7_readFrom_11 rfl hl (by decide) rfl (fun ls hl => ?_)
  exact w_X7_readFrom_12 hG C a0 ha0 FU 0 h7 _ _ _ (lv_sub hl [1, 2, 0] rfl) hP hS hf
/-! CarriedBack$Trunk.become(LCarriedBack$Trunk;)V -/
abbrev rmX7_become : Room := { frames := 1, cells := 0, slots := 0, locals := 30 }
abbrev vX7_become : List Cond := Cond.code yX7_become cX7_become 2 none :: GW
def f_X7_become (a0 : Nat) (a1 : Nat) (h : PH) : Option PH := lt' (hU h a0 0 (h.1 a1 0)) (fun h5 => lt' (hU h5 a0 6 (h5.1 a1 6)) (fun h13 => bO (cpy h13 (a1 + 1) 24 0 (a0 + 1) 24 0 24) (fun h28 => bO (cpy h28 (a1 + 2) 24 0 (a0 + 2) 24 0 24) (fun h43 => bO (cpy h43 (a1 + 3) 24 0 (a0 + 3) 24 0 24) (fun h58 => bO (cpy h58 (a1 + 4) 384 0 (a0 + 4) 384 0 384) (fun h74 => bO (cpy h74 (a1 + 5) 400 0 (a0 + 5) 400 0 400) (fun h90 => bO (cpy h90 (a1 + 6) 10 0 (a0 + 6) 10 0 10) (fun h105 => bO (cpy h105 (a1 + 7) 10 0 (a0 + 7) 10 0 10) (fun h120 => bO (cpy h120 (a1 + 8) 10 0 (a0 + 8) 10 0 10) (fun h135 => some h135))))))))))
set_option maxHeartbeats 4000000 in
set_option maxRecDepth 100000 in
theorem k_X7_become (l : Launch) {G : GC} (hG : GOK G) (a0 : Nat) (ha0 : kdX7 a0) (a1 : Nat) (ha1 : kdX7 a1) {h hh : PH} (hf : f_X7_become a0 a1 h = some hh) : CV l yX7_become vX7_become rmX7_become G [.ref (gB G a0), .ref (gB G a1)] h hh := by
  refine Met.ofW (cc := cX7_become) (maxL := 2) (ret := none) (by decide +kernel) rfl ?_
  intro p e s m args below meth c s₁ B hml hv
  obtain ⟨rfl, hP, hK⟩ := hv
  have C : MC l G p s m _ meth c RX7 cX7_become 2 none := ⟨B.exec, B.bytes, B.returns, B.notSynchronized, hml, findClass_of_methodNamed B.named, fun w hw => atoms_spec (ws := vX7_become) B.pre w (List.mem_cons_of_mem _ hw), hK⟩
  obtain ⟨hx, hb, hr, hlocks, -, hown, hts, -⟩ := id C
  have hl := lv_entry ([.ref (gB G a0), .ref (gB G a1)]) (n := 2) (Nat.le_of_ble_eq_true rfl)
  rw [lg_entry_eq]
  generalize (lg_sl ([.ref (gB G a0), .ref (gB G a1)]) ++ List.replicate (2 - (lg_sl ([.ref (gB G a0), .ref (gB G a1)])).length) Slot.unset).toArray = ls at hl ⊢
  have hl : lv_has ls 2 [(0, .ref (gB G a0)), (1, .ref (gB G a1))] := hl
  have hS : SP G s s.heap [] := va_S.rf
  replace hP : WP G h s.heap := hP
  rw [f_X7_become] at hf
  refine lv_aload_n hx hb dX7_become_0 rfl (lv_at hl 0 rfl) ?_
  refine lv_aload_n hx hb dX7_become_1 rfl (lv_at hl 1 rfl) ?_
  refine r_get (a := a1) (v := .int (h.1 a1 0)) (C := RX7) (T := TX7) (N := 10) hx hb hts hinX7 hown hK hP (ltX7 ha1) (ceX7 ha1) rfl 0 (by decide) wd154 rfl dX7_become_2 ?_
  obtain ⟨h5, eh5⟩ : ∃ y, y = hU h a0 0 (h.1 a1 0) := ⟨_, rfl⟩
  replace hf := lt_at eh5 hf
  refine r_put (a := a0) (v := .int (h.1 a1 0)) (ty := .int) (h' := h5) (C := RX7) (T := TX7) (N := 10) hG hx hb hts hinX7 tyX7 tyX7_ok nmX7 hown hK hP hS (ltX7 ha0) (ceX7 ha0) rfl 0 (by decide) wd154 rfl (by decide +kernel) rfl rfl (Nat.le_of_ble_eq_true rfl) (by rw [eh5]; exact fun j hj => cE_U hj) (by rw [eh5]; exact puX7_0 ha0 _) dX7_become_5 (fun H locs hP hS => ?_)
  refine lv_aload_n hx hb dX7_become_8 rfl (lv_at hl 0 rfl) ?_
  refine lv_aload_n hx hb dX7_become_9 rfl (lv_at hl 1 rfl) ?_
  refine r_get (a := a1) (v := .int (h5.1 a1 6)) (C := RX7) (T := TX7) (N := 10) hx hb hts hinX7 hown hK hP (ltX7 ha1) (ceX7 ha1) rfl 6 (by decide) wd169 rfl dX7_become_10 ?_
  obtain ⟨h13, eh13⟩ : ∃ y, y = hU h5 a0 6 (h5.1 a1 6) := ⟨_, rfl⟩
  replace hf := lt_at eh13 hf
  refine r_put (a := a0) (v := .int (h5.1 a1 6)) (ty := .int) (h' := h13) (C := RX7) (T := TX7) (N := 10) hG hx hb hts hinX7 tyX7 tyX7_ok nmX7 hown hK hP hS (ltX7 ha0) (ceX7 ha0) rfl 6 (by decide) wd169 rfl (by decide +kernel) rfl rfl (Nat.le_of_ble_eq_true rfl) (by rw [eh13]; exact fun j hj => cE_U hj) (by rw [eh13]; exact puX7_6 ha0 _) dX7_become_13 (fun H locs hP hS => ?_)
  refine lv_aload_n hx hb dX7_become_16 rfl (lv_at hl 1 rfl) ?_
  refine r_get (a := a1) (v := .ref (gB G (a1 + 1))) (C := RX7) (T := TX7) (N := 10) hx hb hts hinX7 hown hK hP (ltX7 ha1) (ceX7 ha1) rfl 1 (by decide) wd158 rfl dX7_become_17 ?_
  refine lv_iconst (v := 0) hx hb dX7_become_20 (by decide) ?_
  refine lv_aload_n hx hb dX7_become_21 rfl (lv_at hl 0 rfl) ?_
  refine r_get (a := a0) (v := .ref (gB G (a0 + 1))) (C := RX7) (T := TX7) (N := 10) hx hb hts hinX7 hown hK hP (ltX7 ha0) (ceX7 ha0) rfl 1 (by decide) wd158 rfl dX7_become_22 ?_
  refine lv_iconst (v := 0) hx hb dX7_become_25 (by decide) ?_
  refine lv_bipush (v := 24) hx hb dX7_become_26 (by decide) ?_
  obtain ⟨h28, eh28, hf⟩ := bO_s hf
  refine r_cpy hG hx hb (by rw [hml]; exact hl.1.symm) hown hts wd551 wd553 wd552 wd87 hK hP hS (arX7_1 ha1) (arX7_1 ha0) eh28 (Nat.le_of_ble_eq_true rfl) (Nat.le_of_ble_eq_true rfl) dX7_become_28 (fun H locs hP hS => ?_)
  refine lv_aload_n hx hb dX7_become_31 rfl (lv_at hl 1 rfl) ?_
  refine r_get (a := a1) (v := .ref (gB G (a1 + 2))) (C := RX7) (T := TX7) (N := 10) hx hb hts hinX7 hown hK hP (ltX7 ha1) (ceX7 ha1) rfl 2 (by decide) wd160 rfl dX7_become_32 ?_
  refine lv_iconst (v := 0) hx hb dX7_become_35 (by decide) ?_
  refine lv_aload_n hx hb dX7_become_36 rfl (lv_at hl 0 rfl) ?_
  refine r_get (a := a0) (v := .ref (gB G (a0 + 2))) (C := RX7) (T := TX7) (N := 10) hx hb hts hinX7 hown hK hP (ltX7 ha0) (ceX7 ha0) rfl 2 (by decide) wd160 rfl dX7_become_37 ?_
  refine lv_iconst (v := 0) hx hb dX7_become_40 (by decide) ?_
  refine lv_bipush (v := 24) hx hb dX7_become_41 (by decide) ?_
  obtain ⟨h43, eh43, hf⟩ := bO_s hf
  refine r_cpy hG hx hb (by rw [hml]; exact hl.1.symm) hown hts wd551 wd553 wd552 wd87 hK hP hS (arX7_2 ha1) (arX7_2 ha0) eh43 (Nat.le_of_ble_eq_true rfl) (Nat.le_of_ble_eq_true rfl) dX7_become_43 (fun H locs hP hS => ?_)
  refine lv_aload_n hx hb dX7_become_46 rfl (lv_at hl 1 rfl) ?_
  refine r_get (a := a1) (v := .ref (gB G (a1 + 3))) (C := RX7) (T := TX7) (N := 10) hx hb hts hinX7 hown hK hP (ltX7 ha1) (ceX7 ha1) rfl 3 (by decide) wd162 rfl dX7_become_47 ?_
  refine lv_iconst (v := 0) hx hb dX7_become_50 (by decide) ?_
  refine lv_aload_n hx hb dX7_become_51 rfl (lv_at hl 0 rfl) ?_
  refine r_get (a := a0) (v := .ref (gB G (a0 + 3))) (C := RX7) (T := TX7) (N := 10) hx hb hts hinX7 hown hK hP (ltX7 ha0) (ceX7 ha0) rfl 3 (by decide) wd162 rfl dX7_become_52 ?_
  refine lv_iconst (v := 0) hx hb dX7_become_55 (by decide) ?_
  refine lv_bipush (v := 24) hx hb dX7_become_56 (by decide) ?_
  obtain ⟨h58, eh58, hf⟩ := bO_s hf
  refine r_cpy hG hx hb (by rw [hml]; exact hl.1.symm) hown hts wd551 wd553 wd552 wd87 hK hP hS (arX7_3 ha1) (arX7_3 ha0) eh58 (Nat.le_of_ble_eq_true rfl) (Nat.le_of_ble_eq_true rfl) dX7_become_58 (fun H locs hP hS => ?_)
  refine lv_aload_n hx hb dX7_become_61 rfl (lv_at hl 1 rfl) ?_
  refine r_get (a := a1) (v := .ref (gB G (a1 + 4))) (C := RX7) (T := TX7) (N := 10) hx hb hts hinX7 hown hK hP (ltX7 ha1) (ceX7 ha1) rfl 4 (by decide) wd164 rfl dX7_become_62 ?_
  refine lv_iconst (v := 0) hx hb dX7_become_65 (by decide) ?_
  refine lv_aload_n hx hb dX7_become_66 rfl (lv_at hl 0 rfl) ?_
  refine r_get (a := a0) (v := .ref (gB G (a0 + 4))) (C := RX7) (T := TX7) (N := 10) hx hb hts hinX7 hown hK hP (ltX7 ha0) (ceX7 ha0) rfl 4 (by decide) wd164 rfl dX7_become_67 ?_
  refine lv_iconst (v := 0) hx hb dX7_become_70 (by decide) ?_
  refine lv_sipush (v := 384) hx hb dX7_become_71 (by decide) ?_
  obtain ⟨h74, eh74, hf⟩ := bO_s hf
  refine r_cpy hG hx hb (by rw [hml]; exact hl.1.symm) hown hts wd551 wd553 wd552 wd87 hK hP hS (arX7_4 ha1) (arX7_4 ha0) eh74 (Nat.le_of_ble_eq_true rfl) (Nat.le_of_ble_eq_true rfl) dX7_become_74 (fun H locs hP hS => ?_)
  refine lv_aload_n hx hb dX7_become_77 rfl (lv_at hl 1 rfl) ?_
  refine r_get (a := a1) (v := .ref (gB G (a1 + 5))) (C := RX7) (T := TX7) (N := 10) hx hb hts hinX7 hown hK hP (ltX7 ha1) (ceX7 ha1) rfl 5 (by decide) wd166 rfl dX7_become_78 ?_
  refine lv_iconst (v := 0) hx hb dX7_become_81 (by decide) ?_
  refine lv_aload_n hx hb dX7_become_82 rfl (lv_at hl 0 rfl) ?_
  refine r_get (a := a0) (v := .ref (gB G (a0 + 5))) (C := RX7) (T := TX7) (N := 10) hx hb hts hinX7 hown hK hP (ltX7 ha0) (ceX7 ha0) rfl 5 (by decide) wd166 rfl dX7_become_83 ?_
  refine lv_iconst (v := 0) hx hb dX7_become_86 (by decide) ?_
  refine lv_sipush (v := 400) hx hb dX7_become_87 (by decide) ?_
  obtain ⟨h90, eh90, hf⟩ := bO_s hf
  refine r_cpy hG hx hb (by rw [hml]; exact hl.1.symm) hown hts wd551 wd553 wd552 wd87 hK hP hS (arX7_5 ha1) (arX7_5 ha0) eh90 (Nat.le_of_ble_eq_true rfl) (Nat.le_of_ble_eq_true rfl) dX7_become_90 (fun H locs hP hS => ?_)
  refine lv_aload_n hx hb dX7_become_93 rfl (lv_at hl 1 rfl) ?_
  refine r_get (a := a1) (v := .ref (gB G (a1 + 6))) (C := RX7) (T := TX7) (N := 10) hx hb hts hinX7 hown hK hP (ltX7 ha1) (ceX7 ha1) rfl 7 (by decide) wd172 rfl dX7_become_94 ?_
  refine lv_iconst (v := 0) hx hb dX7_become_97 (by decide) ?_
  refine lv_aload_n hx hb dX7_become_98 rfl (lv_at hl 0 rfl) ?_
  refine r_get (a := a0) (v := .ref (gB G (a0 + 6))) (C := RX7) (T := TX7) (N := 10) hx hb hts hinX7 hown hK hP (ltX7 ha0) (ceX7 ha0) rfl 7 (by decide) wd172 rfl dX7_become_99 ?_
  refine lv_iconst (v := 0) hx hb dX7_become_102 (by decide) ?_
  refine lv_bipush (v := 10) hx hb dX7_become_103 (by decide) ?_
  obtain ⟨h105, eh105, hf⟩ := bO_s hf
  refine r_cpy hG hx hb (by rw [hml]; exact hl.1.symm) hown hts wd551 wd553 wd552 wd87 hK hP hS (arX7_7 ha1) (arX7_7 ha0) eh105 (Nat.le_of_ble_eq_true rfl) (Nat.le_of_ble_eq_true rfl) dX7_become_105 (fun H locs hP hS => ?_)
  refine lv_aload_n hx hb dX7_become_108 rfl (lv_at hl 1 rfl) ?_
  refine r_get (a := a1) (v := .ref (gB G (a1 + 7))) (C := RX7) (T := TX7) (N := 10) hx hb hts hinX7 hown hK hP (ltX7 ha1) (ceX7 ha1) rfl 8 (by decide) wd174 rfl dX7_become_109 ?_
  refine lv_iconst (v := 0) hx hb dX7_become_112 (by decide) ?_
  refine lv_aload_n hx hb dX7_become_113 rfl (lv_at hl 0 rfl) ?_
  refine r_get (a := a0) (v := .ref (gB G (a0 + 7))) (C := RX7) (T := TX7) (N := 10) hx hb hts hinX7 hown hK hP (ltX7 ha0) (ceX7 ha0) rfl 8 (by decide) wd174 rfl dX7_become_114 ?_
  refine lv_iconst (v := 0) hx hb dX7_become_117 (by decide) ?_
  refine lv_bipush (v := 10) hx hb dX7_become_118 (by decide) ?_
  obtain ⟨h120, eh120, hf⟩ := bO_s hf
  refine r_cpy hG hx hb (by rw [hml]; exact hl.1.symm) hown hts wd551 wd553 wd552 wd87 hK hP hS (arX7_8 ha1) (arX7_8 ha0) eh120 (Nat.le_of_ble_eq_true rfl) (Nat.le_of_ble_eq_true rfl) dX7_become_120 (fun H locs hP hS => ?_)
  refine lv_aload_n hx hb dX7_become_123 rfl (lv_at hl 1 rfl) ?_
  refine r_get (a := a1) (v := .ref (gB G (a1 + 8))) (C := RX7) (T := TX7) (N := 10) hx hb hts hinX7 hown hK hP (ltX7 ha1) (ceX7 ha1) rfl 9 (by decide) wd176 rfl dX7_become_124 ?_
  refine lv_iconst (v := 0) hx hb dX7_become_127 (by decide) ?_
  refine lv_aload_n hx hb dX7_become_128 rfl (lv_at hl 0 rfl) ?_
  refine r_get (a := a0) (v := .ref (gB G (a0 + 8))) (C := RX7) (T := TX7) (N := 10) hx hb hts hinX7 hown hK hP (ltX7 ha0) (ceX7 ha0) rfl 9 (by decide) wd176 rfl dX7_become_129 ?_
  refine lv_iconst (v := 0) hx hb dX7_become_132 (by decide) ?_
  refine lv_bipush (v := 10) hx hb dX7_become_133 (by decide) ?_
  obtain ⟨h135, eh135, hf⟩ := bO_s hf
  refine r_cpy hG hx hb (by rw [hml]; exact hl.1.symm) hown hts wd551 wd553 wd552 wd87 hK hP hS (arX7_9 ha1) (arX7_9 ha0) eh135 (Nat.le_of_ble_eq_true rfl) (Nat.le_of_ble_eq_true rfl) dX7_become_135 (fun H locs hP hS => ?_)
  exact r_vret hx hb hr hlocks hP hS (Option.some.inj hf) dX7_become_138
/-! CarriedBack.trunk()I -/
abbrev rmX8_trunk : Room := { frames := 9, cells := 0, slots := 0, locals := 197 }
abbrev vX8_trunk : List Cond := Cond.code yX8_trunk cX8_trunk 2 (some .int) :: GW
def f_X8_trunk (h : PH) : Option (Int32 × PH) := bO (f_X3_begin 2 h) (fun h5 => bP (f_X7_readFrom 13 h5) (fun r16 h16 => lt' (hU h16 1 1 0) (fun h25 => lt' (hU h25 0 13 (h25.1 3 7)) (fun h36 => if r16 = 0 then (some (((-10) - (h36.1 3 6)), h36)) else (bO (f_X7_become 4 13 h36) (fun h62 => lt' (hU h62 28 0 0) (fun h70 => lt' (hU h70 28 5 0) (fun h78 => lt' (hU h78 0 12 0) (fun h83 => some ((h83.1 4 0), h83))))))))))
set_option maxHeartbeats 4000000 in
set_option maxRecDepth 100000 in
theorem k_X8_trunk (l : Launch) {G : GC} (hG : GOK G) {rr : Int32} {h hh : PH} (hf : f_X8_trunk h = some (rr, hh)) : CI l yX8_trunk vX8_trunk rmX8_trunk G [.ref (gB G 0)] h rr hh := by
  refine Met.ofW (cc := cX8_trunk) (maxL := 2) (ret := (some .int)) (by decide +kernel) rfl ?_
  intro p e s m args below meth c s₁ B hml hv
  obtain ⟨rfl, hP, hK⟩ := hv
  have C : MC l G p s m _ meth c RX8 cX8_trunk 2 (some .int) := ⟨B.exec, B.bytes, B.returns, B.notSynchronized, hml, findClass_of_methodNamed B.named, fun w hw => atoms_spec (ws := vX8_trunk) B.pre w (List.mem_cons_of_mem _ hw), hK⟩
  obtain ⟨hx, hb, hr, hlocks, -, hown, hts, -⟩ := id C
  have hl := lv_entry ([.ref (gB G 0)]) (n := 2) (Nat.le_of_ble_eq_true rfl)
  rw [lg_entry_eq]
  generalize (lg_sl ([.ref (gB G 0)]) ++ List.replicate (2 - (lg_sl ([.ref (gB G 0)])).length) Slot.unset).toArray = ls at hl ⊢
  have hl : lv_has ls 2 [(0, .ref (gB G 0))] := hl
  have hS : SP G s s.heap [] := va_S.rf
  replace hP : WP G h s.heap := hP
  rw [f_X8_trunk] at hf
  refine lv_aload_n hx hb dX8_trunk_0 rfl (lv_at hl 0 rfl) ?_
  refine r_get (a := 0) (v := .ref (gB G 3)) (C := RX8) (T := TX8) (N := 14) hx hb hts hinX8 hown hK hP (ltX8 rfl) (ceX8 rfl) rfl 1 (by decide) wd363 rfl dX8_trunk_1 ?_
  refine lv_iconst (v := 2) hx hb dX8_trunk_4 (by decide) ?_
  obtain ⟨h5, eh5, hf⟩ := bO_s hf
  refine r_callV (va_runV (As := [.int 2]) (rest := []) ⟨hx, hb, hml, hown, hts⟩ (k_X3_begin l hG eh5) (cwV 1 hts (gV wd417 wd418 wd419 wd75 wd420) rfl rfl rfl (by decide +kernel) ⟨Nat.le_of_ble_eq_true rfl, Nat.le_of_ble_eq_true rfl⟩) (r_pv hK hP hS (ltX3 rfl) (ceX3 rfl) rfl) rfl rfl hl.1 rfl (lv_room (Nat.le_of_ble_eq_true rfl)) dX8_trunk_5 ⟨Nat.le_of_ble_eq_true rfl, Nat.le_of_ble_eq_true rfl⟩) hS (fun H locs hP hS => ?_)
  refine lv_aload_n hx hb dX8_trunk_8 rfl (lv_at hl 0 rfl) ?_
  refine r_get (a := 0) (v := .ref (gB G 13)) (C := RX8) (T := TX8) (N := 14) hx hb hts hinX8 hown hK hP (ltX8 rfl) (ceX8 rfl) rfl 3 (by decide) wd365 rfl dX8_trunk_9 ?_
  refine lv_aload_n hx hb dX8_trunk_12 rfl (lv_at hl 0 rfl) ?_
  refine r_get (a := 0) (v := .ref (gB G 3)) (C := RX8) (T := TX8) (N := 14) hx hb hts hinX8 hown hK hP (ltX8 rfl) (ceX8 rfl) rfl 1 (by decide) wd363 rfl dX8_trunk_13 ?_
  obtain ⟨r16, h16, er16, hf⟩ := bP_s hf
  refine r_callI (va_runV (As := [.ref (gB G 3)]) (rest := []) ⟨hx, hb, hml, hown, hts⟩ (k_X7_readFrom l hG 13 (Or.inr rfl) er16) (cwV 1 hts (gV wd428 wd429 wd430 wd76 wd431) rfl rfl rfl (by decide +kernel) ⟨Nat.le_of_ble_eq_true rfl, Nat.le_of_ble_eq_true rfl⟩) (r_pv hK hP hS (ltX7 (Or.inr rfl)) (ceX7 (Or.inr rfl)) rfl) rfl rfl hl.1 rfl (lv_room (Nat.le_of_ble_eq_true rfl)) dX8_trunk_16 ⟨Nat.le_of_ble_eq_true rfl, Nat.le_of_ble_eq_true rfl⟩) hS (fun H locs hP hS => ?_)
  refine lv_istore_n (lv' := [(1, .int r16), (0, .ref (gB G 0))]) hx hb dX8_trunk_19 rfl hl (by decide) rfl (fun ls hl => ?_)
  refine lv_aload_n hx hb dX8_trunk_20 rfl (lv_at hl 1 rfl) ?_
  refine r_get (a := 0) (v := .ref (gB G 1)) (C := RX8) (T := TX8) (N := 14) hx hb hts hinX8 hown hK hP (ltX8 rfl) (ceX8 rfl) rfl 0 (by decide) wd362 rfl dX8_trunk_21 ?_
  refine lv_iconst (v := 0) hx hb dX8_trunk_24 (by decide) ?_
  obtain ⟨h25, eh25⟩ : ∃ y, y = hU h16 1 1 0 := ⟨_, rfl⟩
  replace hf := lt_at eh25 hf
  refine r_put (a := 1) (v := .int 0) (ty := .int) (h' := h25) (C := RX6) (T := TX6) (N := 2) hG hx hb hts hinX6 tyX6 tyX6_ok nmX6 hown hK hP hS (ltX6 rfl) (ceX6 rfl) rfl 1 (by decide) wd107 rfl (by decide +kernel) rfl rfl (Nat.le_of_ble_eq_true rfl) (by rw [eh25]; exact fun j hj => cE_U hj) (by rw [eh25]; exact puX6_1 rfl _) dX8_trunk_25 (fun H locs hP hS => ?_)
  refine lv_aload_n hx hb dX8_trunk_28 rfl (lv_at hl 1 rfl) ?_
  refine lv_aload_n hx hb dX8_trunk_29 rfl (lv_at hl 1 rfl) ?_
  refine r_get (a := 0) (v := .ref (gB G 3)) (C := RX8) (T := TX8) (N := 14) hx hb hts hinX8 hown hK hP (ltX8 rfl) (ceX8 rfl) rfl 1 (by decide) wd363 rfl dX8_trunk_30 ?_
  refine r_get (a := 3) (v := .int (h25.1 3 7)) (C := RX3) (T := TX3) (N := 8) hx hb hts hinX3 hown hK hP (ltX3 rfl) (ceX3 rfl) rfl 7 (by decide) wd130 rfl dX8_trunk_33 ?_
  obtain ⟨h36, eh36⟩ : ∃ y, y = hU h25 0 13 (h25.1 3 7) := ⟨_, rfl⟩
  replace hf := lt_at eh36 hf
  refine r_put (a := 0) (v := .int (h25.1 3 7)) (ty := .int) (h' := h36) (C := RX8) (T := TX8) (N := 14) hG hx hb hts hinX8 tyX8 tyX8_ok nmX8 hown hK hP hS (ltX8 rfl) (ceX8 rfl) rfl 13 (by decide) wd375 rfl (by decide +kernel) rfl rfl (Nat.le_of_ble_eq_true rfl) (by rw [eh36]; exact fun j hj => cE_U hj) (by rw [eh36]; exact puX8_13 rfl _) dX8_trunk_36 (fun H locs hP hS => ?_)
  refine lv_iload_n hx hb dX8_trunk_39 rfl (lv_at hl 0 rfl) ?_
  refine lv_if_ne (tgt := 54) hx hb dX8_trunk_40 (by decide) (fun c40 => ?_) (fun c40 => ?_)
  · replace hf := if_f c40 hf
    refine lv_aload_n hx hb dX8_trunk_54 rfl (lv_at hl 1 rfl) ?_
    refine r_get (a := 0) (v := .ref (gB G 4)) (C := RX8) (T := TX8) (N := 14) hx hb hts hinX8 hown hK hP (ltX8 rfl) (ceX8 rfl) rfl 2 (by decide) wd364 rfl dX8_trunk_55 ?_
    refine lv_aload_n hx hb dX8_trunk_58 rfl (lv_at hl 1 rfl) ?_
    refine r_get (a := 0) (v := .ref (gB G 13)) (C := RX8) (T := TX8) (N := 14) hx hb hts hinX8 hown hK hP (ltX8 rfl) (ceX8 rfl) rfl 3 (by decide) wd365 rfl dX8_trunk_59 ?_
    obtain ⟨h62, eh62, hf⟩ := bO_s hf
    refine r_callV (va_runV (As := [.ref (gB G 13)]) (rest := []) ⟨hx, hb, hml, hown, hts⟩ (k_X7_become l hG 4 (Or.inl rfl) 13 (Or.inr rfl) eh62) (cwV 1 hts (gV wd571 wd572 wd573 wd76 wd574) rfl rfl rfl (by decide +kernel) ⟨Nat.le_of_ble_eq_true rfl, Nat.le_of_ble_eq_true rfl⟩) (r_pv hK hP hS (ltX7 (Or.inl rfl)) (ceX7 (Or.inl rfl)) rfl) rfl rfl hl.1 rfl (lv_room (Nat.le_of_ble_eq_true rfl)) dX8_trunk_62 ⟨Nat.le_of_ble_eq_true rfl, Nat.le_of_ble_eq_true rfl⟩) hS (fun H locs hP hS => ?_)
    refine lv_aload_n hx hb dX8_trunk_65 rfl (lv_at hl 1 rfl) ?_
    refine r_get (a := 0) (v := .ref (gB G 28)) (C := RX8) (T := TX8) (N := 14) hx hb hts hinX8 hown hK hP (ltX8 rfl) (ceX8 rfl) rfl 6 (by decide) wd368 rfl dX8_trunk_66 ?_
    refine lv_iconst (v := 0) hx hb dX8_trunk_69 (by decide) ?_
    obtain ⟨h70, eh70⟩ : ∃ y, y = hU h62 28 0 0 := ⟨_, rfl⟩
    replace hf := lt_at eh70 hf
    refine r_put (a := 28) (v := .int 0) (ty := .int) (h' := h70) (C := RX0) (T := TX0) (N := 10) hG hx hb hts hinX0 tyX0 tyX0_ok nmX0 hown hK hP hS (ltX0 (Or.inl rfl)) (ceX0 (Or.inl rfl)) rfl 0 (by decide) wd236 rfl (by decide +kernel) rfl rfl (Nat.le_of_ble_eq_true rfl) (by rw [eh70]; exact fun j hj => cE_U hj) (by rw [eh70]; exact puX0_0 (Or.inl rfl) _) dX8_trunk_70 (fun H locs hP hS => ?_)
    refine lv_aload_n hx hb dX8_trunk_73 rfl (lv_at hl 1 rfl) ?_
    refine r_get (a := 0) (v := .ref (gB G 28)) (C := RX8) (T := TX8) (N := 14) hx hb hts hinX8 hown hK hP (ltX8 rfl) (ceX8 rfl) rfl 6 (by decide) wd368 rfl dX8_trunk_74 ?_
    refine lv_iconst (v := 0) hx hb dX8_trunk_77 (by decide) ?_
    obtain ⟨h78, eh78⟩ : ∃ y, y = hU h70 28 5 0 := ⟨_, rfl⟩
    replace hf := lt_at eh78 hf
    refine r_put (a := 28) (v := .int 0) (ty := .int) (h' := h78) (C := RX0) (T := TX0) (N := 10) hG hx hb hts hinX0 tyX0 tyX0_ok nmX0 hown hK hP hS (ltX0 (Or.inl rfl)) (ceX0 (Or.inl rfl)) rfl 5 (by decide) wd249 rfl (by decide +kernel) rfl rfl (Nat.le_of_ble_eq_true rfl) (by rw [eh78]; exact fun j hj => cE_U hj) (by rw [eh78]; exact puX0_5 (Or.inl rfl) _) dX8_trunk_78 (fun H locs hP hS => ?_)
    refine lv_aload_n hx hb dX8_trunk_81 rfl (lv_at hl 1 rfl) ?_
    refine lv_iconst (v := 0) hx hb dX8_trunk_82 (by decide) ?_
    obtain ⟨h83, eh83⟩ : ∃ y, y = hU h78 0 12 0 := ⟨_, rfl⟩
    replace hf := lt_at eh83 hf
    refine r_put (a := 0) (v := .int 0) (ty := .int) (h' := h83) (C := RX8) (T := TX8) (N := 14) hG hx hb hts hinX8 tyX8 tyX8_ok nmX8 hown hK hP hS (ltX8 rfl) (ceX8 rfl) rfl 12 (by decide) wd374 rfl (by decide +kernel) rfl rfl (Nat.le_of_ble_eq_true rfl) (by rw [eh83]; exact fun j hj => cE_U hj) (by rw [eh83]; exact puX8_12 rfl _) dX8_trunk_83 (fun H locs hP hS => ?_)
    refine lv_aload_n hx hb dX8_trunk_86 rfl (lv_at hl 1 rfl) ?_
    refine r_get (a := 0) (v := .ref (gB G 4)) (C := RX8) (T := TX8) (N := 14) hx hb hts hinX8 hown hK hP (ltX8 rfl) (ceX8 rfl) rfl 2 (by decide) wd364 rfl dX8_trunk_87 ?_
    refine r_get (a := 4) (v := .int (h83.1 4 0)) (C := RX7) (T := TX7) (N := 10) hx hb hts hinX7 hown hK hP (ltX7 (Or.inl rfl)) (ceX7 (Or.inl rfl)) rfl 0 (by decide) wd156 rfl dX8_trunk_90 ?_
    exact r_iret hx hb hr hlocks hP hS (re2 (Option.some.inj hf)) dX8_trunk_93
  · replace hf := if_t c40 hf
    refine lv_bipush (v := (-10)) hx hb dX8_trunk_43 (by decide) ?_
    refine lv_aload_n hx hb dX8_trunk_45 rfl (lv_at hl 1 rfl) ?_
    refine r_get (a := 0) (v := .ref (gB G 3)) (C := RX8) (T := TX8) (N := 14) hx hb hts hinX8 hown hK hP (ltX8 rfl) (ceX8 rfl) rfl 1 (by decide) wd363 rfl dX8_trunk_46 ?_
    refine r_get (a := 3) (v := .int (h36.1 3 6)) (C := RX3) (T := TX3) (N := 8) hx hb hts hinX3 hown hK hP (ltX3 rfl) (ceX3 rfl) rfl 6 (by decide) wd128 rfl dX8_trunk_49 ?_
    refine lv_isub hx hb dX8_trunk_52 ?_
    exact r_iret hx hb hr hlocks hP hS (re2 (Option.some.inj hf)) dX8_trunk_53
/-! CarriedBack$Rules.readFreeze(LCarriedBack$Reader;)Z -/
abbrev rmX5_readFreeze : Room := { frames := 3, cells := 0, slots := 0, locals := 66 }
abbrev vX5_readFreeze : List Cond := Cond.code yX5_readFreeze cX5_readFreeze 4 (some .boolean) :: GW
def f_X5_readFreeze (a0 : Nat) (h : PH) : Option (Int32 × PH) := bO (f_X3_step h) (fun h1 => bP (f_X3_needNumber 0 999 h1) (fun r9 h9 => if r9 = (-1) then (some (0, h9)) else (bP (f_X3_needNumber r9 999 h9) (fun r25 h25 => if r25 = (-1) then (some (0, h25)) else (bO (asg h25 (a0 + 1) 8 (h25.1 a0 1) r9) (fun h45 => bO (asg h45 (a0 + 2) 8 (h45.1 a0 1) r25) (fun h55 => lt' (hU h55 a0 1 ((h55.1 a0 1) + 1)) (fun h63 => some (1, h63)))))))))
set_option maxHeartbeats 4000000 in
set_option maxRecDepth 100000 in
theorem k_X5_readFreeze (l : Launch) {G : GC} (hG : GOK G) (a0 : Nat) (ha0 : kdX5 a0) {rr : Int32} {h hh : PH} (hf : f_X5_readFreeze a0 h = some (rr, hh)) : CI l yX5_readFreeze vX5_readFreeze rmX5_readFreeze G [.ref (gB G a0), .ref (gB G 3)] h rr hh := by
  refine Met.ofW (cc := cX5_readFreeze) (maxL := 4) (ret := (some .boolean)) (by decide +kernel) rfl ?_
  intro p e s m args below meth c s₁ B hml hv
  obtain ⟨rfl, hP, hK⟩ := hv
  have C : MC l G p s m _ meth c RX5 cX5_readFreeze 4 (some .boolean) := ⟨B.exec, B.bytes, B.returns, B.notSynchronized, hml, findClass_of_methodNamed B.named, fun w hw => atoms_spec (ws := vX5_readFreeze) B.pre w (List.mem_cons_of_mem _ hw), hK⟩
  obtain ⟨hx, hb, hr, hlocks, -, hown, hts, -⟩ := id C
  have hl := lv_entry ([.ref (gB G a0), .ref (gB G 3)]) (n := 4) (Nat.le_of_ble_eq_true rfl)
  rw [lg_entry_eq]
  generalize (lg_sl ([.ref (gB G a0), .ref (gB G 3)]) ++ List.replicate (4 - (lg_sl ([.ref (gB G a0), .ref (gB G 3)])).length) Slot.unset).toArray = ls at hl ⊢
  have hl : lv_has ls 4 [(0, .ref (gB G a0)), (1, .ref (gB G 3))] := hl
  have hS : SP G s s.heap [] := va_S.rf
  replace hP : WP G h s.heap := hP
  rw [f_X5_readFreeze] at hf
  refine lv_aload_n hx hb dX5_readFreeze_0 rfl (lv_at hl 1 rfl) ?_
  obtain ⟨h1, eh1, hf⟩ := bO_s hf
  refine r_callV (va_runV (As := []) (rest := []) ⟨hx, hb, hml, hown, hts⟩ (k_X3_step l hG eh1) (cwV 0 hts (gV wd595 wd422 wd423 wd75 wd424) rfl rfl rfl (by decide +kernel) ⟨Nat.le_of_ble_eq_true rfl, Nat.le_of_ble_eq_true rfl⟩) (r_pv hK hP hS (ltX3 rfl) (ceX3 rfl) rfl) rfl rfl hl.1 rfl (lv_room (Nat.le_of_ble_eq_true rfl)) dX5_readFreeze_1 ⟨Nat.le_of_ble_eq_true rfl, Nat.le_of_ble_eq_true rfl⟩) hS (fun H locs hP hS => ?_)
  refine lv_aload_n hx hb dX5_readFreeze_4 rfl (lv_at hl 1 rfl) ?_
  refine lv_iconst (v := 0) hx hb dX5_readFreeze_5 (by decide) ?_
  refine lv_sipush (v := 999) hx hb dX5_readFreeze_6 (by decide) ?_
  obtain ⟨r9, h9, er9, hf⟩ := bP_s hf
  refine r_callI (va_runV (As := [.int 0, .int 999]) (rest := []) ⟨hx, hb, hml, hown, hts⟩ (k_X3_needNumber l hG er9) (cwV 2 hts (gV wd596 wd525 wd526 wd75 wd527) rfl rfl rfl (by decide +kernel) ⟨Nat.le_of_ble_eq_true rfl, Nat.le_of_ble_eq_true rfl⟩) (r_pv hK hP hS (ltX3 rfl) (ceX3 rfl) rfl) rfl rfl hl.1 rfl (lv_room (Nat.le_of_ble_eq_true rfl)) dX5_readFreeze_9 ⟨Nat.le_of_ble_eq_true rfl, Nat.le_of_ble_eq_true rfl⟩) hS (fun H locs hP hS => ?_)
  refine lv_istore_n (lv' := [(2, .int r9), (0, .ref (gB G a0)), (1, .ref (gB G 3))]) hx hb dX5_readFreeze_12 rfl hl (by decide) rfl (fun ls hl => ?_)
  refine lv_iload_n hx hb dX5_readFreeze_13 rfl (lv_at hl 0 rfl) ?_
  refine lv_iconst (v := (-1)) hx hb dX5_readFreeze_14 (by decide) ?_
  refine lv_icmp_ne (tgt := 20) hx hb dX5_readFreeze_15 (by decide) (fun c15 => ?_) (fun c15 => ?_)
  · replace hf := if_f c15 hf
    refine lv_aload_n hx hb dX5_readFreeze_20 rfl (lv_at hl 2 rfl) ?_
    refine lv_iload_n hx hb dX5_readFreeze_21 rfl (lv_at hl 0 rfl) ?_
    refine lv_sipush (v := 999) hx hb dX5_readFreeze_22 (by decide) ?_
    obtain ⟨r25, h25, er25, hf⟩ := bP_s hf
    refine r_callI (va_runV (As := [.int r9, .int 999]) (rest := []) ⟨hx, hb, hml, hown, hts⟩ (k_X3_needNumber l hG er25) (cwV 2 hts (gV wd596 wd525 wd526 wd75 wd527) rfl rfl rfl (by decide +kernel) ⟨Nat.le_of_ble_eq_true rfl, Nat.le_of_ble_eq_true rfl⟩) (r_pv hK hP hS (ltX3 rfl) (ceX3 rfl) rfl) rfl rfl hl.1 rfl (lv_room (Nat.le_of_ble_eq_true rfl)) dX5_readFreeze_25 ⟨Nat.le_of_ble_eq_true rfl, Nat.le_of_ble_eq_true rfl⟩) hS (fun H locs hP hS => ?_)
    refine lv_istore_n (lv' := [(3, .int r25), (2, .int r9), (0, .ref (gB G a0)), (1, .ref (gB G 3))]) hx hb dX5_readFreeze_28 rfl hl (by decide) rfl (fun ls hl => ?_)
    refine lv_iload_n hx hb dX5_readFreeze_29 rfl (lv_at hl 0 rfl) ?_
    refine lv_iconst (v := (-1)) hx hb dX5_readFreeze_30 (by decide) ?_
    refine lv_icmp_ne (tgt := 36) hx hb dX5_readFreeze_31 (by decide) (fun c31 => ?_) (fun c31 => ?_)
    · replace hf := if_f c31 hf
      refine lv_aload_n hx hb dX5_readFreeze_36 rfl (lv_at hl 2 rfl) ?_
      refine r_get (a := a0) (v := .ref (gB G (a0 + 1))) (C := RX5) (T := TX5) (N := 7) hx hb hts hinX5 hown hK hP (ltX5 ha0) (ceX5 ha0) rfl 2 (by decide) wd209 rfl dX5_readFreeze_37 ?_
      refine lv_aload_n hx hb dX5_readFreeze_40 rfl (lv_at hl 2 rfl) ?_
      refine r_get (a := a0) (v := .int (h25.1 a0 1)) (C := RX5) (T := TX5) (N := 7) hx hb hts hinX5 hown hK hP (ltX5 ha0) (ceX5 ha0) rfl 1 (by decide) wd208 rfl dX5_readFreeze_41 ?_
      refine lv_iload_n hx hb dX5_readFreeze_44 rfl (lv_at hl 1 rfl) ?_
      obtain ⟨h45, eh45, hf⟩ := bO_s hf
      refine r_iast hG hx hb hK hP hS (arX5_2 ha0) eh45 dX5_readFreeze_45 (fun H locs hP hS => ?_)
      refine lv_aload_n hx hb dX5_readFreeze_46 rfl (lv_at hl 2 rfl) ?_
      refine r_get (a := a0) (v := .ref (gB G (a0 + 2))) (C := RX5) (T := TX5) (N := 7) hx hb hts hinX5 hown hK hP (ltX5 ha0) (ceX5 ha0) rfl 3 (by decide) wd210 rfl dX5_readFreeze_47 ?_
      refine lv_aload_n hx hb dX5_readFreeze_50 rfl (lv_at hl 2 rfl) ?_
      refine r_get (a := a0) (v := .int (h45.1 a0 1)) (C := RX5) (T := TX5) (N := 7) hx hb hts hinX5 hown hK hP (ltX5 ha0) (ceX5 ha0) rfl 1 (by decide) wd208 rfl dX5_readFreeze_51 ?_
      refine lv_iload_n hx hb dX5_readFreeze_54 rfl (lv_at hl 0 rfl) ?_
      obtain ⟨h55, eh55, hf⟩ := bO_s hf
      refine r_iast hG hx hb hK hP hS (arX5_3 ha0) eh55 dX5_readFreeze_55 (fun H locs hP hS => ?_)
      refine lv_aload_n hx hb dX5_readFreeze_56 rfl (lv_at hl 2 rfl) ?_
      refine lv_dup hx hb dX5_readFreeze_57 rfl ?_
      refine r_get (a := a0) (v := .int (h55.1 a0 1)) (C := RX5) (T := TX5) (N := 7) hx hb hts hinX5 hown hK hP (ltX5 ha0) (ceX5 ha0) rfl 1 (by decide) wd208 rfl dX5_readFreeze_58 ?_
      refine lv_iconst (v := 1) hx hb dX5_readFreeze_61 (by decide) ?_
      refine lv_iadd hx hb dX5_readFreeze_62 ?_
      obtain ⟨h63, eh63⟩ : ∃ y, y = hU h55 a0 1 ((h55.1 a0 1) + 1) := ⟨_, rfl⟩
      replace hf := lt_at eh63 hf
      refine r_put (a := a0) (v := .int ((h55.1 a0 1) + 1)) (ty := .int) (h' := h63) (C := RX5) (T := TX5) (N := 7) hG hx hb hts hinX5 tyX5 tyX5_ok nmX5 hown hK hP hS (ltX5 ha0) (ceX5 ha0) rfl 1 (by decide) wd208 rfl (by decide +kernel) rfl rfl (Nat.le_of_ble_eq_true rfl) (by rw [eh63]; exact fun j hj => cE_U hj) (by rw [eh63]; exact puX5_1 ha0 _) dX5_readFreeze_63 (fun H locs hP hS => ?_)
      refine lv_iconst (v := 1) hx hb dX5_readFreeze_66 (by decide) ?_
      exact r_zret hx hb hr rfl hlocks hP hS (re2 (Option.some.inj hf)) dX5_readFreeze_67
    · replace hf := if_t c31 hf
      refine lv_iconst (v := 0) hx hb dX5_readFreeze_34 (by decide) ?_
      exact r_zret hx hb hr rfl hlocks hP hS (re2 (Option.some.inj hf)) dX5_readFreeze_35
  · replace hf := if_t c15 hf
    refine lv_iconst (v := 0) hx hb dX5_readFreeze_18 (by decide) ?_
    exact r_zret hx hb hr rfl hlocks hP hS (re2 (Option.some.inj hf)) dX5_readFreeze_19
/-! CarriedBack$Rules.readRisk(LCarriedBack$Reader;)Z -/
abbrev rmX5_readRisk : Room := { frames := 3, cells := 0, slots := 0, locals := 66 }
abbrev vX5_readRisk : List Cond := Cond.code yX5_readRisk cX5_readRisk 2 (some .boolean) :: GW
def f_X5_readRisk (a0 : Nat) (h : PH) : Option (Int32 × PH) := bO (f_X3_step h) (fun h1 => bP (f_X3_needNumber 0 99 h1) (fun r9 h9 => lt' (hU h9 a0 4 r9) (fun h12 => if (h12.1 a0 4) = (-1) then (some (0, h12)) else (some (1, h12)))))
set_option maxHeartbeats 4000000 in
set_option maxRecDepth 100000 in
theorem k_X5_readRisk (l : Launch) {G : GC} (hG : GOK G) (a0 : Nat) (ha0 : kdX5 a0) {rr : Int32} {h hh : PH} (hf : f_X5_readRisk a0 h = some (rr, hh)) : CI l yX5_readRisk vX5_readRisk rmX5_readRisk G [.ref (gB G a0), .ref (gB G 3)] h rr hh := by
  refine Met.ofW (cc := cX5_readRisk) (maxL := 2) (ret := (some .boolean)) (by decide +kernel) rfl ?_
  intro p e s m args below meth c s₁ B hml hv
  obtain ⟨rfl, hP, hK⟩ := hv
  have C : MC l G p s m _ meth c RX5 cX5_readRisk 2 (some .boolean) := ⟨B.exec, B.bytes, B.returns, B.notSynchronized, hml, findClass_of_methodNamed B.named, fun w hw => atoms_spec (ws := vX5_readRisk) B.pre w (List.mem_cons_of_mem _ hw), hK⟩
  obtain ⟨hx, hb, hr, hlocks, -, hown, hts, -⟩ := id C
  have hl := lv_entry ([.ref (gB G a0), .ref (gB G 3)]) (n := 2) (Nat.le_of_ble_eq_true rfl)
  rw [lg_entry_eq]
  generalize (lg_sl ([.ref (gB G a0), .ref (gB G 3)]) ++ List.replicate (2 - (lg_sl ([.ref (gB G a0), .ref (gB G 3)])).length) Slot.unset).toArray = ls at hl ⊢
  have hl : lv_has ls 2 [(0, .ref (gB G a0)), (1, .ref (gB G 3))] := hl
  have hS : SP G s s.heap [] := va_S.rf
  replace hP : WP G h s.heap := hP
  rw [f_X5_readRisk] at hf
  refine lv_aload_n hx hb dX5_readRisk_0 rfl (lv_at hl 1 rfl) ?_
  obtain ⟨h1, eh1, hf⟩ := bO_s hf
  refine r_callV (va_runV (As := []) (rest := []) ⟨hx, hb, hml, hown, hts⟩ (k_X3_step l hG eh1) (cwV 0 hts (gV wd595 wd422 wd423 wd75 wd424) rfl rfl rfl (by decide +kernel) ⟨Nat.le_of_ble_eq_true rfl, Nat.le_of_ble_eq_true rfl⟩) (r_pv hK hP hS (ltX3 rfl) (ceX3 rfl) rfl) rfl rfl hl.1 rfl (lv_room (Nat.le_of_ble_eq_true rfl)) dX5_readRisk_1 ⟨Nat.le_of_ble_eq_true rfl, Nat.le_of_ble_eq_true rfl⟩) hS (fun H locs hP hS => ?_)
  refine lv_aload_n hx hb dX5_readRisk_4 rfl (lv_at hl 0 rfl) ?_
  refine lv_aload_n hx hb dX5_readRisk_5 rfl (lv_at hl 1 rfl) ?_
  refine lv_iconst (v := 0) hx hb dX5_readRisk_6 (by decide) ?_
  refine lv_bipush (v := 99) hx hb dX5_readRisk_7 (by decide) ?_
  obtain ⟨r9, h9, er9, hf⟩ := bP_s hf
  refine r_callI (va_runV (As := [.int 0, .int 99]) (rest := [.ref (gB G a0)]) ⟨hx, hb, hml, hown, hts⟩ (k_X3_needNumber l hG er9) (cwV 2 hts (gV wd596 wd525 wd526 wd75 wd527) rfl rfl rfl (by decide +kernel) ⟨Nat.le_of_ble_eq_true rfl, Nat.le_of_ble_eq_true rfl⟩) (r_pv hK hP hS (ltX3 rfl) (ceX3 rfl) rfl) rfl rfl hl.1 rfl (lv_room (Nat.le_of_ble_eq_true rfl)) dX5_readRisk_9 ⟨Nat.le_of_ble_eq_true rfl, Nat.le_of_ble_eq_true rfl⟩) hS (fun H locs hP hS => ?_)
  obtain ⟨h12, eh12⟩ : ∃ y, y = hU h9 a0 4 r9 := ⟨_, rfl⟩
  replace hf := lt_at eh12 hf
  refine r_put (a := a0) (v := .int r9) (ty := .int) (h' := h12) (C := RX5) (T := TX5) (N := 7) hG hx hb hts hinX5 tyX5 tyX5_ok nmX5 hown hK hP hS (ltX5 ha0) (ceX5 ha0) rfl 4 (by decide) wd211 rfl (by decide +kernel) rfl rfl (Nat.le_of_ble_eq_true rfl) (by rw [eh12]; exact fun j hj => cE_U hj) (by rw [eh12]; exact puX5_4 ha0 _) dX5_readRisk_12 (fun H locs hP hS => ?_)
  refine lv_aload_n hx hb dX5_readRisk_15 rfl (lv_at hl 0 rfl) ?_
  refine r_get (a := a0) (v := .int (h12.1 a0 4)) (C := RX5) (T := TX5) (N := 7) hx hb hts hinX5 hown hK hP (ltX5 ha0) (ceX5 ha0) rfl 4 (by decide) wd211 rfl dX5_readRisk_16 ?_
  refine lv_iconst (v := (-1)) hx hb dX5_readRisk_19 (by decide) ?_
  refine lv_icmp_eq (tgt := 27) hx hb dX5_readRisk_20 (by decide) (fun c20 => ?_) (fun c20 => ?_)
  · replace hf := if_t c20 hf
    refine lv_iconst (v := 0) hx hb dX5_readRisk_27 (by decide) ?_
    exact r_zret hx hb hr rfl hlocks hP hS (re2 (Option.some.inj hf)) dX5_readRisk_28
  · replace hf := if_f c20 hf
    refine lv_iconst (v := 1) hx hb dX5_readRisk_23 (by decide) ?_
    refine lv_goto (tgt := 28) hx hb dX5_readRisk_24 (by decide) ?_
    exact r_zret hx hb hr rfl hlocks hP hS (re2 (Option.some.inj hf)) dX5_readRisk_28
/-! CarriedBack$Rules.readWeight(LCarriedBack$Reader;)Z -/
abbrev rmX5_readWeight : Room := { frames := 3, cells := 0, slots := 0, locals := 66 }
abbrev vX5_readWeight : List Cond := Cond.code yX5_readWeight cX5_readWeight 2 (some .boolean) :: GW
def f_X5_readWeight (a0 : Nat) (h : PH) : Option (Int32 × PH) := bO (f_X3_step h) (fun h1 => bP (f_X3_needNumber 0 99 h1) (fun r9 h9 => lt' (hU h9 a0 5 r9) (fun h12 => if (h12.1 a0 5) = (-1) then (some (0, h12)) else (some (1, h12)))))
set_option maxHeartbeats 4000000 in
set_option maxRecDepth 100000 in
theorem k_X5_readWeight (l : Launch) {G : GC} (hG : GOK G) (a0 : Nat) (ha0 : kdX5 a0) {rr : Int32} {h hh : PH} (hf : f_X5_readWeight a0 h = some (rr, hh)) : CI l yX5_readWeight vX5_readWeight rmX5_readWeight G [.ref (gB G a0), .ref (gB G 3)] h rr hh := by
  refine Met.ofW (cc := cX5_readWeight) (maxL := 2) (ret := (some .boolean)) (by decide +kernel) rfl ?_
  intro p e s m args below meth c s₁ B hml hv
  obtain ⟨rfl, hP, hK⟩ := hv
  have C : MC l G p s m _ meth c RX5 cX5_readWeight 2 (some .boolean) := ⟨B.exec, B.bytes, B.returns, B.notSynchronized, hml, findClass_of_methodNamed B.named, fun w hw => atoms_spec (ws := vX5_readWeight) B.pre w (List.mem_cons_of_mem _ hw), hK⟩
  obtain ⟨hx, hb, hr, hlocks, -, hown, hts, -⟩ := id C
  have hl := lv_entry ([.ref (gB G a0), .ref (gB G 3)]) (n := 2) (Nat.le_of_ble_eq_true rfl)
  rw [lg_entry_eq]
  generalize (lg_sl ([.ref (gB G a0), .ref (gB G 3)]) ++ List.replicate (2 - (lg_sl ([.ref (gB G a0), .ref (gB G 3)])).length) Slot.unset).toArray = ls at hl ⊢
  have hl : lv_has ls 2 [(0, .ref (gB G a0)), (1, .ref (gB G 3))] := hl
  have hS : SP G s s.heap [] := va_S.rf
  replace hP : WP G h s.heap := hP
  rw [f_X5_readWeight] at hf
  refine lv_aload_n hx hb dX5_readWeight_0 rfl (lv_at hl 1 rfl) ?_
  obtain ⟨h1, eh1, hf⟩ := bO_s hf
  refine r_callV (va_runV (As := []) (rest := []) ⟨hx, hb, hml, hown, hts⟩ (k_X3_step l hG eh1) (cwV 0 hts (gV wd595 wd422 wd423 wd75 wd424) rfl rfl rfl (by decide +kernel) ⟨Nat.le_of_ble_eq_true rfl, Nat.le_of_ble_eq_true rfl⟩) (r_pv hK hP hS (ltX3 rfl) (ceX3 rfl) rfl) rfl rfl hl.1 rfl (lv_room (Nat.le_of_ble_eq_true rfl)) dX5_readWeight_1 ⟨Nat.le_of_ble_eq_true rfl, Nat.le_of_ble_eq_true rfl⟩) hS (fun H locs hP hS => ?_)
  refine lv_aload_n hx hb dX5_readWeight_4 rfl (lv_at hl 0 rfl) ?_
  refine lv_aload_n hx hb dX5_readWeight_5 rfl (lv_at hl 1 rfl) ?_
  refine lv_iconst (v := 0) hx hb dX5_readWeight_6 (by decide) ?_
  refine lv_bipush (v := 99) hx hb dX5_readWeight_7 (by decide) ?_
  obtain ⟨r9, h9, er9, hf⟩ := bP_s hf
  refine r_callI (va_runV (As := [.int 0, .int 99]) (rest := [.ref (gB G a0)]) ⟨hx, hb, hml, hown, hts⟩ (k_X3_needNumber l hG er9) (cwV 2 hts (gV wd596 wd525 wd526 wd75 wd527) rfl rfl rfl (by decide +kernel) ⟨Nat.le_of_ble_eq_true rfl, Nat.le_of_ble_eq_true rfl⟩) (r_pv hK hP hS (ltX3 rfl) (ceX3 rfl) rfl) rfl rfl hl.1 rfl (lv_room (Nat.le_of_ble_eq_true rfl)) dX5_readWeight_9 ⟨Nat.le_of_ble_eq_true rfl, Nat.le_of_ble_eq_true rfl⟩) hS (fun H locs hP hS => ?_)
  obtain ⟨h12, eh12⟩ : ∃ y, y = hU h9 a0 5 r9 := ⟨_, rfl⟩
  replace hf := lt_at eh12 hf
  refine r_put (a := a0) (v := .int r9) (ty := .int) (h' := h12) (C := RX5) (T := TX5) (N := 7) hG hx hb hts hinX5 tyX5 tyX5_ok nmX5 hown hK hP hS (ltX5 ha0) (ceX5 ha0) rfl 5 (by decide) wd212 rfl (by decide +kernel) rfl rfl (Nat.le_of_ble_eq_true rfl) (by rw [eh12]; exact fun j hj => cE_U hj) (by rw [eh12]; exact puX5_5 ha0 _) dX5_readWeight_12 (fun H locs hP hS => ?_)
  refine lv_aload_n hx hb dX5_readWeight_15 rfl (lv_at hl 0 rfl) ?_
  refine r_get (a := a0) (v := .int (h12.1 a0 5)) (C := RX5) (T := TX5) (N := 7) hx hb hts hinX5 hown hK hP (ltX5 ha0) (ceX5 ha0) rfl 5 (by decide) wd212 rfl dX5_readWeight_16 ?_
  refine lv_iconst (v := (-1)) hx hb dX5_readWeight_19 (by decide) ?_
  refine lv_icmp_eq (tgt := 27) hx hb dX5_readWeight_20 (by decide) (fun c20 => ?_) (fun c20 => ?_)
  · replace hf := if_t c20 hf
    refine lv_iconst (v := 0) hx hb dX5_readWeight_27 (by decide) ?_
    exact r_zret hx hb hr rfl hlocks hP hS (re2 (Option.some.inj hf)) dX5_readWeight_28
  · replace hf := if_f c20 hf
    refine lv_iconst (v := 1) hx hb dX5_readWeight_23 (by decide) ?_
    refine lv_goto (tgt := 28) hx hb dX5_readWeight_24 (by decide) ?_
    exact r_zret hx hb hr rfl hlocks hP hS (re2 (Option.some.inj hf)) dX5_readWeight_28
/-! CarriedBack$Rules.readLines(LCarriedBack$Reader;)Z -/
abbrev rmX5_readLines : Room := { frames := 3, cells := 0, slots := 0, locals := 67 }
abbrev vX5_readLines : List Cond := Cond.code yX5_readLines cX5_readLines 4 (some .boolean) :: GW
def f_X5_readLines_6 (a0 : Nat) : Nat → Int32 → PH → Option (Int32 × PH)
  | 0, _, _ => none
  | n + 1, x2, h => if (4 : Int32) < x2 then (some (0, h)) else (bP (f_X3_needNew 0 3 (h.1 a0 6) h) (fun r18 h18 => if r18 = (-1) then (some (0, h18)) else (lt' (hU h18 a0 6 ((h18.1 a0 6) ||| (1 <<< (r18 &&& 31)))) (fun h38 => bP (f_X3_takeSign 44 h38) (fun r44 h44 => if r44 = 0 then (some (1, h44)) else ((f_X5_readLines_6 a0 n) (x2 + 1) h44))))))
set_option maxHeartbeats 4000000 in
set_option maxRecDepth 100000 in
theorem w_X5_readLines_6 {l : Launch} {G : GC} (hG : GOK G) {rr : Int32} {hh : PH} {p : Program} {e : Env} {s : State} {m : MethodId} {args : Array Value} {below : List Frame} {meth : Method} {c : Code} (C : MC l G p s m args meth c RX5 cX5_readLines 4 (some .boolean)) (a0 : Nat) (ha0 : kdX5 a0) : ∀ (n : Nat) (x2 : Int32) (h : PH) (H : Heap) (locs : List Loc) (ls : Array Slot), lv_has ls 4 [(0, .ref (gB G a0)), (1, .ref (gB G 3)), (2, .int x2)] → WP G h H → SP G s H locs → f_X5_readLines_6 a0 n x2 h = some (rr, hh) → W p l e rmX5_readLines s m args below meth c H locs 0 0 (MQ below (QI G rr hh) args s 0 0 (gA G)) (F0 m 6 ls []) := by
  obtain ⟨hx, hb, hr, hlocks, hml, hown, hts, hK⟩ := id C
  intro n
  induction n with
  | zero => intro x2 h H locs ls hl hP hS hf; rw [f_X5_readLines_6] at hf; cases hf
  | succ n ih =>
    intro x2 h H locs ls hl hP hS hf
    rw [f_X5_readLines_6] at hf
    refine lv_iload_n hx hb dX5_readLines_6 rfl (lv_at hl 2 rfl) ?_
    refine lv_iconst (v := 4) hx hb dX5_readLines_7 (by decide) ?_
    refine lv_icmp_gt (tgt := 58) hx hb dX5_readLines_8 (by decide) (fun c8 => ?_) (fun c8 => ?_)
    · replace hf := if_t c8 hf
      refine lv_iconst (v := 0) hx hb dX5_readLines_58 (by decide) ?_
      exact r_zret hx hb hr rfl hlocks hP hS (re2 (Option.some.inj hf)) dX5_readLines_59
    · replace hf := if_f c8 hf
      refine lv_aload_n hx hb dX5_readLines_11 rfl (lv_at hl 1 rfl) ?_
      refine lv_iconst (v := 0) hx hb dX5_readLines_12 (by decide) ?_
      refine lv_iconst (v := 3) hx hb dX5_readLines_13 (by decide) ?_
      refine lv_aload_n hx hb dX5_readLines_14 rfl (lv_at hl 0 rfl) ?_
      refine r_get (a := a0) (v := .int (h.1 a0 6)) (C := RX5) (T := TX5) (N := 7) hx hb hts hinX5 hown hK hP (ltX5 ha0) (ceX5 ha0) rfl 6 (by decide) wd213 rfl dX5_readLines_15 ?_
      obtain ⟨r18, h18, er18, hf⟩ := bP_s hf
      refine r_callI (va_runV (As := [.int 0, .int 3, .int (h.1 a0 6)]) (rest := []) ⟨hx, hb, hml, hown, hts⟩ (k_X3_needNew l hG er18) (cwV 3 hts (gV wd613 wd513 wd514 wd75 wd515) rfl rfl rfl (by decide +kernel) ⟨Nat.le_of_ble_eq_true rfl, Nat.le_of_ble_eq_true rfl⟩) (r_pv hK hP hS (ltX3 rfl) (ceX3 rfl) rfl) rfl rfl hl.1 rfl (lv_room (Nat.le_of_ble_eq_true rfl)) dX5_readLines_18 ⟨Nat.le_of_ble_eq_true rfl, Nat.le_of_ble_eq_true rfl⟩) hS (fun H locs hP hS => ?_)
      refine lv_istore_n (lv' := [(3, .int r18), (0, .ref (gB G a0)), (1, .ref (gB G 3)), (2, .int x2)]) hx hb dX5_readLines_21 rfl hl (by decide) rfl (fun ls hl => ?_)
      refine lv_iload_n hx hb dX5_readLines_22 rfl (lv_at hl 0 rfl) ?_
      refine lv_iconst (v := (-1)) hx hb dX5_readLines_23 (by decide) ?_
      refine lv_icmp_ne (tgt := 29) hx hb dX5_readLines_24 (by decide) (fun c24 => ?_) (fun c24 => ?_)
      · replace hf := if_f c24 hf
        refine lv_aload_n hx hb dX5_readLines_29 rfl (lv_at hl 1 rfl) ?_
        refine lv_dup hx hb dX5_readLines_30 rfl ?_
        refine r_get (a := a0) (v := .int (h18.1 a0 6)) (C := RX5) (T := TX5) (N := 7) hx hb hts hinX5 hown hK hP (ltX5 ha0) (ceX5 ha0) rfl 6 (by decide) wd213 rfl dX5_readLines_31 ?_
        refine lv_iconst (v := 1) hx hb dX5_readLines_34 (by decide) ?_
        refine lv_iload_n hx hb dX5_readLines_35 rfl (lv_at hl 0 rfl) ?_
        refine lv_ishl hx hb dX5_readLines_36 ?_
        refine lv_ior hx hb dX5_readLines_37 ?_
        obtain ⟨h38, eh38⟩ : ∃ y, y = hU h18 a0 6 ((h18.1 a0 6) ||| (1 <<< (r18 &&& 31))) := ⟨_, rfl⟩
        replace hf := lt_at eh38 hf
        refine r_put (a := a0) (v := .int ((h18.1 a0 6) ||| (1 <<< (r18 &&& 31)))) (ty := .int) (h' := h38) (C := RX5) (T := TX5) (N := 7) hG hx hb hts hinX5 tyX5 tyX5_ok nmX5 hown hK hP hS (ltX5 ha0) (ceX5 ha0) rfl 6 (by decide) wd213 rfl (by decide +kernel) rfl rfl (Nat.le_of_ble_eq_true rfl) (by rw [eh38]; exact fun j hj => cE_U hj) (by rw [eh38]; exact puX5_6 ha0 _) dX5_readLines_38 (fun H locs hP hS => ?_)
        refine lv_aload_n hx hb dX5_readLines_41 rfl (lv_at hl 2 rfl) ?_
        refine lv_bipush (v := 44) hx hb dX5_readLines_42 (by decide) ?_
        obtain ⟨r44, h44, er44, hf⟩ := bP_s hf
        refine r_callI (va_runV (As := [.int 44]) (rest := []) ⟨hx, hb, hml, hown, hts⟩ (k_X3_takeSign l hG er44) (cwV 1 hts (gV wd614 wd529 wd530 wd75 wd531) rfl rfl rfl (by decide +kernel) ⟨Nat.le_of_ble_eq_true rfl, Nat.le_of_ble_eq_true rfl⟩) (r_pv hK hP hS (ltX3 rfl) (ceX3 rfl) rfl) rfl rfl hl.1 rfl (lv_room (Nat.le_of_ble_eq_true rfl)) dX5_readLines_44 ⟨Nat.le_of_ble_eq_true rfl, Nat.le_of_ble_eq_true rfl⟩) hS (fun H locs hP hS => ?_)
        refine lv_if_ne (tgt := 52) hx hb dX5_readLines_47 (by decide) (fun c47 => ?_) (fun c47 => ?_)
        · replace hf := if_f c47 hf
          refine lv_iinc (v := (x2 + 1)) (lv' := [(2, .int (x2 + 1)), (3, .int r18), (0, .ref (gB G a0)), (1, .ref (gB G 3))]) hx hb dX5_readLines_52 hl (k := 3) rfl rfl (by decide) rfl (fun ls hl => ?_)
          refine lv_goto (tgt := 6) hx hb dX5_readLines_55 (by decide) ?_
          exact ih (x2 + 1) h44 _ _ _ (lv_sub hl [2, 3, 0] rfl) hP hS hf
        · replace hf := if_t c47 hf
          refine lv_iconst (v := 1) hx hb dX5_readLines_50 (by decide) ?_
          exact r_zret hx hb hr rfl hlocks hP hS (re2 (Option.some.inj hf)) dX5_readLines_51
      · replace hf := if_t c24 hf
        refine lv_iconst (v := 0) hx hb dX5_readLines_27 (by decide) ?_
        exact r_zret hx hb hr rfl hlocks hP hS (re2 (Option.some.inj hf)) dX5_readLines_28
def f_X5_readLines (a0 : Nat) (h : PH) : Option (Int32 × PH) := bO (f_X3_step h) (fun h1 => f_X5_readLines_6 a0 FU 0 h1)
set_option maxHeartbeats 4000000 in
set_option maxRecDepth 100000 in
theorem k_X5_readLines (l : Launch) {G : GC} (hG : GOK G) (a0 : Nat) (ha0 : kdX5 a0) {rr : Int32} {h hh : PH} (hf : f_X5_readLines a0 h = some (rr, hh)) : CI l yX5_readLines vX5_readLines rmX5_readLines G [.ref (gB G a0), .ref (gB G 3)] h rr hh := by
  refine Met.ofW (cc := cX5_readLines) (maxL := 4) (ret := (some .boolean)) (by decide +kernel) rfl ?_
  intro p e s m args below meth c s₁ B hml hv
  obtain ⟨rfl, hP, hK⟩ := hv
  have C : MC l G p s m _ meth c RX5 cX5_readLines 4 (some .boolean) := ⟨B.exec, B.bytes, B.returns, B.notSynchronized, hml, findClass_of_methodNamed B.named, fun w hw => atoms_spec (ws := vX5_readLines) B.pre w (List.mem_cons_of_mem _ hw), hK⟩
  obtain ⟨hx, hb, hr, hlocks, -, hown, hts, -⟩ := id C
  have hl := lv_entry ([.ref (gB G a0), .ref (gB G 3)]) (n := 4) (Nat.le_of_ble_eq_true rfl)
  rw [lg_entry_eq]
  generalize (lg_sl ([.ref (gB G a0), .ref (gB G 3)]) ++ List.replicate (4 - (lg_sl ([.ref (gB G a0), .ref (gB G 3)])).length) Slot.unset).toArray = ls at hl ⊢
  have hl : lv_has ls 4 [(0, .ref (gB G a0)), (1, .ref (gB G 3))] := hl
  have hS : SP G s s.heap [] := va_S.rf
  replace hP : WP G h s.heap := hP
  rw [f_X5_readLines] at hf
  refine lv_aload_n hx hb dX5_readLines_0 rfl (lv_at hl 1 rfl) ?_
  obtain ⟨h1, eh1, hf⟩ := bO_s hf
  refine r_callV (va_runV (As := []) (rest := []) ⟨hx, hb, hml, hown, hts⟩ (k_X3_step l hG eh1) (cwV 0 hts (gV wd595 wd422 wd423 wd75 wd424) rfl rfl rfl (by decide +kernel) ⟨Nat.le_of_ble_eq_true rfl, Nat.le_of_ble_eq_true rfl⟩) (r_pv hK hP hS (ltX3 rfl) (ceX3 rfl) rfl) rfl rfl hl.1 rfl (lv_room (Nat.le_of_ble_eq_true rfl)) dX5_readLines_1 ⟨Nat.le_of_ble_eq_true rfl, Nat.le_of_ble_eq_true rfl⟩) hS (fun H locs hP hS => ?_)
  refine lv_iconst (v := 0) hx hb dX5_readLines_4 (by decide) ?_
  refine lv_istore_n (lv' := [(2, .int 0), (0, .ref (gB G a0)), (1, .ref (gB G 3))]) hx hb dX5_readLines_5 rfl hl (by decide) rfl (fun ls hl => ?_)
  exact w_X5_readLines_6 hG C a0 ha0 FU 0 h1 _ _ _ (lv_sub hl [1, 2, 0] rfl) hP hS hf
/-! CarriedBack$Rules.readClause(LCarriedBack$Reader;)Z -/
abbrev rmX5_readClause : Room := { frames := 5, cells := 0, slots := 0, locals := 107 }
abbrev vX5_readClause : List Cond := Cond.code yX5_readClause cX5_readClause 2 (some .boolean) :: GW
def f_X5_readClause (a0 : Nat) (h : PH) : Option (Int32 × PH) := bP (f_X3_isWord 7 h) (fun r3 h3 => if r3 = 0 then (bP (f_X3_isWord 4 h3) (fun r35 h35 => if r35 = 0 then (bP (f_X3_isWord 8 h35) (fun r66 h66 => if r66 = 0 then (bP (f_X3_isWord 9 h66) (fun r97 h97 => if r97 = 0 then (bP (f_X3_refuse 1 h97) (fun r126 h126 => zr r126 (r126, h126))) else (if (h97.1 a0 6) = 0 then (bP (f_X5_readLines a0 h97) (fun r112 h112 => zr r112 (r112, h112))) else (bP (f_X3_refuse 3 h97) (fun r120 h120 => zr r120 (r120, h120)))))) else (if (h66.1 a0 5) = (-1) then (bP (f_X5_readWeight a0 h66) (fun r82 h82 => zr r82 (r82, h82))) else (bP (f_X3_refuse 3 h66) (fun r90 h90 => zr r90 (r90, h90)))))) else (if (h35.1 a0 4) = (-1) then (bP (f_X5_readRisk a0 h35) (fun r51 h51 => zr r51 (r51, h51))) else (bP (f_X3_refuse 3 h35) (fun r59 h59 => zr r59 (r59, h59)))))) else (if (8 : Int32) ≤ (h3.1 a0 1) then (bP (f_X3_refuse 3 h3) (fun r28 h28 => zr r28 (r28, h28))) else (bP (f_X5_readFreeze a0 h3) (fun r20 h20 => zr r20 (r20, h20)))))
set_option maxHeartbeats 4000000 in
set_option maxRecDepth 100000 in
theorem k_X5_readClause (l : Launch) {G : GC} (hG : GOK G) (a0 : Nat) (ha0 : kdX5 a0) {rr : Int32} {h hh : PH} (hf : f_X5_readClause a0 h = some (rr, hh)) : CI l yX5_readClause vX5_readClause rmX5_readClause G [.ref (gB G a0), .ref (gB G 3)] h rr hh := by
  refine Met.ofW (cc := cX5_readClause) (maxL := 2) (ret := (some .boolean)) (by decide +kernel) rfl ?_
  intro p e s m args below meth c s₁ B hml hv
  obtain ⟨rfl, hP, hK⟩ := hv
  have C : MC l G p s m _ meth c RX5 cX5_readClause 2 (some .boolean) := ⟨B.exec, B.bytes, B.returns, B.notSynchronized, hml, findClass_of_methodNamed B.named, fun w hw => atoms_spec (ws := vX5_readClause) B.pre w (List.mem_cons_of_mem _ hw), hK⟩
  obtain ⟨hx, hb, hr, hlocks, -, hown, hts, -⟩ := id C
  have hl := lv_entry ([.ref (gB G a0), .ref (gB G 3)]) (n := 2) (Nat.le_of_ble_eq_true rfl)
  rw [lg_entry_eq]
  generalize (lg_sl ([.ref (gB G a0), .ref (gB G 3)]) ++ List.replicate (2 - (lg_sl ([.ref (gB G a0), .ref (gB G 3)])).length) Slot.unset).toArray = ls at hl ⊢
  have hl : lv_has ls 2 [(0, .ref (gB G a0)), (1, .ref (gB G 3))] := hl
  have hS : SP G s s.heap [] := va_S.rf
  replace hP : WP G h s.heap := hP
  rw [f_X5_readClause] at hf
  refine lv_aload_n hx hb dX5_readClause_0 rfl (lv_at hl 1 rfl) ?_
  refine va_ldcS (tx := "freeze") hx hb hown (hK.2.2.2.1 (RX5, 54, "freeze", 7) (by decide +kernel)) dX5_readClause_1 ?_
  obtain ⟨r3, h3, er3, hf⟩ := bP_s hf
  refine r_callI (va_runV (As := [.ref (gk G 7)]) (rest := []) ⟨hx, hb, hml, hown, hts⟩ (k_X3_isWord l hG 7 (by decide) er3) (cwV 1 hts (gV wd590 wd438 wd439 wd75 wd440) rfl rfl rfl (by decide +kernel) ⟨Nat.le_of_ble_eq_true rfl, Nat.le_of_ble_eq_true rfl⟩) (r_pv hK hP hS (ltX3 rfl) (ceX3 rfl) rfl) rfl rfl hl.1 rfl (lv_room (Nat.le_of_ble_eq_true rfl)) dX5_readClause_3 ⟨Nat.le_of_ble_eq_true rfl, Nat.le_of_ble_eq_true rfl⟩) hS (fun H locs hP hS => ?_)
  refine lv_if_eq (tgt := 32) hx hb dX5_readClause_6 (by decide) (fun c6 => ?_) (fun c6 => ?_)
  · replace hf := if_t c6 hf
    refine lv_aload_n hx hb dX5_readClause_32 rfl (lv_at hl 1 rfl) ?_
    refine va_ldcS (tx := "risk") hx hb hown (hK.2.2.2.1 (RX5, 67, "risk", 4) (by decide +kernel)) dX5_readClause_33 ?_
    obtain ⟨r35, h35, er35, hf⟩ := bP_s hf
    refine r_callI (va_runV (As := [.ref (gk G 4)]) (rest := []) ⟨hx, hb, hml, hown, hts⟩ (k_X3_isWord l hG 4 (by decide) er35) (cwV 1 hts (gV wd590 wd438 wd439 wd75 wd440) rfl rfl rfl (by decide +kernel) ⟨Nat.le_of_ble_eq_true rfl, Nat.le_of_ble_eq_true rfl⟩) (r_pv hK hP hS (ltX3 rfl) (ceX3 rfl) rfl) rfl rfl hl.1 rfl (lv_room (Nat.le_of_ble_eq_true rfl)) dX5_readClause_35 ⟨Nat.le_of_ble_eq_true rfl, Nat.le_of_ble_eq_true rfl⟩) hS (fun H locs hP hS => ?_)
    refine lv_if_eq (tgt := 63) hx hb dX5_readClause_38 (by decide) (fun c38 => ?_) (fun c38 => ?_)
    · replace hf := if_t c38 hf
      refine lv_aload_n hx hb dX5_readClause_63 rfl (lv_at hl 1 rfl) ?_
      refine va_ldcS (tx := "weigh") hx hb hown (hK.2.2.2.1 (RX5, 72, "weigh", 8) (by decide +kernel)) dX5_readClause_64 ?_
      obtain ⟨r66, h66, er66, hf⟩ := bP_s hf
      refine r_callI (va_runV (As := [.ref (gk G 8)]) (rest := []) ⟨hx, hb, hml, hown, hts⟩ (k_X3_isWord l hG 8 (by decide) er66) (cwV 1 hts (gV wd590 wd438 wd439 wd75 wd440) rfl rfl rfl (by decide +kernel) ⟨Nat.le_of_ble_eq_true rfl, Nat.le_of_ble_eq_true rfl⟩) (r_pv hK hP hS (ltX3 rfl) (ceX3 rfl) rfl) rfl rfl hl.1 rfl (lv_room (Nat.le_of_ble_eq_true rfl)) dX5_readClause_66 ⟨Nat.le_of_ble_eq_true rfl, Nat.le_of_ble_eq_true rfl⟩) hS (fun H locs hP hS => ?_)
      refine lv_if_eq (tgt := 94) hx hb dX5_readClause_69 (by decide) (fun c69 => ?_) (fun c69 => ?_)
      · replace hf := if_t c69 hf
        refine lv_aload_n hx hb dX5_readClause_94 rfl (lv_at hl 1 rfl) ?_
        refine va_ldcS (tx := "only") hx hb hown (hK.2.2.2.1 (RX5, 77, "only", 9) (by decide +kernel)) dX5_readClause_95 ?_
        obtain ⟨r97, h97, er97, hf⟩ := bP_s hf
        refine r_callI (va_runV (As := [.ref (gk G 9)]) (rest := []) ⟨hx, hb, hml, hown, hts⟩ (k_X3_isWord l hG 9 (by decide) er97) (cwV 1 hts (gV wd590 wd438 wd439 wd75 wd440) rfl rfl rfl (by decide +kernel) ⟨Nat.le_of_ble_eq_true rfl, Nat.le_of_ble_eq_true rfl⟩) (r_pv hK hP hS (ltX3 rfl) (ceX3 rfl) rfl) rfl rfl hl.1 rfl (lv_room (Nat.le_of_ble_eq_true rfl)) dX5_readClause_97 ⟨Nat.le_of_ble_eq_true rfl, Nat.le_of_ble_eq_true rfl⟩) hS (fun H locs hP hS => ?_)
        refine lv_if_eq (tgt := 124) hx hb dX5_readClause_100 (by decide) (fun c100 => ?_) (fun c100 => ?_)
        · replace hf := if_t c100 hf
          refine lv_aload_n hx hb dX5_readClause_124 rfl (lv_at hl 1 rfl) ?_
          refine lv_iconst (v := 1) hx hb dX5_readClause_125 (by decide) ?_
          obtain ⟨r126, h126, er126, hf⟩ := bP_s hf
          refine r_callI (va_runV (As := [.int 1]) (rest := []) ⟨hx, hb, hml, hown, hts⟩ (k_X3_refuse l hG er126) (cwV 1 hts (gV wd597 wd494 wd495 wd75 wd496) rfl rfl rfl (by decide +kernel) ⟨Nat.le_of_ble_eq_true rfl, Nat.le_of_ble_eq_true rfl⟩) (r_pv hK hP hS (ltX3 rfl) (ceX3 rfl) rfl) rfl rfl hl.1 rfl (lv_room (Nat.le_of_ble_eq_true rfl)) dX5_readClause_126 ⟨Nat.le_of_ble_eq_true rfl, Nat.le_of_ble_eq_true rfl⟩) hS (fun H locs hP hS => ?_)
          obtain ⟨hz, hf⟩ := zr_s hf
          exact r_zret hx hb hr hz hlocks hP hS (re2 hf) dX5_readClause_129
        · replace hf := if_f c100 hf
          refine lv_aload_n hx hb dX5_readClause_103 rfl (lv_at hl 0 rfl) ?_
          refine r_get (a := a0) (v := .int (h97.1 a0 6)) (C := RX5) (T := TX5) (N := 7) hx hb hts hinX5 hown hK hP (ltX5 ha0) (ceX5 ha0) rfl 6 (by decide) wd213 rfl dX5_readClause_104 ?_
          refine lv_if_ne (tgt := 118) hx hb dX5_readClause_107 (by decide) (fun c107 => ?_) (fun c107 => ?_)
          · replace hf := if_f c107 hf
            refine lv_aload_n hx hb dX5_readClause_118 rfl (lv_at hl 1 rfl) ?_
            refine lv_iconst (v := 3) hx hb dX5_readClause_119 (by decide) ?_
            obtain ⟨r120, h120, er120, hf⟩ := bP_s hf
            refine r_callI (va_runV (As := [.int 3]) (rest := []) ⟨hx, hb, hml, hown, hts⟩ (k_X3_refuse l hG er120) (cwV 1 hts (gV wd597 wd494 wd495 wd75 wd496) rfl rfl rfl (by decide +kernel) ⟨Nat.le_of_ble_eq_true rfl, Nat.le_of_ble_eq_true rfl⟩) (r_pv hK hP hS (ltX3 rfl) (ceX3 rfl) rfl) rfl rfl hl.1 rfl (lv_room (Nat.le_of_ble_eq_true rfl)) dX5_readClause_120 ⟨Nat.le_of_ble_eq_true rfl, Nat.le_of_ble_eq_true rfl⟩) hS (fun H locs hP hS => ?_)
            obtain ⟨hz, hf⟩ := zr_s hf
            exact r_zret hx hb hr hz hlocks hP hS (re2 hf) dX5_readClause_123
          · replace hf := if_t c107 hf
            refine lv_aload_n hx hb dX5_readClause_110 rfl (lv_at hl 0 rfl) ?_
            refine lv_aload_n hx hb dX5_readClause_111 rfl (lv_at hl 1 rfl) ?_
            obtain ⟨r112, h112, er112, hf⟩ := bP_s hf
            refine r_callI (va_runV (As := [.ref (gB G 3)]) (rest := []) ⟨hx, hb, hml, hown, hts⟩ (k_X5_readLines l hG a0 ha0 er112) (cwV 1 hts (gV wd609 wd611 wd12 wd77 wd612) rfl rfl rfl (by decide +kernel) ⟨Nat.le_of_ble_eq_true rfl, Nat.le_of_ble_eq_true rfl⟩) (r_pv hK hP hS (ltX5 ha0) (ceX5 ha0) rfl) rfl rfl hl.1 rfl (lv_room (Nat.le_of_ble_eq_true rfl)) dX5_readClause_112 ⟨Nat.le_of_ble_eq_true rfl, Nat.le_of_ble_eq_true rfl⟩) hS (fun H locs hP hS => ?_)
            refine lv_goto (tgt := 123) hx hb dX5_readClause_115 (by decide) ?_
            obtain ⟨hz, hf⟩ := zr_s hf
            exact r_zret hx hb hr hz hlocks hP hS (re2 hf) dX5_readClause_123
      · replace hf := if_f c69 hf
        refine lv_aload_n hx hb dX5_readClause_72 rfl (lv_at hl 0 rfl) ?_
        refine r_get (a := a0) (v := .int (h66.1 a0 5)) (C := RX5) (T := TX5) (N := 7) hx hb hts hinX5 hown hK hP (ltX5 ha0) (ceX5 ha0) rfl 5 (by decide) wd212 rfl dX5_readClause_73 ?_
        refine lv_iconst (v := (-1)) hx hb dX5_readClause_76 (by decide) ?_
        refine lv_icmp_ne (tgt := 88) hx hb dX5_readClause_77 (by decide) (fun c77 => ?_) (fun c77 => ?_)
        · replace hf := if_f c77 hf
          refine lv_aload_n hx hb dX5_readClause_88 rfl (lv_at hl 1 rfl) ?_
          refine lv_iconst (v := 3) hx hb dX5_readClause_89 (by decide) ?_
          obtain ⟨r90, h90, er90, hf⟩ := bP_s hf
          refine r_callI (va_runV (As := [.int 3]) (rest := []) ⟨hx, hb, hml, hown, hts⟩ (k_X3_refuse l hG er90) (cwV 1 hts (gV wd597 wd494 wd495 wd75 wd496) rfl rfl rfl (by decide +kernel) ⟨Nat.le_of_ble_eq_true rfl, Nat.le_of_ble_eq_true rfl⟩) (r_pv hK hP hS (ltX3 rfl) (ceX3 rfl) rfl) rfl rfl hl.1 rfl (lv_room (Nat.le_of_ble_eq_true rfl)) dX5_readClause_90 ⟨Nat.le_of_ble_eq_true rfl, Nat.le_of_ble_eq_true rfl⟩) hS (fun H locs hP hS => ?_)
          obtain ⟨hz, hf⟩ := zr_s hf
          exact r_zret hx hb hr hz hlocks hP hS (re2 hf) dX5_readClause_93
        · replace hf := if_t c77 hf
          refine lv_aload_n hx hb dX5_readClause_80 rfl (lv_at hl 0 rfl) ?_
          refine lv_aload_n hx hb dX5_readClause_81 rfl (lv_at hl 1 rfl) ?_
          obtain ⟨r82, h82, er82, hf⟩ := bP_s hf
          refine r_callI (va_runV (As := [.ref (gB G 3)]) (rest := []) ⟨hx, hb, hml, hown, hts⟩ (k_X5_readWeight l hG a0 ha0 er82) (cwV 1 hts (gV wd604 wd606 wd11 wd77 wd607) rfl rfl rfl (by decide +kernel) ⟨Nat.le_of_ble_eq_true rfl, Nat.le_of_ble_eq_true rfl⟩) (r_pv hK hP hS (ltX5 ha0) (ceX5 ha0) rfl) rfl rfl hl.1 rfl (lv_room (Nat.le_of_ble_eq_true rfl)) dX5_readClause_82 ⟨Nat.le_of_ble_eq_true rfl, Nat.le_of_ble_eq_true rfl⟩) hS (fun H locs hP hS => ?_)
          refine lv_goto (tgt := 93) hx hb dX5_readClause_85 (by decide) ?_
          obtain ⟨hz, hf⟩ := zr_s hf
          exact r_zret hx hb hr hz hlocks hP hS (re2 hf) dX5_readClause_93
    · replace hf := if_f c38 hf
      refine lv_aload_n hx hb dX5_readClause_41 rfl (lv_at hl 0 rfl) ?_
      refine r_get (a := a0) (v := .int (h35.1 a0 4)) (C := RX5) (T := TX5) (N := 7) hx hb hts hinX5 hown hK hP (ltX5 ha0) (ceX5 ha0) rfl 4 (by decide) wd211 rfl dX5_readClause_42 ?_
      refine lv_iconst (v := (-1)) hx hb dX5_readClause_45 (by decide) ?_
      refine lv_icmp_ne (tgt := 57) hx hb dX5_readClause_46 (by decide) (fun c46 => ?_) (fun c46 => ?_)
      · replace hf := if_f c46 hf
        refine lv_aload_n hx hb dX5_readClause_57 rfl (lv_at hl 1 rfl) ?_
        refine lv_iconst (v := 3) hx hb dX5_readClause_58 (by decide) ?_
        obtain ⟨r59, h59, er59, hf⟩ := bP_s hf
        refine r_callI (va_runV (As := [.int 3]) (rest := []) ⟨hx, hb, hml, hown, hts⟩ (k_X3_refuse l hG er59) (cwV 1 hts (gV wd597 wd494 wd495 wd75 wd496) rfl rfl rfl (by decide +kernel) ⟨Nat.le_of_ble_eq_true rfl, Nat.le_of_ble_eq_true rfl⟩) (r_pv hK hP hS (ltX3 rfl) (ceX3 rfl) rfl) rfl rfl hl.1 rfl (lv_room (Nat.le_of_ble_eq_true rfl)) dX5_readClause_59 ⟨Nat.le_of_ble_eq_true rfl, Nat.le_of_ble_eq_true rfl⟩) hS (fun H locs hP hS => ?_)
        obtain ⟨hz, hf⟩ := zr_s hf
        exact r_zret hx hb hr hz hlocks hP hS (re2 hf) dX5_readClause_62
      · replace hf := if_t c46 hf
        refine lv_aload_n hx hb dX5_readClause_49 rfl (lv_at hl 0 rfl) ?_
        refine lv_aload_n hx hb dX5_readClause_50 rfl (lv_at hl 1 rfl) ?_
        obtain ⟨r51, h51, er51, hf⟩ := bP_s hf
        refine r_callI (va_runV (As := [.ref (gB G 3)]) (rest := []) ⟨hx, hb, hml, hown, hts⟩ (k_X5_readRisk l hG a0 ha0 er51) (cwV 1 hts (gV wd599 wd601 wd10 wd77 wd602) rfl rfl rfl (by decide +kernel) ⟨Nat.le_of_ble_eq_true rfl, Nat.le_of_ble_eq_true rfl⟩) (r_pv hK hP hS (ltX5 ha0) (ceX5 ha0) rfl) rfl rfl hl.1 rfl (lv_room (Nat.le_of_ble_eq_true rfl)) dX5_readClause_51 ⟨Nat.le_of_ble_eq_true rfl, Nat.le_of_ble_eq_true rfl⟩) hS (fun H locs hP hS => ?_)
        refine lv_goto (tgt := 62) hx hb dX5_readClause_54 (by decide) ?_
        obtain ⟨hz, hf⟩ := zr_s hf
        exact r_zret hx hb hr hz hlocks hP hS (re2 hf) dX5_readClause_62
  · replace hf := if_f c6 hf
    refine lv_aload_n hx hb dX5_readClause_9 rfl (lv_at hl 0 rfl) ?_
    refine r_get (a := a0) (v := .int (h3.1 a0 1)) (C := RX5) (T := TX5) (N := 7) hx hb hts hinX5 hown hK hP (ltX5 ha0) (ceX5 ha0) rfl 1 (by decide) wd208 rfl dX5_readClause_10 ?_
    refine lv_bipush (v := 8) hx hb dX5_readClause_13 (by decide) ?_
    refine lv_icmp_ge (tgt := 26) hx hb dX5_readClause_15 (by decide) (fun c15 => ?_) (fun c15 => ?_)
    · replace hf := if_t c15 hf
      refine lv_aload_n hx hb dX5_readClause_26 rfl (lv_at hl 1 rfl) ?_
      refine lv_iconst (v := 3) hx hb dX5_readClause_27 (by decide) ?_
      obtain ⟨r28, h28, er28, hf⟩ := bP_s hf
      refine r_callI (va_runV (As := [.int 3]) (rest := []) ⟨hx, hb, hml, hown, hts⟩ (k_X3_refuse l hG er28) (cwV 1 hts (gV wd597 wd494 wd495 wd75 wd496) rfl rfl rfl (by decide +kernel) ⟨Nat.le_of_ble_eq_true rfl, Nat.le_of_ble_eq_true rfl⟩) (r_pv hK hP hS (ltX3 rfl) (ceX3 rfl) rfl) rfl rfl hl.1 rfl (lv_room (Nat.le_of_ble_eq_true rfl)) dX5_readClause_28 ⟨Nat.le_of_ble_eq_true rfl, Nat.le_of_ble_eq_true rfl⟩) hS (fun H locs hP hS => ?_)
      obtain ⟨hz, hf⟩ := zr_s hf
      exact r_zret hx hb hr hz hlocks hP hS (re2 hf) dX5_readClause_31
    · replace hf := if_f c15 hf
      refine lv_aload_n hx hb dX5_readClause_18 rfl (lv_at hl 0 rfl) ?_
      refine lv_aload_n hx hb dX5_readClause_19 rfl (lv_at hl 1 rfl) ?_
      obtain ⟨r20, h20, er20, hf⟩ := bP_s hf
      refine r_callI (va_runV (As := [.ref (gB G 3)]) (rest := []) ⟨hx, hb, hml, hown, hts⟩ (k_X5_readFreeze l hG a0 ha0 er20) (cwV 1 hts (gV wd591 wd593 wd9 wd77 wd594) rfl rfl rfl (by decide +kernel) ⟨Nat.le_of_ble_eq_true rfl, Nat.le_of_ble_eq_true rfl⟩) (r_pv hK hP hS (ltX5 ha0) (ceX5 ha0) rfl) rfl rfl hl.1 rfl (lv_room (Nat.le_of_ble_eq_true rfl)) dX5_readClause_20 ⟨Nat.le_of_ble_eq_true rfl, Nat.le_of_ble_eq_true rfl⟩) hS (fun H locs hP hS => ?_)
      refine lv_goto (tgt := 31) hx hb dX5_readClause_23 (by decide) ?_
      obtain ⟨hz, hf⟩ := zr_s hf
      exact r_zret hx hb hr hz hlocks hP hS (re2 hf) dX5_readClause_31
/-! CarriedBack$Rules.readFrom(LCarriedBack$Reader;)Z -/
abbrev rmX5_readFrom : Room := { frames := 6, cells := 0, slots := 0, locals := 128 }
abbrev vX5_readFrom : List Cond := Cond.code yX5_readFrom cX5_readFrom 3 (some .boolean) :: GW
def f_X5_readFrom_27 (a0 : Nat) : Nat → Int32 → PH → Option (Int32 × PH)
  | 0, _, _ => none
  | n + 1, x2, h => if (500 : Int32) ≤ x2 then (some (1, h)) else (bP (f_X3_atEnd h) (fun r35 h35 => if r35 = 0 then (bP (f_X5_readClause a0 h35) (fun r43 h43 => if r43 = 0 then (some (0, h43)) else (bP (f_X3_needSign 59 h43) (fun r52 h52 => if r52 = 0 then (some (0, h52)) else (lt' (hU h52 a0 0 ((h52.1 a0 0) + 1)) (fun h67 => (f_X5_readFrom_27 a0 n) (x2 + 1) h67)))))) else (some (1, h35))))
set_option maxHeartbeats 4000000 in
set_option maxRecDepth 100000 in
theorem w_X5_readFrom_27 {l : Launch} {G : GC} (hG : GOK G) {rr : Int32} {hh : PH} {p : Program} {e : Env} {s : State} {m : MethodId} {args : Array Value} {below : List Frame} {meth : Method} {c : Code} (C : MC l G p s m args meth c RX5 cX5_readFrom 3 (some .boolean)) (a0 : Nat) (ha0 : kdX5 a0) : ∀ (n : Nat) (x2 : Int32) (h : PH) (H : Heap) (locs : List Loc) (ls : Array Slot), lv_has ls 3 [(0, .ref (gB G a0)), (1, .ref (gB G 3)), (2, .int x2)] → WP G h H → SP G s H locs → f_X5_readFrom_27 a0 n x2 h = some (rr, hh) → W p l e rmX5_readFrom s m args below meth c H locs 0 0 (MQ below (QI G rr hh) args s 0 0 (gA G)) (F0 m 27 ls []) := by
  obtain ⟨hx, hb, hr, hlocks, hml, hown, hts, hK⟩ := id C
  intro n
  induction n with
  | zero => intro x2 h H locs ls hl hP hS hf; rw [f_X5_readFrom_27] at hf; cases hf
  | succ n ih =>
    intro x2 h H locs ls hl hP hS hf
    rw [f_X5_readFrom_27] at hf
    refine lv_iload_n hx hb dX5_readFrom_27 rfl (lv_at hl 2 rfl) ?_
    refine lv_sipush (v := 500) hx hb dX5_readFrom_28 (by decide) ?_
    refine lv_icmp_ge (tgt := 76) hx hb dX5_readFrom_31 (by decide) (fun c31 => ?_) (fun c31 => ?_)
    · replace hf := if_t c31 hf
      refine lv_iconst (v := 1) hx hb dX5_readFrom_76 (by decide) ?_
      exact r_zret hx hb hr rfl hlocks hP hS (re2 (Option.some.inj hf)) dX5_readFrom_77
    · replace hf := if_f c31 hf
      refine lv_aload_n hx hb dX5_readFrom_34 rfl (lv_at hl 1 rfl) ?_
      obtain ⟨r35, h35, er35, hf⟩ := bP_s hf
      refine r_callI (va_runV (As := []) (rest := []) ⟨hx, hb, hml, hown, hts⟩ (k_X3_atEnd l hG er35) (cwV 0 hts (gV wd584 wd433 wd434 wd75 wd435) rfl rfl rfl (by decide +kernel) ⟨Nat.le_of_ble_eq_true rfl, Nat.le_of_ble_eq_true rfl⟩) (r_pv hK hP hS (ltX3 rfl) (ceX3 rfl) rfl) rfl rfl hl.1 rfl (lv_room (Nat.le_of_ble_eq_true rfl)) dX5_readFrom_35 ⟨Nat.le_of_ble_eq_true rfl, Nat.le_of_ble_eq_true rfl⟩) hS (fun H locs hP hS => ?_)
      refine lv_if_ne (tgt := 76) hx hb dX5_readFrom_38 (by decide) (fun c38 => ?_) (fun c38 => ?_)
      · replace hf := if_f c38 hf
        refine lv_iconst (v := 1) hx hb dX5_readFrom_76 (by decide) ?_
        exact r_zret hx hb hr rfl hlocks hP hS (re2 (Option.some.inj hf)) dX5_readFrom_77
      · replace hf := if_t c38 hf
        refine lv_aload_n hx hb dX5_readFrom_41 rfl (lv_at hl 0 rfl) ?_
        refine lv_aload_n hx hb dX5_readFrom_42 rfl (lv_at hl 1 rfl) ?_
        obtain ⟨r43, h43, er43, hf⟩ := bP_s hf
        refine r_callI (va_runV (As := [.ref (gB G 3)]) (rest := []) ⟨hx, hb, hml, hown, hts⟩ (k_X5_readClause l hG a0 ha0 er43) (cwV 1 hts (gV wd585 wd587 wd8 wd77 wd588) rfl rfl rfl (by decide +kernel) ⟨Nat.le_of_ble_eq_true rfl, Nat.le_of_ble_eq_true rfl⟩) (r_pv hK hP hS (ltX5 ha0) (ceX5 ha0) rfl) rfl rfl hl.1 rfl (lv_room (Nat.le_of_ble_eq_true rfl)) dX5_readFrom_43 ⟨Nat.le_of_ble_eq_true rfl, Nat.le_of_ble_eq_true rfl⟩) hS (fun H locs hP hS => ?_)
        refine lv_if_eq (tgt := 58) hx hb dX5_readFrom_46 (by decide) (fun c46 => ?_) (fun c46 => ?_)
        · replace hf := if_t c46 hf
          refine lv_iconst (v := 0) hx hb dX5_readFrom_58 (by decide) ?_
          exact r_zret hx hb hr rfl hlocks hP hS (re2 (Option.some.inj hf)) dX5_readFrom_59
        · replace hf := if_f c46 hf
          refine lv_aload_n hx hb dX5_readFrom_49 rfl (lv_at hl 1 rfl) ?_
          refine lv_bipush (v := 59) hx hb dX5_readFrom_50 (by decide) ?_
          obtain ⟨r52, h52, er52, hf⟩ := bP_s hf
          refine r_callI (va_runV (As := [.int 59]) (rest := []) ⟨hx, hb, hml, hown, hts⟩ (k_X3_needSign l hG er52) (cwV 1 hts (gV wd615 wd543 wd544 wd75 wd545) rfl rfl rfl (by decide +kernel) ⟨Nat.le_of_ble_eq_true rfl, Nat.le_of_ble_eq_true rfl⟩) (r_pv hK hP hS (ltX3 rfl) (ceX3 rfl) rfl) rfl rfl hl.1 rfl (lv_room (Nat.le_of_ble_eq_true rfl)) dX5_readFrom_52 ⟨Nat.le_of_ble_eq_true rfl, Nat.le_of_ble_eq_true rfl⟩) hS (fun H locs hP hS => ?_)
          refine lv_if_ne (tgt := 60) hx hb dX5_readFrom_55 (by decide) (fun c55 => ?_) (fun c55 => ?_)
          · replace hf := if_f c55 hf
            refine lv_aload_n hx hb dX5_readFrom_60 rfl (lv_at hl 0 rfl) ?_
            refine lv_dup hx hb dX5_readFrom_61 rfl ?_
            refine r_get (a := a0) (v := .int (h52.1 a0 0)) (C := RX5) (T := TX5) (N := 7) hx hb hts hinX5 hown hK hP (ltX5 ha0) (ceX5 ha0) rfl 0 (by decide) wd206 rfl dX5_readFrom_62 ?_
            refine lv_iconst (v := 1) hx hb dX5_readFrom_65 (by decide) ?_
            refine lv_iadd hx hb dX5_readFrom_66 ?_
            obtain ⟨h67, eh67⟩ : ∃ y, y = hU h52 a0 0 ((h52.1 a0 0) + 1) := ⟨_, rfl⟩
            replace hf := lt_at eh67 hf
            refine r_put (a := a0) (v := .int ((h52.1 a0 0) + 1)) (ty := .int) (h' := h67) (C := RX5) (T := TX5) (N := 7) hG hx hb hts hinX5 tyX5 tyX5_ok nmX5 hown hK hP hS (ltX5 ha0) (ceX5 ha0) rfl 0 (by decide) wd206 rfl (by decide +kernel) rfl rfl (Nat.le_of_ble_eq_true rfl) (by rw [eh67]; exact fun j hj => cE_U hj) (by rw [eh67]; exact puX5_0 ha0 _) dX5_readFrom_67 (fun H locs hP hS => ?_)
            refine lv_iinc (v := (x2 + 1)) (lv' := [(2, .int (x2 + 1)), (0, .ref (gB G a0)), (1, .ref (gB G 3))]) hx hb dX5_readFrom_70 hl (k := 2) rfl rfl (by decide) rfl (fun ls hl => ?_)
            refine lv_goto (tgt := 27) hx hb dX5_readFrom_73 (by decide) ?_
            exact ih (x2 + 1) h67 _ _ _ (lv_sub hl [1, 2, 0] rfl) hP hS hf
          · replace hf := if_t c55 hf
            refine lv_iconst (v := 0) hx hb dX5_readFrom_58 (by decide) ?_
            exact r_zret hx hb hr rfl hlocks hP hS (re2 (Option.some.inj hf)) dX5_readFrom_59
def f_X5_readFrom (a0 : Nat) (h : PH) : Option (Int32 × PH) := lt' (hU h a0 0 0) (fun h2 => lt' (hU h2 a0 1 0) (fun h7 => lt' (hU h7 a0 4 (-1)) (fun h12 => lt' (hU h12 a0 5 (-1)) (fun h17 => lt' (hU h17 a0 6 0) (fun h22 => f_X5_readFrom_27 a0 FU 0 h22)))))
set_option maxHeartbeats 4000000 in
set_option maxRecDepth 100000 in
theorem k_X5_readFrom (l : Launch) {G : GC} (hG : GOK G) (a0 : Nat) (ha0 : kdX5 a0) {rr : Int32} {h hh : PH} (hf : f_X5_readFrom a0 h = some (rr, hh)) : CI l yX5_readFrom vX5_readFrom rmX5_readFrom G [.ref (gB G a0), .ref (gB G 3)] h rr hh := by
  refine Met.ofW (cc := cX5_readFrom) (maxL := 3) (ret := (some .boolean)) (by decide +kernel) rfl ?_
  intro p e s m args below meth c s₁ B hml hv
  obtain ⟨rfl, hP, hK⟩ := hv
  have C : MC l G p s m _ meth c RX5 cX5_readFrom 3 (some .boolean) := ⟨B.exec, B.bytes, B.returns, B.notSynchronized, hml, findClass_of_methodNamed B.named, fun w hw => atoms_spec (ws := vX5_readFrom) B.pre w (List.mem_cons_of_mem _ hw), hK⟩
  obtain ⟨hx, hb, hr, hlocks, -, hown, hts, -⟩ := id C
  have hl := lv_entry ([.ref (gB G a0), .ref (gB G 3)]) (n := 3) (Nat.le_of_ble_eq_true rfl)
  rw [lg_entry_eq]
  generalize (lg_sl ([.ref (gB G a0), .ref (gB G 3)]) ++ List.replicate (3 - (lg_sl ([.ref (gB G a0), .ref (gB G 3)])).length) Slot.unset).toArray = ls at hl ⊢
  have hl : lv_has ls 3 [(0, .ref (gB G a0)), (1, .ref (gB G 3))] := hl
  have hS : SP G s s.heap [] := va_S.rf
  replace hP : WP G h s.heap := hP
  rw [f_X5_readFrom] at hf
  refine lv_aload_n hx hb dX5_readFrom_0 rfl (lv_at hl 0 rfl) ?_
  refine lv_iconst (v := 0) hx hb dX5_readFrom_1 (by decide) ?_
  obtain ⟨h2, eh2⟩ : ∃ y, y = hU h a0 0 0 := ⟨_, rfl⟩
  replace hf := lt_at eh2 hf
  refine r_put (a := a0) (v := .int 0) (ty := .int) (h' := h2) (C := RX5) (T := TX5) (N := 7) hG hx hb hts hinX5 tyX5 tyX5_ok nmX5 hown hK hP hS (ltX5 ha0) (ceX5 ha0) rfl 0 (by decide) wd206 rfl (by decide +kernel) rfl rfl (Nat.le_of_ble_eq_true rfl) (by rw [eh2]; exact fun j hj => cE_U hj) (by rw [eh2]; exact puX5_0 ha0 _) dX5_readFrom_2 (fun H locs hP hS => ?_)
  refine lv_aload_n hx hb dX5_readFrom_5 rfl (lv_at hl 0 rfl) ?_
  refine lv_iconst (v := 0) hx hb dX5_readFrom_6 (by decide) ?_
  obtain ⟨h7, eh7⟩ : ∃ y, y = hU h2 a0 1 0 := ⟨_, rfl⟩
  replace hf := lt_at eh7 hf
  refine r_put (a := a0) (v := .int 0) (ty := .int) (h' := h7) (C := RX5) (T := TX5) (N := 7) hG hx hb hts hinX5 tyX5 tyX5_ok nmX5 hown hK hP hS (ltX5 ha0) (ceX5 ha0) rfl 1 (by decide) wd208 rfl (by decide +kernel) rfl rfl (Nat.le_of_ble_eq_true rfl) (by rw [eh7]; exact fun j hj => cE_U hj) (by rw [eh7]; exact puX5_1 ha0 _) dX5_readFrom_7 (fun H locs hP hS => ?_)
  refine lv_aload_n hx hb dX5_readFrom_10 rfl (lv_at hl 0 rfl) ?_
  refine lv_iconst (v := (-1)) hx hb dX5_readFrom_11 (by decide) ?_
  obtain ⟨h12, eh12⟩ : ∃ y, y = hU h7 a0 4 (-1) := ⟨_, rfl⟩
  replace hf := lt_at eh12 hf
  refine r_put (a := a0) (v := .int (-1)) (ty := .int) (h' := h12) (C := RX5) (T := TX5) (N := 7) hG hx hb hts hinX5 tyX5 tyX5_ok nmX5 hown hK hP hS (ltX5 ha0) (ceX5 ha0) rfl 4 (by decide) wd211 rfl (by decide +kernel) rfl rfl (Nat.le_of_ble_eq_true rfl) (by rw [eh12]; exact fun j hj => cE_U hj) (by rw [eh12]; exact puX5_4 ha0 _) dX5_readFrom_12 (fun H locs hP hS => ?_)
  refine lv_aload_n hx hb dX5_readFrom_15 rfl (lv_at hl 0 rfl) ?_
  refine lv_iconst (v := (-1)) hx hb dX5_readFrom_16 (by decide) ?_
  obtain ⟨h17, eh17⟩ : ∃ y, y = hU h12 a0 5 (-1) := ⟨_, rfl⟩
  replace hf := lt_at eh17 hf
  refine r_put (a := a0) (v := .int (-1)) (ty := .int) (h' := h17) (C := RX5) (T := TX5) (N := 7) hG hx hb hts hinX5 tyX5 tyX5_ok nmX5 hown hK hP hS (ltX5 ha0) (ceX5 ha0) rfl 5 (by decide) wd212 rfl (by decide +kernel) rfl rfl (Nat.le_of_ble_eq_true rfl) (by rw [eh17]; exact fun j hj => cE_U hj) (by rw [eh17]; exact puX5_5 ha0 _) dX5_readFrom_17 (fun H locs hP hS => ?_)
  refine lv_aload_n hx hb dX5_readFrom_20 rfl (lv_at hl 0 rfl) ?_
  refine lv_iconst (v := 0) hx hb dX5_readFrom_21 (by decide) ?_
  obtain ⟨h22, eh22⟩ : ∃ y, y = hU h17 a0 6 0 := ⟨_, rfl⟩
  replace hf := lt_at eh22 hf
  refine r_put (a := a0) (v := .int 0) (ty := .int) (h' := h22) (C := RX5) (T := TX5) (N := 7) hG hx hb hts hinX5 tyX5 tyX5_ok nmX5 hown hK hP hS (ltX5 ha0) (ceX5 ha0) rfl 6 (by decide) wd213 rfl (by decide +kernel) rfl rfl (Nat.le_of_ble_eq_true rfl) (by rw [eh22]; exact fun j hj => cE_U hj) (by rw [eh22]; exact puX5_6 ha0 _) dX5_readFrom_22 (fun H locs hP hS => ?_)
  refine lv_iconst (v := 0) hx hb dX5_readFrom_25 (by decide) ?_
  refine lv_istore_n (lv' := [(2, .int 0), (0, .ref (gB G a0)), (1, .ref (gB G 3))]) hx hb dX5_readFrom_26 rfl hl (by decide) rfl (fun ls hl => ?_)
  exact w_X5_readFrom_27 hG C a0 ha0 FU 0 h22 _ _ _ (lv_sub hl [1, 2, 0] rfl) hP hS hf
/-! CarriedBack$Rules.become(LCarriedBack$Rules;)V -/
abbrev rmX5_become : Room := { frames := 1, cells := 0, slots := 0, locals := 30 }
abbrev vX5_become : List Cond := Cond.code yX5_become cX5_become 2 none :: GW
def f_X5_become (a0 : Nat) (a1 : Nat) (h : PH) : Option PH := lt' (hU h a0 0 (h.1 a1 0)) (fun h5 => lt' (hU h5 a0 1 (h5.1 a1 1)) (fun h13 => bO (cpy h13 (a1 + 1) 8 0 (a0 + 1) 8 0 8) (fun h28 => bO (cpy h28 (a1 + 2) 8 0 (a0 + 2) 8 0 8) (fun h43 => lt' (hU h43 a0 4 (h43.1 a1 4)) (fun h51 => lt' (hU h51 a0 5 (h51.1 a1 5)) (fun h59 => lt' (hU h59 a0 6 (h59.1 a1 6)) (fun h67 => some h67)))))))
set_option maxHeartbeats 4000000 in
set_option maxRecDepth 100000 in
theorem k_X5_become (l : Launch) {G : GC} (hG : GOK G) (a0 : Nat) (ha0 : kdX5 a0) (a1 : Nat) (ha1 : kdX5 a1) {h hh : PH} (hf : f_X5_become a0 a1 h = some hh) : CV l yX5_become vX5_become rmX5_become G [.ref (gB G a0), .ref (gB G a1)] h hh := by
  refine Met.ofW (cc := cX5_become) (maxL := 2) (ret := none) (by decide +kernel) rfl ?_
  intro p e s m args below meth c s₁ B hml hv
  obtain ⟨rfl, hP, hK⟩ := hv
  have C : MC l G p s m _ meth c RX5 cX5_become 2 none := ⟨B.exec, B.bytes, B.returns, B.notSynchronized, hml, findClass_of_methodNamed B.named, fun w hw => atoms_spec (ws := vX5_become) B.pre w (List.mem_cons_of_mem _ hw), hK⟩
  obtain ⟨hx, hb, hr, hlocks, -, hown, hts, -⟩ := id C
  have hl := lv_entry ([.ref (gB G a0), .ref (gB G a1)]) (n := 2) (Nat.le_of_ble_eq_true rfl)
  rw [lg_entry_eq]
  generalize (lg_sl ([.ref (gB G a0), .ref (gB G a1)]) ++ List.replicate (2 - (lg_sl ([.ref (gB G a0), .ref (gB G a1)])).length) Slot.unset).toArray = ls at hl ⊢
  have hl : lv_has ls 2 [(0, .ref (gB G a0)), (1, .ref (gB G a1))] := hl
  have hS : SP G s s.heap [] := va_S.rf
  replace hP : WP G h s.heap := hP
  rw [f_X5_become] at hf
  refine lv_aload_n hx hb dX5_become_0 rfl (lv_at hl 0 rfl) ?_
  refine lv_aload_n hx hb dX5_become_1 rfl (lv_at hl 1 rfl) ?_
  refine r_get (a := a1) (v := .int (h.1 a1 0)) (C := RX5) (T := TX5) (N := 7) hx hb hts hinX5 hown hK hP (ltX5 ha1) (ceX5 ha1) rfl 0 (by decide) wd206 rfl dX5_become_2 ?_
  obtain ⟨h5, eh5⟩ : ∃ y, y = hU h a0 0 (h.1 a1 0) := ⟨_, rfl⟩
  replace hf := lt_at eh5 hf
  refine r_put (a := a0) (v := .int (h.1 a1 0)) (ty := .int) (h' := h5) (C := RX5) (T := TX5) (N := 7) hG hx hb hts hinX5 tyX5 tyX5_ok nmX5 hown hK hP hS (ltX5 ha0) (ceX5 ha0) rfl 0 (by decide) wd206 rfl (by decide +kernel) rfl rfl (Nat.le_of_ble_eq_true rfl) (by rw [eh5]; exact fun j hj => cE_U hj) (by rw [eh5]; exact puX5_0 ha0 _) dX5_become_5 (fun H locs hP hS => ?_)
  refine lv_aload_n hx hb dX5_become_8 rfl (lv_at hl 0 rfl) ?_
  refine lv_aload_n hx hb dX5_become_9 rfl (lv_at hl 1 rfl) ?_
  refine r_get (a := a1) (v := .int (h5.1 a1 1)) (C := RX5) (T := TX5) (N := 7) hx hb hts hinX5 hown hK hP (ltX5 ha1) (ceX5 ha1) rfl 1 (by decide) wd208 rfl dX5_become_10 ?_
  obtain ⟨h13, eh13⟩ : ∃ y, y = hU h5 a0 1 (h5.1 a1 1) := ⟨_, rfl⟩
  replace hf := lt_at eh13 hf
  refine r_put (a := a0) (v := .int (h5.1 a1 1)) (ty := .int) (h' := h13) (C := RX5) (T := TX5) (N := 7) hG hx hb hts hinX5 tyX5 tyX5_ok nmX5 hown hK hP hS (ltX5 ha0) (ceX5 ha0) rfl 1 (by decide) wd208 rfl (by decide +kernel) rfl rfl (Nat.le_of_ble_eq_true rfl) (by rw [eh13]; exact fun j hj => cE_U hj) (by rw [eh13]; exact puX5_1 ha0 _) dX5_become_13 (fun H locs hP hS => ?_)
  refine lv_aload_n hx hb dX5_become_16 rfl (lv_at hl 1 rfl) ?_
  refine r_get (a := a1) (v := .ref (gB G (a1 + 1))) (C := RX5) (T := TX5) (N := 7) hx hb hts hinX5 hown hK hP (ltX5 ha1) (ceX5 ha1) rfl 2 (by decide) wd209 rfl dX5_become_17 ?_
  refine lv_iconst (v := 0) hx hb dX5_become_20 (by decide) ?_
  refine lv_aload_n hx hb dX5_become_21 rfl (lv_at hl 0 rfl) ?_
  refine r_get (a := a0) (v := .ref (gB G (a0 + 1))) (C := RX5) (T := TX5) (N := 7) hx hb hts hinX5 hown hK hP (ltX5 ha0) (ceX5 ha0) rfl 2 (by decide) wd209 rfl dX5_become_22 ?_
  refine lv_iconst (v := 0) hx hb dX5_become_25 (by decide) ?_
  refine lv_bipush (v := 8) hx hb dX5_become_26 (by decide) ?_
  obtain ⟨h28, eh28, hf⟩ := bO_s hf
  refine r_cpy hG hx hb (by rw [hml]; exact hl.1.symm) hown hts wd620 wd553 wd552 wd87 hK hP hS (arX5_2 ha1) (arX5_2 ha0) eh28 (Nat.le_of_ble_eq_true rfl) (Nat.le_of_ble_eq_true rfl) dX5_become_28 (fun H locs hP hS => ?_)
  refine lv_aload_n hx hb dX5_become_31 rfl (lv_at hl 1 rfl) ?_
  refine r_get (a := a1) (v := .ref (gB G (a1 + 2))) (C := RX5) (T := TX5) (N := 7) hx hb hts hinX5 hown hK hP (ltX5 ha1) (ceX5 ha1) rfl 3 (by decide) wd210 rfl dX5_become_32 ?_
  refine lv_iconst (v := 0) hx hb dX5_become_35 (by decide) ?_
  refine lv_aload_n hx hb dX5_become_36 rfl (lv_at hl 0 rfl) ?_
  refine r_get (a := a0) (v := .ref (gB G (a0 + 2))) (C := RX5) (T := TX5) (N := 7) hx hb hts hinX5 hown hK hP (ltX5 ha0) (ceX5 ha0) rfl 3 (by decide) wd210 rfl dX5_become_37 ?_
  refine lv_iconst (v := 0) hx hb dX5_become_40 (by decide) ?_
  refine lv_bipush (v := 8) hx hb dX5_become_41 (by decide) ?_
  obtain ⟨h43, eh43, hf⟩ := bO_s hf
  refine r_cpy hG hx hb (by rw [hml]; exact hl.1.symm) hown hts wd620 wd553 wd552 wd87 hK hP hS (arX5_3 ha1) (arX5_3 ha0) eh43 (Nat.le_of_ble_eq_true rfl) (Nat.le_of_ble_eq_true rfl) dX5_become_43 (fun H locs hP hS => ?_)
  refine lv_aload_n hx hb dX5_become_46 rfl (lv_at hl 0 rfl) ?_
  refine lv_aload_n hx hb dX5_become_47 rfl (lv_at hl 1 rfl) ?_
  refine r_get (a := a1) (v := .int (h43.1 a1 4)) (C := RX5) (T := TX5) (N := 7) hx hb hts hinX5 hown hK hP (ltX5 ha1) (ceX5 ha1) rfl 4 (by decide) wd211 rfl dX5_become_48 ?_
  obtain ⟨h51, eh51⟩ : ∃ y, y = hU h43 a0 4 (h43.1 a1 4) := ⟨_, rfl⟩
  replace hf := lt_at eh51 hf
  refine r_put (a := a0) (v := .int (h43.1 a1 4)) (ty := .int) (h' := h51) (C := RX5) (T := TX5) (N := 7) hG hx hb hts hinX5 tyX5 tyX5_ok nmX5 hown hK hP hS (ltX5 ha0) (ceX5 ha0) rfl 4 (by decide) wd211 rfl (by decide +kernel) rfl rfl (Nat.le_of_ble_eq_true rfl) (by rw [eh51]; exact fun j hj => cE_U hj) (by rw [eh51]; exact puX5_4 ha0 _) dX5_become_51 (fun H locs hP hS => ?_)
  refine lv_aload_n hx hb dX5_become_54 rfl (lv_at hl 0 rfl) ?_
  refine lv_aload_n hx hb dX5_become_55 rfl (lv_at hl 1 rfl) ?_
  refine r_get (a := a1) (v := .int (h51.1 a1 5)) (C := RX5) (T := TX5) (N := 7) hx hb hts hinX5 hown hK hP (ltX5 ha1) (ceX5 ha1) rfl 5 (by decide) wd212 rfl dX5_become_56 ?_
  obtain ⟨h59, eh59⟩ : ∃ y, y = hU h51 a0 5 (h51.1 a1 5) := ⟨_, rfl⟩
  replace hf := lt_at eh59 hf
  refine r_put (a := a0) (v := .int (h51.1 a1 5)) (ty := .int) (h' := h59) (C := RX5) (T := TX5) (N := 7) hG hx hb hts hinX5 tyX5 tyX5_ok nmX5 hown hK hP hS (ltX5 ha0) (ceX5 ha0) rfl 5 (by decide) wd212 rfl (by decide +kernel) rfl rfl (Nat.le_of_ble_eq_true rfl) (by rw [eh59]; exact fun j hj => cE_U hj) (by rw [eh59]; exact puX5_5 ha0 _) dX5_become_59 (fun H locs hP hS => ?_)
  refine lv_aload_n hx hb dX5_become_62 rfl (lv_at hl 0 rfl) ?_
  refine lv_aload_n hx hb dX5_become_63 rfl (lv_at hl 1 rfl) ?_
  refine r_get (a := a1) (v := .int (h59.1 a1 6)) (C := RX5) (T := TX5) (N := 7) hx hb hts hinX5 hown hK hP (ltX5 ha1) (ceX5 ha1) rfl 6 (by decide) wd213 rfl dX5_become_64 ?_
  obtain ⟨h67, eh67⟩ : ∃ y, y = hU h59 a0 6 (h59.1 a1 6) := ⟨_, rfl⟩
  replace hf := lt_at eh67 hf
  refine r_put (a := a0) (v := .int (h59.1 a1 6)) (ty := .int) (h' := h67) (C := RX5) (T := TX5) (N := 7) hG hx hb hts hinX5 tyX5 tyX5_ok nmX5 hown hK hP hS (ltX5 ha0) (ceX5 ha0) rfl 6 (by decide) wd213 rfl (by decide +kernel) rfl rfl (Nat.le_of_ble_eq_true rfl) (by rw [eh67]; exact fun j hj => cE_U hj) (by rw [eh67]; exact puX5_6 ha0 _) dX5_become_67 (fun H locs hP hS => ?_)
  exact r_vret hx hb hr hlocks hP hS (Option.some.inj hf) dX5_become_70
