/-! CarriedBackModel.spans(IIII)I -/
abbrev rmX9_spans : Room := { frames := 3, cells := 0, slots := 0, locals := 67 }
abbrev vX9_spans : List Cond := Cond.code yX9_spans cX9_spans 11 (some .int) :: GW
def f_X9_spans_146 (x1 : Int32) (x2 : Int32) (x3 : Int32) (x4 : Int32) (k50 : Int32 → Int32 → Int32 → Int32 → Int32 → PH → Option (Int32 × PH)) (x5 : Int32) (x7 : Int32) (x9 : Int32) (x10 : Int32) (t0 : Int32) (h : PH) : Option (Int32 × PH) := if x10 = 0 then (k50 x5 1 x7 t0 (x9 + 1) h) else (k50 x5 0 x7 t0 (x9 + 1) h)
set_option maxHeartbeats 4000000 in
set_option maxRecDepth 100000 in
theorem w_X9_spans_146 {l : Launch} {G : GC} (hG : GOK G) {rr : Int32} {hh : PH} {p : Program} {e : Env} {s : State} {m : MethodId} {args : Array Value} {below : List Frame} {meth : Method} {c : Code} (C : MC l G p s m args meth c RX9 cX9_spans 11 (some .int)) (x1 : Int32) (x2 : Int32) (x3 : Int32) (x4 : Int32) (k50 : Int32 → Int32 → Int32 → Int32 → Int32 → PH → Option (Int32 × PH)) (hk50 : ∀ (x5 : Int32) (x6 : Int32) (x7 : Int32) (x8 : Int32) (x9 : Int32) (h : PH) (H : Heap) (locs : List Loc) (ls : Array Slot), lv_has ls 11 [(0, .ref (gB G 66)), (1, .int x1), (2, .int x2), (3, .int x3), (4, .int x4), (5, .int x5), (6, .int x6), (7, .int x7), (8, .int x8), (9, .int x9)] → WP G h H → SP G s H locs → k50 x5 x6 x7 x8 x9 h = some (rr, hh) → W p l e rmX9_spans s m args below meth c H locs 0 0 (MQ below (QI G rr hh) args s 0 0 (gA G)) (F0 m 50 ls [])) : ∀ (x5 : Int32) (x7 : Int32) (x9 : Int32) (x10 : Int32) (t0 : Int32) (h : PH) (H : Heap) (locs : List Loc) (ls : Array Slot), lv_has ls 11 [(0, .ref (gB G 66)), (1, .int x1), (2, .int x2), (3, .int x3), (4, .int x4), (5, .int x5), (7, .int x7), (9, .int x9), (10, .int x10)] → WP G h H → SP G s H locs → f_X9_spans_146 x1 x2 x3 x4 k50 x5 x7 x9 x10 t0 h = some (rr, hh) → W p l e rmX9_spans s m args below meth c H locs 0 0 (MQ below (QI G rr hh) args s 0 0 (gA G)) (F0 m 146 ls [.int t0]) := by
  obtain ⟨hx, hb, hr, hlocks, hml, hown, hts, hK⟩ := id C
  intro x5 x7 x9 x10 t0 h H locs ls hl hP hS hf
  rw [f_X9_spans_146] at hf
  refine lv_istore (lv' := [(8, .int t0), (0, .ref (gB G 66)), (1, .int x1), (2, .int x2), (3, .int x3), (4, .int x4), (5, .int x5), (7, .int x7), (9, .int x9), (10, .int x10)]) hx hb dX9_spans_146 hl (by decide) rfl (fun ls hl => ?_)
  refine lv_iload hx hb dX9_spans_148 (lv_at hl 9 rfl) ?_
  refine lv_if_ne (tgt := 157) hx hb dX9_spans_150 (by decide) (fun c150 => ?_) (fun c150 => ?_)
  · replace hf := if_f c150 hf
    refine lv_iconst (v := 0) hx hb dX9_spans_157 (by decide) ?_
    refine lv_istore (lv' := [(6, .int 0), (8, .int t0), (0, .ref (gB G 66)), (1, .int x1), (2, .int x2), (3, .int x3), (4, .int x4), (5, .int x5), (7, .int x7), (9, .int x9), (10, .int x10)]) hx hb dX9_spans_158 hl (by decide) rfl (fun ls hl => ?_)
    refine lv_iinc (v := (x9 + 1)) (lv' := [(9, .int (x9 + 1)), (6, .int 0), (8, .int t0), (0, .ref (gB G 66)), (1, .int x1), (2, .int x2), (3, .int x3), (4, .int x4), (5, .int x5), (7, .int x7), (10, .int x10)]) hx hb dX9_spans_160 hl (k := 9) rfl rfl (by decide) rfl (fun ls hl => ?_)
    refine lv_goto (tgt := 50) hx hb dX9_spans_163 (by decide) ?_
    exact hk50 x5 0 x7 t0 (x9 + 1) h _ _ _ (lv_sub hl [3, 4, 5, 6, 7, 8, 1, 9, 2, 0] rfl) hP hS hf
  · replace hf := if_t c150 hf
    refine lv_iconst (v := 1) hx hb dX9_spans_153 (by decide) ?_
    refine lv_goto (tgt := 158) hx hb dX9_spans_154 (by decide) ?_
    refine lv_istore (lv' := [(6, .int 1), (8, .int t0), (0, .ref (gB G 66)), (1, .int x1), (2, .int x2), (3, .int x3), (4, .int x4), (5, .int x5), (7, .int x7), (9, .int x9), (10, .int x10)]) hx hb dX9_spans_158 hl (by decide) rfl (fun ls hl => ?_)
    refine lv_iinc (v := (x9 + 1)) (lv' := [(9, .int (x9 + 1)), (6, .int 1), (8, .int t0), (0, .ref (gB G 66)), (1, .int x1), (2, .int x2), (3, .int x3), (4, .int x4), (5, .int x5), (7, .int x7), (10, .int x10)]) hx hb dX9_spans_160 hl (k := 9) rfl rfl (by decide) rfl (fun ls hl => ?_)
    refine lv_goto (tgt := 50) hx hb dX9_spans_163 (by decide) ?_
    exact hk50 x5 1 x7 t0 (x9 + 1) h _ _ _ (lv_sub hl [3, 4, 5, 6, 7, 8, 1, 9, 2, 0] rfl) hP hS hf
def f_X9_spans_144 (x1 : Int32) (x2 : Int32) (x3 : Int32) (x4 : Int32) (k50 : Int32 → Int32 → Int32 → Int32 → Int32 → PH → Option (Int32 × PH)) (x5 : Int32) (x7 : Int32) (x8 : Int32) (x9 : Int32) (x10 : Int32) (h : PH) : Option (Int32 × PH) := f_X9_spans_146 x1 x2 x3 x4 k50 x5 x7 x9 x10 x8 h
set_option maxHeartbeats 4000000 in
set_option maxRecDepth 100000 in
theorem w_X9_spans_144 {l : Launch} {G : GC} (hG : GOK G) {rr : Int32} {hh : PH} {p : Program} {e : Env} {s : State} {m : MethodId} {args : Array Value} {below : List Frame} {meth : Method} {c : Code} (C : MC l G p s m args meth c RX9 cX9_spans 11 (some .int)) (x1 : Int32) (x2 : Int32) (x3 : Int32) (x4 : Int32) (k50 : Int32 → Int32 → Int32 → Int32 → Int32 → PH → Option (Int32 × PH)) (hk50 : ∀ (x5 : Int32) (x6 : Int32) (x7 : Int32) (x8 : Int32) (x9 : Int32) (h : PH) (H : Heap) (locs : List Loc) (ls : Array Slot), lv_has ls 11 [(0, .ref (gB G 66)), (1, .int x1), (2, .int x2), (3, .int x3), (4, .int x4), (5, .int x5), (6, .int x6), (7, .int x7), (8, .int x8), (9, .int x9)] → WP G h H → SP G s H locs → k50 x5 x6 x7 x8 x9 h = some (rr, hh) → W p l e rmX9_spans s m args below meth c H locs 0 0 (MQ below (QI G rr hh) args s 0 0 (gA G)) (F0 m 50 ls [])) : ∀ (x5 : Int32) (x7 : Int32) (x8 : Int32) (x9 : Int32) (x10 : Int32) (h : PH) (H : Heap) (locs : List Loc) (ls : Array Slot), lv_has ls 11 [(0, .ref (gB G 66)), (1, .int x1), (2, .int x2), (3, .int x3), (4, .int x4), (5, .int x5), (7, .int x7), (8, .int x8), (9, .int x9), (10, .int x10)] → WP G h H → SP G s H locs → f_X9_spans_144 x1 x2 x3 x4 k50 x5 x7 x8 x9 x10 h = some (rr, hh) → W p l e rmX9_spans s m args below meth c H locs 0 0 (MQ below (QI G rr hh) args s 0 0 (gA G)) (F0 m 144 ls []) := by
  obtain ⟨hx, hb, hr, hlocks, hml, hown, hts, hK⟩ := id C
  intro x5 x7 x8 x9 x10 h H locs ls hl hP hS hf
  rw [f_X9_spans_144] at hf
  refine lv_iload hx hb dX9_spans_144 (lv_at hl 7 rfl) ?_
  exact w_X9_spans_146 hG C x1 x2 x3 x4 k50 hk50 x5 x7 x9 x10 x8 h _ _ _ (lv_sub hl [0, 1, 2, 3, 4, 5, 6, 8, 9] rfl) hP hS hf
def f_X9_spans_124 (x1 : Int32) (x2 : Int32) (x3 : Int32) (x4 : Int32) (k50 : Int32 → Int32 → Int32 → Int32 → Int32 → PH → Option (Int32 × PH)) (x5 : Int32) (x8 : Int32) (x9 : Int32) (x10 : Int32) (t0 : Int32) (h : PH) : Option (Int32 × PH) := if x10 = 0 then (if (x5 - 1) = x3 then (f_X9_spans_146 x1 x2 x3 x4 k50 x5 t0 x9 x10 x9 h) else (f_X9_spans_144 x1 x2 x3 x4 k50 x5 t0 x8 x9 x10 h)) else (f_X9_spans_144 x1 x2 x3 x4 k50 x5 t0 x8 x9 x10 h)
set_option maxHeartbeats 4000000 in
set_option maxRecDepth 100000 in
theorem w_X9_spans_124 {l : Launch} {G : GC} (hG : GOK G) {rr : Int32} {hh : PH} {p : Program} {e : Env} {s : State} {m : MethodId} {args : Array Value} {below : List Frame} {meth : Method} {c : Code} (C : MC l G p s m args meth c RX9 cX9_spans 11 (some .int)) (x1 : Int32) (x2 : Int32) (x3 : Int32) (x4 : Int32) (k50 : Int32 → Int32 → Int32 → Int32 → Int32 → PH → Option (Int32 × PH)) (hk50 : ∀ (x5 : Int32) (x6 : Int32) (x7 : Int32) (x8 : Int32) (x9 : Int32) (h : PH) (H : Heap) (locs : List Loc) (ls : Array Slot), lv_has ls 11 [(0, .ref (gB G 66)), (1, .int x1), (2, .int x2), (3, .int x3), (4, .int x4), (5, .int x5), (6, .int x6), (7, .int x7), (8, .int x8), (9, .int x9)] → WP G h H → SP G s H locs → k50 x5 x6 x7 x8 x9 h = some (rr, hh) → W p l e rmX9_spans s m args below meth c H locs 0 0 (MQ below (QI G rr hh) args s 0 0 (gA G)) (F0 m 50 ls [])) : ∀ (x5 : Int32) (x8 : Int32) (x9 : Int32) (x10 : Int32) (t0 : Int32) (h : PH) (H : Heap) (locs : List Loc) (ls : Array Slot), lv_has ls 11 [(0, .ref (gB G 66)), (1, .int x1), (2, .int x2), (3, .int x3), (4, .int x4), (5, .int x5), (8, .int x8), (9, .int x9), (10, .int x10)] → WP G h H → SP G s H locs → f_X9_spans_124 x1 x2 x3 x4 k50 x5 x8 x9 x10 t0 h = some (rr, hh) → W p l e rmX9_spans s m args below meth c H locs 0 0 (MQ below (QI G rr hh) args s 0 0 (gA G)) (F0 m 124 ls [.int t0]) := by
  obtain ⟨hx, hb, hr, hlocks, hml, hown, hts, hK⟩ := id C
  intro x5 x8 x9 x10 t0 h H locs ls hl hP hS hf
  rw [f_X9_spans_124] at hf
  refine lv_istore (lv' := [(7, .int t0), (0, .ref (gB G 66)), (1, .int x1), (2, .int x2), (3, .int x3), (4, .int x4), (5, .int x5), (8, .int x8), (9, .int x9), (10, .int x10)]) hx hb dX9_spans_124 hl (by decide) rfl (fun ls hl => ?_)
  refine lv_iload hx hb dX9_spans_126 (lv_at hl 9 rfl) ?_
  refine lv_if_ne (tgt := 144) hx hb dX9_spans_128 (by decide) (fun c128 => ?_) (fun c128 => ?_)
  · replace hf := if_f c128 hf
    exact w_X9_spans_144 hG C x1 x2 x3 x4 k50 hk50 x5 t0 x8 x9 x10 h _ _ _ (lv_sub hl [1, 2, 3, 4, 5, 6, 0, 7, 8, 9] rfl) hP hS hf
  · replace hf := if_t c128 hf
    refine lv_iload hx hb dX9_spans_131 (lv_at hl 6 rfl) ?_
    refine lv_iconst (v := 1) hx hb dX9_spans_133 (by decide) ?_
    refine lv_isub hx hb dX9_spans_134 ?_
    refine lv_iload_n hx hb dX9_spans_135 rfl (lv_at hl 4 rfl) ?_
    refine lv_icmp_ne (tgt := 144) hx hb dX9_spans_136 (by decide) (fun c136 => ?_) (fun c136 => ?_)
    · replace hf := if_f c136 hf
      exact w_X9_spans_144 hG C x1 x2 x3 x4 k50 hk50 x5 t0 x8 x9 x10 h _ _ _ (lv_sub hl [1, 2, 3, 4, 5, 6, 0, 7, 8, 9] rfl) hP hS hf
    · replace hf := if_t c136 hf
      refine lv_iload hx hb dX9_spans_139 (lv_at hl 8 rfl) ?_
      refine lv_goto (tgt := 146) hx hb dX9_spans_141 (by decide) ?_
      exact w_X9_spans_146 hG C x1 x2 x3 x4 k50 hk50 x5 t0 x9 x10 x9 h _ _ _ (lv_sub hl [1, 2, 3, 4, 5, 6, 0, 8, 9] rfl) hP hS hf
def f_X9_spans_122 (x1 : Int32) (x2 : Int32) (x3 : Int32) (x4 : Int32) (k50 : Int32 → Int32 → Int32 → Int32 → Int32 → PH → Option (Int32 × PH)) (x5 : Int32) (x7 : Int32) (x8 : Int32) (x9 : Int32) (x10 : Int32) (h : PH) : Option (Int32 × PH) := f_X9_spans_124 x1 x2 x3 x4 k50 x5 x8 x9 x10 x7 h
set_option maxHeartbeats 4000000 in
set_option maxRecDepth 100000 in
theorem w_X9_spans_122 {l : Launch} {G : GC} (hG : GOK G) {rr : Int32} {hh : PH} {p : Program} {e : Env} {s : State} {m : MethodId} {args : Array Value} {below : List Frame} {meth : Method} {c : Code} (C : MC l G p s m args meth c RX9 cX9_spans 11 (some .int)) (x1 : Int32) (x2 : Int32) (x3 : Int32) (x4 : Int32) (k50 : Int32 → Int32 → Int32 → Int32 → Int32 → PH → Option (Int32 × PH)) (hk50 : ∀ (x5 : Int32) (x6 : Int32) (x7 : Int32) (x8 : Int32) (x9 : Int32) (h : PH) (H : Heap) (locs : List Loc) (ls : Array Slot), lv_has ls 11 [(0, .ref (gB G 66)), (1, .int x1), (2, .int x2), (3, .int x3), (4, .int x4), (5, .int x5), (6, .int x6), (7, .int x7), (8, .int x8), (9, .int x9)] → WP G h H → SP G s H locs → k50 x5 x6 x7 x8 x9 h = some (rr, hh) → W p l e rmX9_spans s m args below meth c H locs 0 0 (MQ below (QI G rr hh) args s 0 0 (gA G)) (F0 m 50 ls [])) : ∀ (x5 : Int32) (x7 : Int32) (x8 : Int32) (x9 : Int32) (x10 : Int32) (h : PH) (H : Heap) (locs : List Loc) (ls : Array Slot), lv_has ls 11 [(0, .ref (gB G 66)), (1, .int x1), (2, .int x2), (3, .int x3), (4, .int x4), (5, .int x5), (7, .int x7), (8, .int x8), (9, .int x9), (10, .int x10)] → WP G h H → SP G s H locs → f_X9_spans_122 x1 x2 x3 x4 k50 x5 x7 x8 x9 x10 h = some (rr, hh) → W p l e rmX9_spans s m args below meth c H locs 0 0 (MQ below (QI G rr hh) args s 0 0 (gA G)) (F0 m 122 ls []) := by
  obtain ⟨hx, hb, hr, hlocks, hml, hown, hts, hK⟩ := id C
  intro x5 x7 x8 x9 x10 h H locs ls hl hP hS hf
  rw [f_X9_spans_122] at hf
  refine lv_iload hx hb dX9_spans_122 (lv_at hl 6 rfl) ?_
  exact w_X9_spans_124 hG C x1 x2 x3 x4 k50 hk50 x5 x8 x9 x10 x7 h _ _ _ (lv_sub hl [0, 1, 2, 3, 4, 5, 7, 8, 9] rfl) hP hS hf
def f_X9_spans_96 (x1 : Int32) (x2 : Int32) (x3 : Int32) (x4 : Int32) (k50 : Int32 → Int32 → Int32 → Int32 → Int32 → PH → Option (Int32 × PH)) (x6 : Int32) (x7 : Int32) (x8 : Int32) (x9 : Int32) (x10 : Int32) (t0 : Int32) (t1 : Int32) (h : PH) : Option (Int32 × PH) := lt' ((t0 + t1)) (fun x5_97 => if x10 = 0 then (if x6 = 0 then (if (x5_97 - 1) = x3 then (f_X9_spans_124 x1 x2 x3 x4 k50 x5_97 x8 x9 x10 x9 h) else (f_X9_spans_122 x1 x2 x3 x4 k50 x5_97 x7 x8 x9 x10 h)) else (f_X9_spans_122 x1 x2 x3 x4 k50 x5_97 x7 x8 x9 x10 h)) else (f_X9_spans_122 x1 x2 x3 x4 k50 x5_97 x7 x8 x9 x10 h))
set_option maxHeartbeats 4000000 in
set_option maxRecDepth 100000 in
theorem w_X9_spans_96 {l : Launch} {G : GC} (hG : GOK G) {rr : Int32} {hh : PH} {p : Program} {e : Env} {s : State} {m : MethodId} {args : Array Value} {below : List Frame} {meth : Method} {c : Code} (C : MC l G p s m args meth c RX9 cX9_spans 11 (some .int)) (x1 : Int32) (x2 : Int32) (x3 : Int32) (x4 : Int32) (k50 : Int32 → Int32 → Int32 → Int32 → Int32 → PH → Option (Int32 × PH)) (hk50 : ∀ (x5 : Int32) (x6 : Int32) (x7 : Int32) (x8 : Int32) (x9 : Int32) (h : PH) (H : Heap) (locs : List Loc) (ls : Array Slot), lv_has ls 11 [(0, .ref (gB G 66)), (1, .int x1), (2, .int x2), (3, .int x3), (4, .int x4), (5, .int x5), (6, .int x6), (7, .int x7), (8, .int x8), (9, .int x9)] → WP G h H → SP G s H locs → k50 x5 x6 x7 x8 x9 h = some (rr, hh) → W p l e rmX9_spans s m args below meth c H locs 0 0 (MQ below (QI G rr hh) args s 0 0 (gA G)) (F0 m 50 ls [])) : ∀ (x6 : Int32) (x7 : Int32) (x8 : Int32) (x9 : Int32) (x10 : Int32) (t0 : Int32) (t1 : Int32) (h : PH) (H : Heap) (locs : List Loc) (ls : Array Slot), lv_has ls 11 [(0, .ref (gB G 66)), (1, .int x1), (2, .int x2), (3, .int x3), (4, .int x4), (6, .int x6), (7, .int x7), (8, .int x8), (9, .int x9), (10, .int x10)] → WP G h H → SP G s H locs → f_X9_spans_96 x1 x2 x3 x4 k50 x6 x7 x8 x9 x10 t0 t1 h = some (rr, hh) → W p l e rmX9_spans s m args below meth c H locs 0 0 (MQ below (QI G rr hh) args s 0 0 (gA G)) (F0 m 96 ls [.int t1, .int t0]) := by
  obtain ⟨hx, hb, hr, hlocks, hml, hown, hts, hK⟩ := id C
  intro x6 x7 x8 x9 x10 t0 t1 h H locs ls hl hP hS hf
  rw [f_X9_spans_96] at hf
  refine lv_iadd hx hb dX9_spans_96 ?_
  refine lv_topi (fun x5_97 ex5_97 => ?_)
  replace hf := lt_at ex5_97 hf
  refine lv_istore (lv' := [(5, .int x5_97), (0, .ref (gB G 66)), (1, .int x1), (2, .int x2), (3, .int x3), (4, .int x4), (6, .int x6), (7, .int x7), (8, .int x8), (9, .int x9), (10, .int x10)]) hx hb dX9_spans_97 hl (by decide) rfl (fun ls hl => ?_)
  refine lv_iload hx hb dX9_spans_99 (lv_at hl 10 rfl) ?_
  refine lv_if_ne (tgt := 122) hx hb dX9_spans_101 (by decide) (fun c101 => ?_) (fun c101 => ?_)
  · replace hf := if_f c101 hf
    exact w_X9_spans_122 hG C x1 x2 x3 x4 k50 hk50 x5_97 x7 x8 x9 x10 h _ _ _ (lv_sub hl [1, 2, 3, 4, 5, 0, 7, 8, 9, 10] rfl) hP hS hf
  · replace hf := if_t c101 hf
    refine lv_iload hx hb dX9_spans_104 (lv_at hl 6 rfl) ?_
    refine lv_if_ne (tgt := 122) hx hb dX9_spans_106 (by decide) (fun c106 => ?_) (fun c106 => ?_)
    · replace hf := if_f c106 hf
      exact w_X9_spans_122 hG C x1 x2 x3 x4 k50 hk50 x5_97 x7 x8 x9 x10 h _ _ _ (lv_sub hl [1, 2, 3, 4, 5, 0, 7, 8, 9, 10] rfl) hP hS hf
    · replace hf := if_t c106 hf
      refine lv_iload hx hb dX9_spans_109 (lv_at hl 0 rfl) ?_
      refine lv_iconst (v := 1) hx hb dX9_spans_111 (by decide) ?_
      refine lv_isub hx hb dX9_spans_112 ?_
      refine lv_iload_n hx hb dX9_spans_113 rfl (lv_at hl 4 rfl) ?_
      refine lv_icmp_ne (tgt := 122) hx hb dX9_spans_114 (by decide) (fun c114 => ?_) (fun c114 => ?_)
      · replace hf := if_f c114 hf
        exact w_X9_spans_122 hG C x1 x2 x3 x4 k50 hk50 x5_97 x7 x8 x9 x10 h _ _ _ (lv_sub hl [1, 2, 3, 4, 5, 0, 7, 8, 9, 10] rfl) hP hS hf
      · replace hf := if_t c114 hf
        refine lv_iload hx hb dX9_spans_117 (lv_at hl 9 rfl) ?_
        refine lv_goto (tgt := 124) hx hb dX9_spans_119 (by decide) ?_
        exact w_X9_spans_124 hG C x1 x2 x3 x4 k50 hk50 x5_97 x8 x9 x10 x9 h _ _ _ (lv_sub hl [1, 2, 3, 4, 5, 0, 8, 9, 10] rfl) hP hS hf
def f_X9_spans_95 (x1 : Int32) (x2 : Int32) (x3 : Int32) (x4 : Int32) (k50 : Int32 → Int32 → Int32 → Int32 → Int32 → PH → Option (Int32 × PH)) (x6 : Int32) (x7 : Int32) (x8 : Int32) (x9 : Int32) (x10 : Int32) (t0 : Int32) (h : PH) : Option (Int32 × PH) := f_X9_spans_96 x1 x2 x3 x4 k50 x6 x7 x8 x9 x10 t0 0 h
set_option maxHeartbeats 4000000 in
set_option maxRecDepth 100000 in
theorem w_X9_spans_95 {l : Launch} {G : GC} (hG : GOK G) {rr : Int32} {hh : PH} {p : Program} {e : Env} {s : State} {m : MethodId} {args : Array Value} {below : List Frame} {meth : Method} {c : Code} (C : MC l G p s m args meth c RX9 cX9_spans 11 (some .int)) (x1 : Int32) (x2 : Int32) (x3 : Int32) (x4 : Int32) (k50 : Int32 → Int32 → Int32 → Int32 → Int32 → PH → Option (Int32 × PH)) (hk50 : ∀ (x5 : Int32) (x6 : Int32) (x7 : Int32) (x8 : Int32) (x9 : Int32) (h : PH) (H : Heap) (locs : List Loc) (ls : Array Slot), lv_has ls 11 [(0, .ref (gB G 66)), (1, .int x1), (2, .int x2), (3, .int x3), (4, .int x4), (5, .int x5), (6, .int x6), (7, .int x7), (8, .int x8), (9, .int x9)] → WP G h H → SP G s H locs → k50 x5 x6 x7 x8 x9 h = some (rr, hh) → W p l e rmX9_spans s m args below meth c H locs 0 0 (MQ below (QI G rr hh) args s 0 0 (gA G)) (F0 m 50 ls [])) : ∀ (x6 : Int32) (x7 : Int32) (x8 : Int32) (x9 : Int32) (x10 : Int32) (t0 : Int32) (h : PH) (H : Heap) (locs : List Loc) (ls : Array Slot), lv_has ls 11 [(0, .ref (gB G 66)), (1, .int x1), (2, .int x2), (3, .int x3), (4, .int x4), (6, .int x6), (7, .int x7), (8, .int x8), (9, .int x9), (10, .int x10)] → WP G h H → SP G s H locs → f_X9_spans_95 x1 x2 x3 x4 k50 x6 x7 x8 x9 x10 t0 h = some (rr, hh) → W p l e rmX9_spans s m args below meth c H locs 0 0 (MQ below (QI G rr hh) args s 0 0 (gA G)) (F0 m 95 ls [.int t0]) := by
  obtain ⟨hx, hb, hr, hlocks, hml, hown, hts, hK⟩ := id C
  intro x6 x7 x8 x9 x10 t0 h H locs ls hl hP hS hf
  rw [f_X9_spans_95] at hf
  refine lv_iconst (v := 0) hx hb dX9_spans_95 (by decide) ?_
  exact w_X9_spans_96 hG C x1 x2 x3 x4 k50 hk50 x6 x7 x8 x9 x10 t0 0 h _ _ _ (lv_sub hl [0, 1, 2, 3, 4, 5, 6, 7, 8, 9] rfl) hP hS hf
def f_X9_spans_50 (x1 : Int32) (x2 : Int32) (x3 : Int32) (x4 : Int32) : Nat → Int32 → Int32 → Int32 → Int32 → Int32 → PH → Option (Int32 × PH)
  | 0, _, _, _, _, _, _ => none
  | n + 1, x5, x6, x7, x8, x9, h => if (h.1 66 13) ≤ x9 then (if x3 = (-1) then (some (x5, h)) else (if x4 = 0 then (some (x7, h)) else (some (x8, h)))) else (bO (ag h 77 20 x9) (fun v65 => if v65 = x2 then (bP (f_X9_isFree x9 x1 h) (fun r74 h74 => if r74 = 0 then (if x6 = 0 then (f_X9_spans_96 x1 x2 x3 x4 (f_X9_spans_50 x1 x2 x3 x4 n) x6 x7 x8 x9 r74 x5 1 h74) else (f_X9_spans_95 x1 x2 x3 x4 (f_X9_spans_50 x1 x2 x3 x4 n) x6 x7 x8 x9 r74 x5 h74)) else (f_X9_spans_95 x1 x2 x3 x4 (f_X9_spans_50 x1 x2 x3 x4 n) x6 x7 x8 x9 r74 x5 h74))) else ((f_X9_spans_50 x1 x2 x3 x4 n) x5 x6 x7 x8 (x9 + 1) h)))
set_option maxHeartbeats 4000000 in
set_option maxRecDepth 100000 in
theorem w_X9_spans_50 {l : Launch} {G : GC} (hG : GOK G) {rr : Int32} {hh : PH} {p : Program} {e : Env} {s : State} {m : MethodId} {args : Array Value} {below : List Frame} {meth : Method} {c : Code} (C : MC l G p s m args meth c RX9 cX9_spans 11 (some .int)) (x1 : Int32) (x2 : Int32) (x3 : Int32) (x4 : Int32) : ∀ (n : Nat) (x5 : Int32) (x6 : Int32) (x7 : Int32) (x8 : Int32) (x9 : Int32) (h : PH) (H : Heap) (locs : List Loc) (ls : Array Slot), lv_has ls 11 [(0, .ref (gB G 66)), (1, .int x1), (2, .int x2), (3, .int x3), (4, .int x4), (5, .int x5), (6, .int x6), (7, .int x7), (8, .int x8), (9, .int x9)] → WP G h H → SP G s H locs → f_X9_spans_50 x1 x2 x3 x4 n x5 x6 x7 x8 x9 h = some (rr, hh) → W p l e rmX9_spans s m args below meth c H locs 0 0 (MQ below (QI G rr hh) args s 0 0 (gA G)) (F0 m 50 ls []) := by
  obtain ⟨hx, hb, hr, hlocks, hml, hown, hts, hK⟩ := id C
  intro n
  induction n with
  | zero => intro x5 x6 x7 x8 x9 h H locs ls hl hP hS hf; rw [f_X9_spans_50] at hf; cases hf
  | succ n ih =>
    intro x5 x6 x7 x8 x9 h H locs ls hl hP hS hf
    rw [f_X9_spans_50] at hf
    refine lv_iload hx hb dX9_spans_50 (lv_at hl 9 rfl) ?_
    refine lv_aload_n hx hb dX9_spans_52 rfl (lv_at hl 0 rfl) ?_
    refine r_get (a := 66) (v := .int (h.1 66 13)) (C := RX9) (T := TX9) (N := 55) hx hb hts hinX9 hown hK hP (ltX9 rfl) (ceX9 rfl) rfl 13 (by decide) wd1048 rfl dX9_spans_53 ?_
    refine lv_icmp_ge (tgt := 166) hx hb dX9_spans_56 (by decide) (fun c56 => ?_) (fun c56 => ?_)
    · replace hf := if_t c56 hf
      refine lv_iload_n hx hb dX9_spans_166 rfl (lv_at hl 3 rfl) ?_
      refine lv_iconst (v := (-1)) hx hb dX9_spans_167 (by decide) ?_
      refine lv_icmp_ne (tgt := 176) hx hb dX9_spans_168 (by decide) (fun c168 => ?_) (fun c168 => ?_)
      · replace hf := if_f c168 hf
        refine lv_iload hx hb dX9_spans_176 (lv_at hl 4 rfl) ?_
        refine lv_if_ne (tgt := 186) hx hb dX9_spans_178 (by decide) (fun c178 => ?_) (fun c178 => ?_)
        · replace hf := if_f c178 hf
          refine lv_iload hx hb dX9_spans_186 (lv_at hl 8 rfl) ?_
          exact r_iret hx hb hr hlocks hP hS (re2 (Option.some.inj hf)) dX9_spans_188
        · replace hf := if_t c178 hf
          refine lv_iload hx hb dX9_spans_181 (lv_at hl 7 rfl) ?_
          refine lv_goto (tgt := 188) hx hb dX9_spans_183 (by decide) ?_
          exact r_iret hx hb hr hlocks hP hS (re2 (Option.some.inj hf)) dX9_spans_188
      · replace hf := if_t c168 hf
        refine lv_iload hx hb dX9_spans_171 (lv_at hl 5 rfl) ?_
        refine lv_goto (tgt := 188) hx hb dX9_spans_173 (by decide) ?_
        exact r_iret hx hb hr hlocks hP hS (re2 (Option.some.inj hf)) dX9_spans_188
    · replace hf := if_f c56 hf
      refine lv_aload_n hx hb dX9_spans_59 rfl (lv_at hl 0 rfl) ?_
      refine r_get (a := 66) (v := .ref (gB G 77)) (C := RX9) (T := TX9) (N := 55) hx hb hts hinX9 hown hK hP (ltX9 rfl) (ceX9 rfl) rfl 14 (by decide) wd1049 rfl dX9_spans_60 ?_
      refine lv_iload hx hb dX9_spans_63 (lv_at hl 9 rfl) ?_
      obtain ⟨v65, ev65, hf⟩ := bO_s hf
      refine r_iald hx hb hK hP (arX9_14 rfl) ev65 dX9_spans_65 ?_
      refine lv_iload_n hx hb dX9_spans_66 rfl (lv_at hl 2 rfl) ?_
      refine lv_icmp_ne (tgt := 160) hx hb dX9_spans_67 (by decide) (fun c67 => ?_) (fun c67 => ?_)
      · replace hf := if_f c67 hf
        refine lv_iinc (v := (x9 + 1)) (lv' := [(9, .int (x9 + 1)), (0, .ref (gB G 66)), (1, .int x1), (2, .int x2), (3, .int x3), (4, .int x4), (5, .int x5), (6, .int x6), (7, .int x7), (8, .int x8)]) hx hb dX9_spans_160 hl (k := 9) rfl rfl (by decide) rfl (fun ls hl => ?_)
        refine lv_goto (tgt := 50) hx hb dX9_spans_163 (by decide) ?_
        exact ih x5 x6 x7 x8 (x9 + 1) h _ _ _ (lv_sub hl [1, 2, 3, 4, 5, 6, 7, 8, 9, 0] rfl) hP hS hf
      · replace hf := if_t c67 hf
        refine lv_aload_n hx hb dX9_spans_70 rfl (lv_at hl 0 rfl) ?_
        refine lv_iload hx hb dX9_spans_71 (lv_at hl 9 rfl) ?_
        refine lv_iload_n hx hb dX9_spans_73 rfl (lv_at hl 1 rfl) ?_
        obtain ⟨r74, h74, er74, hf⟩ := bP_s hf
        refine r_callI (va_runV (As := [.int x9, .int x1]) (rest := []) ⟨hx, hb, hml, hown, hts⟩ (k_X9_isFree l hG er74) (cwV 2 hts (gV wd1473 wd1475 wd61 wd82 wd1476) rfl rfl rfl (by decide +kernel) ⟨Nat.le_of_ble_eq_true rfl, Nat.le_of_ble_eq_true rfl⟩) (r_pv hK hP hS (ltX9 rfl) (ceX9 rfl) rfl) rfl rfl hl.1 rfl (lv_room (Nat.le_of_ble_eq_true rfl)) dX9_spans_74 ⟨Nat.le_of_ble_eq_true rfl, Nat.le_of_ble_eq_true rfl⟩) hS (fun H locs hP hS => ?_)
        refine lv_istore (lv' := [(10, .int r74), (0, .ref (gB G 66)), (1, .int x1), (2, .int x2), (3, .int x3), (4, .int x4), (5, .int x5), (6, .int x6), (7, .int x7), (8, .int x8), (9, .int x9)]) hx hb dX9_spans_77 hl (by decide) rfl (fun ls hl => ?_)
        refine lv_iload hx hb dX9_spans_79 (lv_at hl 6 rfl) ?_
        refine lv_iload hx hb dX9_spans_81 (lv_at hl 0 rfl) ?_
        refine lv_if_ne (tgt := 95) hx hb dX9_spans_83 (by decide) (fun c83 => ?_) (fun c83 => ?_)
        · replace hf := if_f c83 hf
          exact w_X9_spans_95 hG C x1 x2 x3 x4 (f_X9_spans_50 x1 x2 x3 x4 n) ih x6 x7 x8 x9 r74 x5 h74 _ _ _ (lv_sub hl [1, 2, 3, 4, 5, 7, 8, 9, 10, 0] rfl) hP hS hf
        · replace hf := if_t c83 hf
          refine lv_iload hx hb dX9_spans_86 (lv_at hl 7 rfl) ?_
          refine lv_if_ne (tgt := 95) hx hb dX9_spans_88 (by decide) (fun c88 => ?_) (fun c88 => ?_)
          · replace hf := if_f c88 hf
            exact w_X9_spans_95 hG C x1 x2 x3 x4 (f_X9_spans_50 x1 x2 x3 x4 n) ih x6 x7 x8 x9 r74 x5 h74 _ _ _ (lv_sub hl [1, 2, 3, 4, 5, 7, 8, 9, 10, 0] rfl) hP hS hf
          · replace hf := if_t c88 hf
            refine lv_iconst (v := 1) hx hb dX9_spans_91 (by decide) ?_
            refine lv_goto (tgt := 96) hx hb dX9_spans_92 (by decide) ?_
            exact w_X9_spans_96 hG C x1 x2 x3 x4 (f_X9_spans_50 x1 x2 x3 x4 n) ih x6 x7 x8 x9 r74 x5 1 h74 _ _ _ (lv_sub hl [1, 2, 3, 4, 5, 7, 8, 9, 10, 0] rfl) hP hS hf
def f_X9_spans (x1 : Int32) (x2 : Int32) (x3 : Int32) (x4 : Int32) (h : PH) : Option (Int32 × PH) := bP (f_X9_isFault x1 h) (fun r2 h2 => if r2 = 0 then (some ((-1001), h2)) else (bP (f_X9_isLine x2 h2) (fun r10 h10 => if r10 = 0 then (some ((-1001), h10)) else (bO (f_X9_in (x4 : Int32).toInt64 0 1) (fun r25 => if r25 = 0 then (some ((-1002), h10)) else (f_X9_spans_50 x1 x2 x3 x4 FU 0 0 (-1) (-1) 0 h10))))))
set_option maxHeartbeats 4000000 in
set_option maxRecDepth 100000 in
theorem k_X9_spans (l : Launch) {G : GC} (hG : GOK G) {x1 : Int32} {x2 : Int32} {x3 : Int32} {x4 : Int32} {rr : Int32} {h hh : PH} (hf : f_X9_spans x1 x2 x3 x4 h = some (rr, hh)) : CI l yX9_spans vX9_spans rmX9_spans G [.ref (gB G 66), .int x1, .int x2, .int x3, .int x4] h rr hh := by
  refine Met.ofW (cc := cX9_spans) (maxL := 11) (ret := (some .int)) (by decide +kernel) rfl ?_
  intro p e s m args below meth c s₁ B hml hv
  obtain ⟨rfl, hP, hK⟩ := hv
  have C : MC l G p s m _ meth c RX9 cX9_spans 11 (some .int) := ⟨B.exec, B.bytes, B.returns, B.notSynchronized, hml, findClass_of_methodNamed B.named, fun w hw => atoms_spec (ws := vX9_spans) B.pre w (List.mem_cons_of_mem _ hw), hK⟩
  obtain ⟨hx, hb, hr, hlocks, -, hown, hts, -⟩ := id C
  have hl := lv_entry ([.ref (gB G 66), .int x1, .int x2, .int x3, .int x4]) (n := 11) (Nat.le_of_ble_eq_true rfl)
  rw [lg_entry_eq]
  generalize (lg_sl ([.ref (gB G 66), .int x1, .int x2, .int x3, .int x4]) ++ List.replicate (11 - (lg_sl ([.ref (gB G 66), .int x1, .int x2, .int x3, .int x4])).length) Slot.unset).toArray = ls at hl ⊢
  have hl : lv_has ls 11 [(0, .ref (gB G 66)), (1, .int x1), (2, .int x2), (3, .int x3), (4, .int x4)] := hl
  have hS : SP G s s.heap [] := va_S.rf
  replace hP : WP G h s.heap := hP
  rw [f_X9_spans] at hf
  refine lv_aload_n hx hb dX9_spans_0 rfl (lv_at hl 0 rfl) ?_
  refine lv_iload_n hx hb dX9_spans_1 rfl (lv_at hl 1 rfl) ?_
  obtain ⟨r2, h2, er2, hf⟩ := bP_s hf
  refine r_callI (va_runV (As := [.int x1]) (rest := []) ⟨hx, hb, hml, hown, hts⟩ (k_X9_isFault l hG er2) (cwV 1 hts (gV wd1331 wd1333 wd46 wd82 wd1334) rfl rfl rfl (by decide +kernel) ⟨Nat.le_of_ble_eq_true rfl, Nat.le_of_ble_eq_true rfl⟩) (r_pv hK hP hS (ltX9 rfl) (ceX9 rfl) rfl) rfl rfl hl.1 rfl (lv_room (Nat.le_of_ble_eq_true rfl)) dX9_spans_2 ⟨Nat.le_of_ble_eq_true rfl, Nat.le_of_ble_eq_true rfl⟩) hS (fun H locs hP hS => ?_)
  refine lv_if_eq (tgt := 16) hx hb dX9_spans_5 (by decide) (fun c5 => ?_) (fun c5 => ?_)
  · replace hf := if_t c5 hf
    refine lv_sipush (v := (-1001)) hx hb dX9_spans_16 (by decide) ?_
    exact r_iret hx hb hr hlocks hP hS (re2 (Option.some.inj hf)) dX9_spans_19
  · replace hf := if_f c5 hf
    refine lv_aload_n hx hb dX9_spans_8 rfl (lv_at hl 0 rfl) ?_
    refine lv_iload_n hx hb dX9_spans_9 rfl (lv_at hl 2 rfl) ?_
    obtain ⟨r10, h10, er10, hf⟩ := bP_s hf
    refine r_callI (va_runV (As := [.int x2]) (rest := []) ⟨hx, hb, hml, hown, hts⟩ (k_X9_isLine l hG er10) (cwV 1 hts (gV wd1347 wd1349 wd47 wd82 wd1350) rfl rfl rfl (by decide +kernel) ⟨Nat.le_of_ble_eq_true rfl, Nat.le_of_ble_eq_true rfl⟩) (r_pv hK hP hS (ltX9 rfl) (ceX9 rfl) rfl) rfl rfl hl.1 rfl (lv_room (Nat.le_of_ble_eq_true rfl)) dX9_spans_10 ⟨Nat.le_of_ble_eq_true rfl, Nat.le_of_ble_eq_true rfl⟩) hS (fun H locs hP hS => ?_)
    refine lv_if_ne (tgt := 20) hx hb dX9_spans_13 (by decide) (fun c13 => ?_) (fun c13 => ?_)
    · replace hf := if_f c13 hf
      refine lv_iload hx hb dX9_spans_20 (lv_at hl 4 rfl) ?_
      refine lv_i2l hx hb dX9_spans_22 rfl ?_
      refine lv_lconst (v := 0) hx hb dX9_spans_23 (by decide) ?_
      refine lv_lconst (v := 1) hx hb dX9_spans_24 (by decide) ?_
      obtain ⟨r25, er25, hf⟩ := bO_s hf
      refine r_callI (va_runS (As := [.long (x4 : Int32).toInt64, .long 0, .long 1]) (rest := []) ⟨hx, hb, hml, hown, hts⟩ (k_X9_in l hG (h := h10) er25) (va_cwS 3 hts (gS wd1206 wd1207 wd82 wd1208) rfl rfl rfl (by decide +kernel) ⟨Nat.le_of_ble_eq_true rfl, Nat.le_of_ble_eq_true rfl⟩) (r_ps hK hP hS) rfl rfl hl.1 rfl (lv_room (Nat.le_of_ble_eq_true rfl)) dX9_spans_25 ⟨Nat.le_of_ble_eq_true rfl, Nat.le_of_ble_eq_true rfl⟩) hS (fun H locs hP hS => ?_)
      refine lv_if_ne (tgt := 35) hx hb dX9_spans_28 (by decide) (fun c28 => ?_) (fun c28 => ?_)
      · replace hf := if_f c28 hf
        refine lv_iconst (v := 0) hx hb dX9_spans_35 (by decide) ?_
        refine lv_istore (lv' := [(5, .int 0), (0, .ref (gB G 66)), (1, .int x1), (2, .int x2), (3, .int x3), (4, .int x4)]) hx hb dX9_spans_36 hl (by decide) rfl (fun ls hl => ?_)
        refine lv_iconst (v := 0) hx hb dX9_spans_38 (by decide) ?_
        refine lv_istore (lv' := [(6, .int 0), (5, .int 0), (0, .ref (gB G 66)), (1, .int x1), (2, .int x2), (3, .int x3), (4, .int x4)]) hx hb dX9_spans_39 hl (by decide) rfl (fun ls hl => ?_)
        refine lv_iconst (v := (-1)) hx hb dX9_spans_41 (by decide) ?_
        refine lv_istore (lv' := [(7, .int (-1)), (6, .int 0), (5, .int 0), (0, .ref (gB G 66)), (1, .int x1), (2, .int x2), (3, .int x3), (4, .int x4)]) hx hb dX9_spans_42 hl (by decide) rfl (fun ls hl => ?_)
        refine lv_iconst (v := (-1)) hx hb dX9_spans_44 (by decide) ?_
        refine lv_istore (lv' := [(8, .int (-1)), (7, .int (-1)), (6, .int 0), (5, .int 0), (0, .ref (gB G 66)), (1, .int x1), (2, .int x2), (3, .int x3), (4, .int x4)]) hx hb dX9_spans_45 hl (by decide) rfl (fun ls hl => ?_)
        refine lv_iconst (v := 0) hx hb dX9_spans_47 (by decide) ?_
        refine lv_istore (lv' := [(9, .int 0), (8, .int (-1)), (7, .int (-1)), (6, .int 0), (5, .int 0), (0, .ref (gB G 66)), (1, .int x1), (2, .int x2), (3, .int x3), (4, .int x4)]) hx hb dX9_spans_48 hl (by decide) rfl (fun ls hl => ?_)
        exact w_X9_spans_50 hG C x1 x2 x3 x4 FU 0 0 (-1) (-1) 0 h10 _ _ _ (lv_sub hl [5, 6, 7, 8, 9, 4, 3, 2, 1, 0] rfl) hP hS hf
      · replace hf := if_t c28 hf
        refine lv_sipush (v := (-1002)) hx hb dX9_spans_31 (by decide) ?_
        exact r_iret hx hb hr hlocks hP hS (re2 (Option.some.inj hf)) dX9_spans_34
    · replace hf := if_t c13 hf
      refine lv_sipush (v := (-1001)) hx hb dX9_spans_16 (by decide) ?_
      exact r_iret hx hb hr hlocks hP hS (re2 (Option.some.inj hf)) dX9_spans_19
/-! CarriedBackModel.takeFreeze()I -/
abbrev rmX9_takeFreeze : Room := { frames := 2, cells := 0, slots := 0, locals := 48 }
abbrev vX9_takeFreeze : List Cond := Cond.code yX9_takeFreeze cX9_takeFreeze 3 (some .int) :: GW
def f_X9_takeFreeze_57 (x2 : Int32) (t0 : Int32) (h : PH) : Option (Int32 × PH) := bO (asg h 94 8 (h.1 66 47) x2) (fun h67 => bO (asg h67 95 8 (h67.1 66 47) (h67.1 66 25)) (fun h80 => lt' (hU h80 66 47 ((h80.1 66 47) + 1)) (fun h88 => some (t0, h88))))
set_option maxHeartbeats 4000000 in
set_option maxRecDepth 100000 in
theorem w_X9_takeFreeze_57 {l : Launch} {G : GC} (hG : GOK G) {rr : Int32} {hh : PH} {p : Program} {e : Env} {s : State} {m : MethodId} {args : Array Value} {below : List Frame} {meth : Method} {c : Code} (C : MC l G p s m args meth c RX9 cX9_takeFreeze 3 (some .int)) : ∀ (x2 : Int32) (t0 : Int32) (h : PH) (H : Heap) (locs : List Loc) (ls : Array Slot), lv_has ls 3 [(0, .ref (gB G 66)), (2, .int x2)] → WP G h H → SP G s H locs → f_X9_takeFreeze_57 x2 t0 h = some (rr, hh) → W p l e rmX9_takeFreeze s m args below meth c H locs 0 0 (MQ below (QI G rr hh) args s 0 0 (gA G)) (F0 m 57 ls [.int t0]) := by
  obtain ⟨hx, hb, hr, hlocks, hml, hown, hts, hK⟩ := id C
  intro x2 t0 h H locs ls hl hP hS hf
  rw [f_X9_takeFreeze_57] at hf
  refine lv_istore_n (lv' := [(1, .int t0), (0, .ref (gB G 66)), (2, .int x2)]) hx hb dX9_takeFreeze_57 rfl hl (by decide) rfl (fun ls hl => ?_)
  refine lv_aload_n hx hb dX9_takeFreeze_58 rfl (lv_at hl 1 rfl) ?_
  refine r_get (a := 66) (v := .ref (gB G 94)) (C := RX9) (T := TX9) (N := 55) hx hb hts hinX9 hown hK hP (ltX9 rfl) (ceX9 rfl) rfl 48 (by decide) wd1083 rfl dX9_takeFreeze_59 ?_
  refine lv_aload_n hx hb dX9_takeFreeze_62 rfl (lv_at hl 1 rfl) ?_
  refine r_get (a := 66) (v := .int (h.1 66 47)) (C := RX9) (T := TX9) (N := 55) hx hb hts hinX9 hown hK hP (ltX9 rfl) (ceX9 rfl) rfl 47 (by decide) wd1082 rfl dX9_takeFreeze_63 ?_
  refine lv_iload_n hx hb dX9_takeFreeze_66 rfl (lv_at hl 2 rfl) ?_
  obtain ⟨h67, eh67, hf⟩ := bO_s hf
  refine r_iast hG hx hb hK hP hS (arX9_48 rfl) eh67 dX9_takeFreeze_67 (fun H locs hP hS => ?_)
  refine lv_aload_n hx hb dX9_takeFreeze_68 rfl (lv_at hl 1 rfl) ?_
  refine r_get (a := 66) (v := .ref (gB G 95)) (C := RX9) (T := TX9) (N := 55) hx hb hts hinX9 hown hK hP (ltX9 rfl) (ceX9 rfl) rfl 49 (by decide) wd1084 rfl dX9_takeFreeze_69 ?_
  refine lv_aload_n hx hb dX9_takeFreeze_72 rfl (lv_at hl 1 rfl) ?_
  refine r_get (a := 66) (v := .int (h67.1 66 47)) (C := RX9) (T := TX9) (N := 55) hx hb hts hinX9 hown hK hP (ltX9 rfl) (ceX9 rfl) rfl 47 (by decide) wd1082 rfl dX9_takeFreeze_73 ?_
  refine lv_aload_n hx hb dX9_takeFreeze_76 rfl (lv_at hl 1 rfl) ?_
  refine r_get (a := 66) (v := .int (h67.1 66 25)) (C := RX9) (T := TX9) (N := 55) hx hb hts hinX9 hown hK hP (ltX9 rfl) (ceX9 rfl) rfl 25 (by decide) wd1060 rfl dX9_takeFreeze_77 ?_
  obtain ⟨h80, eh80, hf⟩ := bO_s hf
  refine r_iast hG hx hb hK hP hS (arX9_49 rfl) eh80 dX9_takeFreeze_80 (fun H locs hP hS => ?_)
  refine lv_aload_n hx hb dX9_takeFreeze_81 rfl (lv_at hl 1 rfl) ?_
  refine lv_dup hx hb dX9_takeFreeze_82 rfl ?_
  refine r_get (a := 66) (v := .int (h80.1 66 47)) (C := RX9) (T := TX9) (N := 55) hx hb hts hinX9 hown hK hP (ltX9 rfl) (ceX9 rfl) rfl 47 (by decide) wd1082 rfl dX9_takeFreeze_83 ?_
  refine lv_iconst (v := 1) hx hb dX9_takeFreeze_86 (by decide) ?_
  refine lv_iadd hx hb dX9_takeFreeze_87 ?_
  obtain ⟨h88, eh88⟩ : ∃ y, y = hU h80 66 47 ((h80.1 66 47) + 1) := ⟨_, rfl⟩
  replace hf := lt_at eh88 hf
  refine r_put (a := 66) (v := .int ((h80.1 66 47) + 1)) (ty := .int) (h' := h88) (C := RX9) (T := TX9) (N := 55) hG hx hb hts hinX9 tyX9 tyX9_ok nmX9 hown hK hP hS (ltX9 rfl) (ceX9 rfl) rfl 47 (by decide) wd1082 rfl (by decide +kernel) rfl rfl (Nat.le_of_ble_eq_true rfl) (by rw [eh88]; exact fun j hj => cE_U hj) (by rw [eh88]; exact puX9_47 rfl _) dX9_takeFreeze_88 (fun H locs hP hS => ?_)
  refine lv_iload_n hx hb dX9_takeFreeze_91 rfl (lv_at hl 0 rfl) ?_
  exact r_iret hx hb hr hlocks hP hS (re2 (Option.some.inj hf)) dX9_takeFreeze_92
def f_X9_takeFreeze (h : PH) : Option (Int32 × PH) := if (h.1 66 47) = 8 then (bP (f_X9_breaks 3 (h.1 66 21) h) (fun r15 h15 => some (r15, h15))) else (lt' (hU h 66 21 (h.1 66 24)) (fun h24 => bP (f_X9_takeNumber 0 999 h24) (fun r32 h32 => lt' ((h32.1 66 25)) (fun x2_40 => if r32 ≤ 0 then (bP (f_X9_takeNumber x2_40 999 h32) (fun r54 h54 => f_X9_takeFreeze_57 x2_40 r54 h54)) else (f_X9_takeFreeze_57 x2_40 r32 h32)))))
set_option maxHeartbeats 4000000 in
set_option maxRecDepth 100000 in
theorem k_X9_takeFreeze (l : Launch) {G : GC} (hG : GOK G) {rr : Int32} {h hh : PH} (hf : f_X9_takeFreeze h = some (rr, hh)) : CI l yX9_takeFreeze vX9_takeFreeze rmX9_takeFreeze G [.ref (gB G 66)] h rr hh := by
  refine Met.ofW (cc := cX9_takeFreeze) (maxL := 3) (ret := (some .int)) (by decide +kernel) rfl ?_
  intro p e s m args below meth c s₁ B hml hv
  obtain ⟨rfl, hP, hK⟩ := hv
  have C : MC l G p s m _ meth c RX9 cX9_takeFreeze 3 (some .int) := ⟨B.exec, B.bytes, B.returns, B.notSynchronized, hml, findClass_of_methodNamed B.named, fun w hw => atoms_spec (ws := vX9_takeFreeze) B.pre w (List.mem_cons_of_mem _ hw), hK⟩
  obtain ⟨hx, hb, hr, hlocks, -, hown, hts, -⟩ := id C
  have hl := lv_entry ([.ref (gB G 66)]) (n := 3) (Nat.le_of_ble_eq_true rfl)
  rw [lg_entry_eq]
  generalize (lg_sl ([.ref (gB G 66)]) ++ List.replicate (3 - (lg_sl ([.ref (gB G 66)])).length) Slot.unset).toArray = ls at hl ⊢
  have hl : lv_has ls 3 [(0, .ref (gB G 66))] := hl
  have hS : SP G s s.heap [] := va_S.rf
  replace hP : WP G h s.heap := hP
  rw [f_X9_takeFreeze] at hf
  refine lv_aload_n hx hb dX9_takeFreeze_0 rfl (lv_at hl 0 rfl) ?_
  refine r_get (a := 66) (v := .int (h.1 66 47)) (C := RX9) (T := TX9) (N := 55) hx hb hts hinX9 hown hK hP (ltX9 rfl) (ceX9 rfl) rfl 47 (by decide) wd1082 rfl dX9_takeFreeze_1 ?_
  refine lv_bipush (v := 8) hx hb dX9_takeFreeze_4 (by decide) ?_
  refine lv_icmp_ne (tgt := 19) hx hb dX9_takeFreeze_6 (by decide) (fun c6 => ?_) (fun c6 => ?_)
  · replace hf := if_f c6 hf
    refine lv_aload_n hx hb dX9_takeFreeze_19 rfl (lv_at hl 0 rfl) ?_
    refine lv_aload_n hx hb dX9_takeFreeze_20 rfl (lv_at hl 0 rfl) ?_
    refine r_get (a := 66) (v := .int (h.1 66 24)) (C := RX9) (T := TX9) (N := 55) hx hb hts hinX9 hown hK hP (ltX9 rfl) (ceX9 rfl) rfl 24 (by decide) wd1059 rfl dX9_takeFreeze_21 ?_
    obtain ⟨h24, eh24⟩ : ∃ y, y = hU h 66 21 (h.1 66 24) := ⟨_, rfl⟩
    replace hf := lt_at eh24 hf
    refine r_put (a := 66) (v := .int (h.1 66 24)) (ty := .int) (h' := h24) (C := RX9) (T := TX9) (N := 55) hG hx hb hts hinX9 tyX9 tyX9_ok nmX9 hown hK hP hS (ltX9 rfl) (ceX9 rfl) rfl 21 (by decide) wd1056 rfl (by decide +kernel) rfl rfl (Nat.le_of_ble_eq_true rfl) (by rw [eh24]; exact fun j hj => cE_U hj) (by rw [eh24]; exact puX9_21 rfl _) dX9_takeFreeze_24 (fun H locs hP hS => ?_)
    refine lv_aload_n hx hb dX9_takeFreeze_27 rfl (lv_at hl 0 rfl) ?_
    refine lv_iconst (v := 0) hx hb dX9_takeFreeze_28 (by decide) ?_
    refine lv_sipush (v := 999) hx hb dX9_takeFreeze_29 (by decide) ?_
    obtain ⟨r32, h32, er32, hf⟩ := bP_s hf
    refine r_callI (va_runV (As := [.int 0, .int 999]) (rest := []) ⟨hx, hb, hml, hown, hts⟩ (k_X9_takeNumber l hG er32) (cwV 2 hts (gV wd1254 wd1256 wd34 wd82 wd1257) rfl rfl rfl (by decide +kernel) ⟨Nat.le_of_ble_eq_true rfl, Nat.le_of_ble_eq_true rfl⟩) (r_pv hK hP hS (ltX9 rfl) (ceX9 rfl) rfl) rfl rfl hl.1 rfl (lv_room (Nat.le_of_ble_eq_true rfl)) dX9_takeFreeze_32 ⟨Nat.le_of_ble_eq_true rfl, Nat.le_of_ble_eq_true rfl⟩) hS (fun H locs hP hS => ?_)
    refine lv_istore_n (lv' := [(1, .int r32), (0, .ref (gB G 66))]) hx hb dX9_takeFreeze_35 rfl hl (by decide) rfl (fun ls hl => ?_)
    refine lv_aload_n hx hb dX9_takeFreeze_36 rfl (lv_at hl 1 rfl) ?_
    refine r_get (a := 66) (v := .int (h32.1 66 25)) (C := RX9) (T := TX9) (N := 55) hx hb hts hinX9 hown hK hP (ltX9 rfl) (ceX9 rfl) rfl 25 (by decide) wd1060 rfl dX9_takeFreeze_37 ?_
    refine lv_topi (fun x2_40 ex2_40 => ?_)
    replace hf := lt_at ex2_40 hf
    refine lv_istore_n (lv' := [(2, .int x2_40), (1, .int r32), (0, .ref (gB G 66))]) hx hb dX9_takeFreeze_40 rfl hl (by decide) rfl (fun ls hl => ?_)
    refine lv_iload_n hx hb dX9_takeFreeze_41 rfl (lv_at hl 1 rfl) ?_
    refine lv_if_le (tgt := 49) hx hb dX9_takeFreeze_42 (by decide) (fun c42 => ?_) (fun c42 => ?_)
    · replace hf := if_t c42 hf
      refine lv_aload_n hx hb dX9_takeFreeze_49 rfl (lv_at hl 2 rfl) ?_
      refine lv_iload_n hx hb dX9_takeFreeze_50 rfl (lv_at hl 0 rfl) ?_
      refine lv_sipush (v := 999) hx hb dX9_takeFreeze_51 (by decide) ?_
      obtain ⟨r54, h54, er54, hf⟩ := bP_s hf
      refine r_callI (va_runV (As := [.int x2_40, .int 999]) (rest := []) ⟨hx, hb, hml, hown, hts⟩ (k_X9_takeNumber l hG er54) (cwV 2 hts (gV wd1254 wd1256 wd34 wd82 wd1257) rfl rfl rfl (by decide +kernel) ⟨Nat.le_of_ble_eq_true rfl, Nat.le_of_ble_eq_true rfl⟩) (r_pv hK hP hS (ltX9 rfl) (ceX9 rfl) rfl) rfl rfl hl.1 rfl (lv_room (Nat.le_of_ble_eq_true rfl)) dX9_takeFreeze_54 ⟨Nat.le_of_ble_eq_true rfl, Nat.le_of_ble_eq_true rfl⟩) hS (fun H locs hP hS => ?_)
      exact w_X9_takeFreeze_57 hG C x2_40 r54 h54 _ _ _ (lv_sub hl [2, 0] rfl) hP hS hf
    · replace hf := if_f c42 hf
      refine lv_iload_n hx hb dX9_takeFreeze_45 rfl (lv_at hl 1 rfl) ?_
      refine lv_goto (tgt := 57) hx hb dX9_takeFreeze_46 (by decide) ?_
      exact w_X9_takeFreeze_57 hG C x2_40 r32 h32 _ _ _ (lv_sub hl [2, 0] rfl) hP hS hf
  · replace hf := if_t c6 hf
    refine lv_aload_n hx hb dX9_takeFreeze_9 rfl (lv_at hl 0 rfl) ?_
    refine lv_iconst (v := 3) hx hb dX9_takeFreeze_10 (by decide) ?_
    refine lv_aload_n hx hb dX9_takeFreeze_11 rfl (lv_at hl 0 rfl) ?_
    refine r_get (a := 66) (v := .int (h.1 66 21)) (C := RX9) (T := TX9) (N := 55) hx hb hts hinX9 hown hK hP (ltX9 rfl) (ceX9 rfl) rfl 21 (by decide) wd1056 rfl dX9_takeFreeze_12 ?_
    obtain ⟨r15, h15, er15, hf⟩ := bP_s hf
    refine r_callI (va_runV (As := [.int 3, .int (h.1 66 21)]) (rest := []) ⟨hx, hb, hml, hown, hts⟩ (k_X9_breaks l hG er15) (cwV 2 hts (gV wd1238 wd1240 wd30 wd82 wd1241) rfl rfl rfl (by decide +kernel) ⟨Nat.le_of_ble_eq_true rfl, Nat.le_of_ble_eq_true rfl⟩) (r_pv hK hP hS (ltX9 rfl) (ceX9 rfl) rfl) rfl rfl hl.1 rfl (lv_room (Nat.le_of_ble_eq_true rfl)) dX9_takeFreeze_15 ⟨Nat.le_of_ble_eq_true rfl, Nat.le_of_ble_eq_true rfl⟩) hS (fun H locs hP hS => ?_)
    exact r_iret hx hb hr hlocks hP hS (re2 (Option.some.inj hf)) dX9_takeFreeze_18
/-! CarriedBackModel.takeOnly()I -/
abbrev rmX9_takeOnly : Room := { frames := 2, cells := 0, slots := 0, locals := 48 }
abbrev vX9_takeOnly : List Cond := Cond.code yX9_takeOnly cX9_takeOnly 3 (some .int) :: GW
def f_X9_takeOnly_49 (k7 : Int32 → PH → Option (Int32 × PH)) (t0 : Int32) (h : PH) : Option (Int32 × PH) := if t0 ≤ 0 then (lt' (hU h 66 35 ((h.1 66 35) ||| (1 <<< ((h.1 66 25) &&& 31)))) (fun h68 => bP (f_X9_isComma h68) (fun r72 h72 => k7 r72 h72))) else (some (t0, h))
set_option maxHeartbeats 4000000 in
set_option maxRecDepth 100000 in
theorem w_X9_takeOnly_49 {l : Launch} {G : GC} (hG : GOK G) {rr : Int32} {hh : PH} {p : Program} {e : Env} {s : State} {m : MethodId} {args : Array Value} {below : List Frame} {meth : Method} {c : Code} (C : MC l G p s m args meth c RX9 cX9_takeOnly 3 (some .int)) (k7 : Int32 → PH → Option (Int32 × PH)) (hk7 : ∀ (x1 : Int32) (h : PH) (H : Heap) (locs : List Loc) (ls : Array Slot), lv_has ls 3 [(0, .ref (gB G 66)), (1, .int x1)] → WP G h H → SP G s H locs → k7 x1 h = some (rr, hh) → W p l e rmX9_takeOnly s m args below meth c H locs 0 0 (MQ below (QI G rr hh) args s 0 0 (gA G)) (F0 m 7 ls [])) : ∀ (t0 : Int32) (h : PH) (H : Heap) (locs : List Loc) (ls : Array Slot), lv_has ls 3 [(0, .ref (gB G 66))] → WP G h H → SP G s H locs → f_X9_takeOnly_49 k7 t0 h = some (rr, hh) → W p l e rmX9_takeOnly s m args below meth c H locs 0 0 (MQ below (QI G rr hh) args s 0 0 (gA G)) (F0 m 49 ls [.int t0]) := by
  obtain ⟨hx, hb, hr, hlocks, hml, hown, hts, hK⟩ := id C
  intro t0 h H locs ls hl hP hS hf
  rw [f_X9_takeOnly_49] at hf
  refine lv_istore_n (lv' := [(2, .int t0), (0, .ref (gB G 66))]) hx hb dX9_takeOnly_49 rfl hl (by decide) rfl (fun ls hl => ?_)
  refine lv_iload_n hx hb dX9_takeOnly_50 rfl (lv_at hl 0 rfl) ?_
  refine lv_if_le (tgt := 56) hx hb dX9_takeOnly_51 (by decide) (fun c51 => ?_) (fun c51 => ?_)
  · replace hf := if_t c51 hf
    refine lv_aload_n hx hb dX9_takeOnly_56 rfl (lv_at hl 1 rfl) ?_
    refine lv_dup hx hb dX9_takeOnly_57 rfl ?_
    refine r_get (a := 66) (v := .int (h.1 66 35)) (C := RX9) (T := TX9) (N := 55) hx hb hts hinX9 hown hK hP (ltX9 rfl) (ceX9 rfl) rfl 35 (by decide) wd1070 rfl dX9_takeOnly_58 ?_
    refine lv_iconst (v := 1) hx hb dX9_takeOnly_61 (by decide) ?_
    refine lv_aload_n hx hb dX9_takeOnly_62 rfl (lv_at hl 1 rfl) ?_
    refine r_get (a := 66) (v := .int (h.1 66 25)) (C := RX9) (T := TX9) (N := 55) hx hb hts hinX9 hown hK hP (ltX9 rfl) (ceX9 rfl) rfl 25 (by decide) wd1060 rfl dX9_takeOnly_63 ?_
    refine lv_ishl hx hb dX9_takeOnly_66 ?_
    refine lv_ior hx hb dX9_takeOnly_67 ?_
    obtain ⟨h68, eh68⟩ : ∃ y, y = hU h 66 35 ((h.1 66 35) ||| (1 <<< ((h.1 66 25) &&& 31))) := ⟨_, rfl⟩
    replace hf := lt_at eh68 hf
    refine r_put (a := 66) (v := .int ((h.1 66 35) ||| (1 <<< ((h.1 66 25) &&& 31)))) (ty := .int) (h' := h68) (C := RX9) (T := TX9) (N := 55) hG hx hb hts hinX9 tyX9 tyX9_ok nmX9 hown hK hP hS (ltX9 rfl) (ceX9 rfl) rfl 35 (by decide) wd1070 rfl (by decide +kernel) rfl rfl (Nat.le_of_ble_eq_true rfl) (by rw [eh68]; exact fun j hj => cE_U hj) (by rw [eh68]; exact puX9_35 rfl _) dX9_takeOnly_68 (fun H locs hP hS => ?_)
    refine lv_aload_n hx hb dX9_takeOnly_71 rfl (lv_at hl 1 rfl) ?_
    obtain ⟨r72, h72, er72, hf⟩ := bP_s hf
    refine r_callI (va_runV (As := []) (rest := []) ⟨hx, hb, hml, hown, hts⟩ (k_X9_isComma l hG er72) (cwV 0 hts (gV wd1263 wd1265 wd35 wd82 wd1266) rfl rfl rfl (by decide +kernel) ⟨Nat.le_of_ble_eq_true rfl, Nat.le_of_ble_eq_true rfl⟩) (r_pv hK hP hS (ltX9 rfl) (ceX9 rfl) rfl) rfl rfl hl.1 rfl (lv_room (Nat.le_of_ble_eq_true rfl)) dX9_takeOnly_72 ⟨Nat.le_of_ble_eq_true rfl, Nat.le_of_ble_eq_true rfl⟩) hS (fun H locs hP hS => ?_)
    refine lv_istore_n (lv' := [(1, .int r72), (2, .int t0), (0, .ref (gB G 66))]) hx hb dX9_takeOnly_75 rfl hl (by decide) rfl (fun ls hl => ?_)
    refine lv_goto (tgt := 7) hx hb dX9_takeOnly_76 (by decide) ?_
    exact hk7 r72 h72 _ _ _ (lv_sub hl [2, 0] rfl) hP hS hf
  · replace hf := if_f c51 hf
    refine lv_iload_n hx hb dX9_takeOnly_54 rfl (lv_at hl 0 rfl) ?_
    exact r_iret hx hb hr hlocks hP hS (re2 (Option.some.inj hf)) dX9_takeOnly_55
def f_X9_takeOnly_48 (k7 : Int32 → PH → Option (Int32 × PH)) (x2 : Int32) (h : PH) : Option (Int32 × PH) := f_X9_takeOnly_49 k7 x2 h
set_option maxHeartbeats 4000000 in
set_option maxRecDepth 100000 in
theorem w_X9_takeOnly_48 {l : Launch} {G : GC} (hG : GOK G) {rr : Int32} {hh : PH} {p : Program} {e : Env} {s : State} {m : MethodId} {args : Array Value} {below : List Frame} {meth : Method} {c : Code} (C : MC l G p s m args meth c RX9 cX9_takeOnly 3 (some .int)) (k7 : Int32 → PH → Option (Int32 × PH)) (hk7 : ∀ (x1 : Int32) (h : PH) (H : Heap) (locs : List Loc) (ls : Array Slot), lv_has ls 3 [(0, .ref (gB G 66)), (1, .int x1)] → WP G h H → SP G s H locs → k7 x1 h = some (rr, hh) → W p l e rmX9_takeOnly s m args below meth c H locs 0 0 (MQ below (QI G rr hh) args s 0 0 (gA G)) (F0 m 7 ls [])) : ∀ (x2 : Int32) (h : PH) (H : Heap) (locs : List Loc) (ls : Array Slot), lv_has ls 3 [(0, .ref (gB G 66)), (2, .int x2)] → WP G h H → SP G s H locs → f_X9_takeOnly_48 k7 x2 h = some (rr, hh) → W p l e rmX9_takeOnly s m args below meth c H locs 0 0 (MQ below (QI G rr hh) args s 0 0 (gA G)) (F0 m 48 ls []) := by
  obtain ⟨hx, hb, hr, hlocks, hml, hown, hts, hK⟩ := id C
  intro x2 h H locs ls hl hP hS hf
  rw [f_X9_takeOnly_48] at hf
  refine lv_iload_n hx hb dX9_takeOnly_48 rfl (lv_at hl 1 rfl) ?_
  exact w_X9_takeOnly_49 hG C k7 hk7 x2 h _ _ _ (lv_sub hl [0] rfl) hP hS hf
def f_X9_takeOnly_7 : Nat → Int32 → PH → Option (Int32 × PH)
  | 0, _, _ => none
  | n + 1, x1, h => if x1 = 0 then (lt' (hU h 66 52 (h.1 66 35)) (fun h84 => some (0, h84))) else (bP (f_X9_takeNumber 0 3 h) (fun r14 h14 => if r14 = 0 then (bO (f_X9_has (h14.1 66 35) (h14.1 66 25)) (fun r30 => if r30 = 0 then (f_X9_takeOnly_48 (f_X9_takeOnly_7 n) r14 h14) else (bP (f_X9_breaks 4 (h14.1 66 26) h14) (fun r42 h42 => f_X9_takeOnly_49 (f_X9_takeOnly_7 n) r42 h42)))) else (f_X9_takeOnly_48 (f_X9_takeOnly_7 n) r14 h14)))
set_option maxHeartbeats 4000000 in
set_option maxRecDepth 100000 in
theorem w_X9_takeOnly_7 {l : Launch} {G : GC} (hG : GOK G) {rr : Int32} {hh : PH} {p : Program} {e : Env} {s : State} {m : MethodId} {args : Array Value} {below : List Frame} {meth : Method} {c : Code} (C : MC l G p s m args meth c RX9 cX9_takeOnly 3 (some .int)) : ∀ (n : Nat) (x1 : Int32) (h : PH) (H : Heap) (locs : List Loc) (ls : Array Slot), lv_has ls 3 [(0, .ref (gB G 66)), (1, .int x1)] → WP G h H → SP G s H locs → f_X9_takeOnly_7 n x1 h = some (rr, hh) → W p l e rmX9_takeOnly s m args below meth c H locs 0 0 (MQ below (QI G rr hh) args s 0 0 (gA G)) (F0 m 7 ls []) := by
  obtain ⟨hx, hb, hr, hlocks, hml, hown, hts, hK⟩ := id C
  intro n
  induction n with
  | zero => intro x1 h H locs ls hl hP hS hf; rw [f_X9_takeOnly_7] at hf; cases hf
  | succ n ih =>
    intro x1 h H locs ls hl hP hS hf
    rw [f_X9_takeOnly_7] at hf
    refine lv_iload_n hx hb dX9_takeOnly_7 rfl (lv_at hl 1 rfl) ?_
    refine lv_if_eq (tgt := 79) hx hb dX9_takeOnly_8 (by decide) (fun c8 => ?_) (fun c8 => ?_)
    · replace hf := if_t c8 hf
      refine lv_aload_n hx hb dX9_takeOnly_79 rfl (lv_at hl 0 rfl) ?_
      refine lv_aload_n hx hb dX9_takeOnly_80 rfl (lv_at hl 0 rfl) ?_
      refine r_get (a := 66) (v := .int (h.1 66 35)) (C := RX9) (T := TX9) (N := 55) hx hb hts hinX9 hown hK hP (ltX9 rfl) (ceX9 rfl) rfl 35 (by decide) wd1070 rfl dX9_takeOnly_81 ?_
      obtain ⟨h84, eh84⟩ : ∃ y, y = hU h 66 52 (h.1 66 35) := ⟨_, rfl⟩
      replace hf := lt_at eh84 hf
      refine r_put (a := 66) (v := .int (h.1 66 35)) (ty := .int) (h' := h84) (C := RX9) (T := TX9) (N := 55) hG hx hb hts hinX9 tyX9 tyX9_ok nmX9 hown hK hP hS (ltX9 rfl) (ceX9 rfl) rfl 52 (by decide) wd1087 rfl (by decide +kernel) rfl rfl (Nat.le_of_ble_eq_true rfl) (by rw [eh84]; exact fun j hj => cE_U hj) (by rw [eh84]; exact puX9_52 rfl _) dX9_takeOnly_84 (fun H locs hP hS => ?_)
      refine lv_iconst (v := 0) hx hb dX9_takeOnly_87 (by decide) ?_
      exact r_iret hx hb hr hlocks hP hS (re2 (Option.some.inj hf)) dX9_takeOnly_88
    · replace hf := if_f c8 hf
      refine lv_aload_n hx hb dX9_takeOnly_11 rfl (lv_at hl 0 rfl) ?_
      refine lv_iconst (v := 0) hx hb dX9_takeOnly_12 (by decide) ?_
      refine lv_iconst (v := 3) hx hb dX9_takeOnly_13 (by decide) ?_
      obtain ⟨r14, h14, er14, hf⟩ := bP_s hf
      refine r_callI (va_runV (As := [.int 0, .int 3]) (rest := []) ⟨hx, hb, hml, hown, hts⟩ (k_X9_takeNumber l hG er14) (cwV 2 hts (gV wd1254 wd1256 wd34 wd82 wd1257) rfl rfl rfl (by decide +kernel) ⟨Nat.le_of_ble_eq_true rfl, Nat.le_of_ble_eq_true rfl⟩) (r_pv hK hP hS (ltX9 rfl) (ceX9 rfl) rfl) rfl rfl hl.1 rfl (lv_room (Nat.le_of_ble_eq_true rfl)) dX9_takeOnly_14 ⟨Nat.le_of_ble_eq_true rfl, Nat.le_of_ble_eq_true rfl⟩) hS (fun H locs hP hS => ?_)
      refine lv_istore_n (lv' := [(2, .int r14), (0, .ref (gB G 66)), (1, .int x1)]) hx hb dX9_takeOnly_17 rfl hl (by decide) rfl (fun ls hl => ?_)
      refine lv_iload_n hx hb dX9_takeOnly_18 rfl (lv_at hl 0 rfl) ?_
      refine lv_if_ne (tgt := 48) hx hb dX9_takeOnly_19 (by decide) (fun c19 => ?_) (fun c19 => ?_)
      · replace hf := if_f c19 hf
        exact w_X9_takeOnly_48 hG C (f_X9_takeOnly_7 n) ih r14 h14 _ _ _ (lv_sub hl [1, 0] rfl) hP hS hf
      · replace hf := if_t c19 hf
        refine lv_aload_n hx hb dX9_takeOnly_22 rfl (lv_at hl 1 rfl) ?_
        refine r_get (a := 66) (v := .int (h14.1 66 35)) (C := RX9) (T := TX9) (N := 55) hx hb hts hinX9 hown hK hP (ltX9 rfl) (ceX9 rfl) rfl 35 (by decide) wd1070 rfl dX9_takeOnly_23 ?_
        refine lv_aload_n hx hb dX9_takeOnly_26 rfl (lv_at hl 1 rfl) ?_
        refine r_get (a := 66) (v := .int (h14.1 66 25)) (C := RX9) (T := TX9) (N := 55) hx hb hts hinX9 hown hK hP (ltX9 rfl) (ceX9 rfl) rfl 25 (by decide) wd1060 rfl dX9_takeOnly_27 ?_
        obtain ⟨r30, er30, hf⟩ := bO_s hf
        refine r_callI (va_runS (As := [.int (h14.1 66 35), .int (h14.1 66 25)]) (rest := []) ⟨hx, hb, hml, hown, hts⟩ (k_X9_has l hG (h := h14) er30) (va_cwS 2 hts (gS wd1260 wd1261 wd82 wd1262) rfl rfl rfl (by decide +kernel) ⟨Nat.le_of_ble_eq_true rfl, Nat.le_of_ble_eq_true rfl⟩) (r_ps hK hP hS) rfl rfl hl.1 rfl (lv_room (Nat.le_of_ble_eq_true rfl)) dX9_takeOnly_30 ⟨Nat.le_of_ble_eq_true rfl, Nat.le_of_ble_eq_true rfl⟩) hS (fun H locs hP hS => ?_)
        refine lv_if_eq (tgt := 48) hx hb dX9_takeOnly_33 (by decide) (fun c33 => ?_) (fun c33 => ?_)
        · replace hf := if_t c33 hf
          exact w_X9_takeOnly_48 hG C (f_X9_takeOnly_7 n) ih r14 h14 _ _ _ (lv_sub hl [1, 0] rfl) hP hS hf
        · replace hf := if_f c33 hf
          refine lv_aload_n hx hb dX9_takeOnly_36 rfl (lv_at hl 1 rfl) ?_
          refine lv_iconst (v := 4) hx hb dX9_takeOnly_37 (by decide) ?_
          refine lv_aload_n hx hb dX9_takeOnly_38 rfl (lv_at hl 1 rfl) ?_
          refine r_get (a := 66) (v := .int (h14.1 66 26)) (C := RX9) (T := TX9) (N := 55) hx hb hts hinX9 hown hK hP (ltX9 rfl) (ceX9 rfl) rfl 26 (by decide) wd1061 rfl dX9_takeOnly_39 ?_
          obtain ⟨r42, h42, er42, hf⟩ := bP_s hf
          refine r_callI (va_runV (As := [.int 4, .int (h14.1 66 26)]) (rest := []) ⟨hx, hb, hml, hown, hts⟩ (k_X9_breaks l hG er42) (cwV 2 hts (gV wd1238 wd1240 wd30 wd82 wd1241) rfl rfl rfl (by decide +kernel) ⟨Nat.le_of_ble_eq_true rfl, Nat.le_of_ble_eq_true rfl⟩) (r_pv hK hP hS (ltX9 rfl) (ceX9 rfl) rfl) rfl rfl hl.1 rfl (lv_room (Nat.le_of_ble_eq_true rfl)) dX9_takeOnly_42 ⟨Nat.le_of_ble_eq_true rfl, Nat.le_of_ble_eq_true rfl⟩) hS (fun H locs hP hS => ?_)
          refine lv_goto (tgt := 49) hx hb dX9_takeOnly_45 (by decide) ?_
          exact w_X9_takeOnly_49 hG C (f_X9_takeOnly_7 n) ih r42 h42 _ _ _ (lv_sub hl [1] rfl) hP hS hf
def f_X9_takeOnly (h : PH) : Option (Int32 × PH) := lt' (hU h 66 35 0) (fun h2 => f_X9_takeOnly_7 FU 1 h2)
set_option maxHeartbeats 4000000 in
set_option maxRecDepth 100000 in
theorem k_X9_takeOnly (l : Launch) {G : GC} (hG : GOK G) {rr : Int32} {h hh : PH} (hf : f_X9_takeOnly h = some (rr, hh)) : CI l yX9_takeOnly vX9_takeOnly rmX9_takeOnly G [.ref (gB G 66)] h rr hh := by
  refine Met.ofW (cc := cX9_takeOnly) (maxL := 3) (ret := (some .int)) (by decide +kernel) rfl ?_
  intro p e s m args below meth c s₁ B hml hv
  obtain ⟨rfl, hP, hK⟩ := hv
  have C : MC l G p s m _ meth c RX9 cX9_takeOnly 3 (some .int) := ⟨B.exec, B.bytes, B.returns, B.notSynchronized, hml, findClass_of_methodNamed B.named, fun w hw => atoms_spec (ws := vX9_takeOnly) B.pre w (List.mem_cons_of_mem _ hw), hK⟩
  obtain ⟨hx, hb, hr, hlocks, -, hown, hts, -⟩ := id C
  have hl := lv_entry ([.ref (gB G 66)]) (n := 3) (Nat.le_of_ble_eq_true rfl)
  rw [lg_entry_eq]
  generalize (lg_sl ([.ref (gB G 66)]) ++ List.replicate (3 - (lg_sl ([.ref (gB G 66)])).length) Slot.unset).toArray = ls at hl ⊢
  have hl : lv_has ls 3 [(0, .ref (gB G 66))] := hl
  have hS : SP G s s.heap [] := va_S.rf
  replace hP : WP G h s.heap := hP
  rw [f_X9_takeOnly] at hf
  refine lv_aload_n hx hb dX9_takeOnly_0 rfl (lv_at hl 0 rfl) ?_
  refine lv_iconst (v := 0) hx hb dX9_takeOnly_1 (by decide) ?_
  obtain ⟨h2, eh2⟩ : ∃ y, y = hU h 66 35 0 := ⟨_, rfl⟩
  replace hf := lt_at eh2 hf
  refine r_put (a := 66) (v := .int 0) (ty := .int) (h' := h2) (C := RX9) (T := TX9) (N := 55) hG hx hb hts hinX9 tyX9 tyX9_ok nmX9 hown hK hP hS (ltX9 rfl) (ceX9 rfl) rfl 35 (by decide) wd1070 rfl (by decide +kernel) rfl rfl (Nat.le_of_ble_eq_true rfl) (by rw [eh2]; exact fun j hj => cE_U hj) (by rw [eh2]; exact puX9_35 rfl _) dX9_takeOnly_2 (fun H locs hP hS => ?_)
  refine lv_iconst (v := 1) hx hb dX9_takeOnly_5 (by decide) ?_
  refine lv_istore_n (lv' := [(1, .int 1), (0, .ref (gB G 66))]) hx hb dX9_takeOnly_6 rfl hl (by decide) rfl (fun ls hl => ?_)
  exact w_X9_takeOnly_7 hG C FU 1 h2 _ _ _ (lv_sub hl [1, 0] rfl) hP hS hf
/-! CarriedBackModel.takeRule()I -/
abbrev rmX9_takeRule : Room := { frames := 3, cells := 0, slots := 0, locals := 70 }
abbrev vX9_takeRule : List Cond := Cond.code yX9_takeRule cX9_takeRule 6 (some .int) :: GW
def f_X9_takeRule_177 (t1 : Int32) (h : PH) : Option (Int32 × PH) := bP (f_X9_breaks t1 (h.1 66 21) h) (fun r181 h181 => some (r181, h181))
set_option maxHeartbeats 4000000 in
set_option maxRecDepth 100000 in
theorem w_X9_takeRule_177 {l : Launch} {G : GC} (hG : GOK G) {rr : Int32} {hh : PH} {p : Program} {e : Env} {s : State} {m : MethodId} {args : Array Value} {below : List Frame} {meth : Method} {c : Code} (C : MC l G p s m args meth c RX9 cX9_takeRule 6 (some .int)) : ∀ (t1 : Int32) (h : PH) (H : Heap) (locs : List Loc) (ls : Array Slot), lv_has ls 6 [(0, .ref (gB G 66))] → WP G h H → SP G s H locs → f_X9_takeRule_177 t1 h = some (rr, hh) → W p l e rmX9_takeRule s m args below meth c H locs 0 0 (MQ below (QI G rr hh) args s 0 0 (gA G)) (F0 m 177 ls [.int t1, .ref (gB G 66)]) := by
  obtain ⟨hx, hb, hr, hlocks, hml, hown, hts, hK⟩ := id C
  intro t1 h H locs ls hl hP hS hf
  rw [f_X9_takeRule_177] at hf
  refine lv_aload_n hx hb dX9_takeRule_177 rfl (lv_at hl 0 rfl) ?_
  refine r_get (a := 66) (v := .int (h.1 66 21)) (C := RX9) (T := TX9) (N := 55) hx hb hts hinX9 hown hK hP (ltX9 rfl) (ceX9 rfl) rfl 21 (by decide) wd1056 rfl dX9_takeRule_178 ?_
  obtain ⟨r181, h181, er181, hf⟩ := bP_s hf
  refine r_callI (va_runV (As := [.int t1, .int (h.1 66 21)]) (rest := []) ⟨hx, hb, hml, hown, hts⟩ (k_X9_breaks l hG er181) (cwV 2 hts (gV wd1238 wd1240 wd30 wd82 wd1241) rfl rfl rfl (by decide +kernel) ⟨Nat.le_of_ble_eq_true rfl, Nat.le_of_ble_eq_true rfl⟩) (r_pv hK hP hS (ltX9 rfl) (ceX9 rfl) rfl) rfl rfl hl.1 rfl (lv_room (Nat.le_of_ble_eq_true rfl)) dX9_takeRule_181 ⟨Nat.le_of_ble_eq_true rfl, Nat.le_of_ble_eq_true rfl⟩) hS (fun H locs hP hS => ?_)
  exact r_iret hx hb hr hlocks hP hS (re2 (Option.some.inj hf)) dX9_takeRule_184
def f_X9_takeRule_167 (x3 : Int32) (h : PH) : Option (Int32 × PH) := if (0 : Int32) ≤ x3 then (f_X9_takeRule_177 3 h) else (f_X9_takeRule_177 1 h)
set_option maxHeartbeats 4000000 in
set_option maxRecDepth 100000 in
theorem w_X9_takeRule_167 {l : Launch} {G : GC} (hG : GOK G) {rr : Int32} {hh : PH} {p : Program} {e : Env} {s : State} {m : MethodId} {args : Array Value} {below : List Frame} {meth : Method} {c : Code} (C : MC l G p s m args meth c RX9 cX9_takeRule 6 (some .int)) : ∀ (x3 : Int32) (h : PH) (H : Heap) (locs : List Loc) (ls : Array Slot), lv_has ls 6 [(0, .ref (gB G 66)), (3, .int x3)] → WP G h H → SP G s H locs → f_X9_takeRule_167 x3 h = some (rr, hh) → W p l e rmX9_takeRule s m args below meth c H locs 0 0 (MQ below (QI G rr hh) args s 0 0 (gA G)) (F0 m 167 ls []) := by
  obtain ⟨hx, hb, hr, hlocks, hml, hown, hts, hK⟩ := id C
  intro x3 h H locs ls hl hP hS hf
  rw [f_X9_takeRule_167] at hf
  refine lv_aload_n hx hb dX9_takeRule_167 rfl (lv_at hl 0 rfl) ?_
  refine lv_iload_n hx hb dX9_takeRule_168 rfl (lv_at hl 1 rfl) ?_
  refine lv_if_ge (tgt := 176) hx hb dX9_takeRule_169 (by decide) (fun c169 => ?_) (fun c169 => ?_)
  · replace hf := if_t c169 hf
    refine lv_iconst (v := 3) hx hb dX9_takeRule_176 (by decide) ?_
    exact w_X9_takeRule_177 hG C 3 h _ _ _ (lv_sub hl [0] rfl) hP hS hf
  · replace hf := if_f c169 hf
    refine lv_iconst (v := 1) hx hb dX9_takeRule_172 (by decide) ?_
    refine lv_goto (tgt := 177) hx hb dX9_takeRule_173 (by decide) ?_
    exact w_X9_takeRule_177 hG C 1 h _ _ _ (lv_sub hl [0] rfl) hP hS hf
def f_X9_takeRule_270 (x5 : Int32) (h : PH) : Option (Int32 × PH) := if x5 ≤ 0 then (bP (f_X9_takeStop h) (fun r281 h281 => some (r281, h281))) else (some (x5, h))
set_option maxHeartbeats 4000000 in
set_option maxRecDepth 100000 in
theorem w_X9_takeRule_270 {l : Launch} {G : GC} (hG : GOK G) {rr : Int32} {hh : PH} {p : Program} {e : Env} {s : State} {m : MethodId} {args : Array Value} {below : List Frame} {meth : Method} {c : Code} (C : MC l G p s m args meth c RX9 cX9_takeRule 6 (some .int)) : ∀ (x5 : Int32) (h : PH) (H : Heap) (locs : List Loc) (ls : Array Slot), lv_has ls 6 [(0, .ref (gB G 66)), (5, .int x5)] → WP G h H → SP G s H locs → f_X9_takeRule_270 x5 h = some (rr, hh) → W p l e rmX9_takeRule s m args below meth c H locs 0 0 (MQ below (QI G rr hh) args s 0 0 (gA G)) (F0 m 270 ls []) := by
  obtain ⟨hx, hb, hr, hlocks, hml, hown, hts, hK⟩ := id C
  intro x5 h H locs ls hl hP hS hf
  rw [f_X9_takeRule_270] at hf
  refine lv_iload hx hb dX9_takeRule_270 (lv_at hl 1 rfl) ?_
  refine lv_if_le (tgt := 280) hx hb dX9_takeRule_272 (by decide) (fun c272 => ?_) (fun c272 => ?_)
  · replace hf := if_t c272 hf
    refine lv_aload_n hx hb dX9_takeRule_280 rfl (lv_at hl 0 rfl) ?_
    obtain ⟨r281, h281, er281, hf⟩ := bP_s hf
    refine r_callI (va_runV (As := []) (rest := []) ⟨hx, hb, hml, hown, hts⟩ (k_X9_takeStop l hG er281) (cwV 0 hts (gV wd1271 wd1273 wd37 wd82 wd1274) rfl rfl rfl (by decide +kernel) ⟨Nat.le_of_ble_eq_true rfl, Nat.le_of_ble_eq_true rfl⟩) (r_pv hK hP hS (ltX9 rfl) (ceX9 rfl) rfl) rfl rfl hl.1 rfl (lv_room (Nat.le_of_ble_eq_true rfl)) dX9_takeRule_281 ⟨Nat.le_of_ble_eq_true rfl, Nat.le_of_ble_eq_true rfl⟩) hS (fun H locs hP hS => ?_)
    exact r_iret hx hb hr hlocks hP hS (re2 (Option.some.inj hf)) dX9_takeRule_284
  · replace hf := if_f c272 hf
    refine lv_iload hx hb dX9_takeRule_275 (lv_at hl 1 rfl) ?_
    refine lv_goto (tgt := 284) hx hb dX9_takeRule_277 (by decide) ?_
    exact r_iret hx hb hr hlocks hP hS (re2 (Option.some.inj hf)) dX9_takeRule_284
def f_X9_takeRule_267 (x5 : Int32) (t1 : Int32) (h : PH) : Option (Int32 × PH) := lt' (hU h 66 51 t1) (fun h267 => f_X9_takeRule_270 x5 h267)
set_option maxHeartbeats 4000000 in
set_option maxRecDepth 100000 in
theorem w_X9_takeRule_267 {l : Launch} {G : GC} (hG : GOK G) {rr : Int32} {hh : PH} {p : Program} {e : Env} {s : State} {m : MethodId} {args : Array Value} {below : List Frame} {meth : Method} {c : Code} (C : MC l G p s m args meth c RX9 cX9_takeRule 6 (some .int)) : ∀ (x5 : Int32) (t1 : Int32) (h : PH) (H : Heap) (locs : List Loc) (ls : Array Slot), lv_has ls 6 [(0, .ref (gB G 66)), (5, .int x5)] → WP G h H → SP G s H locs → f_X9_takeRule_267 x5 t1 h = some (rr, hh) → W p l e rmX9_takeRule s m args below meth c H locs 0 0 (MQ below (QI G rr hh) args s 0 0 (gA G)) (F0 m 267 ls [.int t1, .ref (gB G 66)]) := by
  obtain ⟨hx, hb, hr, hlocks, hml, hown, hts, hK⟩ := id C
  intro x5 t1 h H locs ls hl hP hS hf
  rw [f_X9_takeRule_267] at hf
  obtain ⟨h267, eh267⟩ : ∃ y, y = hU h 66 51 t1 := ⟨_, rfl⟩
  replace hf := lt_at eh267 hf
  refine r_put (a := 66) (v := .int t1) (ty := .int) (h' := h267) (C := RX9) (T := TX9) (N := 55) hG hx hb hts hinX9 tyX9 tyX9_ok nmX9 hown hK hP hS (ltX9 rfl) (ceX9 rfl) rfl 51 (by decide) wd1086 rfl (by decide +kernel) rfl rfl (Nat.le_of_ble_eq_true rfl) (by rw [eh267]; exact fun j hj => cE_U hj) (by rw [eh267]; exact puX9_51 rfl _) dX9_takeRule_267 (fun H locs hP hS => ?_)
  exact w_X9_takeRule_270 hG C x5 h267 _ _ _ (lv_sub hl [0, 1] rfl) hP hS hf
def f_X9_takeRule_247 (x3 : Int32) (x5 : Int32) (t1 : Int32) (h : PH) : Option (Int32 × PH) := lt' (hU h 66 50 t1) (fun h247 => if x3 = 2 then (f_X9_takeRule_267 x5 (h247.1 66 25) h247) else (f_X9_takeRule_267 x5 (h247.1 66 51) h247))
set_option maxHeartbeats 4000000 in
set_option maxRecDepth 100000 in
theorem w_X9_takeRule_247 {l : Launch} {G : GC} (hG : GOK G) {rr : Int32} {hh : PH} {p : Program} {e : Env} {s : State} {m : MethodId} {args : Array Value} {below : List Frame} {meth : Method} {c : Code} (C : MC l G p s m args meth c RX9 cX9_takeRule 6 (some .int)) : ∀ (x3 : Int32) (x5 : Int32) (t1 : Int32) (h : PH) (H : Heap) (locs : List Loc) (ls : Array Slot), lv_has ls 6 [(0, .ref (gB G 66)), (3, .int x3), (5, .int x5)] → WP G h H → SP G s H locs → f_X9_takeRule_247 x3 x5 t1 h = some (rr, hh) → W p l e rmX9_takeRule s m args below meth c H locs 0 0 (MQ below (QI G rr hh) args s 0 0 (gA G)) (F0 m 247 ls [.int t1, .ref (gB G 66)]) := by
  obtain ⟨hx, hb, hr, hlocks, hml, hown, hts, hK⟩ := id C
  intro x3 x5 t1 h H locs ls hl hP hS hf
  rw [f_X9_takeRule_247] at hf
  obtain ⟨h247, eh247⟩ : ∃ y, y = hU h 66 50 t1 := ⟨_, rfl⟩
  replace hf := lt_at eh247 hf
  refine r_put (a := 66) (v := .int t1) (ty := .int) (h' := h247) (C := RX9) (T := TX9) (N := 55) hG hx hb hts hinX9 tyX9 tyX9_ok nmX9 hown hK hP hS (ltX9 rfl) (ceX9 rfl) rfl 50 (by decide) wd1085 rfl (by decide +kernel) rfl rfl (Nat.le_of_ble_eq_true rfl) (by rw [eh247]; exact fun j hj => cE_U hj) (by rw [eh247]; exact puX9_50 rfl _) dX9_takeRule_247 (fun H locs hP hS => ?_)
  refine lv_aload_n hx hb dX9_takeRule_250 rfl (lv_at hl 0 rfl) ?_
  refine lv_iload_n hx hb dX9_takeRule_251 rfl (lv_at hl 1 rfl) ?_
  refine lv_iconst (v := 2) hx hb dX9_takeRule_252 (by decide) ?_
  refine lv_icmp_ne (tgt := 263) hx hb dX9_takeRule_253 (by decide) (fun c253 => ?_) (fun c253 => ?_)
  · replace hf := if_f c253 hf
    refine lv_aload_n hx hb dX9_takeRule_263 rfl (lv_at hl 0 rfl) ?_
    refine r_get (a := 66) (v := .int (h247.1 66 51)) (C := RX9) (T := TX9) (N := 55) hx hb hts hinX9 hown hK hP (ltX9 rfl) (ceX9 rfl) rfl 51 (by decide) wd1086 rfl dX9_takeRule_264 ?_
    exact w_X9_takeRule_267 hG C x5 (h247.1 66 51) h247 _ _ _ (lv_sub hl [0, 2] rfl) hP hS hf
  · replace hf := if_t c253 hf
    refine lv_aload_n hx hb dX9_takeRule_256 rfl (lv_at hl 0 rfl) ?_
    refine r_get (a := 66) (v := .int (h247.1 66 25)) (C := RX9) (T := TX9) (N := 55) hx hb hts hinX9 hown hK hP (ltX9 rfl) (ceX9 rfl) rfl 25 (by decide) wd1060 rfl dX9_takeRule_257 ?_
    refine lv_goto (tgt := 267) hx hb dX9_takeRule_260 (by decide) ?_
    exact w_X9_takeRule_267 hG C x5 (h247.1 66 25) h247 _ _ _ (lv_sub hl [0, 2] rfl) hP hS hf
def f_X9_takeRule_228 (x3 : Int32) (t0 : Int32) (h : PH) : Option (Int32 × PH) := if x3 = 1 then (f_X9_takeRule_247 x3 t0 (h.1 66 25) h) else (f_X9_takeRule_247 x3 t0 (h.1 66 50) h)
set_option maxHeartbeats 4000000 in
set_option maxRecDepth 100000 in
theorem w_X9_takeRule_228 {l : Launch} {G : GC} (hG : GOK G) {rr : Int32} {hh : PH} {p : Program} {e : Env} {s : State} {m : MethodId} {args : Array Value} {below : List Frame} {meth : Method} {c : Code} (C : MC l G p s m args meth c RX9 cX9_takeRule 6 (some .int)) : ∀ (x3 : Int32) (t0 : Int32) (h : PH) (H : Heap) (locs : List Loc) (ls : Array Slot), lv_has ls 6 [(0, .ref (gB G 66)), (3, .int x3)] → WP G h H → SP G s H locs → f_X9_takeRule_228 x3 t0 h = some (rr, hh) → W p l e rmX9_takeRule s m args below meth c H locs 0 0 (MQ below (QI G rr hh) args s 0 0 (gA G)) (F0 m 228 ls [.int t0]) := by
  obtain ⟨hx, hb, hr, hlocks, hml, hown, hts, hK⟩ := id C
  intro x3 t0 h H locs ls hl hP hS hf
  rw [f_X9_takeRule_228] at hf
  refine lv_istore (lv' := [(5, .int t0), (0, .ref (gB G 66)), (3, .int x3)]) hx hb dX9_takeRule_228 hl (by decide) rfl (fun ls hl => ?_)
  refine lv_aload_n hx hb dX9_takeRule_230 rfl (lv_at hl 1 rfl) ?_
  refine lv_iload_n hx hb dX9_takeRule_231 rfl (lv_at hl 2 rfl) ?_
  refine lv_iconst (v := 1) hx hb dX9_takeRule_232 (by decide) ?_
  refine lv_icmp_ne (tgt := 243) hx hb dX9_takeRule_233 (by decide) (fun c233 => ?_) (fun c233 => ?_)
  · replace hf := if_f c233 hf
    refine lv_aload_n hx hb dX9_takeRule_243 rfl (lv_at hl 1 rfl) ?_
    refine r_get (a := 66) (v := .int (h.1 66 50)) (C := RX9) (T := TX9) (N := 55) hx hb hts hinX9 hown hK hP (ltX9 rfl) (ceX9 rfl) rfl 50 (by decide) wd1085 rfl dX9_takeRule_244 ?_
    exact w_X9_takeRule_247 hG C x3 t0 (h.1 66 50) h _ _ _ (lv_sub hl [1, 2, 0] rfl) hP hS hf
  · replace hf := if_t c233 hf
    refine lv_aload_n hx hb dX9_takeRule_236 rfl (lv_at hl 1 rfl) ?_
    refine r_get (a := 66) (v := .int (h.1 66 25)) (C := RX9) (T := TX9) (N := 55) hx hb hts hinX9 hown hK hP (ltX9 rfl) (ceX9 rfl) rfl 25 (by decide) wd1060 rfl dX9_takeRule_237 ?_
    refine lv_goto (tgt := 247) hx hb dX9_takeRule_240 (by decide) ?_
    exact w_X9_takeRule_247 hG C x3 t0 (h.1 66 25) h _ _ _ (lv_sub hl [1, 2, 0] rfl) hP hS hf
def f_X9_takeRule_156 (x3 : Int32) (t0 : Int32) (h : PH) : Option (Int32 × PH) := if x3 < 0 then (f_X9_takeRule_167 x3 h) else (if t0 = 0 then (if x3 = 0 then (bP (f_X9_takeFreeze h) (fun r193 h193 => f_X9_takeRule_270 r193 h193)) else (lt' (hU h 66 21 (h.1 66 24)) (fun h206 => if x3 = 3 then (bP (f_X9_takeOnly h206) (fun r215 h215 => f_X9_takeRule_228 x3 r215 h215)) else (bP (f_X9_takeNumber 0 99 h206) (fun r225 h225 => f_X9_takeRule_228 x3 r225 h225))))) else (f_X9_takeRule_167 x3 h))
set_option maxHeartbeats 4000000 in
set_option maxRecDepth 100000 in
theorem w_X9_takeRule_156 {l : Launch} {G : GC} (hG : GOK G) {rr : Int32} {hh : PH} {p : Program} {e : Env} {s : State} {m : MethodId} {args : Array Value} {below : List Frame} {meth : Method} {c : Code} (C : MC l G p s m args meth c RX9 cX9_takeRule 6 (some .int)) : ∀ (x3 : Int32) (t0 : Int32) (h : PH) (H : Heap) (locs : List Loc) (ls : Array Slot), lv_has ls 6 [(0, .ref (gB G 66)), (3, .int x3)] → WP G h H → SP G s H locs → f_X9_takeRule_156 x3 t0 h = some (rr, hh) → W p l e rmX9_takeRule s m args below meth c H locs 0 0 (MQ below (QI G rr hh) args s 0 0 (gA G)) (F0 m 156 ls [.int t0]) := by
  obtain ⟨hx, hb, hr, hlocks, hml, hown, hts, hK⟩ := id C
  intro x3 t0 h H locs ls hl hP hS hf
  rw [f_X9_takeRule_156] at hf
  refine lv_istore (lv' := [(4, .int t0), (0, .ref (gB G 66)), (3, .int x3)]) hx hb dX9_takeRule_156 hl (by decide) rfl (fun ls hl => ?_)
  refine lv_iload_n hx hb dX9_takeRule_158 rfl (lv_at hl 2 rfl) ?_
  refine lv_if_lt (tgt := 167) hx hb dX9_takeRule_159 (by decide) (fun c159 => ?_) (fun c159 => ?_)
  · replace hf := if_t c159 hf
    exact w_X9_takeRule_167 hG C x3 h _ _ _ (lv_sub hl [1, 2] rfl) hP hS hf
  · replace hf := if_f c159 hf
    refine lv_iload hx hb dX9_takeRule_162 (lv_at hl 0 rfl) ?_
    refine lv_if_eq (tgt := 185) hx hb dX9_takeRule_164 (by decide) (fun c164 => ?_) (fun c164 => ?_)
    · replace hf := if_t c164 hf
      refine lv_iconst (v := 0) hx hb dX9_takeRule_185 (by decide) ?_
      refine lv_istore (lv' := [(5, .int 0), (4, .int t0), (0, .ref (gB G 66)), (3, .int x3)]) hx hb dX9_takeRule_186 hl (by decide) rfl (fun ls hl => ?_)
      refine lv_iload_n hx hb dX9_takeRule_188 rfl (lv_at hl 3 rfl) ?_
      refine lv_if_ne (tgt := 201) hx hb dX9_takeRule_189 (by decide) (fun c189 => ?_) (fun c189 => ?_)
      · replace hf := if_f c189 hf
        refine lv_aload_n hx hb dX9_takeRule_201 rfl (lv_at hl 2 rfl) ?_
        refine lv_aload_n hx hb dX9_takeRule_202 rfl (lv_at hl 2 rfl) ?_
        refine r_get (a := 66) (v := .int (h.1 66 24)) (C := RX9) (T := TX9) (N := 55) hx hb hts hinX9 hown hK hP (ltX9 rfl) (ceX9 rfl) rfl 24 (by decide) wd1059 rfl dX9_takeRule_203 ?_
        obtain ⟨h206, eh206⟩ : ∃ y, y = hU h 66 21 (h.1 66 24) := ⟨_, rfl⟩
        replace hf := lt_at eh206 hf
        refine r_put (a := 66) (v := .int (h.1 66 24)) (ty := .int) (h' := h206) (C := RX9) (T := TX9) (N := 55) hG hx hb hts hinX9 tyX9 tyX9_ok nmX9 hown hK hP hS (ltX9 rfl) (ceX9 rfl) rfl 21 (by decide) wd1056 rfl (by decide +kernel) rfl rfl (Nat.le_of_ble_eq_true rfl) (by rw [eh206]; exact fun j hj => cE_U hj) (by rw [eh206]; exact puX9_21 rfl _) dX9_takeRule_206 (fun H locs hP hS => ?_)
        refine lv_iload_n hx hb dX9_takeRule_209 rfl (lv_at hl 3 rfl) ?_
        refine lv_iconst (v := 3) hx hb dX9_takeRule_210 (by decide) ?_
        refine lv_icmp_ne (tgt := 221) hx hb dX9_takeRule_211 (by decide) (fun c211 => ?_) (fun c211 => ?_)
        · replace hf := if_f c211 hf
          refine lv_aload_n hx hb dX9_takeRule_221 rfl (lv_at hl 2 rfl) ?_
          refine lv_iconst (v := 0) hx hb dX9_takeRule_222 (by decide) ?_
          refine lv_bipush (v := 99) hx hb dX9_takeRule_223 (by decide) ?_
          obtain ⟨r225, h225, er225, hf⟩ := bP_s hf
          refine r_callI (va_runV (As := [.int 0, .int 99]) (rest := []) ⟨hx, hb, hml, hown, hts⟩ (k_X9_takeNumber l hG er225) (cwV 2 hts (gV wd1254 wd1256 wd34 wd82 wd1257) rfl rfl rfl (by decide +kernel) ⟨Nat.le_of_ble_eq_true rfl, Nat.le_of_ble_eq_true rfl⟩) (r_pv hK hP hS (ltX9 rfl) (ceX9 rfl) rfl) rfl rfl hl.1 rfl (lv_room (Nat.le_of_ble_eq_true rfl)) dX9_takeRule_225 ⟨Nat.le_of_ble_eq_true rfl, Nat.le_of_ble_eq_true rfl⟩) hS (fun H locs hP hS => ?_)
          exact w_X9_takeRule_228 hG C x3 r225 h225 _ _ _ (lv_sub hl [2, 3] rfl) hP hS hf
        · replace hf := if_t c211 hf
          refine lv_aload_n hx hb dX9_takeRule_214 rfl (lv_at hl 2 rfl) ?_
          obtain ⟨r215, h215, er215, hf⟩ := bP_s hf
          refine r_callI (va_runV (As := []) (rest := []) ⟨hx, hb, hml, hown, hts⟩ (k_X9_takeOnly l hG er215) (cwV 0 hts (gV wd1561 wd1563 wd71 wd82 wd1564) rfl rfl rfl (by decide +kernel) ⟨Nat.le_of_ble_eq_true rfl, Nat.le_of_ble_eq_true rfl⟩) (r_pv hK hP hS (ltX9 rfl) (ceX9 rfl) rfl) rfl rfl hl.1 rfl (lv_room (Nat.le_of_ble_eq_true rfl)) dX9_takeRule_215 ⟨Nat.le_of_ble_eq_true rfl, Nat.le_of_ble_eq_true rfl⟩) hS (fun H locs hP hS => ?_)
          refine lv_goto (tgt := 228) hx hb dX9_takeRule_218 (by decide) ?_
          exact w_X9_takeRule_228 hG C x3 r215 h215 _ _ _ (lv_sub hl [2, 3] rfl) hP hS hf
      · replace hf := if_t c189 hf
        refine lv_aload_n hx hb dX9_takeRule_192 rfl (lv_at hl 2 rfl) ?_
        obtain ⟨r193, h193, er193, hf⟩ := bP_s hf
        refine r_callI (va_runV (As := []) (rest := []) ⟨hx, hb, hml, hown, hts⟩ (k_X9_takeFreeze l hG er193) (cwV 0 hts (gV wd1557 wd1559 wd70 wd82 wd1560) rfl rfl rfl (by decide +kernel) ⟨Nat.le_of_ble_eq_true rfl, Nat.le_of_ble_eq_true rfl⟩) (r_pv hK hP hS (ltX9 rfl) (ceX9 rfl) rfl) rfl rfl hl.1 rfl (lv_room (Nat.le_of_ble_eq_true rfl)) dX9_takeRule_193 ⟨Nat.le_of_ble_eq_true rfl, Nat.le_of_ble_eq_true rfl⟩) hS (fun H locs hP hS => ?_)
        refine lv_istore (lv' := [(5, .int r193), (4, .int t0), (0, .ref (gB G 66)), (3, .int x3)]) hx hb dX9_takeRule_196 hl (by decide) rfl (fun ls hl => ?_)
        refine lv_goto (tgt := 270) hx hb dX9_takeRule_198 (by decide) ?_
        exact w_X9_takeRule_270 hG C r193 h193 _ _ _ (lv_sub hl [2, 0] rfl) hP hS hf
    · replace hf := if_f c164 hf
      exact w_X9_takeRule_167 hG C x3 h _ _ _ (lv_sub hl [1, 2] rfl) hP hS hf
def f_X9_takeRule_155 (x3 : Int32) (h : PH) : Option (Int32 × PH) := f_X9_takeRule_156 x3 0 h
set_option maxHeartbeats 4000000 in
set_option maxRecDepth 100000 in
theorem w_X9_takeRule_155 {l : Launch} {G : GC} (hG : GOK G) {rr : Int32} {hh : PH} {p : Program} {e : Env} {s : State} {m : MethodId} {args : Array Value} {below : List Frame} {meth : Method} {c : Code} (C : MC l G p s m args meth c RX9 cX9_takeRule 6 (some .int)) : ∀ (x3 : Int32) (h : PH) (H : Heap) (locs : List Loc) (ls : Array Slot), lv_has ls 6 [(0, .ref (gB G 66)), (3, .int x3)] → WP G h H → SP G s H locs → f_X9_takeRule_155 x3 h = some (rr, hh) → W p l e rmX9_takeRule s m args below meth c H locs 0 0 (MQ below (QI G rr hh) args s 0 0 (gA G)) (F0 m 155 ls []) := by
  obtain ⟨hx, hb, hr, hlocks, hml, hown, hts, hK⟩ := id C
  intro x3 h H locs ls hl hP hS hf
  rw [f_X9_takeRule_155] at hf
  refine lv_iconst (v := 0) hx hb dX9_takeRule_155 (by decide) ?_
  exact w_X9_takeRule_156 hG C x3 0 h _ _ _ (lv_sub hl [0, 1] rfl) hP hS hf
def f_X9_takeRule_151 (x3 : Int32) (h : PH) : Option (Int32 × PH) := f_X9_takeRule_156 x3 1 h
set_option maxHeartbeats 4000000 in
set_option maxRecDepth 100000 in
theorem w_X9_takeRule_151 {l : Launch} {G : GC} (hG : GOK G) {rr : Int32} {hh : PH} {p : Program} {e : Env} {s : State} {m : MethodId} {args : Array Value} {below : List Frame} {meth : Method} {c : Code} (C : MC l G p s m args meth c RX9 cX9_takeRule 6 (some .int)) : ∀ (x3 : Int32) (h : PH) (H : Heap) (locs : List Loc) (ls : Array Slot), lv_has ls 6 [(0, .ref (gB G 66)), (3, .int x3)] → WP G h H → SP G s H locs → f_X9_takeRule_151 x3 h = some (rr, hh) → W p l e rmX9_takeRule s m args below meth c H locs 0 0 (MQ below (QI G rr hh) args s 0 0 (gA G)) (F0 m 151 ls []) := by
  obtain ⟨hx, hb, hr, hlocks, hml, hown, hts, hK⟩ := id C
  intro x3 h H locs ls hl hP hS hf
  rw [f_X9_takeRule_151] at hf
  refine lv_iconst (v := 1) hx hb dX9_takeRule_151 (by decide) ?_
  refine lv_goto (tgt := 156) hx hb dX9_takeRule_152 (by decide) ?_
  exact w_X9_takeRule_156 hG C x3 1 h _ _ _ (lv_sub hl [0, 1] rfl) hP hS hf
def f_X9_takeRule_139 (x3 : Int32) (h : PH) : Option (Int32 × PH) := if x3 = 3 then (if (h.1 66 52) = 0 then (f_X9_takeRule_155 x3 h) else (f_X9_takeRule_151 x3 h)) else (f_X9_takeRule_155 x3 h)
set_option maxHeartbeats 4000000 in
set_option maxRecDepth 100000 in
theorem w_X9_takeRule_139 {l : Launch} {G : GC} (hG : GOK G) {rr : Int32} {hh : PH} {p : Program} {e : Env} {s : State} {m : MethodId} {args : Array Value} {below : List Frame} {meth : Method} {c : Code} (C : MC l G p s m args meth c RX9 cX9_takeRule 6 (some .int)) : ∀ (x3 : Int32) (h : PH) (H : Heap) (locs : List Loc) (ls : Array Slot), lv_has ls 6 [(0, .ref (gB G 66)), (3, .int x3)] → WP G h H → SP G s H locs → f_X9_takeRule_139 x3 h = some (rr, hh) → W p l e rmX9_takeRule s m args below meth c H locs 0 0 (MQ below (QI G rr hh) args s 0 0 (gA G)) (F0 m 139 ls []) := by
  obtain ⟨hx, hb, hr, hlocks, hml, hown, hts, hK⟩ := id C
  intro x3 h H locs ls hl hP hS hf
  rw [f_X9_takeRule_139] at hf
  refine lv_iload_n hx hb dX9_takeRule_139 rfl (lv_at hl 1 rfl) ?_
  refine lv_iconst (v := 3) hx hb dX9_takeRule_140 (by decide) ?_
  refine lv_icmp_ne (tgt := 155) hx hb dX9_takeRule_141 (by decide) (fun c141 => ?_) (fun c141 => ?_)
  · replace hf := if_f c141 hf
    exact w_X9_takeRule_155 hG C x3 h _ _ _ (lv_sub hl [0, 1] rfl) hP hS hf
  · replace hf := if_t c141 hf
    refine lv_aload_n hx hb dX9_takeRule_144 rfl (lv_at hl 0 rfl) ?_
    refine r_get (a := 66) (v := .int (h.1 66 52)) (C := RX9) (T := TX9) (N := 55) hx hb hts hinX9 hown hK hP (ltX9 rfl) (ceX9 rfl) rfl 52 (by decide) wd1087 rfl dX9_takeRule_145 ?_
    refine lv_if_eq (tgt := 155) hx hb dX9_takeRule_148 (by decide) (fun c148 => ?_) (fun c148 => ?_)
    · replace hf := if_t c148 hf
      exact w_X9_takeRule_155 hG C x3 h _ _ _ (lv_sub hl [0, 1] rfl) hP hS hf
    · replace hf := if_f c148 hf
      exact w_X9_takeRule_151 hG C x3 h _ _ _ (lv_sub hl [0, 1] rfl) hP hS hf
def f_X9_takeRule_127 (x3 : Int32) (h : PH) : Option (Int32 × PH) := if x3 = 2 then (if (0 : Int32) ≤ (h.1 66 51) then (f_X9_takeRule_151 x3 h) else (f_X9_takeRule_139 x3 h)) else (f_X9_takeRule_139 x3 h)
set_option maxHeartbeats 4000000 in
set_option maxRecDepth 100000 in
theorem w_X9_takeRule_127 {l : Launch} {G : GC} (hG : GOK G) {rr : Int32} {hh : PH} {p : Program} {e : Env} {s : State} {m : MethodId} {args : Array Value} {below : List Frame} {meth : Method} {c : Code} (C : MC l G p s m args meth c RX9 cX9_takeRule 6 (some .int)) : ∀ (x3 : Int32) (h : PH) (H : Heap) (locs : List Loc) (ls : Array Slot), lv_has ls 6 [(0, .ref (gB G 66)), (3, .int x3)] → WP G h H → SP G s H locs → f_X9_takeRule_127 x3 h = some (rr, hh) → W p l e rmX9_takeRule s m args below meth c H locs 0 0 (MQ below (QI G rr hh) args s 0 0 (gA G)) (F0 m 127 ls []) := by
  obtain ⟨hx, hb, hr, hlocks, hml, hown, hts, hK⟩ := id C
  intro x3 h H locs ls hl hP hS hf
  rw [f_X9_takeRule_127] at hf
  refine lv_iload_n hx hb dX9_takeRule_127 rfl (lv_at hl 1 rfl) ?_
  refine lv_iconst (v := 2) hx hb dX9_takeRule_128 (by decide) ?_
  refine lv_icmp_ne (tgt := 139) hx hb dX9_takeRule_129 (by decide) (fun c129 => ?_) (fun c129 => ?_)
  · replace hf := if_f c129 hf
    exact w_X9_takeRule_139 hG C x3 h _ _ _ (lv_sub hl [0, 1] rfl) hP hS hf
  · replace hf := if_t c129 hf
    refine lv_aload_n hx hb dX9_takeRule_132 rfl (lv_at hl 0 rfl) ?_
    refine r_get (a := 66) (v := .int (h.1 66 51)) (C := RX9) (T := TX9) (N := 55) hx hb hts hinX9 hown hK hP (ltX9 rfl) (ceX9 rfl) rfl 51 (by decide) wd1086 rfl dX9_takeRule_133 ?_
    refine lv_if_ge (tgt := 151) hx hb dX9_takeRule_136 (by decide) (fun c136 => ?_) (fun c136 => ?_)
    · replace hf := if_t c136 hf
      exact w_X9_takeRule_151 hG C x3 h _ _ _ (lv_sub hl [0, 1] rfl) hP hS hf
    · replace hf := if_f c136 hf
      exact w_X9_takeRule_139 hG C x3 h _ _ _ (lv_sub hl [0, 1] rfl) hP hS hf
def f_X9_takeRule_114 (t0 : Int32) (h : PH) : Option (Int32 × PH) := if t0 = 1 then (if (0 : Int32) ≤ (h.1 66 50) then (f_X9_takeRule_151 t0 h) else (f_X9_takeRule_127 t0 h)) else (f_X9_takeRule_127 t0 h)
set_option maxHeartbeats 4000000 in
set_option maxRecDepth 100000 in
theorem w_X9_takeRule_114 {l : Launch} {G : GC} (hG : GOK G) {rr : Int32} {hh : PH} {p : Program} {e : Env} {s : State} {m : MethodId} {args : Array Value} {below : List Frame} {meth : Method} {c : Code} (C : MC l G p s m args meth c RX9 cX9_takeRule 6 (some .int)) : ∀ (t0 : Int32) (h : PH) (H : Heap) (locs : List Loc) (ls : Array Slot), lv_has ls 6 [(0, .ref (gB G 66))] → WP G h H → SP G s H locs → f_X9_takeRule_114 t0 h = some (rr, hh) → W p l e rmX9_takeRule s m args below meth c H locs 0 0 (MQ below (QI G rr hh) args s 0 0 (gA G)) (F0 m 114 ls [.int t0]) := by
  obtain ⟨hx, hb, hr, hlocks, hml, hown, hts, hK⟩ := id C
  intro t0 h H locs ls hl hP hS hf
  rw [f_X9_takeRule_114] at hf
  refine lv_istore_n (lv' := [(3, .int t0), (0, .ref (gB G 66))]) hx hb dX9_takeRule_114 rfl hl (by decide) rfl (fun ls hl => ?_)
  refine lv_iload_n hx hb dX9_takeRule_115 rfl (lv_at hl 0 rfl) ?_
  refine lv_iconst (v := 1) hx hb dX9_takeRule_116 (by decide) ?_
  refine lv_icmp_ne (tgt := 127) hx hb dX9_takeRule_117 (by decide) (fun c117 => ?_) (fun c117 => ?_)
  · replace hf := if_f c117 hf
    exact w_X9_takeRule_127 hG C t0 h _ _ _ (lv_sub hl [1, 0] rfl) hP hS hf
  · replace hf := if_t c117 hf
    refine lv_aload_n hx hb dX9_takeRule_120 rfl (lv_at hl 1 rfl) ?_
    refine r_get (a := 66) (v := .int (h.1 66 50)) (C := RX9) (T := TX9) (N := 55) hx hb hts hinX9 hown hK hP (ltX9 rfl) (ceX9 rfl) rfl 50 (by decide) wd1085 rfl dX9_takeRule_121 ?_
    refine lv_if_ge (tgt := 151) hx hb dX9_takeRule_124 (by decide) (fun c124 => ?_) (fun c124 => ?_)
    · replace hf := if_t c124 hf
      exact w_X9_takeRule_151 hG C t0 h _ _ _ (lv_sub hl [1, 0] rfl) hP hS hf
    · replace hf := if_f c124 hf
      exact w_X9_takeRule_127 hG C t0 h _ _ _ (lv_sub hl [1, 0] rfl) hP hS hf
def f_X9_takeRule (h : PH) : Option (Int32 × PH) := bO (f_X9_readWord h) (fun h1 => bO (f_X9_code 102 114 101 101) (fun r12 => bO (f_X9_longer r12 122) (fun r17 => bO (f_X9_longer r17 101) (fun r22 => if (lg_cmp h1.2 r22) = 0 then (f_X9_takeRule_114 0 h1) else (bO (f_X9_code 114 105 115 107) (fun r51 => if (lg_cmp h1.2 r51) = 0 then (f_X9_takeRule_114 1 h1) else (bO (f_X9_code 119 101 105 103) (fun r74 => bO (f_X9_longer r74 104) (fun r79 => if (lg_cmp h1.2 r79) = 0 then (f_X9_takeRule_114 2 h1) else (bO (f_X9_code 111 110 108 121) (fun r102 => if (lg_cmp h1.2 r102) = 0 then (f_X9_takeRule_114 3 h1) else (f_X9_takeRule_114 (-1) h1))))))))))))
set_option maxHeartbeats 4000000 in
set_option maxRecDepth 100000 in
theorem k_X9_takeRule (l : Launch) {G : GC} (hG : GOK G) {rr : Int32} {h hh : PH} (hf : f_X9_takeRule h = some (rr, hh)) : CI l yX9_takeRule vX9_takeRule rmX9_takeRule G [.ref (gB G 66)] h rr hh := by
  refine Met.ofW (cc := cX9_takeRule) (maxL := 6) (ret := (some .int)) (by decide +kernel) rfl ?_
  intro p e s m args below meth c s₁ B hml hv
  obtain ⟨rfl, hP, hK⟩ := hv
  have C : MC l G p s m _ meth c RX9 cX9_takeRule 6 (some .int) := ⟨B.exec, B.bytes, B.returns, B.notSynchronized, hml, findClass_of_methodNamed B.named, fun w hw => atoms_spec (ws := vX9_takeRule) B.pre w (List.mem_cons_of_mem _ hw), hK⟩
  obtain ⟨hx, hb, hr, hlocks, -, hown, hts, -⟩ := id C
  have hl := lv_entry ([.ref (gB G 66)]) (n := 6) (Nat.le_of_ble_eq_true rfl)
  rw [lg_entry_eq]
  generalize (lg_sl ([.ref (gB G 66)]) ++ List.replicate (6 - (lg_sl ([.ref (gB G 66)])).length) Slot.unset).toArray = ls at hl ⊢
  have hl : lv_has ls 6 [(0, .ref (gB G 66))] := hl
  have hS : SP G s s.heap [] := va_S.rf
  replace hP : WP G h s.heap := hP
  rw [f_X9_takeRule] at hf
  refine lv_aload_n hx hb dX9_takeRule_0 rfl (lv_at hl 0 rfl) ?_
  obtain ⟨h1, eh1, hf⟩ := bO_s hf
  refine r_callV (va_runV (As := []) (rest := []) ⟨hx, hb, hml, hown, hts⟩ (k_X9_readWord l hG eh1) (cwV 0 hts (gV wd1222 wd1224 wd29 wd82 wd1225) rfl rfl rfl (by decide +kernel) ⟨Nat.le_of_ble_eq_true rfl, Nat.le_of_ble_eq_true rfl⟩) (r_pv hK hP hS (ltX9 rfl) (ceX9 rfl) rfl) rfl rfl hl.1 rfl (lv_room (Nat.le_of_ble_eq_true rfl)) dX9_takeRule_1 ⟨Nat.le_of_ble_eq_true rfl, Nat.le_of_ble_eq_true rfl⟩) hS (fun H locs hP hS => ?_)
  refine lv_bipush (v := 102) hx hb dX9_takeRule_4 (by decide) ?_
  refine lv_bipush (v := 114) hx hb dX9_takeRule_6 (by decide) ?_
  refine lv_bipush (v := 101) hx hb dX9_takeRule_8 (by decide) ?_
  refine lv_bipush (v := 101) hx hb dX9_takeRule_10 (by decide) ?_
  obtain ⟨r12, er12, hf⟩ := bO_s hf
  refine r_callL (va_runS (As := [.int 102, .int 114, .int 101, .int 101]) (rest := []) ⟨hx, hb, hml, hown, hts⟩ (k_X9_code l hG (h := h1) er12) (va_cwS 4 hts (gS wd1232 wd1233 wd82 wd1234) rfl rfl rfl (by decide +kernel) ⟨Nat.le_of_ble_eq_true rfl, Nat.le_of_ble_eq_true rfl⟩) (r_ps hK hP hS) rfl rfl hl.1 rfl (lv_room (Nat.le_of_ble_eq_true rfl)) dX9_takeRule_12 ⟨Nat.le_of_ble_eq_true rfl, Nat.le_of_ble_eq_true rfl⟩) hS (fun H locs hP hS => ?_)
  refine lv_bipush (v := 122) hx hb dX9_takeRule_15 (by decide) ?_
  obtain ⟨r17, er17, hf⟩ := bO_s hf
  refine r_callL (va_runS (As := [.long r12, .int 122]) (rest := []) ⟨hx, hb, hml, hown, hts⟩ (k_X9_longer l hG (h := h1) er17) (va_cwS 2 hts (gS wd1235 wd1236 wd82 wd1237) rfl rfl rfl (by decide +kernel) ⟨Nat.le_of_ble_eq_true rfl, Nat.le_of_ble_eq_true rfl⟩) (r_ps hK hP hS) rfl rfl hl.1 rfl (lv_room (Nat.le_of_ble_eq_true rfl)) dX9_takeRule_17 ⟨Nat.le_of_ble_eq_true rfl, Nat.le_of_ble_eq_true rfl⟩) hS (fun H locs hP hS => ?_)
  refine lv_bipush (v := 101) hx hb dX9_takeRule_20 (by decide) ?_
  obtain ⟨r22, er22, hf⟩ := bO_s hf
  refine r_callL (va_runS (As := [.long r17, .int 101]) (rest := []) ⟨hx, hb, hml, hown, hts⟩ (k_X9_longer l hG (h := h1) er22) (va_cwS 2 hts (gS wd1235 wd1236 wd82 wd1237) rfl rfl rfl (by decide +kernel) ⟨Nat.le_of_ble_eq_true rfl, Nat.le_of_ble_eq_true rfl⟩) (r_ps hK hP hS) rfl rfl hl.1 rfl (lv_room (Nat.le_of_ble_eq_true rfl)) dX9_takeRule_22 ⟨Nat.le_of_ble_eq_true rfl, Nat.le_of_ble_eq_true rfl⟩) hS (fun H locs hP hS => ?_)
  refine lv_lstore_n (lv' := [(1, .long r22), (0, .ref (gB G 66))]) hx hb dX9_takeRule_25 rfl hl (by decide) rfl (fun ls hl => ?_)
  refine lv_aload_n hx hb dX9_takeRule_26 rfl (lv_at hl 1 rfl) ?_
  refine r_get (a := 66) (v := .long h1.2) (C := RX9) (T := TX9) (N := 55) hx hb hts hinX9 hown hK hP (ltX9 rfl) (ceX9 rfl) rfl 23 (by decide) wd1058 rfl dX9_takeRule_27 ?_
  refine lv_lload_n hx hb dX9_takeRule_30 rfl (lv_at hl 0 rfl) ?_
  refine W.lcmp hx hb dX9_takeRule_31 ?_
  refine lv_if_ne (tgt := 39) hx hb dX9_takeRule_32 (by decide) (fun c32 => ?_) (fun c32 => ?_)
  · replace hf := if_f c32 hf
    refine lv_aload_n hx hb dX9_takeRule_39 rfl (lv_at hl 1 rfl) ?_
    refine r_get (a := 66) (v := .long h1.2) (C := RX9) (T := TX9) (N := 55) hx hb hts hinX9 hown hK hP (ltX9 rfl) (ceX9 rfl) rfl 23 (by decide) wd1058 rfl dX9_takeRule_40 ?_
    refine lv_bipush (v := 114) hx hb dX9_takeRule_43 (by decide) ?_
    refine lv_bipush (v := 105) hx hb dX9_takeRule_45 (by decide) ?_
    refine lv_bipush (v := 115) hx hb dX9_takeRule_47 (by decide) ?_
    refine lv_bipush (v := 107) hx hb dX9_takeRule_49 (by decide) ?_
    obtain ⟨r51, er51, hf⟩ := bO_s hf
    refine r_callL (va_runS (As := [.int 114, .int 105, .int 115, .int 107]) (rest := [.long h1.2]) ⟨hx, hb, hml, hown, hts⟩ (k_X9_code l hG (h := h1) er51) (va_cwS 4 hts (gS wd1232 wd1233 wd82 wd1234) rfl rfl rfl (by decide +kernel) ⟨Nat.le_of_ble_eq_true rfl, Nat.le_of_ble_eq_true rfl⟩) (r_ps hK hP hS) rfl rfl hl.1 rfl (lv_room (Nat.le_of_ble_eq_true rfl)) dX9_takeRule_51 ⟨Nat.le_of_ble_eq_true rfl, Nat.le_of_ble_eq_true rfl⟩) hS (fun H locs hP hS => ?_)
    refine W.lcmp hx hb dX9_takeRule_54 ?_
    refine lv_if_ne (tgt := 62) hx hb dX9_takeRule_55 (by decide) (fun c55 => ?_) (fun c55 => ?_)
    · replace hf := if_f c55 hf
      refine lv_aload_n hx hb dX9_takeRule_62 rfl (lv_at hl 1 rfl) ?_
      refine r_get (a := 66) (v := .long h1.2) (C := RX9) (T := TX9) (N := 55) hx hb hts hinX9 hown hK hP (ltX9 rfl) (ceX9 rfl) rfl 23 (by decide) wd1058 rfl dX9_takeRule_63 ?_
      refine lv_bipush (v := 119) hx hb dX9_takeRule_66 (by decide) ?_
      refine lv_bipush (v := 101) hx hb dX9_takeRule_68 (by decide) ?_
      refine lv_bipush (v := 105) hx hb dX9_takeRule_70 (by decide) ?_
      refine lv_bipush (v := 103) hx hb dX9_takeRule_72 (by decide) ?_
      obtain ⟨r74, er74, hf⟩ := bO_s hf
      refine r_callL (va_runS (As := [.int 119, .int 101, .int 105, .int 103]) (rest := [.long h1.2]) ⟨hx, hb, hml, hown, hts⟩ (k_X9_code l hG (h := h1) er74) (va_cwS 4 hts (gS wd1232 wd1233 wd82 wd1234) rfl rfl rfl (by decide +kernel) ⟨Nat.le_of_ble_eq_true rfl, Nat.le_of_ble_eq_true rfl⟩) (r_ps hK hP hS) rfl rfl hl.1 rfl (lv_room (Nat.le_of_ble_eq_true rfl)) dX9_takeRule_74 ⟨Nat.le_of_ble_eq_true rfl, Nat.le_of_ble_eq_true rfl⟩) hS (fun H locs hP hS => ?_)
      refine lv_bipush (v := 104) hx hb dX9_takeRule_77 (by decide) ?_
      obtain ⟨r79, er79, hf⟩ := bO_s hf
      refine r_callL (va_runS (As := [.long r74, .int 104]) (rest := [.long h1.2]) ⟨hx, hb, hml, hown, hts⟩ (k_X9_longer l hG (h := h1) er79) (va_cwS 2 hts (gS wd1235 wd1236 wd82 wd1237) rfl rfl rfl (by decide +kernel) ⟨Nat.le_of_ble_eq_true rfl, Nat.le_of_ble_eq_true rfl⟩) (r_ps hK hP hS) rfl rfl hl.1 rfl (lv_room (Nat.le_of_ble_eq_true rfl)) dX9_takeRule_79 ⟨Nat.le_of_ble_eq_true rfl, Nat.le_of_ble_eq_true rfl⟩) hS (fun H locs hP hS => ?_)
      refine W.lcmp hx hb dX9_takeRule_82 ?_
      refine lv_if_ne (tgt := 90) hx hb dX9_takeRule_83 (by decide) (fun c83 => ?_) (fun c83 => ?_)
      · replace hf := if_f c83 hf
        refine lv_aload_n hx hb dX9_takeRule_90 rfl (lv_at hl 1 rfl) ?_
        refine r_get (a := 66) (v := .long h1.2) (C := RX9) (T := TX9) (N := 55) hx hb hts hinX9 hown hK hP (ltX9 rfl) (ceX9 rfl) rfl 23 (by decide) wd1058 rfl dX9_takeRule_91 ?_
        refine lv_bipush (v := 111) hx hb dX9_takeRule_94 (by decide) ?_
        refine lv_bipush (v := 110) hx hb dX9_takeRule_96 (by decide) ?_
        refine lv_bipush (v := 108) hx hb dX9_takeRule_98 (by decide) ?_
        refine lv_bipush (v := 121) hx hb dX9_takeRule_100 (by decide) ?_
        obtain ⟨r102, er102, hf⟩ := bO_s hf
        refine r_callL (va_runS (As := [.int 111, .int 110, .int 108, .int 121]) (rest := [.long h1.2]) ⟨hx, hb, hml, hown, hts⟩ (k_X9_code l hG (h := h1) er102) (va_cwS 4 hts (gS wd1232 wd1233 wd82 wd1234) rfl rfl rfl (by decide +kernel) ⟨Nat.le_of_ble_eq_true rfl, Nat.le_of_ble_eq_true rfl⟩) (r_ps hK hP hS) rfl rfl hl.1 rfl (lv_room (Nat.le_of_ble_eq_true rfl)) dX9_takeRule_102 ⟨Nat.le_of_ble_eq_true rfl, Nat.le_of_ble_eq_true rfl⟩) hS (fun H locs hP hS => ?_)
        refine W.lcmp hx hb dX9_takeRule_105 ?_
        refine lv_if_ne (tgt := 113) hx hb dX9_takeRule_106 (by decide) (fun c106 => ?_) (fun c106 => ?_)
        · replace hf := if_f c106 hf
          refine lv_iconst (v := (-1)) hx hb dX9_takeRule_113 (by decide) ?_
          exact w_X9_takeRule_114 hG C (-1) h1 _ _ _ (lv_sub hl [1] rfl) hP hS hf
        · replace hf := if_t c106 hf
          refine lv_iconst (v := 3) hx hb dX9_takeRule_109 (by decide) ?_
          refine lv_goto (tgt := 114) hx hb dX9_takeRule_110 (by decide) ?_
          exact w_X9_takeRule_114 hG C 3 h1 _ _ _ (lv_sub hl [1] rfl) hP hS hf
      · replace hf := if_t c83 hf
        refine lv_iconst (v := 2) hx hb dX9_takeRule_86 (by decide) ?_
        refine lv_goto (tgt := 114) hx hb dX9_takeRule_87 (by decide) ?_
        exact w_X9_takeRule_114 hG C 2 h1 _ _ _ (lv_sub hl [1] rfl) hP hS hf
    · replace hf := if_t c55 hf
      refine lv_iconst (v := 1) hx hb dX9_takeRule_58 (by decide) ?_
      refine lv_goto (tgt := 114) hx hb dX9_takeRule_59 (by decide) ?_
      exact w_X9_takeRule_114 hG C 1 h1 _ _ _ (lv_sub hl [1] rfl) hP hS hf
  · replace hf := if_t c32 hf
    refine lv_iconst (v := 0) hx hb dX9_takeRule_35 (by decide) ?_
    refine lv_goto (tgt := 114) hx hb dX9_takeRule_36 (by decide) ?_
    exact w_X9_takeRule_114 hG C 0 h1 _ _ _ (lv_sub hl [1] rfl) hP hS hf
/-! CarriedBackModel.policy()I -/
abbrev rmX9_policy : Room := { frames := 4, cells := 0, slots := 0, locals := 95 }
abbrev vX9_policy : List Cond := Cond.code yX9_policy cX9_policy 4 (some .int) :: GW
def f_X9_policy_98 (x1 : Int32) : Nat → Int32 → PH → Option (Int32 × PH)
  | 0, _, _ => none
  | n + 1, x3, h => if (h.1 66 41) ≤ x3 then (lt' (hU h 66 44 (h.1 66 50)) (fun h141 => lt' (hU h141 66 45 (h141.1 66 51)) (fun h149 => lt' (hU h149 66 46 (h149.1 66 52)) (fun h157 => some (x1, h157))))) else (bO (ag h 94 8 x3) (fun v116 => bO (asg h 92 8 x3 v116) (fun h117 => bO (ag h117 95 8 x3) (fun v128 => bO (asg h117 93 8 x3 v128) (fun h129 => (f_X9_policy_98 x1 n) (x3 + 1) h129)))))
set_option maxHeartbeats 4000000 in
set_option maxRecDepth 100000 in
theorem w_X9_policy_98 {l : Launch} {G : GC} (hG : GOK G) {rr : Int32} {hh : PH} {p : Program} {e : Env} {s : State} {m : MethodId} {args : Array Value} {below : List Frame} {meth : Method} {c : Code} (C : MC l G p s m args meth c RX9 cX9_policy 4 (some .int)) (x1 : Int32) : ∀ (n : Nat) (x3 : Int32) (h : PH) (H : Heap) (locs : List Loc) (ls : Array Slot), lv_has ls 4 [(0, .ref (gB G 66)), (1, .int x1), (3, .int x3)] → WP G h H → SP G s H locs → f_X9_policy_98 x1 n x3 h = some (rr, hh) → W p l e rmX9_policy s m args below meth c H locs 0 0 (MQ below (QI G rr hh) args s 0 0 (gA G)) (F0 m 98 ls []) := by
  obtain ⟨hx, hb, hr, hlocks, hml, hown, hts, hK⟩ := id C
  intro n
  induction n with
  | zero => intro x3 h H locs ls hl hP hS hf; rw [f_X9_policy_98] at hf; cases hf
  | succ n ih =>
    intro x3 h H locs ls hl hP hS hf
    rw [f_X9_policy_98] at hf
    refine lv_iload_n hx hb dX9_policy_98 rfl (lv_at hl 2 rfl) ?_
    refine lv_aload_n hx hb dX9_policy_99 rfl (lv_at hl 0 rfl) ?_
    refine r_get (a := 66) (v := .int (h.1 66 41)) (C := RX9) (T := TX9) (N := 55) hx hb hts hinX9 hown hK hP (ltX9 rfl) (ceX9 rfl) rfl 41 (by decide) wd1076 rfl dX9_policy_100 ?_
    refine lv_icmp_ge (tgt := 136) hx hb dX9_policy_103 (by decide) (fun c103 => ?_) (fun c103 => ?_)
    · replace hf := if_t c103 hf
      refine lv_aload_n hx hb dX9_policy_136 rfl (lv_at hl 0 rfl) ?_
      refine lv_aload_n hx hb dX9_policy_137 rfl (lv_at hl 0 rfl) ?_
      refine r_get (a := 66) (v := .int (h.1 66 50)) (C := RX9) (T := TX9) (N := 55) hx hb hts hinX9 hown hK hP (ltX9 rfl) (ceX9 rfl) rfl 50 (by decide) wd1085 rfl dX9_policy_138 ?_
      obtain ⟨h141, eh141⟩ : ∃ y, y = hU h 66 44 (h.1 66 50) := ⟨_, rfl⟩
      replace hf := lt_at eh141 hf
      refine r_put (a := 66) (v := .int (h.1 66 50)) (ty := .int) (h' := h141) (C := RX9) (T := TX9) (N := 55) hG hx hb hts hinX9 tyX9 tyX9_ok nmX9 hown hK hP hS (ltX9 rfl) (ceX9 rfl) rfl 44 (by decide) wd1079 rfl (by decide +kernel) rfl rfl (Nat.le_of_ble_eq_true rfl) (by rw [eh141]; exact fun j hj => cE_U hj) (by rw [eh141]; exact puX9_44 rfl _) dX9_policy_141 (fun H locs hP hS => ?_)
      refine lv_aload_n hx hb dX9_policy_144 rfl (lv_at hl 0 rfl) ?_
      refine lv_aload_n hx hb dX9_policy_145 rfl (lv_at hl 0 rfl) ?_
      refine r_get (a := 66) (v := .int (h141.1 66 51)) (C := RX9) (T := TX9) (N := 55) hx hb hts hinX9 hown hK hP (ltX9 rfl) (ceX9 rfl) rfl 51 (by decide) wd1086 rfl dX9_policy_146 ?_
      obtain ⟨h149, eh149⟩ : ∃ y, y = hU h141 66 45 (h141.1 66 51) := ⟨_, rfl⟩
      replace hf := lt_at eh149 hf
      refine r_put (a := 66) (v := .int (h141.1 66 51)) (ty := .int) (h' := h149) (C := RX9) (T := TX9) (N := 55) hG hx hb hts hinX9 tyX9 tyX9_ok nmX9 hown hK hP hS (ltX9 rfl) (ceX9 rfl) rfl 45 (by decide) wd1080 rfl (by decide +kernel) rfl rfl (Nat.le_of_ble_eq_true rfl) (by rw [eh149]; exact fun j hj => cE_U hj) (by rw [eh149]; exact puX9_45 rfl _) dX9_policy_149 (fun H locs hP hS => ?_)
      refine lv_aload_n hx hb dX9_policy_152 rfl (lv_at hl 0 rfl) ?_
      refine lv_aload_n hx hb dX9_policy_153 rfl (lv_at hl 0 rfl) ?_
      refine r_get (a := 66) (v := .int (h149.1 66 52)) (C := RX9) (T := TX9) (N := 55) hx hb hts hinX9 hown hK hP (ltX9 rfl) (ceX9 rfl) rfl 52 (by decide) wd1087 rfl dX9_policy_154 ?_
      obtain ⟨h157, eh157⟩ : ∃ y, y = hU h149 66 46 (h149.1 66 52) := ⟨_, rfl⟩
      replace hf := lt_at eh157 hf
      refine r_put (a := 66) (v := .int (h149.1 66 52)) (ty := .int) (h' := h157) (C := RX9) (T := TX9) (N := 55) hG hx hb hts hinX9 tyX9 tyX9_ok nmX9 hown hK hP hS (ltX9 rfl) (ceX9 rfl) rfl 46 (by decide) wd1081 rfl (by decide +kernel) rfl rfl (Nat.le_of_ble_eq_true rfl) (by rw [eh157]; exact fun j hj => cE_U hj) (by rw [eh157]; exact puX9_46 rfl _) dX9_policy_157 (fun H locs hP hS => ?_)
      refine lv_iload_n hx hb dX9_policy_160 rfl (lv_at hl 1 rfl) ?_
      exact r_iret hx hb hr hlocks hP hS (re2 (Option.some.inj hf)) dX9_policy_161
    · replace hf := if_f c103 hf
      refine lv_aload_n hx hb dX9_policy_106 rfl (lv_at hl 0 rfl) ?_
      refine r_get (a := 66) (v := .ref (gB G 92)) (C := RX9) (T := TX9) (N := 55) hx hb hts hinX9 hown hK hP (ltX9 rfl) (ceX9 rfl) rfl 42 (by decide) wd1077 rfl dX9_policy_107 ?_
      refine lv_iload_n hx hb dX9_policy_110 rfl (lv_at hl 2 rfl) ?_
      refine lv_aload_n hx hb dX9_policy_111 rfl (lv_at hl 0 rfl) ?_
      refine r_get (a := 66) (v := .ref (gB G 94)) (C := RX9) (T := TX9) (N := 55) hx hb hts hinX9 hown hK hP (ltX9 rfl) (ceX9 rfl) rfl 48 (by decide) wd1083 rfl dX9_policy_112 ?_
      refine lv_iload_n hx hb dX9_policy_115 rfl (lv_at hl 2 rfl) ?_
      obtain ⟨v116, ev116, hf⟩ := bO_s hf
      refine r_iald hx hb hK hP (arX9_48 rfl) ev116 dX9_policy_116 ?_
      obtain ⟨h117, eh117, hf⟩ := bO_s hf
      refine r_iast hG hx hb hK hP hS (arX9_42 rfl) eh117 dX9_policy_117 (fun H locs hP hS => ?_)
      refine lv_aload_n hx hb dX9_policy_118 rfl (lv_at hl 0 rfl) ?_
      refine r_get (a := 66) (v := .ref (gB G 93)) (C := RX9) (T := TX9) (N := 55) hx hb hts hinX9 hown hK hP (ltX9 rfl) (ceX9 rfl) rfl 43 (by decide) wd1078 rfl dX9_policy_119 ?_
      refine lv_iload_n hx hb dX9_policy_122 rfl (lv_at hl 2 rfl) ?_
      refine lv_aload_n hx hb dX9_policy_123 rfl (lv_at hl 0 rfl) ?_
      refine r_get (a := 66) (v := .ref (gB G 95)) (C := RX9) (T := TX9) (N := 55) hx hb hts hinX9 hown hK hP (ltX9 rfl) (ceX9 rfl) rfl 49 (by decide) wd1084 rfl dX9_policy_124 ?_
      refine lv_iload_n hx hb dX9_policy_127 rfl (lv_at hl 2 rfl) ?_
      obtain ⟨v128, ev128, hf⟩ := bO_s hf
      refine r_iald hx hb hK hP (arX9_49 rfl) ev128 dX9_policy_128 ?_
      obtain ⟨h129, eh129, hf⟩ := bO_s hf
      refine r_iast hG hx hb hK hP hS (arX9_43 rfl) eh129 dX9_policy_129 (fun H locs hP hS => ?_)
      refine lv_iinc (v := (x3 + 1)) (lv' := [(3, .int (x3 + 1)), (0, .ref (gB G 66)), (1, .int x1)]) hx hb dX9_policy_130 hl (k := 2) rfl rfl (by decide) rfl (fun ls hl => ?_)
      refine lv_goto (tgt := 98) hx hb dX9_policy_133 (by decide) ?_
      exact ih (x3 + 1) h129 _ _ _ (lv_sub hl [1, 2, 0] rfl) hP hS hf
def f_X9_policy_74 (x1 : Int32) (x2 : Int32) (h : PH) : Option (Int32 × PH) := lt' (hU h 66 19 0) (fun h76 => if x2 ≤ 0 then (lt' (hU h76 66 41 (h76.1 66 47)) (fun h93 => f_X9_policy_98 x1 FU 0 h93)) else (some (((-10) - x2), h76)))
set_option maxHeartbeats 4000000 in
set_option maxRecDepth 100000 in
theorem w_X9_policy_74 {l : Launch} {G : GC} (hG : GOK G) {rr : Int32} {hh : PH} {p : Program} {e : Env} {s : State} {m : MethodId} {args : Array Value} {below : List Frame} {meth : Method} {c : Code} (C : MC l G p s m args meth c RX9 cX9_policy 4 (some .int)) : ∀ (x1 : Int32) (x2 : Int32) (h : PH) (H : Heap) (locs : List Loc) (ls : Array Slot), lv_has ls 4 [(0, .ref (gB G 66)), (1, .int x1), (2, .int x2)] → WP G h H → SP G s H locs → f_X9_policy_74 x1 x2 h = some (rr, hh) → W p l e rmX9_policy s m args below meth c H locs 0 0 (MQ below (QI G rr hh) args s 0 0 (gA G)) (F0 m 74 ls []) := by
  obtain ⟨hx, hb, hr, hlocks, hml, hown, hts, hK⟩ := id C
  intro x1 x2 h H locs ls hl hP hS hf
  rw [f_X9_policy_74] at hf
  refine lv_aload_n hx hb dX9_policy_74 rfl (lv_at hl 0 rfl) ?_
  refine lv_iconst (v := 0) hx hb dX9_policy_75 (by decide) ?_
  obtain ⟨h76, eh76⟩ : ∃ y, y = hU h 66 19 0 := ⟨_, rfl⟩
  replace hf := lt_at eh76 hf
  refine r_put (a := 66) (v := .int 0) (ty := .int) (h' := h76) (C := RX9) (T := TX9) (N := 55) hG hx hb hts hinX9 tyX9 tyX9_ok nmX9 hown hK hP hS (ltX9 rfl) (ceX9 rfl) rfl 19 (by decide) wd1054 rfl (by decide +kernel) rfl rfl (Nat.le_of_ble_eq_true rfl) (by rw [eh76]; exact fun j hj => cE_U hj) (by rw [eh76]; exact puX9_19 rfl _) dX9_policy_76 (fun H locs hP hS => ?_)
  refine lv_iload_n hx hb dX9_policy_79 rfl (lv_at hl 2 rfl) ?_
  refine lv_if_le (tgt := 88) hx hb dX9_policy_80 (by decide) (fun c80 => ?_) (fun c80 => ?_)
  · replace hf := if_t c80 hf
    refine lv_aload_n hx hb dX9_policy_88 rfl (lv_at hl 0 rfl) ?_
    refine lv_aload_n hx hb dX9_policy_89 rfl (lv_at hl 0 rfl) ?_
    refine r_get (a := 66) (v := .int (h76.1 66 47)) (C := RX9) (T := TX9) (N := 55) hx hb hts hinX9 hown hK hP (ltX9 rfl) (ceX9 rfl) rfl 47 (by decide) wd1082 rfl dX9_policy_90 ?_
    obtain ⟨h93, eh93⟩ : ∃ y, y = hU h76 66 41 (h76.1 66 47) := ⟨_, rfl⟩
    replace hf := lt_at eh93 hf
    refine r_put (a := 66) (v := .int (h76.1 66 47)) (ty := .int) (h' := h93) (C := RX9) (T := TX9) (N := 55) hG hx hb hts hinX9 tyX9 tyX9_ok nmX9 hown hK hP hS (ltX9 rfl) (ceX9 rfl) rfl 41 (by decide) wd1076 rfl (by decide +kernel) rfl rfl (Nat.le_of_ble_eq_true rfl) (by rw [eh93]; exact fun j hj => cE_U hj) (by rw [eh93]; exact puX9_41 rfl _) dX9_policy_93 (fun H locs hP hS => ?_)
    refine lv_iconst (v := 0) hx hb dX9_policy_96 (by decide) ?_
    refine lv_istore_n (lv' := [(3, .int 0), (0, .ref (gB G 66)), (1, .int x1), (2, .int x2)]) hx hb dX9_policy_97 rfl hl (by decide) rfl (fun ls hl => ?_)
    exact w_X9_policy_98 hG C x1 FU 0 h93 _ _ _ (lv_sub hl [1, 2, 0] rfl) hP hS hf
  · replace hf := if_f c80 hf
    refine lv_bipush (v := (-10)) hx hb dX9_policy_83 (by decide) ?_
    refine lv_iload_n hx hb dX9_policy_85 rfl (lv_at hl 2 rfl) ?_
    refine lv_isub hx hb dX9_policy_86 ?_
    exact r_iret hx hb hr hlocks hP hS (re2 (Option.some.inj hf)) dX9_policy_87
def f_X9_policy_52 : Nat → Int32 → Int32 → PH → Option (Int32 × PH)
  | 0, _, _, _ => none
  | n + 1, x1, x2, h => if x2 = 0 then (bP (f_X9_here h) (fun r57 h57 => if r57 < 0 then (f_X9_policy_74 x1 x2 h57) else (bP (f_X9_takeRule h57) (fun r64 h64 => (f_X9_policy_52 n) (x1 + 1) r64 h64)))) else (f_X9_policy_74 x1 x2 h)
set_option maxHeartbeats 4000000 in
set_option maxRecDepth 100000 in
theorem w_X9_policy_52 {l : Launch} {G : GC} (hG : GOK G) {rr : Int32} {hh : PH} {p : Program} {e : Env} {s : State} {m : MethodId} {args : Array Value} {below : List Frame} {meth : Method} {c : Code} (C : MC l G p s m args meth c RX9 cX9_policy 4 (some .int)) : ∀ (n : Nat) (x1 : Int32) (x2 : Int32) (h : PH) (H : Heap) (locs : List Loc) (ls : Array Slot), lv_has ls 4 [(0, .ref (gB G 66)), (1, .int x1), (2, .int x2)] → WP G h H → SP G s H locs → f_X9_policy_52 n x1 x2 h = some (rr, hh) → W p l e rmX9_policy s m args below meth c H locs 0 0 (MQ below (QI G rr hh) args s 0 0 (gA G)) (F0 m 52 ls []) := by
  obtain ⟨hx, hb, hr, hlocks, hml, hown, hts, hK⟩ := id C
  intro n
  induction n with
  | zero => intro x1 x2 h H locs ls hl hP hS hf; rw [f_X9_policy_52] at hf; cases hf
  | succ n ih =>
    intro x1 x2 h H locs ls hl hP hS hf
    rw [f_X9_policy_52] at hf
    refine lv_iload_n hx hb dX9_policy_52 rfl (lv_at hl 2 rfl) ?_
    refine lv_if_ne (tgt := 74) hx hb dX9_policy_53 (by decide) (fun c53 => ?_) (fun c53 => ?_)
    · replace hf := if_f c53 hf
      exact w_X9_policy_74 hG C x1 x2 h _ _ _ (lv_sub hl [0, 1, 2] rfl) hP hS hf
    · replace hf := if_t c53 hf
      refine lv_aload_n hx hb dX9_policy_56 rfl (lv_at hl 0 rfl) ?_
      obtain ⟨r57, h57, er57, hf⟩ := bP_s hf
      refine r_callI (va_runV (As := []) (rest := []) ⟨hx, hb, hml, hown, hts⟩ (k_X9_here l hG er57) (cwV 0 hts (gV wd1214 wd1216 wd27 wd82 wd1217) rfl rfl rfl (by decide +kernel) ⟨Nat.le_of_ble_eq_true rfl, Nat.le_of_ble_eq_true rfl⟩) (r_pv hK hP hS (ltX9 rfl) (ceX9 rfl) rfl) rfl rfl hl.1 rfl (lv_room (Nat.le_of_ble_eq_true rfl)) dX9_policy_57 ⟨Nat.le_of_ble_eq_true rfl, Nat.le_of_ble_eq_true rfl⟩) hS (fun H locs hP hS => ?_)
      refine lv_if_lt (tgt := 74) hx hb dX9_policy_60 (by decide) (fun c60 => ?_) (fun c60 => ?_)
      · replace hf := if_t c60 hf
        exact w_X9_policy_74 hG C x1 x2 h57 _ _ _ (lv_sub hl [0, 1, 2] rfl) hP hS hf
      · replace hf := if_f c60 hf
        refine lv_aload_n hx hb dX9_policy_63 rfl (lv_at hl 0 rfl) ?_
        obtain ⟨r64, h64, er64, hf⟩ := bP_s hf
        refine r_callI (va_runV (As := []) (rest := []) ⟨hx, hb, hml, hown, hts⟩ (k_X9_takeRule l hG er64) (cwV 0 hts (gV wd1553 wd1555 wd69 wd82 wd1556) rfl rfl rfl (by decide +kernel) ⟨Nat.le_of_ble_eq_true rfl, Nat.le_of_ble_eq_true rfl⟩) (r_pv hK hP hS (ltX9 rfl) (ceX9 rfl) rfl) rfl rfl hl.1 rfl (lv_room (Nat.le_of_ble_eq_true rfl)) dX9_policy_64 ⟨Nat.le_of_ble_eq_true rfl, Nat.le_of_ble_eq_true rfl⟩) hS (fun H locs hP hS => ?_)
        refine lv_istore_n (lv' := [(2, .int r64), (0, .ref (gB G 66)), (1, .int x1)]) hx hb dX9_policy_67 rfl hl (by decide) rfl (fun ls hl => ?_)
        refine lv_iinc (v := (x1 + 1)) (lv' := [(1, .int (x1 + 1)), (2, .int r64), (0, .ref (gB G 66))]) hx hb dX9_policy_68 hl (k := 2) rfl rfl (by decide) rfl (fun ls hl => ?_)
        refine lv_goto (tgt := 52) hx hb dX9_policy_71 (by decide) ?_
        exact ih (x1 + 1) r64 h64 _ _ _ (lv_sub hl [2, 0, 1] rfl) hP hS hf
def f_X9_policy (h : PH) : Option (Int32 × PH) := if (h.1 66 19) ≤ 120 then (lt' (hU h 66 20 (-1)) (fun h15 => lt' (hU h15 66 21 0) (fun h20 => lt' (hU h20 66 22 3) (fun h25 => lt' (hU h25 66 47 0) (fun h30 => lt' (hU h30 66 50 (-1)) (fun h35 => lt' (hU h35 66 51 (-1)) (fun h40 => lt' (hU h40 66 52 0) (fun h45 => f_X9_policy_52 FU 0 0 h45)))))))) else (some ((-1003), h))
set_option maxHeartbeats 4000000 in
set_option maxRecDepth 100000 in
theorem k_X9_policy (l : Launch) {G : GC} (hG : GOK G) {rr : Int32} {h hh : PH} (hf : f_X9_policy h = some (rr, hh)) : CI l yX9_policy vX9_policy rmX9_policy G [.ref (gB G 66)] h rr hh := by
  refine Met.ofW (cc := cX9_policy) (maxL := 4) (ret := (some .int)) (by decide +kernel) rfl ?_
  intro p e s m args below meth c s₁ B hml hv
  obtain ⟨rfl, hP, hK⟩ := hv
  have C : MC l G p s m _ meth c RX9 cX9_policy 4 (some .int) := ⟨B.exec, B.bytes, B.returns, B.notSynchronized, hml, findClass_of_methodNamed B.named, fun w hw => atoms_spec (ws := vX9_policy) B.pre w (List.mem_cons_of_mem _ hw), hK⟩
  obtain ⟨hx, hb, hr, hlocks, -, hown, hts, -⟩ := id C
  have hl := lv_entry ([.ref (gB G 66)]) (n := 4) (Nat.le_of_ble_eq_true rfl)
  rw [lg_entry_eq]
  generalize (lg_sl ([.ref (gB G 66)]) ++ List.replicate (4 - (lg_sl ([.ref (gB G 66)])).length) Slot.unset).toArray = ls at hl ⊢
  have hl : lv_has ls 4 [(0, .ref (gB G 66))] := hl
  have hS : SP G s s.heap [] := va_S.rf
  replace hP : WP G h s.heap := hP
  rw [f_X9_policy] at hf
  refine lv_aload_n hx hb dX9_policy_0 rfl (lv_at hl 0 rfl) ?_
  refine r_get (a := 66) (v := .int (h.1 66 19)) (C := RX9) (T := TX9) (N := 55) hx hb hts hinX9 hown hK hP (ltX9 rfl) (ceX9 rfl) rfl 19 (by decide) wd1054 rfl dX9_policy_1 ?_
  refine lv_bipush (v := 120) hx hb dX9_policy_4 (by decide) ?_
  refine lv_icmp_le (tgt := 13) hx hb dX9_policy_6 (by decide) (fun c6 => ?_) (fun c6 => ?_)
  · replace hf := if_t c6 hf
    refine lv_aload_n hx hb dX9_policy_13 rfl (lv_at hl 0 rfl) ?_
    refine lv_iconst (v := (-1)) hx hb dX9_policy_14 (by decide) ?_
    obtain ⟨h15, eh15⟩ : ∃ y, y = hU h 66 20 (-1) := ⟨_, rfl⟩
    replace hf := lt_at eh15 hf
    refine r_put (a := 66) (v := .int (-1)) (ty := .int) (h' := h15) (C := RX9) (T := TX9) (N := 55) hG hx hb hts hinX9 tyX9 tyX9_ok nmX9 hown hK hP hS (ltX9 rfl) (ceX9 rfl) rfl 20 (by decide) wd1055 rfl (by decide +kernel) rfl rfl (Nat.le_of_ble_eq_true rfl) (by rw [eh15]; exact fun j hj => cE_U hj) (by rw [eh15]; exact puX9_20 rfl _) dX9_policy_15 (fun H locs hP hS => ?_)
    refine lv_aload_n hx hb dX9_policy_18 rfl (lv_at hl 0 rfl) ?_
    refine lv_iconst (v := 0) hx hb dX9_policy_19 (by decide) ?_
    obtain ⟨h20, eh20⟩ : ∃ y, y = hU h15 66 21 0 := ⟨_, rfl⟩
    replace hf := lt_at eh20 hf
    refine r_put (a := 66) (v := .int 0) (ty := .int) (h' := h20) (C := RX9) (T := TX9) (N := 55) hG hx hb hts hinX9 tyX9 tyX9_ok nmX9 hown hK hP hS (ltX9 rfl) (ceX9 rfl) rfl 21 (by decide) wd1056 rfl (by decide +kernel) rfl rfl (Nat.le_of_ble_eq_true rfl) (by rw [eh20]; exact fun j hj => cE_U hj) (by rw [eh20]; exact puX9_21 rfl _) dX9_policy_20 (fun H locs hP hS => ?_)
    refine lv_aload_n hx hb dX9_policy_23 rfl (lv_at hl 0 rfl) ?_
    refine lv_iconst (v := 3) hx hb dX9_policy_24 (by decide) ?_
    obtain ⟨h25, eh25⟩ : ∃ y, y = hU h20 66 22 3 := ⟨_, rfl⟩
    replace hf := lt_at eh25 hf
    refine r_put (a := 66) (v := .int 3) (ty := .int) (h' := h25) (C := RX9) (T := TX9) (N := 55) hG hx hb hts hinX9 tyX9 tyX9_ok nmX9 hown hK hP hS (ltX9 rfl) (ceX9 rfl) rfl 22 (by decide) wd1057 rfl (by decide +kernel) rfl rfl (Nat.le_of_ble_eq_true rfl) (by rw [eh25]; exact fun j hj => cE_U hj) (by rw [eh25]; exact puX9_22 rfl _) dX9_policy_25 (fun H locs hP hS => ?_)
    refine lv_aload_n hx hb dX9_policy_28 rfl (lv_at hl 0 rfl) ?_
    refine lv_iconst (v := 0) hx hb dX9_policy_29 (by decide) ?_
    obtain ⟨h30, eh30⟩ : ∃ y, y = hU h25 66 47 0 := ⟨_, rfl⟩
    replace hf := lt_at eh30 hf
    refine r_put (a := 66) (v := .int 0) (ty := .int) (h' := h30) (C := RX9) (T := TX9) (N := 55) hG hx hb hts hinX9 tyX9 tyX9_ok nmX9 hown hK hP hS (ltX9 rfl) (ceX9 rfl) rfl 47 (by decide) wd1082 rfl (by decide +kernel) rfl rfl (Nat.le_of_ble_eq_true rfl) (by rw [eh30]; exact fun j hj => cE_U hj) (by rw [eh30]; exact puX9_47 rfl _) dX9_policy_30 (fun H locs hP hS => ?_)
    refine lv_aload_n hx hb dX9_policy_33 rfl (lv_at hl 0 rfl) ?_
    refine lv_iconst (v := (-1)) hx hb dX9_policy_34 (by decide) ?_
    obtain ⟨h35, eh35⟩ : ∃ y, y = hU h30 66 50 (-1) := ⟨_, rfl⟩
    replace hf := lt_at eh35 hf
    refine r_put (a := 66) (v := .int (-1)) (ty := .int) (h' := h35) (C := RX9) (T := TX9) (N := 55) hG hx hb hts hinX9 tyX9 tyX9_ok nmX9 hown hK hP hS (ltX9 rfl) (ceX9 rfl) rfl 50 (by decide) wd1085 rfl (by decide +kernel) rfl rfl (Nat.le_of_ble_eq_true rfl) (by rw [eh35]; exact fun j hj => cE_U hj) (by rw [eh35]; exact puX9_50 rfl _) dX9_policy_35 (fun H locs hP hS => ?_)
    refine lv_aload_n hx hb dX9_policy_38 rfl (lv_at hl 0 rfl) ?_
    refine lv_iconst (v := (-1)) hx hb dX9_policy_39 (by decide) ?_
    obtain ⟨h40, eh40⟩ : ∃ y, y = hU h35 66 51 (-1) := ⟨_, rfl⟩
    replace hf := lt_at eh40 hf
    refine r_put (a := 66) (v := .int (-1)) (ty := .int) (h' := h40) (C := RX9) (T := TX9) (N := 55) hG hx hb hts hinX9 tyX9 tyX9_ok nmX9 hown hK hP hS (ltX9 rfl) (ceX9 rfl) rfl 51 (by decide) wd1086 rfl (by decide +kernel) rfl rfl (Nat.le_of_ble_eq_true rfl) (by rw [eh40]; exact fun j hj => cE_U hj) (by rw [eh40]; exact puX9_51 rfl _) dX9_policy_40 (fun H locs hP hS => ?_)
    refine lv_aload_n hx hb dX9_policy_43 rfl (lv_at hl 0 rfl) ?_
    refine lv_iconst (v := 0) hx hb dX9_policy_44 (by decide) ?_
    obtain ⟨h45, eh45⟩ : ∃ y, y = hU h40 66 52 0 := ⟨_, rfl⟩
    replace hf := lt_at eh45 hf
    refine r_put (a := 66) (v := .int 0) (ty := .int) (h' := h45) (C := RX9) (T := TX9) (N := 55) hG hx hb hts hinX9 tyX9 tyX9_ok nmX9 hown hK hP hS (ltX9 rfl) (ceX9 rfl) rfl 52 (by decide) wd1087 rfl (by decide +kernel) rfl rfl (Nat.le_of_ble_eq_true rfl) (by rw [eh45]; exact fun j hj => cE_U hj) (by rw [eh45]; exact puX9_52 rfl _) dX9_policy_45 (fun H locs hP hS => ?_)
    refine lv_iconst (v := 0) hx hb dX9_policy_48 (by decide) ?_
    refine lv_istore_n (lv' := [(1, .int 0), (0, .ref (gB G 66))]) hx hb dX9_policy_49 rfl hl (by decide) rfl (fun ls hl => ?_)
    refine lv_iconst (v := 0) hx hb dX9_policy_50 (by decide) ?_
    refine lv_istore_n (lv' := [(2, .int 0), (1, .int 0), (0, .ref (gB G 66))]) hx hb dX9_policy_51 rfl hl (by decide) rfl (fun ls hl => ?_)
    exact w_X9_policy_52 hG C FU 0 0 h45 _ _ _ (lv_sub hl [2, 1, 0] rfl) hP hS hf
  · replace hf := if_f c6 hf
    refine lv_sipush (v := (-1003)) hx hb dX9_policy_9 (by decide) ?_
    exact r_iret hx hb hr hlocks hP hS (re2 (Option.some.inj hf)) dX9_policy_12
/-! CarriedBackModel.lets(III)I -/
abbrev rmX9_lets : Room := { frames := 4, cells := 0, slots := 0, locals := 97 }
abbrev vX9_lets : List Cond := Cond.code yX9_lets cX9_lets 10 (some .int) :: GW
def f_X9_lets_246 (x7 : Int32) (t0 : Int32) (h : PH) : Option (Int32 × PH) := if t0 = 0 then (some (0, h)) else (if (h.1 66 45) < 0 then (some (1, h)) else (bP (f_X9_weightOf x7 h) (fun r263 h263 => if r263 < (h263.1 66 45) then (some (0, h263)) else (some (1, h263)))))
set_option maxHeartbeats 4000000 in
set_option maxRecDepth 100000 in
theorem w_X9_lets_246 {l : Launch} {G : GC} (hG : GOK G) {rr : Int32} {hh : PH} {p : Program} {e : Env} {s : State} {m : MethodId} {args : Array Value} {below : List Frame} {meth : Method} {c : Code} (C : MC l G p s m args meth c RX9 cX9_lets 10 (some .int)) : ∀ (x7 : Int32) (t0 : Int32) (h : PH) (H : Heap) (locs : List Loc) (ls : Array Slot), lv_has ls 10 [(0, .ref (gB G 66)), (7, .int x7)] → WP G h H → SP G s H locs → f_X9_lets_246 x7 t0 h = some (rr, hh) → W p l e rmX9_lets s m args below meth c H locs 0 0 (MQ below (QI G rr hh) args s 0 0 (gA G)) (F0 m 246 ls [.int t0]) := by
  obtain ⟨hx, hb, hr, hlocks, hml, hown, hts, hK⟩ := id C
  intro x7 t0 h H locs ls hl hP hS hf
  rw [f_X9_lets_246] at hf
  refine lv_istore (lv' := [(5, .int t0), (0, .ref (gB G 66)), (7, .int x7)]) hx hb dX9_lets_246 hl (by decide) rfl (fun ls hl => ?_)
  refine lv_iload hx hb dX9_lets_248 (lv_at hl 0 rfl) ?_
  refine lv_if_eq (tgt := 277) hx hb dX9_lets_250 (by decide) (fun c250 => ?_) (fun c250 => ?_)
  · replace hf := if_t c250 hf
    refine lv_iconst (v := 0) hx hb dX9_lets_277 (by decide) ?_
    exact r_iret hx hb hr hlocks hP hS (re2 (Option.some.inj hf)) dX9_lets_278
  · replace hf := if_f c250 hf
    refine lv_aload_n hx hb dX9_lets_253 rfl (lv_at hl 1 rfl) ?_
    refine r_get (a := 66) (v := .int (h.1 66 45)) (C := RX9) (T := TX9) (N := 55) hx hb hts hinX9 hown hK hP (ltX9 rfl) (ceX9 rfl) rfl 45 (by decide) wd1080 rfl dX9_lets_254 ?_
    refine lv_if_lt (tgt := 273) hx hb dX9_lets_257 (by decide) (fun c257 => ?_) (fun c257 => ?_)
    · replace hf := if_t c257 hf
      refine lv_iconst (v := 1) hx hb dX9_lets_273 (by decide) ?_
      refine lv_goto (tgt := 278) hx hb dX9_lets_274 (by decide) ?_
      exact r_iret hx hb hr hlocks hP hS (re2 (Option.some.inj hf)) dX9_lets_278
    · replace hf := if_f c257 hf
      refine lv_aload_n hx hb dX9_lets_260 rfl (lv_at hl 1 rfl) ?_
      refine lv_iload hx hb dX9_lets_261 (lv_at hl 2 rfl) ?_
      obtain ⟨r263, h263, er263, hf⟩ := bP_s hf
      refine r_callI (va_runV (As := [.int x7]) (rest := []) ⟨hx, hb, hml, hown, hts⟩ (k_X9_weightOf l hG er263) (cwV 1 hts (gV wd1437 wd1439 wd59 wd82 wd1440) rfl rfl rfl (by decide +kernel) ⟨Nat.le_of_ble_eq_true rfl, Nat.le_of_ble_eq_true rfl⟩) (r_pv hK hP hS (ltX9 rfl) (ceX9 rfl) rfl) rfl rfl hl.1 rfl (lv_room (Nat.le_of_ble_eq_true rfl)) dX9_lets_263 ⟨Nat.le_of_ble_eq_true rfl, Nat.le_of_ble_eq_true rfl⟩) hS (fun H locs hP hS => ?_)
      refine lv_aload_n hx hb dX9_lets_266 rfl (lv_at hl 1 rfl) ?_
      refine r_get (a := 66) (v := .int (h263.1 66 45)) (C := RX9) (T := TX9) (N := 55) hx hb hts hinX9 hown hK hP (ltX9 rfl) (ceX9 rfl) rfl 45 (by decide) wd1080 rfl dX9_lets_267 ?_
      refine lv_icmp_lt (tgt := 277) hx hb dX9_lets_270 (by decide) (fun c270 => ?_) (fun c270 => ?_)
      · replace hf := if_t c270 hf
        refine lv_iconst (v := 0) hx hb dX9_lets_277 (by decide) ?_
        exact r_iret hx hb hr hlocks hP hS (re2 (Option.some.inj hf)) dX9_lets_278
      · replace hf := if_f c270 hf
        refine lv_iconst (v := 1) hx hb dX9_lets_273 (by decide) ?_
        refine lv_goto (tgt := 278) hx hb dX9_lets_274 (by decide) ?_
        exact r_iret hx hb hr hlocks hP hS (re2 (Option.some.inj hf)) dX9_lets_278
def f_X9_lets_245 (x7 : Int32) (h : PH) : Option (Int32 × PH) := f_X9_lets_246 x7 0 h
set_option maxHeartbeats 4000000 in
set_option maxRecDepth 100000 in
theorem w_X9_lets_245 {l : Launch} {G : GC} (hG : GOK G) {rr : Int32} {hh : PH} {p : Program} {e : Env} {s : State} {m : MethodId} {args : Array Value} {below : List Frame} {meth : Method} {c : Code} (C : MC l G p s m args meth c RX9 cX9_lets 10 (some .int)) : ∀ (x7 : Int32) (h : PH) (H : Heap) (locs : List Loc) (ls : Array Slot), lv_has ls 10 [(0, .ref (gB G 66)), (7, .int x7)] → WP G h H → SP G s H locs → f_X9_lets_245 x7 h = some (rr, hh) → W p l e rmX9_lets s m args below meth c H locs 0 0 (MQ below (QI G rr hh) args s 0 0 (gA G)) (F0 m 245 ls []) := by
  obtain ⟨hx, hb, hr, hlocks, hml, hown, hts, hK⟩ := id C
  intro x7 h H locs ls hl hP hS hf
  rw [f_X9_lets_245] at hf
  refine lv_iconst (v := 0) hx hb dX9_lets_245 (by decide) ?_
  exact w_X9_lets_246 hG C x7 0 h _ _ _ (lv_sub hl [0, 1] rfl) hP hS hf
def f_X9_lets_241 (x7 : Int32) (h : PH) : Option (Int32 × PH) := f_X9_lets_246 x7 1 h
set_option maxHeartbeats 4000000 in
set_option maxRecDepth 100000 in
theorem w_X9_lets_241 {l : Launch} {G : GC} (hG : GOK G) {rr : Int32} {hh : PH} {p : Program} {e : Env} {s : State} {m : MethodId} {args : Array Value} {below : List Frame} {meth : Method} {c : Code} (C : MC l G p s m args meth c RX9 cX9_lets 10 (some .int)) : ∀ (x7 : Int32) (h : PH) (H : Heap) (locs : List Loc) (ls : Array Slot), lv_has ls 10 [(0, .ref (gB G 66)), (7, .int x7)] → WP G h H → SP G s H locs → f_X9_lets_241 x7 h = some (rr, hh) → W p l e rmX9_lets s m args below meth c H locs 0 0 (MQ below (QI G rr hh) args s 0 0 (gA G)) (F0 m 241 ls []) := by
  obtain ⟨hx, hb, hr, hlocks, hml, hown, hts, hK⟩ := id C
  intro x7 h H locs ls hl hP hS hf
  rw [f_X9_lets_241] at hf
  refine lv_iconst (v := 1) hx hb dX9_lets_241 (by decide) ?_
  refine lv_goto (tgt := 246) hx hb dX9_lets_242 (by decide) ?_
  exact w_X9_lets_246 hG C x7 1 h _ _ _ (lv_sub hl [0, 1] rfl) hP hS hf
def f_X9_lets_153 (x5 : Int32) (x6 : Int32) (x8 : Int32) : Nat → Int32 → Int32 → PH → Option (Int32 × PH)
  | 0, _, _, _ => none
  | n + 1, x7, x9, h => if (h.1 66 4) ≤ x9 then (if x5 = 0 then (f_X9_lets_245 x7 h) else (if (h.1 66 44) < 0 then (f_X9_lets_241 x7 h) else (bP (f_X9_riskOf x6 h) (fun r231 h231 => if (h231.1 66 44) < r231 then (f_X9_lets_245 x7 h231) else (f_X9_lets_241 x7 h231))))) else (bO (f_X9_has x8 x9) (fun r168 => if r168 = 0 then (lt' ((x7 ||| 0)) (fun x7_208 => (f_X9_lets_153 x5 x6 x8 n) x7_208 (x9 + 1) h)) else (bO (ag h 72 10 x9) (fun v180 => if v180 < 0 then (lt' ((x7 ||| 0)) (fun x7_208 => (f_X9_lets_153 x5 x6 x8 n) x7_208 (x9 + 1) h)) else (bO (ag h 72 10 x9) (fun v192 => bO (f_X9_has x6 v192) (fun r193 => if r193 = 0 then (lt' ((x7 ||| 0)) (fun x7_208 => (f_X9_lets_153 x5 x6 x8 n) x7_208 (x9 + 1) h)) else (lt' ((x7 ||| (1 <<< (x9 &&& 31)))) (fun x7_208 => (f_X9_lets_153 x5 x6 x8 n) x7_208 (x9 + 1) h)))))))))
set_option maxHeartbeats 4000000 in
set_option maxRecDepth 100000 in
theorem w_X9_lets_153 {l : Launch} {G : GC} (hG : GOK G) {rr : Int32} {hh : PH} {p : Program} {e : Env} {s : State} {m : MethodId} {args : Array Value} {below : List Frame} {meth : Method} {c : Code} (C : MC l G p s m args meth c RX9 cX9_lets 10 (some .int)) (x5 : Int32) (x6 : Int32) (x8 : Int32) : ∀ (n : Nat) (x7 : Int32) (x9 : Int32) (h : PH) (H : Heap) (locs : List Loc) (ls : Array Slot), lv_has ls 10 [(0, .ref (gB G 66)), (5, .int x5), (6, .int x6), (7, .int x7), (8, .int x8), (9, .int x9)] → WP G h H → SP G s H locs → f_X9_lets_153 x5 x6 x8 n x7 x9 h = some (rr, hh) → W p l e rmX9_lets s m args below meth c H locs 0 0 (MQ below (QI G rr hh) args s 0 0 (gA G)) (F0 m 153 ls []) := by
  obtain ⟨hx, hb, hr, hlocks, hml, hown, hts, hK⟩ := id C
  intro n
  induction n with
  | zero => intro x7 x9 h H locs ls hl hP hS hf; rw [f_X9_lets_153] at hf; cases hf
  | succ n ih =>
    intro x7 x9 h H locs ls hl hP hS hf
    rw [f_X9_lets_153] at hf
    refine lv_iload hx hb dX9_lets_153 (lv_at hl 5 rfl) ?_
    refine lv_aload_n hx hb dX9_lets_155 rfl (lv_at hl 0 rfl) ?_
    refine r_get (a := 66) (v := .int (h.1 66 4)) (C := RX9) (T := TX9) (N := 55) hx hb hts hinX9 hown hK hP (ltX9 rfl) (ceX9 rfl) rfl 4 (by decide) wd1039 rfl dX9_lets_156 ?_
    refine lv_icmp_ge (tgt := 216) hx hb dX9_lets_159 (by decide) (fun c159 => ?_) (fun c159 => ?_)
    · replace hf := if_t c159 hf
      refine lv_iload hx hb dX9_lets_216 (lv_at hl 1 rfl) ?_
      refine lv_if_eq (tgt := 245) hx hb dX9_lets_218 (by decide) (fun c218 => ?_) (fun c218 => ?_)
      · replace hf := if_t c218 hf
        exact w_X9_lets_245 hG C x7 h _ _ _ (lv_sub hl [0, 3] rfl) hP hS hf
      · replace hf := if_f c218 hf
        refine lv_aload_n hx hb dX9_lets_221 rfl (lv_at hl 0 rfl) ?_
        refine r_get (a := 66) (v := .int (h.1 66 44)) (C := RX9) (T := TX9) (N := 55) hx hb hts hinX9 hown hK hP (ltX9 rfl) (ceX9 rfl) rfl 44 (by decide) wd1079 rfl dX9_lets_222 ?_
        refine lv_if_lt (tgt := 241) hx hb dX9_lets_225 (by decide) (fun c225 => ?_) (fun c225 => ?_)
        · replace hf := if_t c225 hf
          exact w_X9_lets_241 hG C x7 h _ _ _ (lv_sub hl [0, 3] rfl) hP hS hf
        · replace hf := if_f c225 hf
          refine lv_aload_n hx hb dX9_lets_228 rfl (lv_at hl 0 rfl) ?_
          refine lv_iload hx hb dX9_lets_229 (lv_at hl 2 rfl) ?_
          obtain ⟨r231, h231, er231, hf⟩ := bP_s hf
          refine r_callI (va_runV (As := [.int x6]) (rest := []) ⟨hx, hb, hml, hown, hts⟩ (k_X9_riskOf l hG er231) (cwV 1 hts (gV wd1355 wd1357 wd49 wd82 wd1358) rfl rfl rfl (by decide +kernel) ⟨Nat.le_of_ble_eq_true rfl, Nat.le_of_ble_eq_true rfl⟩) (r_pv hK hP hS (ltX9 rfl) (ceX9 rfl) rfl) rfl rfl hl.1 rfl (lv_room (Nat.le_of_ble_eq_true rfl)) dX9_lets_231 ⟨Nat.le_of_ble_eq_true rfl, Nat.le_of_ble_eq_true rfl⟩) hS (fun H locs hP hS => ?_)
          refine lv_aload_n hx hb dX9_lets_234 rfl (lv_at hl 0 rfl) ?_
          refine r_get (a := 66) (v := .int (h231.1 66 44)) (C := RX9) (T := TX9) (N := 55) hx hb hts hinX9 hown hK hP (ltX9 rfl) (ceX9 rfl) rfl 44 (by decide) wd1079 rfl dX9_lets_235 ?_
          refine lv_icmp_gt (tgt := 245) hx hb dX9_lets_238 (by decide) (fun c238 => ?_) (fun c238 => ?_)
          · replace hf := if_t c238 hf
            exact w_X9_lets_245 hG C x7 h231 _ _ _ (lv_sub hl [0, 3] rfl) hP hS hf
          · replace hf := if_f c238 hf
            exact w_X9_lets_241 hG C x7 h231 _ _ _ (lv_sub hl [0, 3] rfl) hP hS hf
    · replace hf := if_f c159 hf
      refine lv_iload hx hb dX9_lets_162 (lv_at hl 3 rfl) ?_
      refine lv_iload hx hb dX9_lets_164 (lv_at hl 4 rfl) ?_
      refine lv_iload hx hb dX9_lets_166 (lv_at hl 5 rfl) ?_
      obtain ⟨r168, er168, hf⟩ := bO_s hf
      refine r_callI (va_runS (As := [.int x8, .int x9]) (rest := [.int x7]) ⟨hx, hb, hml, hown, hts⟩ (k_X9_has l hG (h := h) er168) (va_cwS 2 hts (gS wd1260 wd1261 wd82 wd1262) rfl rfl rfl (by decide +kernel) ⟨Nat.le_of_ble_eq_true rfl, Nat.le_of_ble_eq_true rfl⟩) (r_ps hK hP hS) rfl rfl hl.1 rfl (lv_room (Nat.le_of_ble_eq_true rfl)) dX9_lets_168 ⟨Nat.le_of_ble_eq_true rfl, Nat.le_of_ble_eq_true rfl⟩) hS (fun H locs hP hS => ?_)
      refine lv_if_eq (tgt := 206) hx hb dX9_lets_171 (by decide) (fun c171 => ?_) (fun c171 => ?_)
      · replace hf := if_t c171 hf
        refine lv_iconst (v := 0) hx hb dX9_lets_206 (by decide) ?_
        refine lv_ior hx hb dX9_lets_207 ?_
        refine lv_topi (fun x7_208 ex7_208 => ?_)
        replace hf := lt_at ex7_208 hf
        refine lv_istore (lv' := [(7, .int x7_208), (0, .ref (gB G 66)), (5, .int x5), (6, .int x6), (8, .int x8), (9, .int x9)]) hx hb dX9_lets_208 hl (by decide) rfl (fun ls hl => ?_)
        refine lv_iinc (v := (x9 + 1)) (lv' := [(9, .int (x9 + 1)), (7, .int x7_208), (0, .ref (gB G 66)), (5, .int x5), (6, .int x6), (8, .int x8)]) hx hb dX9_lets_210 hl (k := 5) rfl rfl (by decide) rfl (fun ls hl => ?_)
        refine lv_goto (tgt := 153) hx hb dX9_lets_213 (by decide) ?_
        exact ih x7_208 (x9 + 1) h _ _ _ (lv_sub hl [2, 3, 4, 1, 5, 0] rfl) hP hS hf
      · replace hf := if_f c171 hf
        refine lv_aload_n hx hb dX9_lets_174 rfl (lv_at hl 0 rfl) ?_
        refine r_get (a := 66) (v := .ref (gB G 72)) (C := RX9) (T := TX9) (N := 55) hx hb hts hinX9 hown hK hP (ltX9 rfl) (ceX9 rfl) rfl 7 (by decide) wd1042 rfl dX9_lets_175 ?_
        refine lv_iload hx hb dX9_lets_178 (lv_at hl 5 rfl) ?_
        obtain ⟨v180, ev180, hf⟩ := bO_s hf
        refine r_iald hx hb hK hP (arX9_7 rfl) ev180 dX9_lets_180 ?_
        refine lv_if_lt (tgt := 206) hx hb dX9_lets_181 (by decide) (fun c181 => ?_) (fun c181 => ?_)
        · replace hf := if_t c181 hf
          refine lv_iconst (v := 0) hx hb dX9_lets_206 (by decide) ?_
          refine lv_ior hx hb dX9_lets_207 ?_
          refine lv_topi (fun x7_208 ex7_208 => ?_)
          replace hf := lt_at ex7_208 hf
          refine lv_istore (lv' := [(7, .int x7_208), (0, .ref (gB G 66)), (5, .int x5), (6, .int x6), (8, .int x8), (9, .int x9)]) hx hb dX9_lets_208 hl (by decide) rfl (fun ls hl => ?_)
          refine lv_iinc (v := (x9 + 1)) (lv' := [(9, .int (x9 + 1)), (7, .int x7_208), (0, .ref (gB G 66)), (5, .int x5), (6, .int x6), (8, .int x8)]) hx hb dX9_lets_210 hl (k := 5) rfl rfl (by decide) rfl (fun ls hl => ?_)
          refine lv_goto (tgt := 153) hx hb dX9_lets_213 (by decide) ?_
          exact ih x7_208 (x9 + 1) h _ _ _ (lv_sub hl [2, 3, 4, 1, 5, 0] rfl) hP hS hf
        · replace hf := if_f c181 hf
          refine lv_iload hx hb dX9_lets_184 (lv_at hl 2 rfl) ?_
          refine lv_aload_n hx hb dX9_lets_186 rfl (lv_at hl 0 rfl) ?_
          refine r_get (a := 66) (v := .ref (gB G 72)) (C := RX9) (T := TX9) (N := 55) hx hb hts hinX9 hown hK hP (ltX9 rfl) (ceX9 rfl) rfl 7 (by decide) wd1042 rfl dX9_lets_187 ?_
          refine lv_iload hx hb dX9_lets_190 (lv_at hl 5 rfl) ?_
          obtain ⟨v192, ev192, hf⟩ := bO_s hf
          refine r_iald hx hb hK hP (arX9_7 rfl) ev192 dX9_lets_192 ?_
          obtain ⟨r193, er193, hf⟩ := bO_s hf
          refine r_callI (va_runS (As := [.int x6, .int v192]) (rest := [.int x7]) ⟨hx, hb, hml, hown, hts⟩ (k_X9_has l hG (h := h) er193) (va_cwS 2 hts (gS wd1260 wd1261 wd82 wd1262) rfl rfl rfl (by decide +kernel) ⟨Nat.le_of_ble_eq_true rfl, Nat.le_of_ble_eq_true rfl⟩) (r_ps hK hP hS) rfl rfl hl.1 rfl (lv_room (Nat.le_of_ble_eq_true rfl)) dX9_lets_193 ⟨Nat.le_of_ble_eq_true rfl, Nat.le_of_ble_eq_true rfl⟩) hS (fun H locs hP hS => ?_)
          refine lv_if_eq (tgt := 206) hx hb dX9_lets_196 (by decide) (fun c196 => ?_) (fun c196 => ?_)
          · replace hf := if_t c196 hf
            refine lv_iconst (v := 0) hx hb dX9_lets_206 (by decide) ?_
            refine lv_ior hx hb dX9_lets_207 ?_
            refine lv_topi (fun x7_208 ex7_208 => ?_)
            replace hf := lt_at ex7_208 hf
            refine lv_istore (lv' := [(7, .int x7_208), (0, .ref (gB G 66)), (5, .int x5), (6, .int x6), (8, .int x8), (9, .int x9)]) hx hb dX9_lets_208 hl (by decide) rfl (fun ls hl => ?_)
            refine lv_iinc (v := (x9 + 1)) (lv' := [(9, .int (x9 + 1)), (7, .int x7_208), (0, .ref (gB G 66)), (5, .int x5), (6, .int x6), (8, .int x8)]) hx hb dX9_lets_210 hl (k := 5) rfl rfl (by decide) rfl (fun ls hl => ?_)
            refine lv_goto (tgt := 153) hx hb dX9_lets_213 (by decide) ?_
            exact ih x7_208 (x9 + 1) h _ _ _ (lv_sub hl [2, 3, 4, 1, 5, 0] rfl) hP hS hf
          · replace hf := if_f c196 hf
            refine lv_iconst (v := 1) hx hb dX9_lets_199 (by decide) ?_
            refine lv_iload hx hb dX9_lets_200 (lv_at hl 5 rfl) ?_
            refine lv_ishl hx hb dX9_lets_202 ?_
            refine lv_goto (tgt := 207) hx hb dX9_lets_203 (by decide) ?_
            refine lv_ior hx hb dX9_lets_207 ?_
            refine lv_topi (fun x7_208 ex7_208 => ?_)
            replace hf := lt_at ex7_208 hf
            refine lv_istore (lv' := [(7, .int x7_208), (0, .ref (gB G 66)), (5, .int x5), (6, .int x6), (8, .int x8), (9, .int x9)]) hx hb dX9_lets_208 hl (by decide) rfl (fun ls hl => ?_)
            refine lv_iinc (v := (x9 + 1)) (lv' := [(9, .int (x9 + 1)), (7, .int x7_208), (0, .ref (gB G 66)), (5, .int x5), (6, .int x6), (8, .int x8)]) hx hb dX9_lets_210 hl (k := 5) rfl rfl (by decide) rfl (fun ls hl => ?_)
            refine lv_goto (tgt := 153) hx hb dX9_lets_213 (by decide) ?_
            exact ih x7_208 (x9 + 1) h _ _ _ (lv_sub hl [2, 3, 4, 1, 5, 0] rfl) hP hS hf
def f_X9_lets_76 (x1 : Int32) (x2 : Int32) (x3 : Int32) (x4 : Int32) : Nat → Int32 → Int32 → PH → Option (Int32 × PH)
  | 0, _, _, _ => none
  | n + 1, x5, x6, h => if (h.1 66 41) ≤ x6 then (lt' ((x4 ||| (1 <<< (x2 &&& 31)))) (fun x6_133 => bO (ag h 74 4 x1) (fun v144 => bP (f_X9_faultsIn v144 h) (fun r145 h145 => f_X9_lets_153 x5 x6_133 r145 FU 0 0 h145)))) else (if x5 = 0 then ((f_X9_lets_76 x1 x2 x3 x4 n) 0 (x6 + 1) h) else (bO (ag h 92 8 x6) (fun v98 => bO (ag h 93 8 x6) (fun v106 => bO (f_X9_in (x3 : Int32).toInt64 (v98 : Int32).toInt64 (v106 : Int32).toInt64) (fun r108 => if r108 = 0 then ((f_X9_lets_76 x1 x2 x3 x4 n) 1 (x6 + 1) h) else ((f_X9_lets_76 x1 x2 x3 x4 n) 0 (x6 + 1) h))))))
set_option maxHeartbeats 4000000 in
set_option maxRecDepth 100000 in
theorem w_X9_lets_76 {l : Launch} {G : GC} (hG : GOK G) {rr : Int32} {hh : PH} {p : Program} {e : Env} {s : State} {m : MethodId} {args : Array Value} {below : List Frame} {meth : Method} {c : Code} (C : MC l G p s m args meth c RX9 cX9_lets 10 (some .int)) (x1 : Int32) (x2 : Int32) (x3 : Int32) (x4 : Int32) : ∀ (n : Nat) (x5 : Int32) (x6 : Int32) (h : PH) (H : Heap) (locs : List Loc) (ls : Array Slot), lv_has ls 10 [(0, .ref (gB G 66)), (1, .int x1), (2, .int x2), (3, .int x3), (4, .int x4), (5, .int x5), (6, .int x6)] → WP G h H → SP G s H locs → f_X9_lets_76 x1 x2 x3 x4 n x5 x6 h = some (rr, hh) → W p l e rmX9_lets s m args below meth c H locs 0 0 (MQ below (QI G rr hh) args s 0 0 (gA G)) (F0 m 76 ls []) := by
  obtain ⟨hx, hb, hr, hlocks, hml, hown, hts, hK⟩ := id C
  intro n
  induction n with
  | zero => intro x5 x6 h H locs ls hl hP hS hf; rw [f_X9_lets_76] at hf; cases hf
  | succ n ih =>
    intro x5 x6 h H locs ls hl hP hS hf
    rw [f_X9_lets_76] at hf
    refine lv_iload hx hb dX9_lets_76 (lv_at hl 6 rfl) ?_
    refine lv_aload_n hx hb dX9_lets_78 rfl (lv_at hl 0 rfl) ?_
    refine r_get (a := 66) (v := .int (h.1 66 41)) (C := RX9) (T := TX9) (N := 55) hx hb hts hinX9 hown hK hP (ltX9 rfl) (ceX9 rfl) rfl 41 (by decide) wd1076 rfl dX9_lets_79 ?_
    refine lv_icmp_ge (tgt := 127) hx hb dX9_lets_82 (by decide) (fun c82 => ?_) (fun c82 => ?_)
    · replace hf := if_t c82 hf
      refine lv_iload hx hb dX9_lets_127 (lv_at hl 4 rfl) ?_
      refine lv_iconst (v := 1) hx hb dX9_lets_129 (by decide) ?_
      refine lv_iload_n hx hb dX9_lets_130 rfl (lv_at hl 2 rfl) ?_
      refine lv_ishl hx hb dX9_lets_131 ?_
      refine lv_ior hx hb dX9_lets_132 ?_
      refine lv_topi (fun x6_133 ex6_133 => ?_)
      replace hf := lt_at ex6_133 hf
      refine lv_istore (lv' := [(6, .int x6_133), (0, .ref (gB G 66)), (1, .int x1), (2, .int x2), (3, .int x3), (4, .int x4), (5, .int x5)]) hx hb dX9_lets_133 hl (by decide) rfl (fun ls hl => ?_)
      refine lv_iconst (v := 0) hx hb dX9_lets_135 (by decide) ?_
      refine lv_istore (lv' := [(7, .int 0), (6, .int x6_133), (0, .ref (gB G 66)), (1, .int x1), (2, .int x2), (3, .int x3), (4, .int x4), (5, .int x5)]) hx hb dX9_lets_136 hl (by decide) rfl (fun ls hl => ?_)
      refine lv_aload_n hx hb dX9_lets_138 rfl (lv_at hl 2 rfl) ?_
      refine lv_aload_n hx hb dX9_lets_139 rfl (lv_at hl 2 rfl) ?_
      refine r_get (a := 66) (v := .ref (gB G 74)) (C := RX9) (T := TX9) (N := 55) hx hb hts hinX9 hown hK hP (ltX9 rfl) (ceX9 rfl) rfl 10 (by decide) wd1045 rfl dX9_lets_140 ?_
      refine lv_iload_n hx hb dX9_lets_143 rfl (lv_at hl 3 rfl) ?_
      obtain ⟨v144, ev144, hf⟩ := bO_s hf
      refine r_iald hx hb hK hP (arX9_10 rfl) ev144 dX9_lets_144 ?_
      obtain ⟨r145, h145, er145, hf⟩ := bP_s hf
      refine r_callI (va_runV (As := [.int v144]) (rest := []) ⟨hx, hb, hml, hown, hts⟩ (k_X9_faultsIn l hG er145) (cwV 1 hts (gV wd1351 wd1353 wd48 wd82 wd1354) rfl rfl rfl (by decide +kernel) ⟨Nat.le_of_ble_eq_true rfl, Nat.le_of_ble_eq_true rfl⟩) (r_pv hK hP hS (ltX9 rfl) (ceX9 rfl) rfl) rfl rfl hl.1 rfl (lv_room (Nat.le_of_ble_eq_true rfl)) dX9_lets_145 ⟨Nat.le_of_ble_eq_true rfl, Nat.le_of_ble_eq_true rfl⟩) hS (fun H locs hP hS => ?_)
      refine lv_istore (lv' := [(8, .int r145), (7, .int 0), (6, .int x6_133), (0, .ref (gB G 66)), (1, .int x1), (2, .int x2), (3, .int x3), (4, .int x4), (5, .int x5)]) hx hb dX9_lets_148 hl (by decide) rfl (fun ls hl => ?_)
      refine lv_iconst (v := 0) hx hb dX9_lets_150 (by decide) ?_
      refine lv_istore (lv' := [(9, .int 0), (8, .int r145), (7, .int 0), (6, .int x6_133), (0, .ref (gB G 66)), (1, .int x1), (2, .int x2), (3, .int x3), (4, .int x4), (5, .int x5)]) hx hb dX9_lets_151 hl (by decide) rfl (fun ls hl => ?_)
      exact w_X9_lets_153 hG C x5 x6_133 r145 FU 0 0 h145 _ _ _ (lv_sub hl [4, 9, 3, 2, 1, 0] rfl) hP hS hf
    · replace hf := if_f c82 hf
      refine lv_iload hx hb dX9_lets_85 (lv_at hl 5 rfl) ?_
      refine lv_if_eq (tgt := 118) hx hb dX9_lets_87 (by decide) (fun c87 => ?_) (fun c87 => ?_)
      · replace hf := if_t c87 hf
        refine lv_iconst (v := 0) hx hb dX9_lets_118 (by decide) ?_
        refine lv_istore (lv' := [(5, .int 0), (0, .ref (gB G 66)), (1, .int x1), (2, .int x2), (3, .int x3), (4, .int x4), (6, .int x6)]) hx hb dX9_lets_119 hl (by decide) rfl (fun ls hl => ?_)
        refine lv_iinc (v := (x6 + 1)) (lv' := [(6, .int (x6 + 1)), (5, .int 0), (0, .ref (gB G 66)), (1, .int x1), (2, .int x2), (3, .int x3), (4, .int x4)]) hx hb dX9_lets_121 hl (k := 6) rfl rfl (by decide) rfl (fun ls hl => ?_)
        refine lv_goto (tgt := 76) hx hb dX9_lets_124 (by decide) ?_
        exact ih 0 (x6 + 1) h _ _ _ (lv_sub hl [2, 3, 4, 5, 6, 1, 0] rfl) hP hS hf
      · replace hf := if_f c87 hf
        refine lv_iload_n hx hb dX9_lets_90 rfl (lv_at hl 3 rfl) ?_
        refine lv_i2l hx hb dX9_lets_91 rfl ?_
        refine lv_aload_n hx hb dX9_lets_92 rfl (lv_at hl 0 rfl) ?_
        refine r_get (a := 66) (v := .ref (gB G 92)) (C := RX9) (T := TX9) (N := 55) hx hb hts hinX9 hown hK hP (ltX9 rfl) (ceX9 rfl) rfl 42 (by decide) wd1077 rfl dX9_lets_93 ?_
        refine lv_iload hx hb dX9_lets_96 (lv_at hl 6 rfl) ?_
        obtain ⟨v98, ev98, hf⟩ := bO_s hf
        refine r_iald hx hb hK hP (arX9_42 rfl) ev98 dX9_lets_98 ?_
        refine lv_i2l hx hb dX9_lets_99 rfl ?_
        refine lv_aload_n hx hb dX9_lets_100 rfl (lv_at hl 0 rfl) ?_
        refine r_get (a := 66) (v := .ref (gB G 93)) (C := RX9) (T := TX9) (N := 55) hx hb hts hinX9 hown hK hP (ltX9 rfl) (ceX9 rfl) rfl 43 (by decide) wd1078 rfl dX9_lets_101 ?_
        refine lv_iload hx hb dX9_lets_104 (lv_at hl 6 rfl) ?_
        obtain ⟨v106, ev106, hf⟩ := bO_s hf
        refine r_iald hx hb hK hP (arX9_43 rfl) ev106 dX9_lets_106 ?_
        refine lv_i2l hx hb dX9_lets_107 rfl ?_
        obtain ⟨r108, er108, hf⟩ := bO_s hf
        refine r_callI (va_runS (As := [.long (x3 : Int32).toInt64, .long (v98 : Int32).toInt64, .long (v106 : Int32).toInt64]) (rest := []) ⟨hx, hb, hml, hown, hts⟩ (k_X9_in l hG (h := h) er108) (va_cwS 3 hts (gS wd1206 wd1207 wd82 wd1208) rfl rfl rfl (by decide +kernel) ⟨Nat.le_of_ble_eq_true rfl, Nat.le_of_ble_eq_true rfl⟩) (r_ps hK hP hS) rfl rfl hl.1 rfl (lv_room (Nat.le_of_ble_eq_true rfl)) dX9_lets_108 ⟨Nat.le_of_ble_eq_true rfl, Nat.le_of_ble_eq_true rfl⟩) hS (fun H locs hP hS => ?_)
        refine lv_if_ne (tgt := 118) hx hb dX9_lets_111 (by decide) (fun c111 => ?_) (fun c111 => ?_)
        · replace hf := if_f c111 hf
          refine lv_iconst (v := 0) hx hb dX9_lets_118 (by decide) ?_
          refine lv_istore (lv' := [(5, .int 0), (0, .ref (gB G 66)), (1, .int x1), (2, .int x2), (3, .int x3), (4, .int x4), (6, .int x6)]) hx hb dX9_lets_119 hl (by decide) rfl (fun ls hl => ?_)
          refine lv_iinc (v := (x6 + 1)) (lv' := [(6, .int (x6 + 1)), (5, .int 0), (0, .ref (gB G 66)), (1, .int x1), (2, .int x2), (3, .int x3), (4, .int x4)]) hx hb dX9_lets_121 hl (k := 6) rfl rfl (by decide) rfl (fun ls hl => ?_)
          refine lv_goto (tgt := 76) hx hb dX9_lets_124 (by decide) ?_
          exact ih 0 (x6 + 1) h _ _ _ (lv_sub hl [2, 3, 4, 5, 6, 1, 0] rfl) hP hS hf
        · replace hf := if_t c111 hf
          refine lv_iconst (v := 1) hx hb dX9_lets_114 (by decide) ?_
          refine lv_goto (tgt := 119) hx hb dX9_lets_115 (by decide) ?_
          refine lv_istore (lv' := [(5, .int 1), (0, .ref (gB G 66)), (1, .int x1), (2, .int x2), (3, .int x3), (4, .int x4), (6, .int x6)]) hx hb dX9_lets_119 hl (by decide) rfl (fun ls hl => ?_)
          refine lv_iinc (v := (x6 + 1)) (lv' := [(6, .int (x6 + 1)), (5, .int 1), (0, .ref (gB G 66)), (1, .int x1), (2, .int x2), (3, .int x3), (4, .int x4)]) hx hb dX9_lets_121 hl (k := 6) rfl rfl (by decide) rfl (fun ls hl => ?_)
          refine lv_goto (tgt := 76) hx hb dX9_lets_124 (by decide) ?_
          exact ih 1 (x6 + 1) h _ _ _ (lv_sub hl [2, 3, 4, 5, 6, 1, 0] rfl) hP hS hf
def f_X9_lets (x1 : Int32) (x2 : Int32) (x3 : Int32) (h : PH) : Option (Int32 × PH) := bP (f_X9_isLine x1 h) (fun r2 h2 => if r2 = 0 then (some ((-1001), h2)) else (bP (f_X9_isChange x2 h2) (fun r10 h10 => if r10 = 0 then (some ((-1001), h10)) else (bO (f_X9_isDay x3) (fun r21 => if r21 = 0 then (some ((-1002), h10)) else (bP (f_X9_needsOf x1 x2 h10) (fun r34 h34 => if (0 : Int32) ≤ r34 then (if (h34.1 66 46) = 0 then (f_X9_lets_76 x1 x2 x3 r34 FU 1 0 h34) else (bO (f_X9_has (h34.1 66 46) x1) (fun r60 => if r60 = 0 then (f_X9_lets_76 x1 x2 x3 r34 FU 0 0 h34) else (f_X9_lets_76 x1 x2 x3 r34 FU 1 0 h34)))) else (some ((-1003), h34)))))))))
set_option maxHeartbeats 4000000 in
set_option maxRecDepth 100000 in
theorem k_X9_lets (l : Launch) {G : GC} (hG : GOK G) {x1 : Int32} {x2 : Int32} {x3 : Int32} {rr : Int32} {h hh : PH} (hf : f_X9_lets x1 x2 x3 h = some (rr, hh)) : CI l yX9_lets vX9_lets rmX9_lets G [.ref (gB G 66), .int x1, .int x2, .int x3] h rr hh := by
  refine Met.ofW (cc := cX9_lets) (maxL := 10) (ret := (some .int)) (by decide +kernel) rfl ?_
  intro p e s m args below meth c s₁ B hml hv
  obtain ⟨rfl, hP, hK⟩ := hv
  have C : MC l G p s m _ meth c RX9 cX9_lets 10 (some .int) := ⟨B.exec, B.bytes, B.returns, B.notSynchronized, hml, findClass_of_methodNamed B.named, fun w hw => atoms_spec (ws := vX9_lets) B.pre w (List.mem_cons_of_mem _ hw), hK⟩
  obtain ⟨hx, hb, hr, hlocks, -, hown, hts, -⟩ := id C
  have hl := lv_entry ([.ref (gB G 66), .int x1, .int x2, .int x3]) (n := 10) (Nat.le_of_ble_eq_true rfl)
  rw [lg_entry_eq]
  generalize (lg_sl ([.ref (gB G 66), .int x1, .int x2, .int x3]) ++ List.replicate (10 - (lg_sl ([.ref (gB G 66), .int x1, .int x2, .int x3])).length) Slot.unset).toArray = ls at hl ⊢
  have hl : lv_has ls 10 [(0, .ref (gB G 66)), (1, .int x1), (2, .int x2), (3, .int x3)] := hl
  have hS : SP G s s.heap [] := va_S.rf
  replace hP : WP G h s.heap := hP
  rw [f_X9_lets] at hf
  refine lv_aload_n hx hb dX9_lets_0 rfl (lv_at hl 0 rfl) ?_
  refine lv_iload_n hx hb dX9_lets_1 rfl (lv_at hl 1 rfl) ?_
  obtain ⟨r2, h2, er2, hf⟩ := bP_s hf
  refine r_callI (va_runV (As := [.int x1]) (rest := []) ⟨hx, hb, hml, hown, hts⟩ (k_X9_isLine l hG er2) (cwV 1 hts (gV wd1347 wd1349 wd47 wd82 wd1350) rfl rfl rfl (by decide +kernel) ⟨Nat.le_of_ble_eq_true rfl, Nat.le_of_ble_eq_true rfl⟩) (r_pv hK hP hS (ltX9 rfl) (ceX9 rfl) rfl) rfl rfl hl.1 rfl (lv_room (Nat.le_of_ble_eq_true rfl)) dX9_lets_2 ⟨Nat.le_of_ble_eq_true rfl, Nat.le_of_ble_eq_true rfl⟩) hS (fun H locs hP hS => ?_)
  refine lv_if_eq (tgt := 16) hx hb dX9_lets_5 (by decide) (fun c5 => ?_) (fun c5 => ?_)
  · replace hf := if_t c5 hf
    refine lv_sipush (v := (-1001)) hx hb dX9_lets_16 (by decide) ?_
    exact r_iret hx hb hr hlocks hP hS (re2 (Option.some.inj hf)) dX9_lets_19
  · replace hf := if_f c5 hf
    refine lv_aload_n hx hb dX9_lets_8 rfl (lv_at hl 0 rfl) ?_
    refine lv_iload_n hx hb dX9_lets_9 rfl (lv_at hl 2 rfl) ?_
    obtain ⟨r10, h10, er10, hf⟩ := bP_s hf
    refine r_callI (va_runV (As := [.int x2]) (rest := []) ⟨hx, hb, hml, hown, hts⟩ (k_X9_isChange l hG er10) (cwV 1 hts (gV wd1299 wd1301 wd42 wd82 wd1302) rfl rfl rfl (by decide +kernel) ⟨Nat.le_of_ble_eq_true rfl, Nat.le_of_ble_eq_true rfl⟩) (r_pv hK hP hS (ltX9 rfl) (ceX9 rfl) rfl) rfl rfl hl.1 rfl (lv_room (Nat.le_of_ble_eq_true rfl)) dX9_lets_10 ⟨Nat.le_of_ble_eq_true rfl, Nat.le_of_ble_eq_true rfl⟩) hS (fun H locs hP hS => ?_)
    refine lv_if_ne (tgt := 20) hx hb dX9_lets_13 (by decide) (fun c13 => ?_) (fun c13 => ?_)
    · replace hf := if_f c13 hf
      refine lv_iload_n hx hb dX9_lets_20 rfl (lv_at hl 3 rfl) ?_
      obtain ⟨r21, er21, hf⟩ := bO_s hf
      refine r_callI (va_runS (As := [.int x3]) (rest := []) ⟨hx, hb, hml, hown, hts⟩ (k_X9_isDay l hG (h := h10) er21) (va_cwS 1 hts (gS wd1449 wd1450 wd82 wd1451) rfl rfl rfl (by decide +kernel) ⟨Nat.le_of_ble_eq_true rfl, Nat.le_of_ble_eq_true rfl⟩) (r_ps hK hP hS) rfl rfl hl.1 rfl (lv_room (Nat.le_of_ble_eq_true rfl)) dX9_lets_21 ⟨Nat.le_of_ble_eq_true rfl, Nat.le_of_ble_eq_true rfl⟩) hS (fun H locs hP hS => ?_)
      refine lv_if_ne (tgt := 31) hx hb dX9_lets_24 (by decide) (fun c24 => ?_) (fun c24 => ?_)
      · replace hf := if_f c24 hf
        refine lv_aload_n hx hb dX9_lets_31 rfl (lv_at hl 0 rfl) ?_
        refine lv_iload_n hx hb dX9_lets_32 rfl (lv_at hl 1 rfl) ?_
        refine lv_iload_n hx hb dX9_lets_33 rfl (lv_at hl 2 rfl) ?_
        obtain ⟨r34, h34, er34, hf⟩ := bP_s hf
        refine r_callI (va_runV (As := [.int x1, .int x2]) (rest := []) ⟨hx, hb, hml, hown, hts⟩ (k_X9_needsOf l hG er34) (cwV 2 hts (gV wd1398 wd1400 wd54 wd82 wd1401) rfl rfl rfl (by decide +kernel) ⟨Nat.le_of_ble_eq_true rfl, Nat.le_of_ble_eq_true rfl⟩) (r_pv hK hP hS (ltX9 rfl) (ceX9 rfl) rfl) rfl rfl hl.1 rfl (lv_room (Nat.le_of_ble_eq_true rfl)) dX9_lets_34 ⟨Nat.le_of_ble_eq_true rfl, Nat.le_of_ble_eq_true rfl⟩) hS (fun H locs hP hS => ?_)
        refine lv_istore (lv' := [(4, .int r34), (0, .ref (gB G 66)), (1, .int x1), (2, .int x2), (3, .int x3)]) hx hb dX9_lets_37 hl (by decide) rfl (fun ls hl => ?_)
        refine lv_iload hx hb dX9_lets_39 (lv_at hl 0 rfl) ?_
        refine lv_if_ge (tgt := 48) hx hb dX9_lets_41 (by decide) (fun c41 => ?_) (fun c41 => ?_)
        · replace hf := if_t c41 hf
          refine lv_aload_n hx hb dX9_lets_48 rfl (lv_at hl 1 rfl) ?_
          refine r_get (a := 66) (v := .int (h34.1 66 46)) (C := RX9) (T := TX9) (N := 55) hx hb hts hinX9 hown hK hP (ltX9 rfl) (ceX9 rfl) rfl 46 (by decide) wd1081 rfl dX9_lets_49 ?_
          refine lv_if_eq (tgt := 66) hx hb dX9_lets_52 (by decide) (fun c52 => ?_) (fun c52 => ?_)
          · replace hf := if_t c52 hf
            refine lv_iconst (v := 1) hx hb dX9_lets_66 (by decide) ?_
            refine lv_goto (tgt := 71) hx hb dX9_lets_67 (by decide) ?_
            refine lv_istore (lv' := [(5, .int 1), (4, .int r34), (0, .ref (gB G 66)), (1, .int x1), (2, .int x2), (3, .int x3)]) hx hb dX9_lets_71 hl (by decide) rfl (fun ls hl => ?_)
            refine lv_iconst (v := 0) hx hb dX9_lets_73 (by decide) ?_
            refine lv_istore (lv' := [(6, .int 0), (5, .int 1), (4, .int r34), (0, .ref (gB G 66)), (1, .int x1), (2, .int x2), (3, .int x3)]) hx hb dX9_lets_74 hl (by decide) rfl (fun ls hl => ?_)
            exact w_X9_lets_76 hG C x1 x2 x3 r34 FU 1 0 h34 _ _ _ (lv_sub hl [3, 4, 5, 6, 2, 1, 0] rfl) hP hS hf
          · replace hf := if_f c52 hf
            refine lv_aload_n hx hb dX9_lets_55 rfl (lv_at hl 1 rfl) ?_
            refine r_get (a := 66) (v := .int (h34.1 66 46)) (C := RX9) (T := TX9) (N := 55) hx hb hts hinX9 hown hK hP (ltX9 rfl) (ceX9 rfl) rfl 46 (by decide) wd1081 rfl dX9_lets_56 ?_
            refine lv_iload_n hx hb dX9_lets_59 rfl (lv_at hl 2 rfl) ?_
            obtain ⟨r60, er60, hf⟩ := bO_s hf
            refine r_callI (va_runS (As := [.int (h34.1 66 46), .int x1]) (rest := []) ⟨hx, hb, hml, hown, hts⟩ (k_X9_has l hG (h := h34) er60) (va_cwS 2 hts (gS wd1260 wd1261 wd82 wd1262) rfl rfl rfl (by decide +kernel) ⟨Nat.le_of_ble_eq_true rfl, Nat.le_of_ble_eq_true rfl⟩) (r_ps hK hP hS) rfl rfl hl.1 rfl (lv_room (Nat.le_of_ble_eq_true rfl)) dX9_lets_60 ⟨Nat.le_of_ble_eq_true rfl, Nat.le_of_ble_eq_true rfl⟩) hS (fun H locs hP hS => ?_)
            refine lv_if_eq (tgt := 70) hx hb dX9_lets_63 (by decide) (fun c63 => ?_) (fun c63 => ?_)
            · replace hf := if_t c63 hf
              refine lv_iconst (v := 0) hx hb dX9_lets_70 (by decide) ?_
              refine lv_istore (lv' := [(5, .int 0), (4, .int r34), (0, .ref (gB G 66)), (1, .int x1), (2, .int x2), (3, .int x3)]) hx hb dX9_lets_71 hl (by decide) rfl (fun ls hl => ?_)
              refine lv_iconst (v := 0) hx hb dX9_lets_73 (by decide) ?_
              refine lv_istore (lv' := [(6, .int 0), (5, .int 0), (4, .int r34), (0, .ref (gB G 66)), (1, .int x1), (2, .int x2), (3, .int x3)]) hx hb dX9_lets_74 hl (by decide) rfl (fun ls hl => ?_)
              exact w_X9_lets_76 hG C x1 x2 x3 r34 FU 0 0 h34 _ _ _ (lv_sub hl [3, 4, 5, 6, 2, 1, 0] rfl) hP hS hf
            · replace hf := if_f c63 hf
              refine lv_iconst (v := 1) hx hb dX9_lets_66 (by decide) ?_
              refine lv_goto (tgt := 71) hx hb dX9_lets_67 (by decide) ?_
              refine lv_istore (lv' := [(5, .int 1), (4, .int r34), (0, .ref (gB G 66)), (1, .int x1), (2, .int x2), (3, .int x3)]) hx hb dX9_lets_71 hl (by decide) rfl (fun ls hl => ?_)
              refine lv_iconst (v := 0) hx hb dX9_lets_73 (by decide) ?_
              refine lv_istore (lv' := [(6, .int 0), (5, .int 1), (4, .int r34), (0, .ref (gB G 66)), (1, .int x1), (2, .int x2), (3, .int x3)]) hx hb dX9_lets_74 hl (by decide) rfl (fun ls hl => ?_)
              exact w_X9_lets_76 hG C x1 x2 x3 r34 FU 1 0 h34 _ _ _ (lv_sub hl [3, 4, 5, 6, 2, 1, 0] rfl) hP hS hf
        · replace hf := if_f c41 hf
          refine lv_sipush (v := (-1003)) hx hb dX9_lets_44 (by decide) ?_
          exact r_iret hx hb hr hlocks hP hS (re2 (Option.some.inj hf)) dX9_lets_47
      · replace hf := if_t c24 hf
        refine lv_sipush (v := (-1002)) hx hb dX9_lets_27 (by decide) ?_
        exact r_iret hx hb hr hlocks hP hS (re2 (Option.some.inj hf)) dX9_lets_30
    · replace hf := if_t c13 hf
      refine lv_sipush (v := (-1001)) hx hb dX9_lets_16 (by decide) ?_
      exact r_iret hx hb hr hlocks hP hS (re2 (Option.some.inj hf)) dX9_lets_19
/-! CarriedBackModel.keep(I)I -/
abbrev rmX9_keep : Room := { frames := 1, cells := 0, slots := 0, locals := 25 }
abbrev vX9_keep : List Cond := Cond.code yX9_keep cX9_keep 4 (some .int) :: GW
def f_X9_keep_203 (x1 : Int32) (x2 : Int32) : Nat → Int32 → PH → Option (Int32 × PH)
  | 0, _, _ => none
  | n + 1, x3, h => if (320 : Int32) ≤ x3 then (bO (asg h 97 2 x1 (vp_nar .boolean 1)) (fun h240 => some (1, h240))) else (bO (ag h 80 320 x3) (fun v226 => bO (asg h 96 1000 ((x2 + 138) + x3) v226) (fun h227 => (f_X9_keep_203 x1 x2 n) (x3 + 1) h227)))
set_option maxHeartbeats 4000000 in
set_option maxRecDepth 100000 in
theorem w_X9_keep_203 {l : Launch} {G : GC} (hG : GOK G) {rr : Int32} {hh : PH} {p : Program} {e : Env} {s : State} {m : MethodId} {args : Array Value} {below : List Frame} {meth : Method} {c : Code} (C : MC l G p s m args meth c RX9 cX9_keep 4 (some .int)) (x1 : Int32) (x2 : Int32) : ∀ (n : Nat) (x3 : Int32) (h : PH) (H : Heap) (locs : List Loc) (ls : Array Slot), lv_has ls 4 [(0, .ref (gB G 66)), (1, .int x1), (2, .int x2), (3, .int x3)] → WP G h H → SP G s H locs → f_X9_keep_203 x1 x2 n x3 h = some (rr, hh) → W p l e rmX9_keep s m args below meth c H locs 0 0 (MQ below (QI G rr hh) args s 0 0 (gA G)) (F0 m 203 ls []) := by
  obtain ⟨hx, hb, hr, hlocks, hml, hown, hts, hK⟩ := id C
  intro n
  induction n with
  | zero => intro x3 h H locs ls hl hP hS hf; rw [f_X9_keep_203] at hf; cases hf
  | succ n ih =>
    intro x3 h H locs ls hl hP hS hf
    rw [f_X9_keep_203] at hf
    refine lv_iload_n hx hb dX9_keep_203 rfl (lv_at hl 3 rfl) ?_
    refine lv_sipush (v := 320) hx hb dX9_keep_204 (by decide) ?_
    refine lv_icmp_ge (tgt := 234) hx hb dX9_keep_207 (by decide) (fun c207 => ?_) (fun c207 => ?_)
    · replace hf := if_t c207 hf
      refine lv_aload_n hx hb dX9_keep_234 rfl (lv_at hl 0 rfl) ?_
      refine r_get (a := 66) (v := .ref (gB G 97)) (C := RX9) (T := TX9) (N := 55) hx hb hts hinX9 hown hK hP (ltX9 rfl) (ceX9 rfl) rfl 54 (by decide) wd1089 rfl dX9_keep_235 ?_
      refine lv_iload_n hx hb dX9_keep_238 rfl (lv_at hl 1 rfl) ?_
      refine lv_iconst (v := 1) hx hb dX9_keep_239 (by decide) ?_
      obtain ⟨h240, eh240, hf⟩ := bO_s hf
      refine r_zast hG hx hb hK hP hS (arX9_54 rfl) eh240 dX9_keep_240 (fun H locs hP hS => ?_)
      refine lv_iconst (v := 1) hx hb dX9_keep_241 (by decide) ?_
      exact r_iret hx hb hr hlocks hP hS (re2 (Option.some.inj hf)) dX9_keep_242
    · replace hf := if_f c207 hf
      refine lv_aload_n hx hb dX9_keep_210 rfl (lv_at hl 0 rfl) ?_
      refine r_get (a := 66) (v := .ref (gB G 96)) (C := RX9) (T := TX9) (N := 55) hx hb hts hinX9 hown hK hP (ltX9 rfl) (ceX9 rfl) rfl 53 (by decide) wd1088 rfl dX9_keep_211 ?_
      refine lv_iload_n hx hb dX9_keep_214 rfl (lv_at hl 2 rfl) ?_
      refine lv_sipush (v := 138) hx hb dX9_keep_215 (by decide) ?_
      refine lv_iadd hx hb dX9_keep_218 ?_
      refine lv_iload_n hx hb dX9_keep_219 rfl (lv_at hl 3 rfl) ?_
      refine lv_iadd hx hb dX9_keep_220 ?_
      refine lv_aload_n hx hb dX9_keep_221 rfl (lv_at hl 0 rfl) ?_
      refine r_get (a := 66) (v := .ref (gB G 80)) (C := RX9) (T := TX9) (N := 55) hx hb hts hinX9 hown hK hP (ltX9 rfl) (ceX9 rfl) rfl 17 (by decide) wd1052 rfl dX9_keep_222 ?_
      refine lv_iload_n hx hb dX9_keep_225 rfl (lv_at hl 3 rfl) ?_
      obtain ⟨v226, ev226, hf⟩ := bO_s hf
      refine r_iald hx hb hK hP (arX9_17 rfl) ev226 dX9_keep_226 ?_
      obtain ⟨h227, eh227, hf⟩ := bO_s hf
      refine r_iast hG hx hb hK hP hS (arX9_53 rfl) eh227 dX9_keep_227 (fun H locs hP hS => ?_)
      refine lv_iinc (v := (x3 + 1)) (lv' := [(3, .int (x3 + 1)), (0, .ref (gB G 66)), (1, .int x1), (2, .int x2)]) hx hb dX9_keep_228 hl (k := 3) rfl rfl (by decide) rfl (fun ls hl => ?_)
      refine lv_goto (tgt := 203) hx hb dX9_keep_231 (by decide) ?_
      exact ih (x3 + 1) h227 _ _ _ (lv_sub hl [1, 2, 3, 0] rfl) hP hS hf
def f_X9_keep_138 (x1 : Int32) (x2 : Int32) : Nat → Int32 → PH → Option (Int32 × PH)
  | 0, _, _ => none
  | n + 1, x3, h => if (20 : Int32) ≤ x3 then (f_X9_keep_203 x1 x2 FU 0 h) else (bO (ag h 77 20 x3) (fun v159 => bO (asg h 96 1000 ((x2 + 78) + x3) v159) (fun h160 => bO (ag h160 78 20 x3) (fun v176 => bO (asg h160 96 1000 ((x2 + 98) + x3) v176) (fun h177 => bO (ag h177 79 20 x3) (fun v193 => bO (asg h177 96 1000 ((x2 + 118) + x3) v193) (fun h194 => (f_X9_keep_138 x1 x2 n) (x3 + 1) h194)))))))
set_option maxHeartbeats 4000000 in
set_option maxRecDepth 100000 in
theorem w_X9_keep_138 {l : Launch} {G : GC} (hG : GOK G) {rr : Int32} {hh : PH} {p : Program} {e : Env} {s : State} {m : MethodId} {args : Array Value} {below : List Frame} {meth : Method} {c : Code} (C : MC l G p s m args meth c RX9 cX9_keep 4 (some .int)) (x1 : Int32) (x2 : Int32) : ∀ (n : Nat) (x3 : Int32) (h : PH) (H : Heap) (locs : List Loc) (ls : Array Slot), lv_has ls 4 [(0, .ref (gB G 66)), (1, .int x1), (2, .int x2), (3, .int x3)] → WP G h H → SP G s H locs → f_X9_keep_138 x1 x2 n x3 h = some (rr, hh) → W p l e rmX9_keep s m args below meth c H locs 0 0 (MQ below (QI G rr hh) args s 0 0 (gA G)) (F0 m 138 ls []) := by
  obtain ⟨hx, hb, hr, hlocks, hml, hown, hts, hK⟩ := id C
  intro n
  induction n with
  | zero => intro x3 h H locs ls hl hP hS hf; rw [f_X9_keep_138] at hf; cases hf
  | succ n ih =>
    intro x3 h H locs ls hl hP hS hf
    rw [f_X9_keep_138] at hf
    refine lv_iload_n hx hb dX9_keep_138 rfl (lv_at hl 3 rfl) ?_
    refine lv_bipush (v := 20) hx hb dX9_keep_139 (by decide) ?_
    refine lv_icmp_ge (tgt := 201) hx hb dX9_keep_141 (by decide) (fun c141 => ?_) (fun c141 => ?_)
    · replace hf := if_t c141 hf
      refine lv_iconst (v := 0) hx hb dX9_keep_201 (by decide) ?_
      refine lv_istore_n (lv' := [(3, .int 0), (0, .ref (gB G 66)), (1, .int x1), (2, .int x2)]) hx hb dX9_keep_202 rfl hl (by decide) rfl (fun ls hl => ?_)
      exact w_X9_keep_203 hG C x1 x2 FU 0 h _ _ _ (lv_sub hl [1, 2, 3, 0] rfl) hP hS hf
    · replace hf := if_f c141 hf
      refine lv_aload_n hx hb dX9_keep_144 rfl (lv_at hl 0 rfl) ?_
      refine r_get (a := 66) (v := .ref (gB G 96)) (C := RX9) (T := TX9) (N := 55) hx hb hts hinX9 hown hK hP (ltX9 rfl) (ceX9 rfl) rfl 53 (by decide) wd1088 rfl dX9_keep_145 ?_
      refine lv_iload_n hx hb dX9_keep_148 rfl (lv_at hl 2 rfl) ?_
      refine lv_bipush (v := 78) hx hb dX9_keep_149 (by decide) ?_
      refine lv_iadd hx hb dX9_keep_151 ?_
      refine lv_iload_n hx hb dX9_keep_152 rfl (lv_at hl 3 rfl) ?_
      refine lv_iadd hx hb dX9_keep_153 ?_
      refine lv_aload_n hx hb dX9_keep_154 rfl (lv_at hl 0 rfl) ?_
      refine r_get (a := 66) (v := .ref (gB G 77)) (C := RX9) (T := TX9) (N := 55) hx hb hts hinX9 hown hK hP (ltX9 rfl) (ceX9 rfl) rfl 14 (by decide) wd1049 rfl dX9_keep_155 ?_
      refine lv_iload_n hx hb dX9_keep_158 rfl (lv_at hl 3 rfl) ?_
      obtain ⟨v159, ev159, hf⟩ := bO_s hf
      refine r_iald hx hb hK hP (arX9_14 rfl) ev159 dX9_keep_159 ?_
      obtain ⟨h160, eh160, hf⟩ := bO_s hf
      refine r_iast hG hx hb hK hP hS (arX9_53 rfl) eh160 dX9_keep_160 (fun H locs hP hS => ?_)
      refine lv_aload_n hx hb dX9_keep_161 rfl (lv_at hl 0 rfl) ?_
      refine r_get (a := 66) (v := .ref (gB G 96)) (C := RX9) (T := TX9) (N := 55) hx hb hts hinX9 hown hK hP (ltX9 rfl) (ceX9 rfl) rfl 53 (by decide) wd1088 rfl dX9_keep_162 ?_
      refine lv_iload_n hx hb dX9_keep_165 rfl (lv_at hl 2 rfl) ?_
      refine lv_bipush (v := 98) hx hb dX9_keep_166 (by decide) ?_
      refine lv_iadd hx hb dX9_keep_168 ?_
      refine lv_iload_n hx hb dX9_keep_169 rfl (lv_at hl 3 rfl) ?_
      refine lv_iadd hx hb dX9_keep_170 ?_
      refine lv_aload_n hx hb dX9_keep_171 rfl (lv_at hl 0 rfl) ?_
      refine r_get (a := 66) (v := .ref (gB G 78)) (C := RX9) (T := TX9) (N := 55) hx hb hts hinX9 hown hK hP (ltX9 rfl) (ceX9 rfl) rfl 15 (by decide) wd1050 rfl dX9_keep_172 ?_
      refine lv_iload_n hx hb dX9_keep_175 rfl (lv_at hl 3 rfl) ?_
      obtain ⟨v176, ev176, hf⟩ := bO_s hf
      refine r_iald hx hb hK hP (arX9_15 rfl) ev176 dX9_keep_176 ?_
      obtain ⟨h177, eh177, hf⟩ := bO_s hf
      refine r_iast hG hx hb hK hP hS (arX9_53 rfl) eh177 dX9_keep_177 (fun H locs hP hS => ?_)
      refine lv_aload_n hx hb dX9_keep_178 rfl (lv_at hl 0 rfl) ?_
      refine r_get (a := 66) (v := .ref (gB G 96)) (C := RX9) (T := TX9) (N := 55) hx hb hts hinX9 hown hK hP (ltX9 rfl) (ceX9 rfl) rfl 53 (by decide) wd1088 rfl dX9_keep_179 ?_
      refine lv_iload_n hx hb dX9_keep_182 rfl (lv_at hl 2 rfl) ?_
      refine lv_bipush (v := 118) hx hb dX9_keep_183 (by decide) ?_
      refine lv_iadd hx hb dX9_keep_185 ?_
      refine lv_iload_n hx hb dX9_keep_186 rfl (lv_at hl 3 rfl) ?_
      refine lv_iadd hx hb dX9_keep_187 ?_
      refine lv_aload_n hx hb dX9_keep_188 rfl (lv_at hl 0 rfl) ?_
      refine r_get (a := 66) (v := .ref (gB G 79)) (C := RX9) (T := TX9) (N := 55) hx hb hts hinX9 hown hK hP (ltX9 rfl) (ceX9 rfl) rfl 16 (by decide) wd1051 rfl dX9_keep_189 ?_
      refine lv_iload_n hx hb dX9_keep_192 rfl (lv_at hl 3 rfl) ?_
      obtain ⟨v193, ev193, hf⟩ := bO_s hf
      refine r_iald hx hb hK hP (arX9_16 rfl) ev193 dX9_keep_193 ?_
      obtain ⟨h194, eh194, hf⟩ := bO_s hf
      refine r_iast hG hx hb hK hP hS (arX9_53 rfl) eh194 dX9_keep_194 (fun H locs hP hS => ?_)
      refine lv_iinc (v := (x3 + 1)) (lv' := [(3, .int (x3 + 1)), (0, .ref (gB G 66)), (1, .int x1), (2, .int x2)]) hx hb dX9_keep_195 hl (k := 3) rfl rfl (by decide) rfl (fun ls hl => ?_)
      refine lv_goto (tgt := 138) hx hb dX9_keep_198 (by decide) ?_
      exact ih (x3 + 1) h194 _ _ _ (lv_sub hl [1, 2, 3, 0] rfl) hP hS hf
def f_X9_keep_107 (x1 : Int32) (x2 : Int32) : Nat → Int32 → PH → Option (Int32 × PH)
  | 0, _, _ => none
  | n + 1, x3, h => if (64 : Int32) ≤ x3 then (f_X9_keep_138 x1 x2 FU 0 h) else (bO (ag h 75 64 x3) (fun v128 => bO (asg h 96 1000 ((x2 + 14) + x3) v128) (fun h129 => (f_X9_keep_107 x1 x2 n) (x3 + 1) h129)))
set_option maxHeartbeats 4000000 in
set_option maxRecDepth 100000 in
theorem w_X9_keep_107 {l : Launch} {G : GC} (hG : GOK G) {rr : Int32} {hh : PH} {p : Program} {e : Env} {s : State} {m : MethodId} {args : Array Value} {below : List Frame} {meth : Method} {c : Code} (C : MC l G p s m args meth c RX9 cX9_keep 4 (some .int)) (x1 : Int32) (x2 : Int32) : ∀ (n : Nat) (x3 : Int32) (h : PH) (H : Heap) (locs : List Loc) (ls : Array Slot), lv_has ls 4 [(0, .ref (gB G 66)), (1, .int x1), (2, .int x2), (3, .int x3)] → WP G h H → SP G s H locs → f_X9_keep_107 x1 x2 n x3 h = some (rr, hh) → W p l e rmX9_keep s m args below meth c H locs 0 0 (MQ below (QI G rr hh) args s 0 0 (gA G)) (F0 m 107 ls []) := by
  obtain ⟨hx, hb, hr, hlocks, hml, hown, hts, hK⟩ := id C
  intro n
  induction n with
  | zero => intro x3 h H locs ls hl hP hS hf; rw [f_X9_keep_107] at hf; cases hf
  | succ n ih =>
    intro x3 h H locs ls hl hP hS hf
    rw [f_X9_keep_107] at hf
    refine lv_iload_n hx hb dX9_keep_107 rfl (lv_at hl 3 rfl) ?_
    refine lv_bipush (v := 64) hx hb dX9_keep_108 (by decide) ?_
    refine lv_icmp_ge (tgt := 136) hx hb dX9_keep_110 (by decide) (fun c110 => ?_) (fun c110 => ?_)
    · replace hf := if_t c110 hf
      refine lv_iconst (v := 0) hx hb dX9_keep_136 (by decide) ?_
      refine lv_istore_n (lv' := [(3, .int 0), (0, .ref (gB G 66)), (1, .int x1), (2, .int x2)]) hx hb dX9_keep_137 rfl hl (by decide) rfl (fun ls hl => ?_)
      exact w_X9_keep_138 hG C x1 x2 FU 0 h _ _ _ (lv_sub hl [1, 2, 3, 0] rfl) hP hS hf
    · replace hf := if_f c110 hf
      refine lv_aload_n hx hb dX9_keep_113 rfl (lv_at hl 0 rfl) ?_
      refine r_get (a := 66) (v := .ref (gB G 96)) (C := RX9) (T := TX9) (N := 55) hx hb hts hinX9 hown hK hP (ltX9 rfl) (ceX9 rfl) rfl 53 (by decide) wd1088 rfl dX9_keep_114 ?_
      refine lv_iload_n hx hb dX9_keep_117 rfl (lv_at hl 2 rfl) ?_
      refine lv_bipush (v := 14) hx hb dX9_keep_118 (by decide) ?_
      refine lv_iadd hx hb dX9_keep_120 ?_
      refine lv_iload_n hx hb dX9_keep_121 rfl (lv_at hl 3 rfl) ?_
      refine lv_iadd hx hb dX9_keep_122 ?_
      refine lv_aload_n hx hb dX9_keep_123 rfl (lv_at hl 0 rfl) ?_
      refine r_get (a := 66) (v := .ref (gB G 75)) (C := RX9) (T := TX9) (N := 55) hx hb hts hinX9 hown hK hP (ltX9 rfl) (ceX9 rfl) rfl 11 (by decide) wd1046 rfl dX9_keep_124 ?_
      refine lv_iload_n hx hb dX9_keep_127 rfl (lv_at hl 3 rfl) ?_
      obtain ⟨v128, ev128, hf⟩ := bO_s hf
      refine r_iald hx hb hK hP (arX9_11 rfl) ev128 dX9_keep_128 ?_
      obtain ⟨h129, eh129, hf⟩ := bO_s hf
      refine r_iast hG hx hb hK hP hS (arX9_53 rfl) eh129 dX9_keep_129 (fun H locs hP hS => ?_)
      refine lv_iinc (v := (x3 + 1)) (lv' := [(3, .int (x3 + 1)), (0, .ref (gB G 66)), (1, .int x1), (2, .int x2)]) hx hb dX9_keep_130 hl (k := 3) rfl rfl (by decide) rfl (fun ls hl => ?_)
      refine lv_goto (tgt := 107) hx hb dX9_keep_133 (by decide) ?_
      exact ih (x3 + 1) h129 _ _ _ (lv_sub hl [1, 2, 3, 0] rfl) hP hS hf
def f_X9_keep_44 (x1 : Int32) (x2 : Int32) : Nat → Int32 → PH → Option (Int32 × PH)
  | 0, _, _ => none
  | n + 1, x3, h => if (4 : Int32) ≤ x3 then (f_X9_keep_107 x1 x2 FU 0 h) else (bO (ag h 73 4 x3) (fun v63 => bO (asg h 96 1000 ((x2 + 2) + x3) v63) (fun h64 => bO (ag h64 74 4 x3) (fun v80 => bO (asg h64 96 1000 ((x2 + 6) + x3) v80) (fun h81 => bO (ag h81 76 4 x3) (fun v97 => bO (asg h81 96 1000 ((x2 + 10) + x3) v97) (fun h98 => (f_X9_keep_44 x1 x2 n) (x3 + 1) h98)))))))
set_option maxHeartbeats 4000000 in
set_option maxRecDepth 100000 in
theorem w_X9_keep_44 {l : Launch} {G : GC} (hG : GOK G) {rr : Int32} {hh : PH} {p : Program} {e : Env} {s : State} {m : MethodId} {args : Array Value} {below : List Frame} {meth : Method} {c : Code} (C : MC l G p s m args meth c RX9 cX9_keep 4 (some .int)) (x1 : Int32) (x2 : Int32) : ∀ (n : Nat) (x3 : Int32) (h : PH) (H : Heap) (locs : List Loc) (ls : Array Slot), lv_has ls 4 [(0, .ref (gB G 66)), (1, .int x1), (2, .int x2), (3, .int x3)] → WP G h H → SP G s H locs → f_X9_keep_44 x1 x2 n x3 h = some (rr, hh) → W p l e rmX9_keep s m args below meth c H locs 0 0 (MQ below (QI G rr hh) args s 0 0 (gA G)) (F0 m 44 ls []) := by
  obtain ⟨hx, hb, hr, hlocks, hml, hown, hts, hK⟩ := id C
  intro n
  induction n with
  | zero => intro x3 h H locs ls hl hP hS hf; rw [f_X9_keep_44] at hf; cases hf
  | succ n ih =>
    intro x3 h H locs ls hl hP hS hf
    rw [f_X9_keep_44] at hf
    refine lv_iload_n hx hb dX9_keep_44 rfl (lv_at hl 3 rfl) ?_
    refine lv_iconst (v := 4) hx hb dX9_keep_45 (by decide) ?_
    refine lv_icmp_ge (tgt := 105) hx hb dX9_keep_46 (by decide) (fun c46 => ?_) (fun c46 => ?_)
    · replace hf := if_t c46 hf
      refine lv_iconst (v := 0) hx hb dX9_keep_105 (by decide) ?_
      refine lv_istore_n (lv' := [(3, .int 0), (0, .ref (gB G 66)), (1, .int x1), (2, .int x2)]) hx hb dX9_keep_106 rfl hl (by decide) rfl (fun ls hl => ?_)
      exact w_X9_keep_107 hG C x1 x2 FU 0 h _ _ _ (lv_sub hl [1, 2, 3, 0] rfl) hP hS hf
    · replace hf := if_f c46 hf
      refine lv_aload_n hx hb dX9_keep_49 rfl (lv_at hl 0 rfl) ?_
      refine r_get (a := 66) (v := .ref (gB G 96)) (C := RX9) (T := TX9) (N := 55) hx hb hts hinX9 hown hK hP (ltX9 rfl) (ceX9 rfl) rfl 53 (by decide) wd1088 rfl dX9_keep_50 ?_
      refine lv_iload_n hx hb dX9_keep_53 rfl (lv_at hl 2 rfl) ?_
      refine lv_iconst (v := 2) hx hb dX9_keep_54 (by decide) ?_
      refine lv_iadd hx hb dX9_keep_55 ?_
      refine lv_iload_n hx hb dX9_keep_56 rfl (lv_at hl 3 rfl) ?_
      refine lv_iadd hx hb dX9_keep_57 ?_
      refine lv_aload_n hx hb dX9_keep_58 rfl (lv_at hl 0 rfl) ?_
      refine r_get (a := 66) (v := .ref (gB G 73)) (C := RX9) (T := TX9) (N := 55) hx hb hts hinX9 hown hK hP (ltX9 rfl) (ceX9 rfl) rfl 9 (by decide) wd1044 rfl dX9_keep_59 ?_
      refine lv_iload_n hx hb dX9_keep_62 rfl (lv_at hl 3 rfl) ?_
      obtain ⟨v63, ev63, hf⟩ := bO_s hf
      refine r_iald hx hb hK hP (arX9_9 rfl) ev63 dX9_keep_63 ?_
      obtain ⟨h64, eh64, hf⟩ := bO_s hf
      refine r_iast hG hx hb hK hP hS (arX9_53 rfl) eh64 dX9_keep_64 (fun H locs hP hS => ?_)
      refine lv_aload_n hx hb dX9_keep_65 rfl (lv_at hl 0 rfl) ?_
      refine r_get (a := 66) (v := .ref (gB G 96)) (C := RX9) (T := TX9) (N := 55) hx hb hts hinX9 hown hK hP (ltX9 rfl) (ceX9 rfl) rfl 53 (by decide) wd1088 rfl dX9_keep_66 ?_
      refine lv_iload_n hx hb dX9_keep_69 rfl (lv_at hl 2 rfl) ?_
      refine lv_bipush (v := 6) hx hb dX9_keep_70 (by decide) ?_
      refine lv_iadd hx hb dX9_keep_72 ?_
      refine lv_iload_n hx hb dX9_keep_73 rfl (lv_at hl 3 rfl) ?_
      refine lv_iadd hx hb dX9_keep_74 ?_
      refine lv_aload_n hx hb dX9_keep_75 rfl (lv_at hl 0 rfl) ?_
      refine r_get (a := 66) (v := .ref (gB G 74)) (C := RX9) (T := TX9) (N := 55) hx hb hts hinX9 hown hK hP (ltX9 rfl) (ceX9 rfl) rfl 10 (by decide) wd1045 rfl dX9_keep_76 ?_
      refine lv_iload_n hx hb dX9_keep_79 rfl (lv_at hl 3 rfl) ?_
      obtain ⟨v80, ev80, hf⟩ := bO_s hf
      refine r_iald hx hb hK hP (arX9_10 rfl) ev80 dX9_keep_80 ?_
      obtain ⟨h81, eh81, hf⟩ := bO_s hf
      refine r_iast hG hx hb hK hP hS (arX9_53 rfl) eh81 dX9_keep_81 (fun H locs hP hS => ?_)
      refine lv_aload_n hx hb dX9_keep_82 rfl (lv_at hl 0 rfl) ?_
      refine r_get (a := 66) (v := .ref (gB G 96)) (C := RX9) (T := TX9) (N := 55) hx hb hts hinX9 hown hK hP (ltX9 rfl) (ceX9 rfl) rfl 53 (by decide) wd1088 rfl dX9_keep_83 ?_
      refine lv_iload_n hx hb dX9_keep_86 rfl (lv_at hl 2 rfl) ?_
      refine lv_bipush (v := 10) hx hb dX9_keep_87 (by decide) ?_
      refine lv_iadd hx hb dX9_keep_89 ?_
      refine lv_iload_n hx hb dX9_keep_90 rfl (lv_at hl 3 rfl) ?_
      refine lv_iadd hx hb dX9_keep_91 ?_
      refine lv_aload_n hx hb dX9_keep_92 rfl (lv_at hl 0 rfl) ?_
      refine r_get (a := 66) (v := .ref (gB G 76)) (C := RX9) (T := TX9) (N := 55) hx hb hts hinX9 hown hK hP (ltX9 rfl) (ceX9 rfl) rfl 12 (by decide) wd1047 rfl dX9_keep_93 ?_
      refine lv_iload_n hx hb dX9_keep_96 rfl (lv_at hl 3 rfl) ?_
      obtain ⟨v97, ev97, hf⟩ := bO_s hf
      refine r_iald hx hb hK hP (arX9_12 rfl) ev97 dX9_keep_97 ?_
      obtain ⟨h98, eh98, hf⟩ := bO_s hf
      refine r_iast hG hx hb hK hP hS (arX9_53 rfl) eh98 dX9_keep_98 (fun H locs hP hS => ?_)
      refine lv_iinc (v := (x3 + 1)) (lv' := [(3, .int (x3 + 1)), (0, .ref (gB G 66)), (1, .int x1), (2, .int x2)]) hx hb dX9_keep_99 hl (k := 3) rfl rfl (by decide) rfl (fun ls hl => ?_)
      refine lv_goto (tgt := 44) hx hb dX9_keep_102 (by decide) ?_
      exact ih (x3 + 1) h98 _ _ _ (lv_sub hl [1, 2, 3, 0] rfl) hP hS hf
def f_X9_keep (x1 : Int32) (h : PH) : Option (Int32 × PH) := bO (f_X9_in (x1 : Int32).toInt64 0 1) (fun r4 => if r4 = 0 then (some ((-1001), h)) else (lt' ((500 * x1)) (fun x2_19 => bO (asg h 96 1000 x2_19 (h.1 66 8)) (fun h29 => bO (asg h29 96 1000 (x2_19 + 1) (h29.1 66 13)) (fun h41 => f_X9_keep_44 x1 x2_19 FU 0 h41)))))
set_option maxHeartbeats 4000000 in
set_option maxRecDepth 100000 in
theorem k_X9_keep (l : Launch) {G : GC} (hG : GOK G) {x1 : Int32} {rr : Int32} {h hh : PH} (hf : f_X9_keep x1 h = some (rr, hh)) : CI l yX9_keep vX9_keep rmX9_keep G [.ref (gB G 66), .int x1] h rr hh := by
  refine Met.ofW (cc := cX9_keep) (maxL := 4) (ret := (some .int)) (by decide +kernel) rfl ?_
  intro p e s m args below meth c s₁ B hml hv
  obtain ⟨rfl, hP, hK⟩ := hv
  have C : MC l G p s m _ meth c RX9 cX9_keep 4 (some .int) := ⟨B.exec, B.bytes, B.returns, B.notSynchronized, hml, findClass_of_methodNamed B.named, fun w hw => atoms_spec (ws := vX9_keep) B.pre w (List.mem_cons_of_mem _ hw), hK⟩
  obtain ⟨hx, hb, hr, hlocks, -, hown, hts, -⟩ := id C
  have hl := lv_entry ([.ref (gB G 66), .int x1]) (n := 4) (Nat.le_of_ble_eq_true rfl)
  rw [lg_entry_eq]
  generalize (lg_sl ([.ref (gB G 66), .int x1]) ++ List.replicate (4 - (lg_sl ([.ref (gB G 66), .int x1])).length) Slot.unset).toArray = ls at hl ⊢
  have hl : lv_has ls 4 [(0, .ref (gB G 66)), (1, .int x1)] := hl
  have hS : SP G s s.heap [] := va_S.rf
  replace hP : WP G h s.heap := hP
  rw [f_X9_keep] at hf
  refine lv_iload_n hx hb dX9_keep_0 rfl (lv_at hl 1 rfl) ?_
  refine lv_i2l hx hb dX9_keep_1 rfl ?_
  refine lv_lconst (v := 0) hx hb dX9_keep_2 (by decide) ?_
  refine lv_lconst (v := 1) hx hb dX9_keep_3 (by decide) ?_
  obtain ⟨r4, er4, hf⟩ := bO_s hf
  refine r_callI (va_runS (As := [.long (x1 : Int32).toInt64, .long 0, .long 1]) (rest := []) ⟨hx, hb, hml, hown, hts⟩ (k_X9_in l hG (h := h) er4) (va_cwS 3 hts (gS wd1206 wd1207 wd82 wd1208) rfl rfl rfl (by decide +kernel) ⟨Nat.le_of_ble_eq_true rfl, Nat.le_of_ble_eq_true rfl⟩) (r_ps hK hP hS) rfl rfl hl.1 rfl (lv_room (Nat.le_of_ble_eq_true rfl)) dX9_keep_4 ⟨Nat.le_of_ble_eq_true rfl, Nat.le_of_ble_eq_true rfl⟩) hS (fun H locs hP hS => ?_)
  refine lv_if_ne (tgt := 14) hx hb dX9_keep_7 (by decide) (fun c7 => ?_) (fun c7 => ?_)
  · replace hf := if_f c7 hf
    refine lv_sipush (v := 500) hx hb dX9_keep_14 (by decide) ?_
    refine lv_iload_n hx hb dX9_keep_17 rfl (lv_at hl 1 rfl) ?_
    refine lv_imul hx hb dX9_keep_18 ?_
    refine lv_topi (fun x2_19 ex2_19 => ?_)
    replace hf := lt_at ex2_19 hf
    refine lv_istore_n (lv' := [(2, .int x2_19), (0, .ref (gB G 66)), (1, .int x1)]) hx hb dX9_keep_19 rfl hl (by decide) rfl (fun ls hl => ?_)
    refine lv_aload_n hx hb dX9_keep_20 rfl (lv_at hl 1 rfl) ?_
    refine r_get (a := 66) (v := .ref (gB G 96)) (C := RX9) (T := TX9) (N := 55) hx hb hts hinX9 hown hK hP (ltX9 rfl) (ceX9 rfl) rfl 53 (by decide) wd1088 rfl dX9_keep_21 ?_
    refine lv_iload_n hx hb dX9_keep_24 rfl (lv_at hl 0 rfl) ?_
    refine lv_aload_n hx hb dX9_keep_25 rfl (lv_at hl 1 rfl) ?_
    refine r_get (a := 66) (v := .int (h.1 66 8)) (C := RX9) (T := TX9) (N := 55) hx hb hts hinX9 hown hK hP (ltX9 rfl) (ceX9 rfl) rfl 8 (by decide) wd1043 rfl dX9_keep_26 ?_
    obtain ⟨h29, eh29, hf⟩ := bO_s hf
    refine r_iast hG hx hb hK hP hS (arX9_53 rfl) eh29 dX9_keep_29 (fun H locs hP hS => ?_)
    refine lv_aload_n hx hb dX9_keep_30 rfl (lv_at hl 1 rfl) ?_
    refine r_get (a := 66) (v := .ref (gB G 96)) (C := RX9) (T := TX9) (N := 55) hx hb hts hinX9 hown hK hP (ltX9 rfl) (ceX9 rfl) rfl 53 (by decide) wd1088 rfl dX9_keep_31 ?_
    refine lv_iload_n hx hb dX9_keep_34 rfl (lv_at hl 0 rfl) ?_
    refine lv_iconst (v := 1) hx hb dX9_keep_35 (by decide) ?_
    refine lv_iadd hx hb dX9_keep_36 ?_
    refine lv_aload_n hx hb dX9_keep_37 rfl (lv_at hl 1 rfl) ?_
    refine r_get (a := 66) (v := .int (h29.1 66 13)) (C := RX9) (T := TX9) (N := 55) hx hb hts hinX9 hown hK hP (ltX9 rfl) (ceX9 rfl) rfl 13 (by decide) wd1048 rfl dX9_keep_38 ?_
    obtain ⟨h41, eh41, hf⟩ := bO_s hf
    refine r_iast hG hx hb hK hP hS (arX9_53 rfl) eh41 dX9_keep_41 (fun H locs hP hS => ?_)
    refine lv_iconst (v := 0) hx hb dX9_keep_42 (by decide) ?_
    refine lv_istore_n (lv' := [(3, .int 0), (2, .int x2_19), (0, .ref (gB G 66)), (1, .int x1)]) hx hb dX9_keep_43 rfl hl (by decide) rfl (fun ls hl => ?_)
    exact w_X9_keep_44 hG C x1 x2_19 FU 0 h41 _ _ _ (lv_sub hl [2, 3, 1, 0] rfl) hP hS hf
  · replace hf := if_t c7 hf
    refine lv_sipush (v := (-1001)) hx hb dX9_keep_10 (by decide) ?_
    exact r_iret hx hb hr hlocks hP hS (re2 (Option.some.inj hf)) dX9_keep_13
/-! CarriedBackModel.goBack(I)I -/
abbrev rmX9_goBack : Room := { frames := 1, cells := 0, slots := 0, locals := 25 }
abbrev vX9_goBack : List Cond := Cond.code yX9_goBack cX9_goBack 4 (some .int) :: GW
def f_X9_goBack_216 (x2 : Int32) : Nat → Int32 → PH → Option (Int32 × PH)
  | 0, _, _ => none
  | n + 1, x3, h => if (320 : Int32) ≤ x3 then (some (1, h)) else (bO (ag h 96 1000 ((x2 + 138) + x3)) (fun v239 => bO (asg h 80 320 x3 v239) (fun h240 => (f_X9_goBack_216 x2 n) (x3 + 1) h240)))
set_option maxHeartbeats 4000000 in
set_option maxRecDepth 100000 in
theorem w_X9_goBack_216 {l : Launch} {G : GC} (hG : GOK G) {rr : Int32} {hh : PH} {p : Program} {e : Env} {s : State} {m : MethodId} {args : Array Value} {below : List Frame} {meth : Method} {c : Code} (C : MC l G p s m args meth c RX9 cX9_goBack 4 (some .int)) (x2 : Int32) : ∀ (n : Nat) (x3 : Int32) (h : PH) (H : Heap) (locs : List Loc) (ls : Array Slot), lv_has ls 4 [(0, .ref (gB G 66)), (2, .int x2), (3, .int x3)] → WP G h H → SP G s H locs → f_X9_goBack_216 x2 n x3 h = some (rr, hh) → W p l e rmX9_goBack s m args below meth c H locs 0 0 (MQ below (QI G rr hh) args s 0 0 (gA G)) (F0 m 216 ls []) := by
  obtain ⟨hx, hb, hr, hlocks, hml, hown, hts, hK⟩ := id C
  intro n
  induction n with
  | zero => intro x3 h H locs ls hl hP hS hf; rw [f_X9_goBack_216] at hf; cases hf
  | succ n ih =>
    intro x3 h H locs ls hl hP hS hf
    rw [f_X9_goBack_216] at hf
    refine lv_iload_n hx hb dX9_goBack_216 rfl (lv_at hl 2 rfl) ?_
    refine lv_sipush (v := 320) hx hb dX9_goBack_217 (by decide) ?_
    refine lv_icmp_ge (tgt := 247) hx hb dX9_goBack_220 (by decide) (fun c220 => ?_) (fun c220 => ?_)
    · replace hf := if_t c220 hf
      refine lv_iconst (v := 1) hx hb dX9_goBack_247 (by decide) ?_
      exact r_iret hx hb hr hlocks hP hS (re2 (Option.some.inj hf)) dX9_goBack_248
    · replace hf := if_f c220 hf
      refine lv_aload_n hx hb dX9_goBack_223 rfl (lv_at hl 0 rfl) ?_
      refine r_get (a := 66) (v := .ref (gB G 80)) (C := RX9) (T := TX9) (N := 55) hx hb hts hinX9 hown hK hP (ltX9 rfl) (ceX9 rfl) rfl 17 (by decide) wd1052 rfl dX9_goBack_224 ?_
      refine lv_iload_n hx hb dX9_goBack_227 rfl (lv_at hl 2 rfl) ?_
      refine lv_aload_n hx hb dX9_goBack_228 rfl (lv_at hl 0 rfl) ?_
      refine r_get (a := 66) (v := .ref (gB G 96)) (C := RX9) (T := TX9) (N := 55) hx hb hts hinX9 hown hK hP (ltX9 rfl) (ceX9 rfl) rfl 53 (by decide) wd1088 rfl dX9_goBack_229 ?_
      refine lv_iload_n hx hb dX9_goBack_232 rfl (lv_at hl 1 rfl) ?_
      refine lv_sipush (v := 138) hx hb dX9_goBack_233 (by decide) ?_
      refine lv_iadd hx hb dX9_goBack_236 ?_
      refine lv_iload_n hx hb dX9_goBack_237 rfl (lv_at hl 2 rfl) ?_
      refine lv_iadd hx hb dX9_goBack_238 ?_
      obtain ⟨v239, ev239, hf⟩ := bO_s hf
      refine r_iald hx hb hK hP (arX9_53 rfl) ev239 dX9_goBack_239 ?_
      obtain ⟨h240, eh240, hf⟩ := bO_s hf
      refine r_iast hG hx hb hK hP hS (arX9_17 rfl) eh240 dX9_goBack_240 (fun H locs hP hS => ?_)
      refine lv_iinc (v := (x3 + 1)) (lv' := [(3, .int (x3 + 1)), (0, .ref (gB G 66)), (2, .int x2)]) hx hb dX9_goBack_241 hl (k := 2) rfl rfl (by decide) rfl (fun ls hl => ?_)
      refine lv_goto (tgt := 216) hx hb dX9_goBack_244 (by decide) ?_
      exact ih (x3 + 1) h240 _ _ _ (lv_sub hl [1, 2, 0] rfl) hP hS hf
def f_X9_goBack_151 (x2 : Int32) : Nat → Int32 → PH → Option (Int32 × PH)
  | 0, _, _ => none
  | n + 1, x3, h => if (20 : Int32) ≤ x3 then (f_X9_goBack_216 x2 FU 0 h) else (bO (ag h 96 1000 ((x2 + 78) + x3)) (fun v172 => bO (asg h 77 20 x3 v172) (fun h173 => bO (ag h173 96 1000 ((x2 + 98) + x3)) (fun v189 => bO (asg h173 78 20 x3 v189) (fun h190 => bO (ag h190 96 1000 ((x2 + 118) + x3)) (fun v206 => bO (asg h190 79 20 x3 v206) (fun h207 => (f_X9_goBack_151 x2 n) (x3 + 1) h207)))))))
set_option maxHeartbeats 4000000 in
set_option maxRecDepth 100000 in
theorem w_X9_goBack_151 {l : Launch} {G : GC} (hG : GOK G) {rr : Int32} {hh : PH} {p : Program} {e : Env} {s : State} {m : MethodId} {args : Array Value} {below : List Frame} {meth : Method} {c : Code} (C : MC l G p s m args meth c RX9 cX9_goBack 4 (some .int)) (x2 : Int32) : ∀ (n : Nat) (x3 : Int32) (h : PH) (H : Heap) (locs : List Loc) (ls : Array Slot), lv_has ls 4 [(0, .ref (gB G 66)), (2, .int x2), (3, .int x3)] → WP G h H → SP G s H locs → f_X9_goBack_151 x2 n x3 h = some (rr, hh) → W p l e rmX9_goBack s m args below meth c H locs 0 0 (MQ below (QI G rr hh) args s 0 0 (gA G)) (F0 m 151 ls []) := by
  obtain ⟨hx, hb, hr, hlocks, hml, hown, hts, hK⟩ := id C
  intro n
  induction n with
  | zero => intro x3 h H locs ls hl hP hS hf; rw [f_X9_goBack_151] at hf; cases hf
  | succ n ih =>
    intro x3 h H locs ls hl hP hS hf
    rw [f_X9_goBack_151] at hf
    refine lv_iload_n hx hb dX9_goBack_151 rfl (lv_at hl 2 rfl) ?_
    refine lv_bipush (v := 20) hx hb dX9_goBack_152 (by decide) ?_
    refine lv_icmp_ge (tgt := 214) hx hb dX9_goBack_154 (by decide) (fun c154 => ?_) (fun c154 => ?_)
    · replace hf := if_t c154 hf
      refine lv_iconst (v := 0) hx hb dX9_goBack_214 (by decide) ?_
      refine lv_istore_n (lv' := [(3, .int 0), (0, .ref (gB G 66)), (2, .int x2)]) hx hb dX9_goBack_215 rfl hl (by decide) rfl (fun ls hl => ?_)
      exact w_X9_goBack_216 hG C x2 FU 0 h _ _ _ (lv_sub hl [1, 2, 0] rfl) hP hS hf
    · replace hf := if_f c154 hf
      refine lv_aload_n hx hb dX9_goBack_157 rfl (lv_at hl 0 rfl) ?_
      refine r_get (a := 66) (v := .ref (gB G 77)) (C := RX9) (T := TX9) (N := 55) hx hb hts hinX9 hown hK hP (ltX9 rfl) (ceX9 rfl) rfl 14 (by decide) wd1049 rfl dX9_goBack_158 ?_
      refine lv_iload_n hx hb dX9_goBack_161 rfl (lv_at hl 2 rfl) ?_
      refine lv_aload_n hx hb dX9_goBack_162 rfl (lv_at hl 0 rfl) ?_
      refine r_get (a := 66) (v := .ref (gB G 96)) (C := RX9) (T := TX9) (N := 55) hx hb hts hinX9 hown hK hP (ltX9 rfl) (ceX9 rfl) rfl 53 (by decide) wd1088 rfl dX9_goBack_163 ?_
      refine lv_iload_n hx hb dX9_goBack_166 rfl (lv_at hl 1 rfl) ?_
      refine lv_bipush (v := 78) hx hb dX9_goBack_167 (by decide) ?_
      refine lv_iadd hx hb dX9_goBack_169 ?_
      refine lv_iload_n hx hb dX9_goBack_170 rfl (lv_at hl 2 rfl) ?_
      refine lv_iadd hx hb dX9_goBack_171 ?_
      obtain ⟨v172, ev172, hf⟩ := bO_s hf
      refine r_iald hx hb hK hP (arX9_53 rfl) ev172 dX9_goBack_172 ?_
      obtain ⟨h173, eh173, hf⟩ := bO_s hf
      refine r_iast hG hx hb hK hP hS (arX9_14 rfl) eh173 dX9_goBack_173 (fun H locs hP hS => ?_)
      refine lv_aload_n hx hb dX9_goBack_174 rfl (lv_at hl 0 rfl) ?_
      refine r_get (a := 66) (v := .ref (gB G 78)) (C := RX9) (T := TX9) (N := 55) hx hb hts hinX9 hown hK hP (ltX9 rfl) (ceX9 rfl) rfl 15 (by decide) wd1050 rfl dX9_goBack_175 ?_
      refine lv_iload_n hx hb dX9_goBack_178 rfl (lv_at hl 2 rfl) ?_
      refine lv_aload_n hx hb dX9_goBack_179 rfl (lv_at hl 0 rfl) ?_
      refine r_get (a := 66) (v := .ref (gB G 96)) (C := RX9) (T := TX9) (N := 55) hx hb hts hinX9 hown hK hP (ltX9 rfl) (ceX9 rfl) rfl 53 (by decide) wd1088 rfl dX9_goBack_180 ?_
      refine lv_iload_n hx hb dX9_goBack_183 rfl (lv_at hl 1 rfl) ?_
      refine lv_bipush (v := 98) hx hb dX9_goBack_184 (by decide) ?_
      refine lv_iadd hx hb dX9_goBack_186 ?_
      refine lv_iload_n hx hb dX9_goBack_187 rfl (lv_at hl 2 rfl) ?_
      refine lv_iadd hx hb dX9_goBack_188 ?_
      obtain ⟨v189, ev189, hf⟩ := bO_s hf
      refine r_iald hx hb hK hP (arX9_53 rfl) ev189 dX9_goBack_189 ?_
      obtain ⟨h190, eh190, hf⟩ := bO_s hf
      refine r_iast hG hx hb hK hP hS (arX9_15 rfl) eh190 dX9_goBack_190 (fun H locs hP hS => ?_)
      refine lv_aload_n hx hb dX9_goBack_191 rfl (lv_at hl 0 rfl) ?_
      refine r_get (a := 66) (v := .ref (gB G 79)) (C := RX9) (T := TX9) (N := 55) hx hb hts hinX9 hown hK hP (ltX9 rfl) (ceX9 rfl) rfl 16 (by decide) wd1051 rfl dX9_goBack_192 ?_
      refine lv_iload_n hx hb dX9_goBack_195 rfl (lv_at hl 2 rfl) ?_
      refine lv_aload_n hx hb dX9_goBack_196 rfl (lv_at hl 0 rfl) ?_
      refine r_get (a := 66) (v := .ref (gB G 96)) (C := RX9) (T := TX9) (N := 55) hx hb hts hinX9 hown hK hP (ltX9 rfl) (ceX9 rfl) rfl 53 (by decide) wd1088 rfl dX9_goBack_197 ?_
      refine lv_iload_n hx hb dX9_goBack_200 rfl (lv_at hl 1 rfl) ?_
      refine lv_bipush (v := 118) hx hb dX9_goBack_201 (by decide) ?_
      refine lv_iadd hx hb dX9_goBack_203 ?_
      refine lv_iload_n hx hb dX9_goBack_204 rfl (lv_at hl 2 rfl) ?_
      refine lv_iadd hx hb dX9_goBack_205 ?_
      obtain ⟨v206, ev206, hf⟩ := bO_s hf
      refine r_iald hx hb hK hP (arX9_53 rfl) ev206 dX9_goBack_206 ?_
      obtain ⟨h207, eh207, hf⟩ := bO_s hf
      refine r_iast hG hx hb hK hP hS (arX9_16 rfl) eh207 dX9_goBack_207 (fun H locs hP hS => ?_)
      refine lv_iinc (v := (x3 + 1)) (lv' := [(3, .int (x3 + 1)), (0, .ref (gB G 66)), (2, .int x2)]) hx hb dX9_goBack_208 hl (k := 2) rfl rfl (by decide) rfl (fun ls hl => ?_)
      refine lv_goto (tgt := 151) hx hb dX9_goBack_211 (by decide) ?_
      exact ih (x3 + 1) h207 _ _ _ (lv_sub hl [1, 2, 0] rfl) hP hS hf
def f_X9_goBack_120 (x2 : Int32) : Nat → Int32 → PH → Option (Int32 × PH)
  | 0, _, _ => none
  | n + 1, x3, h => if (64 : Int32) ≤ x3 then (f_X9_goBack_151 x2 FU 0 h) else (bO (ag h 96 1000 ((x2 + 14) + x3)) (fun v141 => bO (asg h 75 64 x3 v141) (fun h142 => (f_X9_goBack_120 x2 n) (x3 + 1) h142)))
set_option maxHeartbeats 4000000 in
set_option maxRecDepth 100000 in
theorem w_X9_goBack_120 {l : Launch} {G : GC} (hG : GOK G) {rr : Int32} {hh : PH} {p : Program} {e : Env} {s : State} {m : MethodId} {args : Array Value} {below : List Frame} {meth : Method} {c : Code} (C : MC l G p s m args meth c RX9 cX9_goBack 4 (some .int)) (x2 : Int32) : ∀ (n : Nat) (x3 : Int32) (h : PH) (H : Heap) (locs : List Loc) (ls : Array Slot), lv_has ls 4 [(0, .ref (gB G 66)), (2, .int x2), (3, .int x3)] → WP G h H → SP G s H locs → f_X9_goBack_120 x2 n x3 h = some (rr, hh) → W p l e rmX9_goBack s m args below meth c H locs 0 0 (MQ below (QI G rr hh) args s 0 0 (gA G)) (F0 m 120 ls []) := by
  obtain ⟨hx, hb, hr, hlocks, hml, hown, hts, hK⟩ := id C
  intro n
  induction n with
  | zero => intro x3 h H locs ls hl hP hS hf; rw [f_X9_goBack_120] at hf; cases hf
  | succ n ih =>
    intro x3 h H locs ls hl hP hS hf
    rw [f_X9_goBack_120] at hf
    refine lv_iload_n hx hb dX9_goBack_120 rfl (lv_at hl 2 rfl) ?_
    refine lv_bipush (v := 64) hx hb dX9_goBack_121 (by decide) ?_
    refine lv_icmp_ge (tgt := 149) hx hb dX9_goBack_123 (by decide) (fun c123 => ?_) (fun c123 => ?_)
    · replace hf := if_t c123 hf
      refine lv_iconst (v := 0) hx hb dX9_goBack_149 (by decide) ?_
      refine lv_istore_n (lv' := [(3, .int 0), (0, .ref (gB G 66)), (2, .int x2)]) hx hb dX9_goBack_150 rfl hl (by decide) rfl (fun ls hl => ?_)
      exact w_X9_goBack_151 hG C x2 FU 0 h _ _ _ (lv_sub hl [1, 2, 0] rfl) hP hS hf
    · replace hf := if_f c123 hf
      refine lv_aload_n hx hb dX9_goBack_126 rfl (lv_at hl 0 rfl) ?_
      refine r_get (a := 66) (v := .ref (gB G 75)) (C := RX9) (T := TX9) (N := 55) hx hb hts hinX9 hown hK hP (ltX9 rfl) (ceX9 rfl) rfl 11 (by decide) wd1046 rfl dX9_goBack_127 ?_
      refine lv_iload_n hx hb dX9_goBack_130 rfl (lv_at hl 2 rfl) ?_
      refine lv_aload_n hx hb dX9_goBack_131 rfl (lv_at hl 0 rfl) ?_
      refine r_get (a := 66) (v := .ref (gB G 96)) (C := RX9) (T := TX9) (N := 55) hx hb hts hinX9 hown hK hP (ltX9 rfl) (ceX9 rfl) rfl 53 (by decide) wd1088 rfl dX9_goBack_132 ?_
      refine lv_iload_n hx hb dX9_goBack_135 rfl (lv_at hl 1 rfl) ?_
      refine lv_bipush (v := 14) hx hb dX9_goBack_136 (by decide) ?_
      refine lv_iadd hx hb dX9_goBack_138 ?_
      refine lv_iload_n hx hb dX9_goBack_139 rfl (lv_at hl 2 rfl) ?_
      refine lv_iadd hx hb dX9_goBack_140 ?_
      obtain ⟨v141, ev141, hf⟩ := bO_s hf
      refine r_iald hx hb hK hP (arX9_53 rfl) ev141 dX9_goBack_141 ?_
      obtain ⟨h142, eh142, hf⟩ := bO_s hf
      refine r_iast hG hx hb hK hP hS (arX9_11 rfl) eh142 dX9_goBack_142 (fun H locs hP hS => ?_)
      refine lv_iinc (v := (x3 + 1)) (lv' := [(3, .int (x3 + 1)), (0, .ref (gB G 66)), (2, .int x2)]) hx hb dX9_goBack_143 hl (k := 2) rfl rfl (by decide) rfl (fun ls hl => ?_)
      refine lv_goto (tgt := 120) hx hb dX9_goBack_146 (by decide) ?_
      exact ih (x3 + 1) h142 _ _ _ (lv_sub hl [1, 2, 0] rfl) hP hS hf
def f_X9_goBack_57 (x2 : Int32) : Nat → Int32 → PH → Option (Int32 × PH)
  | 0, _, _ => none
  | n + 1, x3, h => if (4 : Int32) ≤ x3 then (f_X9_goBack_120 x2 FU 0 h) else (bO (ag h 96 1000 ((x2 + 2) + x3)) (fun v76 => bO (asg h 73 4 x3 v76) (fun h77 => bO (ag h77 96 1000 ((x2 + 6) + x3)) (fun v93 => bO (asg h77 74 4 x3 v93) (fun h94 => bO (ag h94 96 1000 ((x2 + 10) + x3)) (fun v110 => bO (asg h94 76 4 x3 v110) (fun h111 => (f_X9_goBack_57 x2 n) (x3 + 1) h111)))))))
set_option maxHeartbeats 4000000 in
set_option maxRecDepth 100000 in
theorem w_X9_goBack_57 {l : Launch} {G : GC} (hG : GOK G) {rr : Int32} {hh : PH} {p : Program} {e : Env} {s : State} {m : MethodId} {args : Array Value} {below : List Frame} {meth : Method} {c : Code} (C : MC l G p s m args meth c RX9 cX9_goBack 4 (some .int)) (x2 : Int32) : ∀ (n : Nat) (x3 : Int32) (h : PH) (H : Heap) (locs : List Loc) (ls : Array Slot), lv_has ls 4 [(0, .ref (gB G 66)), (2, .int x2), (3, .int x3)] → WP G h H → SP G s H locs → f_X9_goBack_57 x2 n x3 h = some (rr, hh) → W p l e rmX9_goBack s m args below meth c H locs 0 0 (MQ below (QI G rr hh) args s 0 0 (gA G)) (F0 m 57 ls []) := by
  obtain ⟨hx, hb, hr, hlocks, hml, hown, hts, hK⟩ := id C
  intro n
  induction n with
  | zero => intro x3 h H locs ls hl hP hS hf; rw [f_X9_goBack_57] at hf; cases hf
  | succ n ih =>
    intro x3 h H locs ls hl hP hS hf
    rw [f_X9_goBack_57] at hf
    refine lv_iload_n hx hb dX9_goBack_57 rfl (lv_at hl 2 rfl) ?_
    refine lv_iconst (v := 4) hx hb dX9_goBack_58 (by decide) ?_
    refine lv_icmp_ge (tgt := 118) hx hb dX9_goBack_59 (by decide) (fun c59 => ?_) (fun c59 => ?_)
    · replace hf := if_t c59 hf
      refine lv_iconst (v := 0) hx hb dX9_goBack_118 (by decide) ?_
      refine lv_istore_n (lv' := [(3, .int 0), (0, .ref (gB G 66)), (2, .int x2)]) hx hb dX9_goBack_119 rfl hl (by decide) rfl (fun ls hl => ?_)
      exact w_X9_goBack_120 hG C x2 FU 0 h _ _ _ (lv_sub hl [1, 2, 0] rfl) hP hS hf
    · replace hf := if_f c59 hf
      refine lv_aload_n hx hb dX9_goBack_62 rfl (lv_at hl 0 rfl) ?_
      refine r_get (a := 66) (v := .ref (gB G 73)) (C := RX9) (T := TX9) (N := 55) hx hb hts hinX9 hown hK hP (ltX9 rfl) (ceX9 rfl) rfl 9 (by decide) wd1044 rfl dX9_goBack_63 ?_
      refine lv_iload_n hx hb dX9_goBack_66 rfl (lv_at hl 2 rfl) ?_
      refine lv_aload_n hx hb dX9_goBack_67 rfl (lv_at hl 0 rfl) ?_
      refine r_get (a := 66) (v := .ref (gB G 96)) (C := RX9) (T := TX9) (N := 55) hx hb hts hinX9 hown hK hP (ltX9 rfl) (ceX9 rfl) rfl 53 (by decide) wd1088 rfl dX9_goBack_68 ?_
      refine lv_iload_n hx hb dX9_goBack_71 rfl (lv_at hl 1 rfl) ?_
      refine lv_iconst (v := 2) hx hb dX9_goBack_72 (by decide) ?_
      refine lv_iadd hx hb dX9_goBack_73 ?_
      refine lv_iload_n hx hb dX9_goBack_74 rfl (lv_at hl 2 rfl) ?_
      refine lv_iadd hx hb dX9_goBack_75 ?_
      obtain ⟨v76, ev76, hf⟩ := bO_s hf
      refine r_iald hx hb hK hP (arX9_53 rfl) ev76 dX9_goBack_76 ?_
      obtain ⟨h77, eh77, hf⟩ := bO_s hf
      refine r_iast hG hx hb hK hP hS (arX9_9 rfl) eh77 dX9_goBack_77 (fun H locs hP hS => ?_)
      refine lv_aload_n hx hb dX9_goBack_78 rfl (lv_at hl 0 rfl) ?_
      refine r_get (a := 66) (v := .ref (gB G 74)) (C := RX9) (T := TX9) (N := 55) hx hb hts hinX9 hown hK hP (ltX9 rfl) (ceX9 rfl) rfl 10 (by decide) wd1045 rfl dX9_goBack_79 ?_
      refine lv_iload_n hx hb dX9_goBack_82 rfl (lv_at hl 2 rfl) ?_
      refine lv_aload_n hx hb dX9_goBack_83 rfl (lv_at hl 0 rfl) ?_
      refine r_get (a := 66) (v := .ref (gB G 96)) (C := RX9) (T := TX9) (N := 55) hx hb hts hinX9 hown hK hP (ltX9 rfl) (ceX9 rfl) rfl 53 (by decide) wd1088 rfl dX9_goBack_84 ?_
      refine lv_iload_n hx hb dX9_goBack_87 rfl (lv_at hl 1 rfl) ?_
      refine lv_bipush (v := 6) hx hb dX9_goBack_88 (by decide) ?_
      refine lv_iadd hx hb dX9_goBack_90 ?_
      refine lv_iload_n hx hb dX9_goBack_91 rfl (lv_at hl 2 rfl) ?_
      refine lv_iadd hx hb dX9_goBack_92 ?_
      obtain ⟨v93, ev93, hf⟩ := bO_s hf
      refine r_iald hx hb hK hP (arX9_53 rfl) ev93 dX9_goBack_93 ?_
      obtain ⟨h94, eh94, hf⟩ := bO_s hf
      refine r_iast hG hx hb hK hP hS (arX9_10 rfl) eh94 dX9_goBack_94 (fun H locs hP hS => ?_)
      refine lv_aload_n hx hb dX9_goBack_95 rfl (lv_at hl 0 rfl) ?_
      refine r_get (a := 66) (v := .ref (gB G 76)) (C := RX9) (T := TX9) (N := 55) hx hb hts hinX9 hown hK hP (ltX9 rfl) (ceX9 rfl) rfl 12 (by decide) wd1047 rfl dX9_goBack_96 ?_
      refine lv_iload_n hx hb dX9_goBack_99 rfl (lv_at hl 2 rfl) ?_
      refine lv_aload_n hx hb dX9_goBack_100 rfl (lv_at hl 0 rfl) ?_
      refine r_get (a := 66) (v := .ref (gB G 96)) (C := RX9) (T := TX9) (N := 55) hx hb hts hinX9 hown hK hP (ltX9 rfl) (ceX9 rfl) rfl 53 (by decide) wd1088 rfl dX9_goBack_101 ?_
      refine lv_iload_n hx hb dX9_goBack_104 rfl (lv_at hl 1 rfl) ?_
      refine lv_bipush (v := 10) hx hb dX9_goBack_105 (by decide) ?_
      refine lv_iadd hx hb dX9_goBack_107 ?_
      refine lv_iload_n hx hb dX9_goBack_108 rfl (lv_at hl 2 rfl) ?_
      refine lv_iadd hx hb dX9_goBack_109 ?_
      obtain ⟨v110, ev110, hf⟩ := bO_s hf
      refine r_iald hx hb hK hP (arX9_53 rfl) ev110 dX9_goBack_110 ?_
      obtain ⟨h111, eh111, hf⟩ := bO_s hf
      refine r_iast hG hx hb hK hP hS (arX9_12 rfl) eh111 dX9_goBack_111 (fun H locs hP hS => ?_)
      refine lv_iinc (v := (x3 + 1)) (lv' := [(3, .int (x3 + 1)), (0, .ref (gB G 66)), (2, .int x2)]) hx hb dX9_goBack_112 hl (k := 2) rfl rfl (by decide) rfl (fun ls hl => ?_)
      refine lv_goto (tgt := 57) hx hb dX9_goBack_115 (by decide) ?_
      exact ih (x3 + 1) h111 _ _ _ (lv_sub hl [1, 2, 0] rfl) hP hS hf
def f_X9_goBack (x1 : Int32) (h : PH) : Option (Int32 × PH) := bO (f_X9_in (x1 : Int32).toInt64 0 1) (fun r4 => if r4 = 0 then (some ((-1001), h)) else (bO (ag h 97 2 x1) (fun v19 => if v19 = 0 then (some ((-1003), h)) else (lt' ((500 * x1)) (fun x2_32 => bO (ag h 96 1000 x2_32) (fun v39 => lt' (hU h 66 8 v39) (fun h40 => bO (ag h40 96 1000 (x2_32 + 1)) (fun v51 => lt' (hU h40 66 13 v51) (fun h52 => f_X9_goBack_57 x2_32 FU 0 h52)))))))))
set_option maxHeartbeats 4000000 in
set_option maxRecDepth 100000 in
theorem k_X9_goBack (l : Launch) {G : GC} (hG : GOK G) {x1 : Int32} {rr : Int32} {h hh : PH} (hf : f_X9_goBack x1 h = some (rr, hh)) : CI l yX9_goBack vX9_goBack rmX9_goBack G [.ref (gB G 66), .int x1] h rr hh := by
  refine Met.ofW (cc := cX9_goBack) (maxL := 4) (ret := (some .int)) (by decide +kernel) rfl ?_
  intro p e s m args below meth c s₁ B hml hv
  obtain ⟨rfl, hP, hK⟩ := hv
  have C : MC l G p s m _ meth c RX9 cX9_goBack 4 (some .int) := ⟨B.exec, B.bytes, B.returns, B.notSynchronized, hml, findClass_of_methodNamed B.named, fun w hw => atoms_spec (ws := vX9_goBack) B.pre w (List.mem_cons_of_mem _ hw), hK⟩
  obtain ⟨hx, hb, hr, hlocks, -, hown, hts, -⟩ := id C
  have hl := lv_entry ([.ref (gB G 66), .int x1]) (n := 4) (Nat.le_of_ble_eq_true rfl)
  rw [lg_entry_eq]
  generalize (lg_sl ([.ref (gB G 66), .int x1]) ++ List.replicate (4 - (lg_sl ([.ref (gB G 66), .int x1])).length) Slot.unset).toArray = ls at hl ⊢
  have hl : lv_has ls 4 [(0, .ref (gB G 66)), (1, .int x1)] := hl
  have hS : SP G s s.heap [] := va_S.rf
  replace hP : WP G h s.heap := hP
  rw [f_X9_goBack] at hf
  refine lv_iload_n hx hb dX9_goBack_0 rfl (lv_at hl 1 rfl) ?_
  refine lv_i2l hx hb dX9_goBack_1 rfl ?_
  refine lv_lconst (v := 0) hx hb dX9_goBack_2 (by decide) ?_
  refine lv_lconst (v := 1) hx hb dX9_goBack_3 (by decide) ?_
  obtain ⟨r4, er4, hf⟩ := bO_s hf
  refine r_callI (va_runS (As := [.long (x1 : Int32).toInt64, .long 0, .long 1]) (rest := []) ⟨hx, hb, hml, hown, hts⟩ (k_X9_in l hG (h := h) er4) (va_cwS 3 hts (gS wd1206 wd1207 wd82 wd1208) rfl rfl rfl (by decide +kernel) ⟨Nat.le_of_ble_eq_true rfl, Nat.le_of_ble_eq_true rfl⟩) (r_ps hK hP hS) rfl rfl hl.1 rfl (lv_room (Nat.le_of_ble_eq_true rfl)) dX9_goBack_4 ⟨Nat.le_of_ble_eq_true rfl, Nat.le_of_ble_eq_true rfl⟩) hS (fun H locs hP hS => ?_)
  refine lv_if_ne (tgt := 14) hx hb dX9_goBack_7 (by decide) (fun c7 => ?_) (fun c7 => ?_)
  · replace hf := if_f c7 hf
    refine lv_aload_n hx hb dX9_goBack_14 rfl (lv_at hl 0 rfl) ?_
    refine r_get (a := 66) (v := .ref (gB G 97)) (C := RX9) (T := TX9) (N := 55) hx hb hts hinX9 hown hK hP (ltX9 rfl) (ceX9 rfl) rfl 54 (by decide) wd1089 rfl dX9_goBack_15 ?_
    refine lv_iload_n hx hb dX9_goBack_18 rfl (lv_at hl 1 rfl) ?_
    obtain ⟨v19, ev19, hf⟩ := bO_s hf
    refine r_zald hx hb hK hP (arX9_54 rfl) ev19 dX9_goBack_19 ?_
    refine lv_if_ne (tgt := 27) hx hb dX9_goBack_20 (by decide) (fun c20 => ?_) (fun c20 => ?_)
    · replace hf := if_f c20 hf
      refine lv_sipush (v := 500) hx hb dX9_goBack_27 (by decide) ?_
      refine lv_iload_n hx hb dX9_goBack_30 rfl (lv_at hl 1 rfl) ?_
      refine lv_imul hx hb dX9_goBack_31 ?_
      refine lv_topi (fun x2_32 ex2_32 => ?_)
      replace hf := lt_at ex2_32 hf
      refine lv_istore_n (lv' := [(2, .int x2_32), (0, .ref (gB G 66)), (1, .int x1)]) hx hb dX9_goBack_32 rfl hl (by decide) rfl (fun ls hl => ?_)
      refine lv_aload_n hx hb dX9_goBack_33 rfl (lv_at hl 1 rfl) ?_
      refine lv_aload_n hx hb dX9_goBack_34 rfl (lv_at hl 1 rfl) ?_
      refine r_get (a := 66) (v := .ref (gB G 96)) (C := RX9) (T := TX9) (N := 55) hx hb hts hinX9 hown hK hP (ltX9 rfl) (ceX9 rfl) rfl 53 (by decide) wd1088 rfl dX9_goBack_35 ?_
      refine lv_iload_n hx hb dX9_goBack_38 rfl (lv_at hl 0 rfl) ?_
      obtain ⟨v39, ev39, hf⟩ := bO_s hf
      refine r_iald hx hb hK hP (arX9_53 rfl) ev39 dX9_goBack_39 ?_
      obtain ⟨h40, eh40⟩ : ∃ y, y = hU h 66 8 v39 := ⟨_, rfl⟩
      replace hf := lt_at eh40 hf
      refine r_put (a := 66) (v := .int v39) (ty := .int) (h' := h40) (C := RX9) (T := TX9) (N := 55) hG hx hb hts hinX9 tyX9 tyX9_ok nmX9 hown hK hP hS (ltX9 rfl) (ceX9 rfl) rfl 8 (by decide) wd1043 rfl (by decide +kernel) rfl rfl (Nat.le_of_ble_eq_true rfl) (by rw [eh40]; exact fun j hj => cE_U hj) (by rw [eh40]; exact puX9_8 rfl _) dX9_goBack_40 (fun H locs hP hS => ?_)
      refine lv_aload_n hx hb dX9_goBack_43 rfl (lv_at hl 1 rfl) ?_
      refine lv_aload_n hx hb dX9_goBack_44 rfl (lv_at hl 1 rfl) ?_
      refine r_get (a := 66) (v := .ref (gB G 96)) (C := RX9) (T := TX9) (N := 55) hx hb hts hinX9 hown hK hP (ltX9 rfl) (ceX9 rfl) rfl 53 (by decide) wd1088 rfl dX9_goBack_45 ?_
      refine lv_iload_n hx hb dX9_goBack_48 rfl (lv_at hl 0 rfl) ?_
      refine lv_iconst (v := 1) hx hb dX9_goBack_49 (by decide) ?_
      refine lv_iadd hx hb dX9_goBack_50 ?_
      obtain ⟨v51, ev51, hf⟩ := bO_s hf
      refine r_iald hx hb hK hP (arX9_53 rfl) ev51 dX9_goBack_51 ?_
      obtain ⟨h52, eh52⟩ : ∃ y, y = hU h40 66 13 v51 := ⟨_, rfl⟩
      replace hf := lt_at eh52 hf
      refine r_put (a := 66) (v := .int v51) (ty := .int) (h' := h52) (C := RX9) (T := TX9) (N := 55) hG hx hb hts hinX9 tyX9 tyX9_ok nmX9 hown hK hP hS (ltX9 rfl) (ceX9 rfl) rfl 13 (by decide) wd1048 rfl (by decide +kernel) rfl rfl (Nat.le_of_ble_eq_true rfl) (by rw [eh52]; exact fun j hj => cE_U hj) (by rw [eh52]; exact puX9_13 rfl _) dX9_goBack_52 (fun H locs hP hS => ?_)
      refine lv_iconst (v := 0) hx hb dX9_goBack_55 (by decide) ?_
      refine lv_istore_n (lv' := [(3, .int 0), (2, .int x2_32), (0, .ref (gB G 66)), (1, .int x1)]) hx hb dX9_goBack_56 rfl hl (by decide) rfl (fun ls hl => ?_)
      exact w_X9_goBack_57 hG C x2_32 FU 0 h52 _ _ _ (lv_sub hl [2, 1, 0] rfl) hP hS hf
    · replace hf := if_t c20 hf
      refine lv_sipush (v := (-1003)) hx hb dX9_goBack_23 (by decide) ?_
      exact r_iret hx hb hr hlocks hP hS (re2 (Option.some.inj hf)) dX9_goBack_26
  · replace hf := if_t c7 hf
    refine lv_sipush (v := (-1001)) hx hb dX9_goBack_10 (by decide) ?_
    exact r_iret hx hb hr hlocks hP hS (re2 (Option.some.inj hf)) dX9_goBack_13
