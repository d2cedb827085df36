/-! CarriedBack.has(II)Z -/
def f_X8_has (x0 : Int32) (x1 : Int32) : Option Int32 := if ((x0 >>> (x1 &&& 31)) &&& 1) = 0 then (some 0) else (some 1)
abbrev rmX8_has : Room := { frames := 0, cells := 0, slots := 0, locals := 0 }
set_option maxHeartbeats 4000000 in
set_option maxRecDepth 100000 in
theorem k_X8_has (l : Launch) {G : GC} (hG : GOK G) {x0 : Int32} {x1 : Int32} {rr : Int32} {h : PH} (hf : f_X8_has x0 x1 = some rr) : CI l yX8_has wsX8_has rmX8_has G [.int x0, .int x1] h rr h := by
  refine Met.ofW (cc := cX8_has) (maxL := 2) (ret := (some .boolean)) (by decide +kernel) rfl ?_
  intro p e s m args below meth c s₁ B hml hv
  obtain ⟨rfl, hP, hK⟩ := hv
  have C : MC l G p s m _ meth c RX8 wsX8_has cX8_has 2 (some .boolean) := ⟨B.exec, B.bytes, B.returns, B.notSynchronized, hml, findClass_of_methodNamed B.named, atoms_spec (ws := wsX8_has) B.pre, hK⟩
  obtain ⟨hx, hb, hr, hlocks, -, hown, hts, -⟩ := id C
  have hl := lv_entry ([.int x0, .int x1]) (n := 2) (Nat.le_of_ble_eq_true rfl)
  rw [lg_entry_eq]
  generalize (lg_sl ([.int x0, .int x1]) ++ List.replicate (2 - (lg_sl ([.int x0, .int x1])).length) Slot.unset).toArray = ls at hl ⊢
  have hl : lv_has ls 2 [(0, .int x0), (1, .int x1)] := hl
  have hS : SP G s s.heap [] := va_S.rf
  replace hP : WP G h s.heap := hP
  rw [f_X8_has] at hf
  refine lv_iload_n hx hb dX8_has_0 rfl (lv_at hl 0 rfl) ?_
  refine lv_iload_n hx hb dX8_has_1 rfl (lv_at hl 1 rfl) ?_
  refine lv_ishr hx hb dX8_has_2 ?_
  refine lv_iconst (v := 1) hx hb dX8_has_3 (by decide) ?_
  refine lv_iand hx hb dX8_has_4 ?_
  refine lv_if_eq (tgt := 12) hx hb dX8_has_5 (by decide) (fun c5 => ?_) (fun c5 => ?_)
  · replace hf := if_t c5 hf
    refine lv_iconst (v := 0) hx hb dX8_has_12 (by decide) ?_
    exact r_zret hx hb hr rfl hlocks hP hS ⟨Option.some.inj hf, rfl⟩ dX8_has_13
  · replace hf := if_f c5 hf
    refine lv_iconst (v := 1) hx hb dX8_has_8 (by decide) ?_
    refine lv_goto (tgt := 13) hx hb dX8_has_9 (by decide) ?_
    exact r_zret hx hb hr rfl hlocks hP hS ⟨Option.some.inj hf, rfl⟩ dX8_has_13
/-! CarriedBack$Trunk.clashOf(I[II)I -/
set_option maxRecDepth 20000 in
theorem hinX7_clashOf_X7 : ∀ w ∈ u_ws RX7 TX7 10, w ∈ wsX7_clashOf := by decide +kernel
def f_X7_clashOf_21 (a0 : Nat) (V2 n2 : Nat) (x1 : Int32) (x3 : Int32) (x4 : Int32) : Nat → Int32 → Int32 → PH → Option (Int32 × PH)
  | 0, _, _, _ => none
  | n + 1, x5, x6, h => if (16 : Int32) ≤ x6 then (some (x5, h)) else (bO (f_X8_has x4 x6) (fun r32 => if r32 = 0 then ((f_X7_clashOf_21 a0 V2 n2 x1 x3 x4 n) x5 (x6 + 1) h) else (bO (ag h V2 n2 ((x3 * 16) + x6)) (fun v46 => bO (ag h (a0 + 5) 400 ((x1 * 16) + x6)) (fun v58 => if v46 = v58 then ((f_X7_clashOf_21 a0 V2 n2 x1 x3 x4 n) x5 (x6 + 1) h) else (lt' ((x5 ||| (1 <<< (x6 &&& 31)))) (fun x5_69 => (f_X7_clashOf_21 a0 V2 n2 x1 x3 x4 n) x5_69 (x6 + 1) h)))))))
set_option maxHeartbeats 4000000 in
set_option maxRecDepth 100000 in
theorem w_X7_clashOf_21 {l : Launch} {G : GC} (hG : GOK G) {rr : Int32} {hh : PH} {p : Program} {e : Env} {s : State} {m : MethodId} {args : Array Value} {below : List Frame} {meth : Method} {c : Code} (C : MC l G p s m args meth c RX7 wsX7_clashOf cX7_clashOf 7 (some .int)) (a0 : Nat) (ha0 : kdX7 a0) (V2 n2 : Nat) (hV2 : isA V2 n2) (x1 : Int32) (x3 : Int32) (x4 : Int32) : ∀ (n : Nat) (x5 : Int32) (x6 : Int32) (h : PH) (H : Heap) (locs : List Loc) (ls : Array Slot), lv_has ls 7 [(0, .ref (gB G a0)), (1, .int x1), (2, .ref (gB G V2)), (3, .int x3), (4, .int x4), (5, .int x5), (6, .int x6)] → WP G h H → SP G s H locs → f_X7_clashOf_21 a0 V2 n2 x1 x3 x4 n x5 x6 h = some (rr, hh) → W p l e rmX7_clashOf s m args below meth c H locs 0 0 (MQ below (QI G rr hh) args s 0 0 (gA G)) (F0 m 21 ls []) := by
  obtain ⟨hx, hb, hr, hlocks, hml, hown, hts, hK⟩ := id C
  intro n
  induction n with
  | zero => intro x5 x6 h H locs ls hl hP hS hf; rw [f_X7_clashOf_21] at hf; cases hf
  | succ n ih =>
    intro x5 x6 h H locs ls hl hP hS hf
    rw [f_X7_clashOf_21] at hf
    refine lv_iload hx hb dX7_clashOf_21 (lv_at hl 6 rfl) ?_
    refine lv_bipush (v := 16) hx hb dX7_clashOf_23 (by decide) ?_
    refine lv_icmp_ge (tgt := 77) hx hb dX7_clashOf_25 (by decide) (fun c25 => ?_) (fun c25 => ?_)
    · replace hf := if_t c25 hf
      refine lv_iload hx hb dX7_clashOf_77 (lv_at hl 5 rfl) ?_
      exact r_iret hx hb hr hlocks hP hS (re2 (Option.some.inj hf)) dX7_clashOf_79
    · replace hf := if_f c25 hf
      refine lv_iload hx hb dX7_clashOf_28 (lv_at hl 4 rfl) ?_
      refine lv_iload hx hb dX7_clashOf_30 (lv_at hl 6 rfl) ?_
      obtain ⟨r32, er32, hf⟩ := bO_s hf
      refine r_callI (va_runSN (As := [.int x4, .int x6]) (rest := []) ⟨hx, hb, hml, hown, hts⟩ (k_X8_has l hG (h := h) er32) ⟨va_cnB 2 hts gX7_clashOf_X8_has_n133 rfl rfl rfl (host := "CarriedBack") (hK.2.1 _ (by decide +kernel)) (hts _ (by decide +kernel)) (by decide +kernel) ⟨Nat.le_of_ble_eq_true rfl, Nat.le_of_ble_eq_true rfl⟩, hts _ (by decide +kernel), trivial⟩ (r_ps hK hP hS) rfl rfl hl.1 rfl (lv_room (Nat.le_of_ble_eq_true rfl)) dX7_clashOf_32 ⟨Nat.le_of_ble_eq_true rfl, Nat.le_of_ble_eq_true rfl⟩) hS (fun H locs hP hS => ?_)
      refine lv_if_eq (tgt := 71) hx hb dX7_clashOf_35 (by decide) (fun c35 => ?_) (fun c35 => ?_)
      · replace hf := if_t c35 hf
        refine lv_iinc (v := (x6 + 1)) (lv' := [(6, .int (x6 + 1)), (0, .ref (gB G a0)), (1, .int x1), (2, .ref (gB G V2)), (3, .int x3), (4, .int x4), (5, .int x5)]) hx hb dX7_clashOf_71 hl (k := 6) rfl rfl (by decide) rfl (fun ls hl => ?_)
        refine lv_goto (tgt := 21) hx hb dX7_clashOf_74 (by decide) ?_
        exact ih x5 (x6 + 1) h _ _ _ (lv_sub hl [1, 2, 3, 4, 5, 6, 0] rfl) hP hS hf
      · replace hf := if_f c35 hf
        refine lv_aload_n hx hb dX7_clashOf_38 rfl (lv_at hl 2 rfl) ?_
        refine lv_iload_n hx hb dX7_clashOf_39 rfl (lv_at hl 3 rfl) ?_
        refine lv_bipush (v := 16) hx hb dX7_clashOf_40 (by decide) ?_
        refine lv_imul hx hb dX7_clashOf_42 ?_
        refine lv_iload hx hb dX7_clashOf_43 (lv_at hl 6 rfl) ?_
        refine lv_iadd hx hb dX7_clashOf_45 ?_
        obtain ⟨v46, ev46, hf⟩ := bO_s hf
        refine r_iald hx hb hK hP hV2 ev46 dX7_clashOf_46 ?_
        refine lv_aload_n hx hb dX7_clashOf_47 rfl (lv_at hl 0 rfl) ?_
        refine r_get (a := a0) (v := .ref (gB G (a0 + 5))) (C := RX7) (T := TX7) (N := 10) hx hb hts (hinX7_clashOf_X7) hown hK hP (ltX7 ha0) (ceX7 ha0) rfl 5 (by decide) (by decide +kernel) rfl dX7_clashOf_48 ?_
        refine lv_iload_n hx hb dX7_clashOf_51 rfl (lv_at hl 1 rfl) ?_
        refine lv_bipush (v := 16) hx hb dX7_clashOf_52 (by decide) ?_
        refine lv_imul hx hb dX7_clashOf_54 ?_
        refine lv_iload hx hb dX7_clashOf_55 (lv_at hl 6 rfl) ?_
        refine lv_iadd hx hb dX7_clashOf_57 ?_
        obtain ⟨v58, ev58, hf⟩ := bO_s hf
        refine r_iald hx hb hK hP (arX7_5 ha0) ev58 dX7_clashOf_58 ?_
        refine lv_icmp_eq (tgt := 71) hx hb dX7_clashOf_59 (by decide) (fun c59 => ?_) (fun c59 => ?_)
        · replace hf := if_t c59 hf
          refine lv_iinc (v := (x6 + 1)) (lv' := [(6, .int (x6 + 1)), (0, .ref (gB G a0)), (1, .int x1), (2, .ref (gB G V2)), (3, .int x3), (4, .int x4), (5, .int x5)]) hx hb dX7_clashOf_71 hl (k := 6) rfl rfl (by decide) rfl (fun ls hl => ?_)
          refine lv_goto (tgt := 21) hx hb dX7_clashOf_74 (by decide) ?_
          exact ih x5 (x6 + 1) h _ _ _ (lv_sub hl [1, 2, 3, 4, 5, 6, 0] rfl) hP hS hf
        · replace hf := if_f c59 hf
          refine lv_iload hx hb dX7_clashOf_62 (lv_at hl 5 rfl) ?_
          refine lv_iconst (v := 1) hx hb dX7_clashOf_64 (by decide) ?_
          refine lv_iload hx hb dX7_clashOf_65 (lv_at hl 6 rfl) ?_
          refine lv_ishl hx hb dX7_clashOf_67 ?_
          refine lv_ior hx hb dX7_clashOf_68 ?_
          refine lv_topi (fun x5_69 ex5_69 => ?_)
          replace hf := lt_at ex5_69 hf
          refine lv_istore (lv' := [(5, .int x5_69), (0, .ref (gB G a0)), (1, .int x1), (2, .ref (gB G V2)), (3, .int x3), (4, .int x4), (6, .int x6)]) hx hb dX7_clashOf_69 hl (by decide) rfl (fun ls hl => ?_)
          refine lv_iinc (v := (x6 + 1)) (lv' := [(6, .int (x6 + 1)), (5, .int x5_69), (0, .ref (gB G a0)), (1, .int x1), (2, .ref (gB G V2)), (3, .int x3), (4, .int x4)]) hx hb dX7_clashOf_71 hl (k := 6) rfl rfl (by decide) rfl (fun ls hl => ?_)
          refine lv_goto (tgt := 21) hx hb dX7_clashOf_74 (by decide) ?_
          exact ih x5_69 (x6 + 1) h _ _ _ (lv_sub hl [2, 3, 4, 5, 6, 1, 0] rfl) hP hS hf
def f_X7_clashOf (a0 : Nat) (V2 n2 : Nat) (x1 : Int32) (x3 : Int32) (h : PH) : Option (Int32 × PH) := bO (ag h (a0 + 1) 24 x1) (fun v5 => bO (ag h (a0 + 2) 24 x1) (fun v11 => lt' ((v5 ||| v11)) (fun x4_13 => f_X7_clashOf_21 a0 V2 n2 x1 x3 x4_13 FU 0 0 h)))
abbrev rmX7_clashOf : Room := { frames := 1, cells := 0, slots := 0, locals := 21 }
set_option maxHeartbeats 4000000 in
set_option maxRecDepth 100000 in
theorem k_X7_clashOf (l : Launch) {G : GC} (hG : GOK G) (a0 : Nat) (ha0 : kdX7 a0) (V2 n2 : Nat) (hV2 : isA V2 n2) {x1 : Int32} {x3 : Int32} {rr : Int32} {h hh : PH} (hf : f_X7_clashOf a0 V2 n2 x1 x3 h = some (rr, hh)) : CI l yX7_clashOf wsX7_clashOf rmX7_clashOf G [.ref (gB G a0), .int x1, .ref (gB G V2), .int x3] h rr hh := by
  refine Met.ofW (cc := cX7_clashOf) (maxL := 7) (ret := (some .int)) (by decide +kernel) rfl ?_
  intro p e s m args below meth c s₁ B hml hv
  obtain ⟨rfl, hP, hK⟩ := hv
  have C : MC l G p s m _ meth c RX7 wsX7_clashOf cX7_clashOf 7 (some .int) := ⟨B.exec, B.bytes, B.returns, B.notSynchronized, hml, findClass_of_methodNamed B.named, atoms_spec (ws := wsX7_clashOf) B.pre, hK⟩
  obtain ⟨hx, hb, hr, hlocks, -, hown, hts, -⟩ := id C
  have hl := lv_entry ([.ref (gB G a0), .int x1, .ref (gB G V2), .int x3]) (n := 7) (Nat.le_of_ble_eq_true rfl)
  rw [lg_entry_eq]
  generalize (lg_sl ([.ref (gB G a0), .int x1, .ref (gB G V2), .int x3]) ++ List.replicate (7 - (lg_sl ([.ref (gB G a0), .int x1, .ref (gB G V2), .int x3])).length) Slot.unset).toArray = ls at hl ⊢
  have hl : lv_has ls 7 [(0, .ref (gB G a0)), (1, .int x1), (2, .ref (gB G V2)), (3, .int x3)] := hl
  have hS : SP G s s.heap [] := va_S.rf
  replace hP : WP G h s.heap := hP
  rw [f_X7_clashOf] at hf
  refine lv_aload_n hx hb dX7_clashOf_0 rfl (lv_at hl 0 rfl) ?_
  refine r_get (a := a0) (v := .ref (gB G (a0 + 1))) (C := RX7) (T := TX7) (N := 10) hx hb hts (hinX7_clashOf_X7) hown hK hP (ltX7 ha0) (ceX7 ha0) rfl 1 (by decide) (by decide +kernel) rfl dX7_clashOf_1 ?_
  refine lv_iload_n hx hb dX7_clashOf_4 rfl (lv_at hl 1 rfl) ?_
  obtain ⟨v5, ev5, hf⟩ := bO_s hf
  refine r_iald hx hb hK hP (arX7_1 ha0) ev5 dX7_clashOf_5 ?_
  refine lv_aload_n hx hb dX7_clashOf_6 rfl (lv_at hl 0 rfl) ?_
  refine r_get (a := a0) (v := .ref (gB G (a0 + 2))) (C := RX7) (T := TX7) (N := 10) hx hb hts (hinX7_clashOf_X7) hown hK hP (ltX7 ha0) (ceX7 ha0) rfl 2 (by decide) (by decide +kernel) rfl dX7_clashOf_7 ?_
  refine lv_iload_n hx hb dX7_clashOf_10 rfl (lv_at hl 1 rfl) ?_
  obtain ⟨v11, ev11, hf⟩ := bO_s hf
  refine r_iald hx hb hK hP (arX7_2 ha0) ev11 dX7_clashOf_11 ?_
  refine lv_ior hx hb dX7_clashOf_12 ?_
  refine lv_topi (fun x4_13 ex4_13 => ?_)
  replace hf := lt_at ex4_13 hf
  refine lv_istore (lv' := [(4, .int x4_13), (0, .ref (gB G a0)), (1, .int x1), (2, .ref (gB G V2)), (3, .int x3)]) hx hb dX7_clashOf_13 hl (by decide) rfl (fun ls hl => ?_)
  refine lv_iconst (v := 0) hx hb dX7_clashOf_15 (by decide) ?_
  refine lv_istore (lv' := [(5, .int 0), (4, .int x4_13), (0, .ref (gB G a0)), (1, .int x1), (2, .ref (gB G V2)), (3, .int x3)]) hx hb dX7_clashOf_16 hl (by decide) rfl (fun ls hl => ?_)
  refine lv_iconst (v := 0) hx hb dX7_clashOf_18 (by decide) ?_
  refine lv_istore (lv' := [(6, .int 0), (5, .int 0), (4, .int x4_13), (0, .ref (gB G a0)), (1, .int x1), (2, .ref (gB G V2)), (3, .int x3)]) hx hb dX7_clashOf_19 hl (by decide) rfl (fun ls hl => ?_)
  exact w_X7_clashOf_21 hG C a0 ha0 V2 n2 hV2 x1 x3 x4_13 FU 0 0 h _ _ _ (lv_sub hl [3, 4, 5, 6, 2, 1, 0] rfl) hP hS hf
/-! CarriedBack$Trunk.putOn(I[II)V -/
set_option maxRecDepth 20000 in
theorem hinX7_putOn_X7 : ∀ w ∈ u_ws RX7 TX7 10, w ∈ wsX7_putOn := by decide +kernel
def f_X7_putOn_3 (a0 : Nat) (V2 n2 : Nat) (x1 : Int32) (x3 : Int32) : Nat → Int32 → PH → Option PH
  | 0, _, _ => none
  | n + 1, x4, h => if (16 : Int32) ≤ x4 then (some h) else (bO (ag h (a0 + 1) 24 x1) (fun v15 => bO (f_X8_has v15 x4) (fun r18 => if r18 = 0 then ((f_X7_putOn_3 a0 V2 n2 x1 x3 n) (x4 + 1) h) else (bO (ag h (a0 + 4) 384 ((x1 * 16) + x4)) (fun v43 => bO (asg h V2 n2 ((x3 * 16) + x4) v43) (fun h44 => (f_X7_putOn_3 a0 V2 n2 x1 x3 n) (x4 + 1) h44))))))
set_option maxHeartbeats 4000000 in
set_option maxRecDepth 100000 in
theorem w_X7_putOn_3 {l : Launch} {G : GC} (hG : GOK G) {hh : PH} {p : Program} {e : Env} {s : State} {m : MethodId} {args : Array Value} {below : List Frame} {meth : Method} {c : Code} (C : MC l G p s m args meth c RX7 wsX7_putOn cX7_putOn 5 none) (a0 : Nat) (ha0 : kdX7 a0) (V2 n2 : Nat) (hV2 : isA V2 n2) (x1 : Int32) (x3 : Int32) : ∀ (n : Nat) (x4 : Int32) (h : PH) (H : Heap) (locs : List Loc) (ls : Array Slot), lv_has ls 5 [(0, .ref (gB G a0)), (1, .int x1), (2, .ref (gB G V2)), (3, .int x3), (4, .int x4)] → WP G h H → SP G s H locs → f_X7_putOn_3 a0 V2 n2 x1 x3 n x4 h = some hh → W p l e rmX7_putOn s m args below meth c H locs 0 0 (MQ below (QV G hh) args s 0 0 (gA G)) (F0 m 3 ls []) := by
  obtain ⟨hx, hb, hr, hlocks, hml, hown, hts, hK⟩ := id C
  intro n
  induction n with
  | zero => intro x4 h H locs ls hl hP hS hf; rw [f_X7_putOn_3] at hf; cases hf
  | succ n ih =>
    intro x4 h H locs ls hl hP hS hf
    rw [f_X7_putOn_3] at hf
    refine lv_iload hx hb dX7_putOn_3 (lv_at hl 4 rfl) ?_
    refine lv_bipush (v := 16) hx hb dX7_putOn_5 (by decide) ?_
    refine lv_icmp_ge (tgt := 51) hx hb dX7_putOn_7 (by decide) (fun c7 => ?_) (fun c7 => ?_)
    · replace hf := if_t c7 hf
      exact r_vret hx hb hr hlocks hP hS (Option.some.inj hf) dX7_putOn_51
    · replace hf := if_f c7 hf
      refine lv_aload_n hx hb dX7_putOn_10 rfl (lv_at hl 0 rfl) ?_
      refine r_get (a := a0) (v := .ref (gB G (a0 + 1))) (C := RX7) (T := TX7) (N := 10) hx hb hts (hinX7_putOn_X7) hown hK hP (ltX7 ha0) (ceX7 ha0) rfl 1 (by decide) (by decide +kernel) rfl dX7_putOn_11 ?_
      refine lv_iload_n hx hb dX7_putOn_14 rfl (lv_at hl 1 rfl) ?_
      obtain ⟨v15, ev15, hf⟩ := bO_s hf
      refine r_iald hx hb hK hP (arX7_1 ha0) ev15 dX7_putOn_15 ?_
      refine lv_iload hx hb dX7_putOn_16 (lv_at hl 4 rfl) ?_
      obtain ⟨r18, er18, hf⟩ := bO_s hf
      refine r_callI (va_runSN (As := [.int v15, .int x4]) (rest := []) ⟨hx, hb, hml, hown, hts⟩ (k_X8_has l hG (h := h) er18) ⟨va_cnB 2 hts gX7_putOn_X8_has_n133 rfl rfl rfl (host := "CarriedBack") (hK.2.1 _ (by decide +kernel)) (hts _ (by decide +kernel)) (by decide +kernel) ⟨Nat.le_of_ble_eq_true rfl, Nat.le_of_ble_eq_true rfl⟩, hts _ (by decide +kernel), trivial⟩ (r_ps hK hP hS) rfl rfl hl.1 rfl (lv_room (Nat.le_of_ble_eq_true rfl)) dX7_putOn_18 ⟨Nat.le_of_ble_eq_true rfl, Nat.le_of_ble_eq_true rfl⟩) hS (fun H locs hP hS => ?_)
      refine lv_if_eq (tgt := 45) hx hb dX7_putOn_21 (by decide) (fun c21 => ?_) (fun c21 => ?_)
      · replace hf := if_t c21 hf
        refine lv_iinc (v := (x4 + 1)) (lv' := [(4, .int (x4 + 1)), (0, .ref (gB G a0)), (1, .int x1), (2, .ref (gB G V2)), (3, .int x3)]) hx hb dX7_putOn_45 hl (k := 4) rfl rfl (by decide) rfl (fun ls hl => ?_)
        refine lv_goto (tgt := 3) hx hb dX7_putOn_48 (by decide) ?_
        exact ih (x4 + 1) h _ _ _ (lv_sub hl [1, 2, 3, 4, 0] rfl) hP hS hf
      · replace hf := if_f c21 hf
        refine lv_aload_n hx hb dX7_putOn_24 rfl (lv_at hl 2 rfl) ?_
        refine lv_iload_n hx hb dX7_putOn_25 rfl (lv_at hl 3 rfl) ?_
        refine lv_bipush (v := 16) hx hb dX7_putOn_26 (by decide) ?_
        refine lv_imul hx hb dX7_putOn_28 ?_
        refine lv_iload hx hb dX7_putOn_29 (lv_at hl 4 rfl) ?_
        refine lv_iadd hx hb dX7_putOn_31 ?_
        refine lv_aload_n hx hb dX7_putOn_32 rfl (lv_at hl 0 rfl) ?_
        refine r_get (a := a0) (v := .ref (gB G (a0 + 4))) (C := RX7) (T := TX7) (N := 10) hx hb hts (hinX7_putOn_X7) hown hK hP (ltX7 ha0) (ceX7 ha0) rfl 4 (by decide) (by decide +kernel) rfl dX7_putOn_33 ?_
        refine lv_iload_n hx hb dX7_putOn_36 rfl (lv_at hl 1 rfl) ?_
        refine lv_bipush (v := 16) hx hb dX7_putOn_37 (by decide) ?_
        refine lv_imul hx hb dX7_putOn_39 ?_
        refine lv_iload hx hb dX7_putOn_40 (lv_at hl 4 rfl) ?_
        refine lv_iadd hx hb dX7_putOn_42 ?_
        obtain ⟨v43, ev43, hf⟩ := bO_s hf
        refine r_iald hx hb hK hP (arX7_4 ha0) ev43 dX7_putOn_43 ?_
        obtain ⟨h44, eh44, hf⟩ := bO_s hf
        refine r_iast hG hx hb hK hP hS hV2 eh44 dX7_putOn_44 (fun H locs hP hS => ?_)
        refine lv_iinc (v := (x4 + 1)) (lv' := [(4, .int (x4 + 1)), (0, .ref (gB G a0)), (1, .int x1), (2, .ref (gB G V2)), (3, .int x3)]) hx hb dX7_putOn_45 hl (k := 4) rfl rfl (by decide) rfl (fun ls hl => ?_)
        refine lv_goto (tgt := 3) hx hb dX7_putOn_48 (by decide) ?_
        exact ih (x4 + 1) h44 _ _ _ (lv_sub hl [1, 2, 3, 4, 0] rfl) hP hS hf
def f_X7_putOn (a0 : Nat) (V2 n2 : Nat) (x1 : Int32) (x3 : Int32) (h : PH) : Option PH := f_X7_putOn_3 a0 V2 n2 x1 x3 FU 0 h
abbrev rmX7_putOn : Room := { frames := 1, cells := 0, slots := 0, locals := 21 }
set_option maxHeartbeats 4000000 in
set_option maxRecDepth 100000 in
theorem k_X7_putOn (l : Launch) {G : GC} (hG : GOK G) (a0 : Nat) (ha0 : kdX7 a0) (V2 n2 : Nat) (hV2 : isA V2 n2) {x1 : Int32} {x3 : Int32} {h hh : PH} (hf : f_X7_putOn a0 V2 n2 x1 x3 h = some hh) : CV l yX7_putOn wsX7_putOn rmX7_putOn G [.ref (gB G a0), .int x1, .ref (gB G V2), .int x3] h hh := by
  refine Met.ofW (cc := cX7_putOn) (maxL := 5) (ret := none) (by decide +kernel) rfl ?_
  intro p e s m args below meth c s₁ B hml hv
  obtain ⟨rfl, hP, hK⟩ := hv
  have C : MC l G p s m _ meth c RX7 wsX7_putOn cX7_putOn 5 none := ⟨B.exec, B.bytes, B.returns, B.notSynchronized, hml, findClass_of_methodNamed B.named, atoms_spec (ws := wsX7_putOn) B.pre, hK⟩
  obtain ⟨hx, hb, hr, hlocks, -, hown, hts, -⟩ := id C
  have hl := lv_entry ([.ref (gB G a0), .int x1, .ref (gB G V2), .int x3]) (n := 5) (Nat.le_of_ble_eq_true rfl)
  rw [lg_entry_eq]
  generalize (lg_sl ([.ref (gB G a0), .int x1, .ref (gB G V2), .int x3]) ++ List.replicate (5 - (lg_sl ([.ref (gB G a0), .int x1, .ref (gB G V2), .int x3])).length) Slot.unset).toArray = ls at hl ⊢
  have hl : lv_has ls 5 [(0, .ref (gB G a0)), (1, .int x1), (2, .ref (gB G V2)), (3, .int x3)] := hl
  have hS : SP G s s.heap [] := va_S.rf
  replace hP : WP G h s.heap := hP
  rw [f_X7_putOn] at hf
  refine lv_iconst (v := 0) hx hb dX7_putOn_0 (by decide) ?_
  refine lv_istore (lv' := [(4, .int 0), (0, .ref (gB G a0)), (1, .int x1), (2, .ref (gB G V2)), (3, .int x3)]) hx hb dX7_putOn_1 hl (by decide) rfl (fun ls hl => ?_)
  exact w_X7_putOn_3 hG C a0 ha0 V2 n2 hV2 x1 x3 FU 0 h _ _ _ (lv_sub hl [1, 2, 3, 4, 0] rfl) hP hS hf
/-! CarriedBack.isSlot(I)Z -/
def f_X8_isSlot (x0 : Int32) : Option Int32 := if x0 < 0 then (some 0) else (if (16 : Int32) ≤ x0 then (some 0) else (some 1))
abbrev rmX8_isSlot : Room := { frames := 0, cells := 0, slots := 0, locals := 0 }
set_option maxHeartbeats 4000000 in
set_option maxRecDepth 100000 in
theorem k_X8_isSlot (l : Launch) {G : GC} (hG : GOK G) {x0 : Int32} {rr : Int32} {h : PH} (hf : f_X8_isSlot x0 = some rr) : CI l yX8_isSlot wsX8_isSlot rmX8_isSlot G [.int x0] h rr h := by
  refine Met.ofW (cc := cX8_isSlot) (maxL := 1) (ret := (some .boolean)) (by decide +kernel) rfl ?_
  intro p e s m args below meth c s₁ B hml hv
  obtain ⟨rfl, hP, hK⟩ := hv
  have C : MC l G p s m _ meth c RX8 wsX8_isSlot cX8_isSlot 1 (some .boolean) := ⟨B.exec, B.bytes, B.returns, B.notSynchronized, hml, findClass_of_methodNamed B.named, atoms_spec (ws := wsX8_isSlot) B.pre, hK⟩
  obtain ⟨hx, hb, hr, hlocks, -, hown, hts, -⟩ := id C
  have hl := lv_entry ([.int x0]) (n := 1) (Nat.le_of_ble_eq_true rfl)
  rw [lg_entry_eq]
  generalize (lg_sl ([.int x0]) ++ List.replicate (1 - (lg_sl ([.int x0])).length) Slot.unset).toArray = ls at hl ⊢
  have hl : lv_has ls 1 [(0, .int x0)] := hl
  have hS : SP G s s.heap [] := va_S.rf
  replace hP : WP G h s.heap := hP
  rw [f_X8_isSlot] at hf
  refine lv_iload_n hx hb dX8_isSlot_0 rfl (lv_at hl 0 rfl) ?_
  refine lv_if_lt (tgt := 14) hx hb dX8_isSlot_1 (by decide) (fun c1 => ?_) (fun c1 => ?_)
  · replace hf := if_t c1 hf
    refine lv_iconst (v := 0) hx hb dX8_isSlot_14 (by decide) ?_
    exact r_zret hx hb hr rfl hlocks hP hS ⟨Option.some.inj hf, rfl⟩ dX8_isSlot_15
  · replace hf := if_f c1 hf
    refine lv_iload_n hx hb dX8_isSlot_4 rfl (lv_at hl 0 rfl) ?_
    refine lv_bipush (v := 16) hx hb dX8_isSlot_5 (by decide) ?_
    refine lv_icmp_ge (tgt := 14) hx hb dX8_isSlot_7 (by decide) (fun c7 => ?_) (fun c7 => ?_)
    · replace hf := if_t c7 hf
      refine lv_iconst (v := 0) hx hb dX8_isSlot_14 (by decide) ?_
      exact r_zret hx hb hr rfl hlocks hP hS ⟨Option.some.inj hf, rfl⟩ dX8_isSlot_15
    · replace hf := if_f c7 hf
      refine lv_iconst (v := 1) hx hb dX8_isSlot_10 (by decide) ?_
      refine lv_goto (tgt := 15) hx hb dX8_isSlot_11 (by decide) ?_
      exact r_zret hx hb hr rfl hlocks hP hS ⟨Option.some.inj hf, rfl⟩ dX8_isSlot_15
/-! CarriedBack$Trunk.lastSetter(II)I -/
set_option maxRecDepth 20000 in
theorem hinX7_lastSetter_X7 : ∀ w ∈ u_ws RX7 TX7 10, w ∈ wsX7_lastSetter := by decide +kernel
def f_X7_lastSetter_4 (a0 : Nat) (x2 : Int32) : Nat → Int32 → PH → Option (Int32 × PH)
  | 0, _, _ => none
  | n + 1, x3, h => if x3 < 0 then (some ((-1), h)) else (bO (ag h (a0 + 1) 24 x3) (fun v13 => bO (f_X8_has v13 x2) (fun r15 => if r15 = 0 then ((f_X7_lastSetter_4 a0 x2 n) (x3 + (-1)) h) else (some (x3, h)))))
set_option maxHeartbeats 4000000 in
set_option maxRecDepth 100000 in
theorem w_X7_lastSetter_4 {l : Launch} {G : GC} (hG : GOK G) {rr : Int32} {hh : PH} {p : Program} {e : Env} {s : State} {m : MethodId} {args : Array Value} {below : List Frame} {meth : Method} {c : Code} (C : MC l G p s m args meth c RX7 wsX7_lastSetter cX7_lastSetter 4 (some .int)) (a0 : Nat) (ha0 : kdX7 a0) (x2 : Int32) : ∀ (n : Nat) (x3 : Int32) (h : PH) (H : Heap) (locs : List Loc) (ls : Array Slot), lv_has ls 4 [(0, .ref (gB G a0)), (2, .int x2), (3, .int x3)] → WP G h H → SP G s H locs → f_X7_lastSetter_4 a0 x2 n x3 h = some (rr, hh) → W p l e rmX7_lastSetter s m args below meth c H locs 0 0 (MQ below (QI G rr hh) args s 0 0 (gA G)) (F0 m 4 ls []) := by
  obtain ⟨hx, hb, hr, hlocks, hml, hown, hts, hK⟩ := id C
  intro n
  induction n with
  | zero => intro x3 h H locs ls hl hP hS hf; rw [f_X7_lastSetter_4] at hf; cases hf
  | succ n ih =>
    intro x3 h H locs ls hl hP hS hf
    rw [f_X7_lastSetter_4] at hf
    refine lv_iload_n hx hb dX7_lastSetter_4 rfl (lv_at hl 2 rfl) ?_
    refine lv_if_lt (tgt := 29) hx hb dX7_lastSetter_5 (by decide) (fun c5 => ?_) (fun c5 => ?_)
    · replace hf := if_t c5 hf
      refine lv_iconst (v := (-1)) hx hb dX7_lastSetter_29 (by decide) ?_
      exact r_iret hx hb hr hlocks hP hS (re2 (Option.some.inj hf)) dX7_lastSetter_30
    · replace hf := if_f c5 hf
      refine lv_aload_n hx hb dX7_lastSetter_8 rfl (lv_at hl 0 rfl) ?_
      refine r_get (a := a0) (v := .ref (gB G (a0 + 1))) (C := RX7) (T := TX7) (N := 10) hx hb hts (hinX7_lastSetter_X7) hown hK hP (ltX7 ha0) (ceX7 ha0) rfl 1 (by decide) (by decide +kernel) rfl dX7_lastSetter_9 ?_
      refine lv_iload_n hx hb dX7_lastSetter_12 rfl (lv_at hl 2 rfl) ?_
      obtain ⟨v13, ev13, hf⟩ := bO_s hf
      refine r_iald hx hb hK hP (arX7_1 ha0) ev13 dX7_lastSetter_13 ?_
      refine lv_iload_n hx hb dX7_lastSetter_14 rfl (lv_at hl 1 rfl) ?_
      obtain ⟨r15, er15, hf⟩ := bO_s hf
      refine r_callI (va_runSN (As := [.int v13, .int x2]) (rest := []) ⟨hx, hb, hml, hown, hts⟩ (k_X8_has l hG (h := h) er15) ⟨va_cnB 2 hts gX7_lastSetter_X8_has_n133 rfl rfl rfl (host := "CarriedBack") (hK.2.1 _ (by decide +kernel)) (hts _ (by decide +kernel)) (by decide +kernel) ⟨Nat.le_of_ble_eq_true rfl, Nat.le_of_ble_eq_true rfl⟩, hts _ (by decide +kernel), trivial⟩ (r_ps hK hP hS) rfl rfl hl.1 rfl (lv_room (Nat.le_of_ble_eq_true rfl)) dX7_lastSetter_15 ⟨Nat.le_of_ble_eq_true rfl, Nat.le_of_ble_eq_true rfl⟩) hS (fun H locs hP hS => ?_)
      refine lv_if_eq (tgt := 23) hx hb dX7_lastSetter_18 (by decide) (fun c18 => ?_) (fun c18 => ?_)
      · replace hf := if_t c18 hf
        refine lv_iinc (v := (x3 + (-1))) (lv' := [(3, .int (x3 + (-1))), (0, .ref (gB G a0)), (2, .int x2)]) hx hb dX7_lastSetter_23 hl (k := 2) rfl rfl (by decide) rfl (fun ls hl => ?_)
        refine lv_goto (tgt := 4) hx hb dX7_lastSetter_26 (by decide) ?_
        exact ih (x3 + (-1)) h _ _ _ (lv_sub hl [1, 2, 0] rfl) hP hS hf
      · replace hf := if_f c18 hf
        refine lv_iload_n hx hb dX7_lastSetter_21 rfl (lv_at hl 2 rfl) ?_
        exact r_iret hx hb hr hlocks hP hS (re2 (Option.some.inj hf)) dX7_lastSetter_22
def f_X7_lastSetter (a0 : Nat) (x1 : Int32) (x2 : Int32) (h : PH) : Option (Int32 × PH) := lt' ((x1 - 1)) (fun x3_3 => f_X7_lastSetter_4 a0 x2 FU x3_3 h)
abbrev rmX7_lastSetter : Room := { frames := 1, cells := 0, slots := 0, locals := 21 }
set_option maxHeartbeats 4000000 in
set_option maxRecDepth 100000 in
theorem k_X7_lastSetter (l : Launch) {G : GC} (hG : GOK G) (a0 : Nat) (ha0 : kdX7 a0) {x1 : Int32} {x2 : Int32} {rr : Int32} {h hh : PH} (hf : f_X7_lastSetter a0 x1 x2 h = some (rr, hh)) : CI l yX7_lastSetter wsX7_lastSetter rmX7_lastSetter G [.ref (gB G a0), .int x1, .int x2] h rr hh := by
  refine Met.ofW (cc := cX7_lastSetter) (maxL := 4) (ret := (some .int)) (by decide +kernel) rfl ?_
  intro p e s m args below meth c s₁ B hml hv
  obtain ⟨rfl, hP, hK⟩ := hv
  have C : MC l G p s m _ meth c RX7 wsX7_lastSetter cX7_lastSetter 4 (some .int) := ⟨B.exec, B.bytes, B.returns, B.notSynchronized, hml, findClass_of_methodNamed B.named, atoms_spec (ws := wsX7_lastSetter) B.pre, hK⟩
  obtain ⟨hx, hb, hr, hlocks, -, hown, hts, -⟩ := id C
  have hl := lv_entry ([.ref (gB G a0), .int x1, .int x2]) (n := 4) (Nat.le_of_ble_eq_true rfl)
  rw [lg_entry_eq]
  generalize (lg_sl ([.ref (gB G a0), .int x1, .int x2]) ++ List.replicate (4 - (lg_sl ([.ref (gB G a0), .int x1, .int x2])).length) Slot.unset).toArray = ls at hl ⊢
  have hl : lv_has ls 4 [(0, .ref (gB G a0)), (1, .int x1), (2, .int x2)] := hl
  have hS : SP G s s.heap [] := va_S.rf
  replace hP : WP G h s.heap := hP
  rw [f_X7_lastSetter] at hf
  refine lv_iload_n hx hb dX7_lastSetter_0 rfl (lv_at hl 1 rfl) ?_
  refine lv_iconst (v := 1) hx hb dX7_lastSetter_1 (by decide) ?_
  refine lv_isub hx hb dX7_lastSetter_2 ?_
  refine lv_topi (fun x3_3 ex3_3 => ?_)
  replace hf := lt_at ex3_3 hf
  refine lv_istore_n (lv' := [(3, .int x3_3), (0, .ref (gB G a0)), (1, .int x1), (2, .int x2)]) hx hb dX7_lastSetter_3 rfl hl (by decide) rfl (fun ls hl => ?_)
  exact w_X7_lastSetter_4 hG C a0 ha0 x2 FU x3_3 h _ _ _ (lv_sub hl [1, 3, 0] rfl) hP hS hf
