/-! CarriedBackModel.sets(II)I -/
abbrev rmX9_sets : Room := { frames := 2, cells := 0, slots := 0, locals := 46 }
abbrev vX9_sets : List Cond := Cond.code yX9_sets cX9_sets 3 (some .int) :: GW
def f_X9_sets (x1 : Int32) (x2 : Int32) (h : PH) : Option (Int32 × PH) := bP (f_X9_isChange x1 h) (fun r2 h2 => if r2 = 0 then (some ((-1001), h2)) else (bO (f_X9_isSlot x2) (fun r9 => if r9 = 0 then (some ((-1001), h2)) else (bO (ag h2 67 384 ((16 * x1) + x2)) (fun v25 => some (v25, h2))))))
set_option maxHeartbeats 4000000 in
set_option maxRecDepth 100000 in
theorem k_X9_sets (l : Launch) {G : GC} (hG : GOK G) {x1 : Int32} {x2 : Int32} {rr : Int32} {h hh : PH} (hf : f_X9_sets x1 x2 h = some (rr, hh)) : CI l yX9_sets vX9_sets rmX9_sets G [.ref (gB G 66), .int x1, .int x2] h rr hh := by
  refine Met.ofW (cc := cX9_sets) (maxL := 3) (ret := (some .int)) (by decide +kernel) rfl ?_
  intro p e s m args below meth c s₁ B hml hv
  obtain ⟨rfl, hP, hK⟩ := hv
  have C : MC l G p s m _ meth c RX9 cX9_sets 3 (some .int) := ⟨B.exec, B.bytes, B.returns, B.notSynchronized, hml, findClass_of_methodNamed B.named, fun w hw => atoms_spec (ws := vX9_sets) B.pre w (List.mem_cons_of_mem _ hw), hK⟩
  obtain ⟨hx, hb, hr, hlocks, -, hown, hts, -⟩ := id C
  have hl := lv_entry ([.ref (gB G 66), .int x1, .int x2]) (n := 3) (Nat.le_of_ble_eq_true rfl)
  rw [lg_entry_eq]
  generalize (lg_sl ([.ref (gB G 66), .int x1, .int x2]) ++ List.replicate (3 - (lg_sl ([.ref (gB G 66), .int x1, .int x2])).length) Slot.unset).toArray = ls at hl ⊢
  have hl : lv_has ls 3 [(0, .ref (gB G 66)), (1, .int x1), (2, .int x2)] := hl
  have hS : SP G s s.heap [] := va_S.rf
  replace hP : WP G h s.heap := hP
  rw [f_X9_sets] at hf
  refine lv_aload_n hx hb dX9_sets_0 rfl (lv_at hl 0 rfl) ?_
  refine lv_iload_n hx hb dX9_sets_1 rfl (lv_at hl 1 rfl) ?_
  obtain ⟨r2, h2, er2, hf⟩ := bP_s hf
  refine r_callI (va_runV (As := [.int x1]) (rest := []) ⟨hx, hb, hml, hown, hts⟩ (k_X9_isChange l hG er2) (cwV 1 hts (gV wd1299 wd1301 wd42 wd82 wd1302) rfl rfl rfl (by decide +kernel) ⟨Nat.le_of_ble_eq_true rfl, Nat.le_of_ble_eq_true rfl⟩) (r_pv hK hP hS (ltX9 rfl) (ceX9 rfl) rfl) rfl rfl hl.1 rfl (lv_room (Nat.le_of_ble_eq_true rfl)) dX9_sets_2 ⟨Nat.le_of_ble_eq_true rfl, Nat.le_of_ble_eq_true rfl⟩) hS (fun H locs hP hS => ?_)
  refine lv_if_eq (tgt := 29) hx hb dX9_sets_5 (by decide) (fun c5 => ?_) (fun c5 => ?_)
  · replace hf := if_t c5 hf
    refine lv_sipush (v := (-1001)) hx hb dX9_sets_29 (by decide) ?_
    exact r_iret hx hb hr hlocks hP hS (re2 (Option.some.inj hf)) dX9_sets_32
  · replace hf := if_f c5 hf
    refine lv_iload_n hx hb dX9_sets_8 rfl (lv_at hl 2 rfl) ?_
    obtain ⟨r9, er9, hf⟩ := bO_s hf
    refine r_callI (va_runS (As := [.int x2]) (rest := []) ⟨hx, hb, hml, hown, hts⟩ (k_X9_isSlot l hG (h := h2) er9) (va_cwS 1 hts (gS wd1315 wd1316 wd82 wd1317) rfl rfl rfl (by decide +kernel) ⟨Nat.le_of_ble_eq_true rfl, Nat.le_of_ble_eq_true rfl⟩) (r_ps hK hP hS) rfl rfl hl.1 rfl (lv_room (Nat.le_of_ble_eq_true rfl)) dX9_sets_9 ⟨Nat.le_of_ble_eq_true rfl, Nat.le_of_ble_eq_true rfl⟩) hS (fun H locs hP hS => ?_)
    refine lv_if_eq (tgt := 29) hx hb dX9_sets_12 (by decide) (fun c12 => ?_) (fun c12 => ?_)
    · replace hf := if_t c12 hf
      refine lv_sipush (v := (-1001)) hx hb dX9_sets_29 (by decide) ?_
      exact r_iret hx hb hr hlocks hP hS (re2 (Option.some.inj hf)) dX9_sets_32
    · replace hf := if_f c12 hf
      refine lv_aload_n hx hb dX9_sets_15 rfl (lv_at hl 0 rfl) ?_
      refine r_get (a := 66) (v := .ref (gB G 67)) (C := RX9) (T := TX9) (N := 55) hx hb hts hinX9 hown hK hP (ltX9 rfl) (ceX9 rfl) rfl 1 (by decide) wd1036 rfl dX9_sets_16 ?_
      refine lv_bipush (v := 16) hx hb dX9_sets_19 (by decide) ?_
      refine lv_iload_n hx hb dX9_sets_21 rfl (lv_at hl 1 rfl) ?_
      refine lv_imul hx hb dX9_sets_22 ?_
      refine lv_iload_n hx hb dX9_sets_23 rfl (lv_at hl 2 rfl) ?_
      refine lv_iadd hx hb dX9_sets_24 ?_
      obtain ⟨v25, ev25, hf⟩ := bO_s hf
      refine r_iald hx hb hK hP (arX9_1 rfl) ev25 dX9_sets_25 ?_
      refine lv_goto (tgt := 32) hx hb dX9_sets_26 (by decide) ?_
      exact r_iret hx hb hr hlocks hP hS (re2 (Option.some.inj hf)) dX9_sets_32
/-! CarriedBackModel.aheadOf(II)I -/
abbrev rmX9_aheadOf : Room := { frames := 0, cells := 0, slots := 0, locals := 0 }
abbrev vX9_aheadOf : List Cond := Cond.code yX9_aheadOf cX9_aheadOf 3 (some .int) :: GW
def f_X9_aheadOf (x1 : Int32) (x2 : Int32) (h : PH) : Option (Int32 × PH) := bO (ag h 88 400 ((16 * x1) + x2)) (fun v10 => some (v10, h))
set_option maxHeartbeats 4000000 in
set_option maxRecDepth 100000 in
theorem k_X9_aheadOf (l : Launch) {G : GC} (hG : GOK G) {x1 : Int32} {x2 : Int32} {rr : Int32} {h hh : PH} (hf : f_X9_aheadOf x1 x2 h = some (rr, hh)) : CI l yX9_aheadOf vX9_aheadOf rmX9_aheadOf G [.ref (gB G 66), .int x1, .int x2] h rr hh := by
  refine Met.ofW (cc := cX9_aheadOf) (maxL := 3) (ret := (some .int)) (by decide +kernel) rfl ?_
  intro p e s m args below meth c s₁ B hml hv
  obtain ⟨rfl, hP, hK⟩ := hv
  have C : MC l G p s m _ meth c RX9 cX9_aheadOf 3 (some .int) := ⟨B.exec, B.bytes, B.returns, B.notSynchronized, hml, findClass_of_methodNamed B.named, fun w hw => atoms_spec (ws := vX9_aheadOf) B.pre w (List.mem_cons_of_mem _ hw), hK⟩
  obtain ⟨hx, hb, hr, hlocks, -, hown, hts, -⟩ := id C
  have hl := lv_entry ([.ref (gB G 66), .int x1, .int x2]) (n := 3) (Nat.le_of_ble_eq_true rfl)
  rw [lg_entry_eq]
  generalize (lg_sl ([.ref (gB G 66), .int x1, .int x2]) ++ List.replicate (3 - (lg_sl ([.ref (gB G 66), .int x1, .int x2])).length) Slot.unset).toArray = ls at hl ⊢
  have hl : lv_has ls 3 [(0, .ref (gB G 66)), (1, .int x1), (2, .int x2)] := hl
  have hS : SP G s s.heap [] := va_S.rf
  replace hP : WP G h s.heap := hP
  rw [f_X9_aheadOf] at hf
  refine lv_aload_n hx hb dX9_aheadOf_0 rfl (lv_at hl 0 rfl) ?_
  refine r_get (a := 66) (v := .ref (gB G 88)) (C := RX9) (T := TX9) (N := 55) hx hb hts hinX9 hown hK hP (ltX9 rfl) (ceX9 rfl) rfl 36 (by decide) wd1071 rfl dX9_aheadOf_1 ?_
  refine lv_bipush (v := 16) hx hb dX9_aheadOf_4 (by decide) ?_
  refine lv_iload_n hx hb dX9_aheadOf_6 rfl (lv_at hl 1 rfl) ?_
  refine lv_imul hx hb dX9_aheadOf_7 ?_
  refine lv_iload_n hx hb dX9_aheadOf_8 rfl (lv_at hl 2 rfl) ?_
  refine lv_iadd hx hb dX9_aheadOf_9 ?_
  obtain ⟨v10, ev10, hf⟩ := bO_s hf
  refine r_iald hx hb hK hP (arX9_36 rfl) ev10 dX9_aheadOf_10 ?_
  exact r_iret hx hb hr hlocks hP hS (re2 (Option.some.inj hf)) dX9_aheadOf_11
/-! CarriedBackModel.ahead(II)I -/
abbrev rmX9_ahead : Room := { frames := 2, cells := 0, slots := 0, locals := 45 }
abbrev vX9_ahead : List Cond := Cond.code yX9_ahead cX9_ahead 3 (some .int) :: GW
def f_X9_ahead (x1 : Int32) (x2 : Int32) (h : PH) : Option (Int32 × PH) := bO (f_X9_in (x1 : Int32).toInt64 0 ((h.1 66 0) : Int32).toInt64) (fun r8 => if r8 = 0 then (some ((-1001), h)) else (bO (f_X9_isSlot x2) (fun r15 => if r15 = 0 then (some ((-1001), h)) else (bP (f_X9_aheadOf x1 x2 h) (fun r24 h24 => some (r24, h24))))))
set_option maxHeartbeats 4000000 in
set_option maxRecDepth 100000 in
theorem k_X9_ahead (l : Launch) {G : GC} (hG : GOK G) {x1 : Int32} {x2 : Int32} {rr : Int32} {h hh : PH} (hf : f_X9_ahead x1 x2 h = some (rr, hh)) : CI l yX9_ahead vX9_ahead rmX9_ahead G [.ref (gB G 66), .int x1, .int x2] h rr hh := by
  refine Met.ofW (cc := cX9_ahead) (maxL := 3) (ret := (some .int)) (by decide +kernel) rfl ?_
  intro p e s m args below meth c s₁ B hml hv
  obtain ⟨rfl, hP, hK⟩ := hv
  have C : MC l G p s m _ meth c RX9 cX9_ahead 3 (some .int) := ⟨B.exec, B.bytes, B.returns, B.notSynchronized, hml, findClass_of_methodNamed B.named, fun w hw => atoms_spec (ws := vX9_ahead) B.pre w (List.mem_cons_of_mem _ hw), hK⟩
  obtain ⟨hx, hb, hr, hlocks, -, hown, hts, -⟩ := id C
  have hl := lv_entry ([.ref (gB G 66), .int x1, .int x2]) (n := 3) (Nat.le_of_ble_eq_true rfl)
  rw [lg_entry_eq]
  generalize (lg_sl ([.ref (gB G 66), .int x1, .int x2]) ++ List.replicate (3 - (lg_sl ([.ref (gB G 66), .int x1, .int x2])).length) Slot.unset).toArray = ls at hl ⊢
  have hl : lv_has ls 3 [(0, .ref (gB G 66)), (1, .int x1), (2, .int x2)] := hl
  have hS : SP G s s.heap [] := va_S.rf
  replace hP : WP G h s.heap := hP
  rw [f_X9_ahead] at hf
  refine lv_iload_n hx hb dX9_ahead_0 rfl (lv_at hl 1 rfl) ?_
  refine lv_i2l hx hb dX9_ahead_1 rfl ?_
  refine lv_lconst (v := 0) hx hb dX9_ahead_2 (by decide) ?_
  refine lv_aload_n hx hb dX9_ahead_3 rfl (lv_at hl 0 rfl) ?_
  refine r_get (a := 66) (v := .int (h.1 66 0)) (C := RX9) (T := TX9) (N := 55) hx hb hts hinX9 hown hK hP (ltX9 rfl) (ceX9 rfl) rfl 0 (by decide) wd1035 rfl dX9_ahead_4 ?_
  refine lv_i2l hx hb dX9_ahead_7 rfl ?_
  obtain ⟨r8, er8, hf⟩ := bO_s hf
  refine r_callI (va_runS (As := [.long (x1 : Int32).toInt64, .long 0, .long ((h.1 66 0) : Int32).toInt64]) (rest := []) ⟨hx, hb, hml, hown, hts⟩ (k_X9_in l hG (h := h) er8) (va_cwS 3 hts (gS wd1206 wd1207 wd82 wd1208) rfl rfl rfl (by decide +kernel) ⟨Nat.le_of_ble_eq_true rfl, Nat.le_of_ble_eq_true rfl⟩) (r_ps hK hP hS) rfl rfl hl.1 rfl (lv_room (Nat.le_of_ble_eq_true rfl)) dX9_ahead_8 ⟨Nat.le_of_ble_eq_true rfl, Nat.le_of_ble_eq_true rfl⟩) hS (fun H locs hP hS => ?_)
  refine lv_if_eq (tgt := 30) hx hb dX9_ahead_11 (by decide) (fun c11 => ?_) (fun c11 => ?_)
  · replace hf := if_t c11 hf
    refine lv_sipush (v := (-1001)) hx hb dX9_ahead_30 (by decide) ?_
    exact r_iret hx hb hr hlocks hP hS (re2 (Option.some.inj hf)) dX9_ahead_33
  · replace hf := if_f c11 hf
    refine lv_iload_n hx hb dX9_ahead_14 rfl (lv_at hl 2 rfl) ?_
    obtain ⟨r15, er15, hf⟩ := bO_s hf
    refine r_callI (va_runS (As := [.int x2]) (rest := []) ⟨hx, hb, hml, hown, hts⟩ (k_X9_isSlot l hG (h := h) er15) (va_cwS 1 hts (gS wd1315 wd1316 wd82 wd1317) rfl rfl rfl (by decide +kernel) ⟨Nat.le_of_ble_eq_true rfl, Nat.le_of_ble_eq_true rfl⟩) (r_ps hK hP hS) rfl rfl hl.1 rfl (lv_room (Nat.le_of_ble_eq_true rfl)) dX9_ahead_15 ⟨Nat.le_of_ble_eq_true rfl, Nat.le_of_ble_eq_true rfl⟩) hS (fun H locs hP hS => ?_)
    refine lv_if_eq (tgt := 30) hx hb dX9_ahead_18 (by decide) (fun c18 => ?_) (fun c18 => ?_)
    · replace hf := if_t c18 hf
      refine lv_sipush (v := (-1001)) hx hb dX9_ahead_30 (by decide) ?_
      exact r_iret hx hb hr hlocks hP hS (re2 (Option.some.inj hf)) dX9_ahead_33
    · replace hf := if_f c18 hf
      refine lv_aload_n hx hb dX9_ahead_21 rfl (lv_at hl 0 rfl) ?_
      refine lv_iload_n hx hb dX9_ahead_22 rfl (lv_at hl 1 rfl) ?_
      refine lv_iload_n hx hb dX9_ahead_23 rfl (lv_at hl 2 rfl) ?_
      obtain ⟨r24, h24, er24, hf⟩ := bP_s hf
      refine r_callI (va_runV (As := [.int x1, .int x2]) (rest := []) ⟨hx, hb, hml, hown, hts⟩ (k_X9_aheadOf l hG er24) (cwV 2 hts (gV wd1323 wd1325 wd45 wd82 wd1326) rfl rfl rfl (by decide +kernel) ⟨Nat.le_of_ble_eq_true rfl, Nat.le_of_ble_eq_true rfl⟩) (r_pv hK hP hS (ltX9 rfl) (ceX9 rfl) rfl) rfl rfl hl.1 rfl (lv_room (Nat.le_of_ble_eq_true rfl)) dX9_ahead_24 ⟨Nat.le_of_ble_eq_true rfl, Nat.le_of_ble_eq_true rfl⟩) hS (fun H locs hP hS => ?_)
      refine lv_goto (tgt := 33) hx hb dX9_ahead_27 (by decide) ?_
      exact r_iret hx hb hr hlocks hP hS (re2 (Option.some.inj hf)) dX9_ahead_33
/-! CarriedBackModel.fault(II)I -/
abbrev rmX9_fault : Room := { frames := 2, cells := 0, slots := 0, locals := 46 }
abbrev vX9_fault : List Cond := Cond.code yX9_fault cX9_fault 3 (some .int) :: GW
def f_X9_fault (x1 : Int32) (x2 : Int32) (h : PH) : Option (Int32 × PH) := bP (f_X9_isFault x1 h) (fun r2 h2 => if r2 = 0 then (some ((-1001), h2)) else (if x2 = 0 then (bO (ag h2 70 10 x1) (fun v21 => some (v21, h2))) else (if x2 = 1 then (bO (ag h2 71 10 x1) (fun v35 => some (v35, h2))) else (if x2 = 2 then (bO (ag h2 72 10 x1) (fun v49 => some (v49, h2))) else (some ((-1002), h2))))))
set_option maxHeartbeats 4000000 in
set_option maxRecDepth 100000 in
theorem k_X9_fault (l : Launch) {G : GC} (hG : GOK G) {x1 : Int32} {x2 : Int32} {rr : Int32} {h hh : PH} (hf : f_X9_fault x1 x2 h = some (rr, hh)) : CI l yX9_fault vX9_fault rmX9_fault G [.ref (gB G 66), .int x1, .int x2] h rr hh := by
  refine Met.ofW (cc := cX9_fault) (maxL := 3) (ret := (some .int)) (by decide +kernel) rfl ?_
  intro p e s m args below meth c s₁ B hml hv
  obtain ⟨rfl, hP, hK⟩ := hv
  have C : MC l G p s m _ meth c RX9 cX9_fault 3 (some .int) := ⟨B.exec, B.bytes, B.returns, B.notSynchronized, hml, findClass_of_methodNamed B.named, fun w hw => atoms_spec (ws := vX9_fault) B.pre w (List.mem_cons_of_mem _ hw), hK⟩
  obtain ⟨hx, hb, hr, hlocks, -, hown, hts, -⟩ := id C
  have hl := lv_entry ([.ref (gB G 66), .int x1, .int x2]) (n := 3) (Nat.le_of_ble_eq_true rfl)
  rw [lg_entry_eq]
  generalize (lg_sl ([.ref (gB G 66), .int x1, .int x2]) ++ List.replicate (3 - (lg_sl ([.ref (gB G 66), .int x1, .int x2])).length) Slot.unset).toArray = ls at hl ⊢
  have hl : lv_has ls 3 [(0, .ref (gB G 66)), (1, .int x1), (2, .int x2)] := hl
  have hS : SP G s s.heap [] := va_S.rf
  replace hP : WP G h s.heap := hP
  rw [f_X9_fault] at hf
  refine lv_aload_n hx hb dX9_fault_0 rfl (lv_at hl 0 rfl) ?_
  refine lv_iload_n hx hb dX9_fault_1 rfl (lv_at hl 1 rfl) ?_
  obtain ⟨r2, h2, er2, hf⟩ := bP_s hf
  refine r_callI (va_runV (As := [.int x1]) (rest := []) ⟨hx, hb, hml, hown, hts⟩ (k_X9_isFault l hG er2) (cwV 1 hts (gV wd1331 wd1333 wd46 wd82 wd1334) rfl rfl rfl (by decide +kernel) ⟨Nat.le_of_ble_eq_true rfl, Nat.le_of_ble_eq_true rfl⟩) (r_pv hK hP hS (ltX9 rfl) (ceX9 rfl) rfl) rfl rfl hl.1 rfl (lv_room (Nat.le_of_ble_eq_true rfl)) dX9_fault_2 ⟨Nat.le_of_ble_eq_true rfl, Nat.le_of_ble_eq_true rfl⟩) hS (fun H locs hP hS => ?_)
  refine lv_if_ne (tgt := 12) hx hb dX9_fault_5 (by decide) (fun c5 => ?_) (fun c5 => ?_)
  · replace hf := if_f c5 hf
    refine lv_iload_n hx hb dX9_fault_12 rfl (lv_at hl 2 rfl) ?_
    refine lv_if_ne (tgt := 25) hx hb dX9_fault_13 (by decide) (fun c13 => ?_) (fun c13 => ?_)
    · replace hf := if_f c13 hf
      refine lv_iload_n hx hb dX9_fault_25 rfl (lv_at hl 2 rfl) ?_
      refine lv_iconst (v := 1) hx hb dX9_fault_26 (by decide) ?_
      refine lv_icmp_ne (tgt := 39) hx hb dX9_fault_27 (by decide) (fun c27 => ?_) (fun c27 => ?_)
      · replace hf := if_f c27 hf
        refine lv_iload_n hx hb dX9_fault_39 rfl (lv_at hl 2 rfl) ?_
        refine lv_iconst (v := 2) hx hb dX9_fault_40 (by decide) ?_
        refine lv_icmp_ne (tgt := 53) hx hb dX9_fault_41 (by decide) (fun c41 => ?_) (fun c41 => ?_)
        · replace hf := if_f c41 hf
          refine lv_sipush (v := (-1002)) hx hb dX9_fault_53 (by decide) ?_
          exact r_iret hx hb hr hlocks hP hS (re2 (Option.some.inj hf)) dX9_fault_56
        · replace hf := if_t c41 hf
          refine lv_aload_n hx hb dX9_fault_44 rfl (lv_at hl 0 rfl) ?_
          refine r_get (a := 66) (v := .ref (gB G 72)) (C := RX9) (T := TX9) (N := 55) hx hb hts hinX9 hown hK hP (ltX9 rfl) (ceX9 rfl) rfl 7 (by decide) wd1042 rfl dX9_fault_45 ?_
          refine lv_iload_n hx hb dX9_fault_48 rfl (lv_at hl 1 rfl) ?_
          obtain ⟨v49, ev49, hf⟩ := bO_s hf
          refine r_iald hx hb hK hP (arX9_7 rfl) ev49 dX9_fault_49 ?_
          refine lv_goto (tgt := 56) hx hb dX9_fault_50 (by decide) ?_
          exact r_iret hx hb hr hlocks hP hS (re2 (Option.some.inj hf)) dX9_fault_56
      · replace hf := if_t c27 hf
        refine lv_aload_n hx hb dX9_fault_30 rfl (lv_at hl 0 rfl) ?_
        refine r_get (a := 66) (v := .ref (gB G 71)) (C := RX9) (T := TX9) (N := 55) hx hb hts hinX9 hown hK hP (ltX9 rfl) (ceX9 rfl) rfl 6 (by decide) wd1041 rfl dX9_fault_31 ?_
        refine lv_iload_n hx hb dX9_fault_34 rfl (lv_at hl 1 rfl) ?_
        obtain ⟨v35, ev35, hf⟩ := bO_s hf
        refine r_iald hx hb hK hP (arX9_6 rfl) ev35 dX9_fault_35 ?_
        refine lv_goto (tgt := 56) hx hb dX9_fault_36 (by decide) ?_
        exact r_iret hx hb hr hlocks hP hS (re2 (Option.some.inj hf)) dX9_fault_56
    · replace hf := if_t c13 hf
      refine lv_aload_n hx hb dX9_fault_16 rfl (lv_at hl 0 rfl) ?_
      refine r_get (a := 66) (v := .ref (gB G 70)) (C := RX9) (T := TX9) (N := 55) hx hb hts hinX9 hown hK hP (ltX9 rfl) (ceX9 rfl) rfl 5 (by decide) wd1040 rfl dX9_fault_17 ?_
      refine lv_iload_n hx hb dX9_fault_20 rfl (lv_at hl 1 rfl) ?_
      obtain ⟨v21, ev21, hf⟩ := bO_s hf
      refine r_iald hx hb hK hP (arX9_5 rfl) ev21 dX9_fault_21 ?_
      refine lv_goto (tgt := 56) hx hb dX9_fault_22 (by decide) ?_
      exact r_iret hx hb hr hlocks hP hS (re2 (Option.some.inj hf)) dX9_fault_56
  · replace hf := if_t c5 hf
    refine lv_sipush (v := (-1001)) hx hb dX9_fault_8 (by decide) ?_
    exact r_iret hx hb hr hlocks hP hS (re2 (Option.some.inj hf)) dX9_fault_11
/-! CarriedBackModel.count(I)I -/
abbrev rmX9_count : Room := { frames := 0, cells := 0, slots := 0, locals := 0 }
abbrev vX9_count : List Cond := Cond.code yX9_count cX9_count 2 (some .int) :: GW
def f_X9_count (x1 : Int32) (h : PH) : Option (Int32 × PH) := if x1 = 0 then (some ((h.1 66 0), h)) else (if x1 = 1 then (some ((h.1 66 4), h)) else (if x1 = 2 then (some ((h.1 66 8), h)) else (if x1 = 3 then (some ((h.1 66 13), h)) else (if x1 = 4 then (some ((h.1 66 19), h)) else (some ((-1002), h))))))
set_option maxHeartbeats 4000000 in
set_option maxRecDepth 100000 in
theorem k_X9_count (l : Launch) {G : GC} (hG : GOK G) {x1 : Int32} {rr : Int32} {h hh : PH} (hf : f_X9_count x1 h = some (rr, hh)) : CI l yX9_count vX9_count rmX9_count G [.ref (gB G 66), .int x1] h rr hh := by
  refine Met.ofW (cc := cX9_count) (maxL := 2) (ret := (some .int)) (by decide +kernel) rfl ?_
  intro p e s m args below meth c s₁ B hml hv
  obtain ⟨rfl, hP, hK⟩ := hv
  have C : MC l G p s m _ meth c RX9 cX9_count 2 (some .int) := ⟨B.exec, B.bytes, B.returns, B.notSynchronized, hml, findClass_of_methodNamed B.named, fun w hw => atoms_spec (ws := vX9_count) B.pre w (List.mem_cons_of_mem _ hw), hK⟩
  obtain ⟨hx, hb, hr, hlocks, -, hown, hts, -⟩ := id C
  have hl := lv_entry ([.ref (gB G 66), .int x1]) (n := 2) (Nat.le_of_ble_eq_true rfl)
  rw [lg_entry_eq]
  generalize (lg_sl ([.ref (gB G 66), .int x1]) ++ List.replicate (2 - (lg_sl ([.ref (gB G 66), .int x1])).length) Slot.unset).toArray = ls at hl ⊢
  have hl : lv_has ls 2 [(0, .ref (gB G 66)), (1, .int x1)] := hl
  have hS : SP G s s.heap [] := va_S.rf
  replace hP : WP G h s.heap := hP
  rw [f_X9_count] at hf
  refine lv_iload_n hx hb dX9_count_0 rfl (lv_at hl 1 rfl) ?_
  by_cases s1_0 : x1 = 0
  · replace hf := if_t s1_0 hf
    refine lv_tableIn (tgt := 36) hx hb dX9_count_1 (by rw [s1_0]; decide) (by rw [s1_0]; decide) (by rw [s1_0]; rfl) (by decide) ?_
    refine lv_aload_n hx hb dX9_count_36 rfl (lv_at hl 0 rfl) ?_
    refine r_get (a := 66) (v := .int (h.1 66 0)) (C := RX9) (T := TX9) (N := 55) hx hb hts hinX9 hown hK hP (ltX9 rfl) (ceX9 rfl) rfl 0 (by decide) wd1035 rfl dX9_count_37 ?_
    exact r_iret hx hb hr hlocks hP hS (re2 (Option.some.inj hf)) dX9_count_40
  replace hf := if_f s1_0 hf
  by_cases s1_1 : x1 = 1
  · replace hf := if_t s1_1 hf
    refine lv_tableIn (tgt := 41) hx hb dX9_count_1 (by rw [s1_1]; decide) (by rw [s1_1]; decide) (by rw [s1_1]; rfl) (by decide) ?_
    refine lv_aload_n hx hb dX9_count_41 rfl (lv_at hl 0 rfl) ?_
    refine r_get (a := 66) (v := .int (h.1 66 4)) (C := RX9) (T := TX9) (N := 55) hx hb hts hinX9 hown hK hP (ltX9 rfl) (ceX9 rfl) rfl 4 (by decide) wd1039 rfl dX9_count_42 ?_
    exact r_iret hx hb hr hlocks hP hS (re2 (Option.some.inj hf)) dX9_count_45
  replace hf := if_f s1_1 hf
  by_cases s1_2 : x1 = 2
  · replace hf := if_t s1_2 hf
    refine lv_tableIn (tgt := 46) hx hb dX9_count_1 (by rw [s1_2]; decide) (by rw [s1_2]; decide) (by rw [s1_2]; rfl) (by decide) ?_
    refine lv_aload_n hx hb dX9_count_46 rfl (lv_at hl 0 rfl) ?_
    refine r_get (a := 66) (v := .int (h.1 66 8)) (C := RX9) (T := TX9) (N := 55) hx hb hts hinX9 hown hK hP (ltX9 rfl) (ceX9 rfl) rfl 8 (by decide) wd1043 rfl dX9_count_47 ?_
    exact r_iret hx hb hr hlocks hP hS (re2 (Option.some.inj hf)) dX9_count_50
  replace hf := if_f s1_2 hf
  by_cases s1_3 : x1 = 3
  · replace hf := if_t s1_3 hf
    refine lv_tableIn (tgt := 51) hx hb dX9_count_1 (by rw [s1_3]; decide) (by rw [s1_3]; decide) (by rw [s1_3]; rfl) (by decide) ?_
    refine lv_aload_n hx hb dX9_count_51 rfl (lv_at hl 0 rfl) ?_
    refine r_get (a := 66) (v := .int (h.1 66 13)) (C := RX9) (T := TX9) (N := 55) hx hb hts hinX9 hown hK hP (ltX9 rfl) (ceX9 rfl) rfl 13 (by decide) wd1048 rfl dX9_count_52 ?_
    exact r_iret hx hb hr hlocks hP hS (re2 (Option.some.inj hf)) dX9_count_55
  replace hf := if_f s1_3 hf
  by_cases s1_4 : x1 = 4
  · replace hf := if_t s1_4 hf
    refine lv_tableIn (tgt := 56) hx hb dX9_count_1 (by rw [s1_4]; decide) (by rw [s1_4]; decide) (by rw [s1_4]; rfl) (by decide) ?_
    refine lv_aload_n hx hb dX9_count_56 rfl (lv_at hl 0 rfl) ?_
    refine r_get (a := 66) (v := .int (h.1 66 19)) (C := RX9) (T := TX9) (N := 55) hx hb hts hinX9 hown hK hP (ltX9 rfl) (ceX9 rfl) rfl 19 (by decide) wd1054 rfl dX9_count_57 ?_
    exact r_iret hx hb hr hlocks hP hS (re2 (Option.some.inj hf)) dX9_count_60
  replace hf := if_f s1_4 hf
  refine lv_tableOut (tgt := 61) hx hb dX9_count_1 (sw_out (x := x1) 4 (by decide) (fun k hk => by
    rcases (show k = 0 ∨ k = 1 ∨ k = 2 ∨ k = 3 ∨ k = 4 by omega) with rfl | rfl | rfl | rfl | rfl
    · exact s1_0
    · exact s1_1
    · exact s1_2
    · exact s1_3
    · exact s1_4
    )) (by decide) ?_
  refine lv_sipush (v := (-1002)) hx hb dX9_count_61 (by decide) ?_
  exact r_iret hx hb hr hlocks hP hS (re2 (Option.some.inj hf)) dX9_count_64
/-! CarriedBackModel.faultsIn(I)I -/
abbrev rmX9_faultsIn : Room := { frames := 1, cells := 0, slots := 0, locals := 21 }
abbrev vX9_faultsIn : List Cond := Cond.code yX9_faultsIn cX9_faultsIn 5 (some .int) :: GW
def f_X9_faultsIn_52 (x1 : Int32) (k4 : Int32 → Int32 → PH → Option (Int32 × PH)) (x2 : Int32) (x3 : Int32) (t0 : Int32) (h : PH) : Option (Int32 × PH) := if t0 = 0 then (lt' ((x2 ||| 0)) (fun x2_68 => k4 x2_68 (x3 + 1) h)) else (lt' ((x2 ||| (1 <<< (x3 &&& 31)))) (fun x2_68 => k4 x2_68 (x3 + 1) h))
set_option maxHeartbeats 4000000 in
set_option maxRecDepth 100000 in
theorem w_X9_faultsIn_52 {l : Launch} {G : GC} (hG : GOK G) {rr : Int32} {hh : PH} {p : Program} {e : Env} {s : State} {m : MethodId} {args : Array Value} {below : List Frame} {meth : Method} {c : Code} (C : MC l G p s m args meth c RX9 cX9_faultsIn 5 (some .int)) (x1 : Int32) (k4 : Int32 → Int32 → PH → Option (Int32 × PH)) (hk4 : ∀ (x2 : Int32) (x3 : Int32) (h : PH) (H : Heap) (locs : List Loc) (ls : Array Slot), lv_has ls 5 [(0, .ref (gB G 66)), (1, .int x1), (2, .int x2), (3, .int x3)] → WP G h H → SP G s H locs → k4 x2 x3 h = some (rr, hh) → W p l e rmX9_faultsIn s m args below meth c H locs 0 0 (MQ below (QI G rr hh) args s 0 0 (gA G)) (F0 m 4 ls [])) : ∀ (x2 : Int32) (x3 : Int32) (t0 : Int32) (h : PH) (H : Heap) (locs : List Loc) (ls : Array Slot), lv_has ls 5 [(0, .ref (gB G 66)), (1, .int x1), (2, .int x2), (3, .int x3)] → WP G h H → SP G s H locs → f_X9_faultsIn_52 x1 k4 x2 x3 t0 h = some (rr, hh) → W p l e rmX9_faultsIn s m args below meth c H locs 0 0 (MQ below (QI G rr hh) args s 0 0 (gA G)) (F0 m 52 ls [.int t0]) := by
  obtain ⟨hx, hb, hr, hlocks, hml, hown, hts, hK⟩ := id C
  intro x2 x3 t0 h H locs ls hl hP hS hf
  rw [f_X9_faultsIn_52] at hf
  refine lv_istore (lv' := [(4, .int t0), (0, .ref (gB G 66)), (1, .int x1), (2, .int x2), (3, .int x3)]) hx hb dX9_faultsIn_52 hl (by decide) rfl (fun ls hl => ?_)
  refine lv_iload_n hx hb dX9_faultsIn_54 rfl (lv_at hl 3 rfl) ?_
  refine lv_iload hx hb dX9_faultsIn_55 (lv_at hl 0 rfl) ?_
  refine lv_if_eq (tgt := 66) hx hb dX9_faultsIn_57 (by decide) (fun c57 => ?_) (fun c57 => ?_)
  · replace hf := if_t c57 hf
    refine lv_iconst (v := 0) hx hb dX9_faultsIn_66 (by decide) ?_
    refine lv_ior hx hb dX9_faultsIn_67 ?_
    refine lv_topi (fun x2_68 ex2_68 => ?_)
    replace hf := lt_at ex2_68 hf
    refine lv_istore_n (lv' := [(2, .int x2_68), (4, .int t0), (0, .ref (gB G 66)), (1, .int x1), (3, .int x3)]) hx hb dX9_faultsIn_68 rfl hl (by decide) rfl (fun ls hl => ?_)
    refine lv_iinc (v := (x3 + 1)) (lv' := [(3, .int (x3 + 1)), (2, .int x2_68), (4, .int t0), (0, .ref (gB G 66)), (1, .int x1)]) hx hb dX9_faultsIn_69 hl (k := 4) rfl rfl (by decide) rfl (fun ls hl => ?_)
    refine lv_goto (tgt := 4) hx hb dX9_faultsIn_72 (by decide) ?_
    exact hk4 x2_68 (x3 + 1) h _ _ _ (lv_sub hl [3, 4, 1, 0] rfl) hP hS hf
  · replace hf := if_f c57 hf
    refine lv_iconst (v := 1) hx hb dX9_faultsIn_60 (by decide) ?_
    refine lv_iload_n hx hb dX9_faultsIn_61 rfl (lv_at hl 4 rfl) ?_
    refine lv_ishl hx hb dX9_faultsIn_62 ?_
    refine lv_goto (tgt := 67) hx hb dX9_faultsIn_63 (by decide) ?_
    refine lv_ior hx hb dX9_faultsIn_67 ?_
    refine lv_topi (fun x2_68 ex2_68 => ?_)
    replace hf := lt_at ex2_68 hf
    refine lv_istore_n (lv' := [(2, .int x2_68), (4, .int t0), (0, .ref (gB G 66)), (1, .int x1), (3, .int x3)]) hx hb dX9_faultsIn_68 rfl hl (by decide) rfl (fun ls hl => ?_)
    refine lv_iinc (v := (x3 + 1)) (lv' := [(3, .int (x3 + 1)), (2, .int x2_68), (4, .int t0), (0, .ref (gB G 66)), (1, .int x1)]) hx hb dX9_faultsIn_69 hl (k := 4) rfl rfl (by decide) rfl (fun ls hl => ?_)
    refine lv_goto (tgt := 4) hx hb dX9_faultsIn_72 (by decide) ?_
    exact hk4 x2_68 (x3 + 1) h _ _ _ (lv_sub hl [3, 4, 1, 0] rfl) hP hS hf
def f_X9_faultsIn_51 (x1 : Int32) (k4 : Int32 → Int32 → PH → Option (Int32 × PH)) (x2 : Int32) (x3 : Int32) (h : PH) : Option (Int32 × PH) := f_X9_faultsIn_52 x1 k4 x2 x3 0 h
set_option maxHeartbeats 4000000 in
set_option maxRecDepth 100000 in
theorem w_X9_faultsIn_51 {l : Launch} {G : GC} (hG : GOK G) {rr : Int32} {hh : PH} {p : Program} {e : Env} {s : State} {m : MethodId} {args : Array Value} {below : List Frame} {meth : Method} {c : Code} (C : MC l G p s m args meth c RX9 cX9_faultsIn 5 (some .int)) (x1 : Int32) (k4 : Int32 → Int32 → PH → Option (Int32 × PH)) (hk4 : ∀ (x2 : Int32) (x3 : Int32) (h : PH) (H : Heap) (locs : List Loc) (ls : Array Slot), lv_has ls 5 [(0, .ref (gB G 66)), (1, .int x1), (2, .int x2), (3, .int x3)] → WP G h H → SP G s H locs → k4 x2 x3 h = some (rr, hh) → W p l e rmX9_faultsIn s m args below meth c H locs 0 0 (MQ below (QI G rr hh) args s 0 0 (gA G)) (F0 m 4 ls [])) : ∀ (x2 : Int32) (x3 : Int32) (h : PH) (H : Heap) (locs : List Loc) (ls : Array Slot), lv_has ls 5 [(0, .ref (gB G 66)), (1, .int x1), (2, .int x2), (3, .int x3)] → WP G h H → SP G s H locs → f_X9_faultsIn_51 x1 k4 x2 x3 h = some (rr, hh) → W p l e rmX9_faultsIn s m args below meth c H locs 0 0 (MQ below (QI G rr hh) args s 0 0 (gA G)) (F0 m 51 ls []) := by
  obtain ⟨hx, hb, hr, hlocks, hml, hown, hts, hK⟩ := id C
  intro x2 x3 h H locs ls hl hP hS hf
  rw [f_X9_faultsIn_51] at hf
  refine lv_iconst (v := 0) hx hb dX9_faultsIn_51 (by decide) ?_
  exact w_X9_faultsIn_52 hG C x1 k4 hk4 x2 x3 0 h _ _ _ (lv_sub hl [0, 1, 2, 3] rfl) hP hS hf
def f_X9_faultsIn_47 (x1 : Int32) (k4 : Int32 → Int32 → PH → Option (Int32 × PH)) (x2 : Int32) (x3 : Int32) (h : PH) : Option (Int32 × PH) := f_X9_faultsIn_52 x1 k4 x2 x3 1 h
set_option maxHeartbeats 4000000 in
set_option maxRecDepth 100000 in
theorem w_X9_faultsIn_47 {l : Launch} {G : GC} (hG : GOK G) {rr : Int32} {hh : PH} {p : Program} {e : Env} {s : State} {m : MethodId} {args : Array Value} {below : List Frame} {meth : Method} {c : Code} (C : MC l G p s m args meth c RX9 cX9_faultsIn 5 (some .int)) (x1 : Int32) (k4 : Int32 → Int32 → PH → Option (Int32 × PH)) (hk4 : ∀ (x2 : Int32) (x3 : Int32) (h : PH) (H : Heap) (locs : List Loc) (ls : Array Slot), lv_has ls 5 [(0, .ref (gB G 66)), (1, .int x1), (2, .int x2), (3, .int x3)] → WP G h H → SP G s H locs → k4 x2 x3 h = some (rr, hh) → W p l e rmX9_faultsIn s m args below meth c H locs 0 0 (MQ below (QI G rr hh) args s 0 0 (gA G)) (F0 m 4 ls [])) : ∀ (x2 : Int32) (x3 : Int32) (h : PH) (H : Heap) (locs : List Loc) (ls : Array Slot), lv_has ls 5 [(0, .ref (gB G 66)), (1, .int x1), (2, .int x2), (3, .int x3)] → WP G h H → SP G s H locs → f_X9_faultsIn_47 x1 k4 x2 x3 h = some (rr, hh) → W p l e rmX9_faultsIn s m args below meth c H locs 0 0 (MQ below (QI G rr hh) args s 0 0 (gA G)) (F0 m 47 ls []) := by
  obtain ⟨hx, hb, hr, hlocks, hml, hown, hts, hK⟩ := id C
  intro x2 x3 h H locs ls hl hP hS hf
  rw [f_X9_faultsIn_47] at hf
  refine lv_iconst (v := 1) hx hb dX9_faultsIn_47 (by decide) ?_
  refine lv_goto (tgt := 52) hx hb dX9_faultsIn_48 (by decide) ?_
  exact w_X9_faultsIn_52 hG C x1 k4 hk4 x2 x3 1 h _ _ _ (lv_sub hl [0, 1, 2, 3] rfl) hP hS hf
def f_X9_faultsIn_4 (x1 : Int32) : Nat → Int32 → Int32 → PH → Option (Int32 × PH)
  | 0, _, _, _ => none
  | n + 1, x2, x3, h => if (h.1 66 4) ≤ x3 then (some (x2, h)) else (bO (ag h 71 10 x3) (fun v18 => bO (f_X9_has x1 v18) (fun r19 => if r19 = 0 then (f_X9_faultsIn_51 x1 (f_X9_faultsIn_4 x1 n) x2 x3 h) else (bO (ag h 72 10 x3) (fun v30 => if v30 < 0 then (f_X9_faultsIn_47 x1 (f_X9_faultsIn_4 x1 n) x2 x3 h) else (bO (ag h 72 10 x3) (fun v40 => bO (f_X9_has x1 v40) (fun r41 => if r41 = 0 then (f_X9_faultsIn_47 x1 (f_X9_faultsIn_4 x1 n) x2 x3 h) else (f_X9_faultsIn_51 x1 (f_X9_faultsIn_4 x1 n) x2 x3 h)))))))))
set_option maxHeartbeats 4000000 in
set_option maxRecDepth 100000 in
theorem w_X9_faultsIn_4 {l : Launch} {G : GC} (hG : GOK G) {rr : Int32} {hh : PH} {p : Program} {e : Env} {s : State} {m : MethodId} {args : Array Value} {below : List Frame} {meth : Method} {c : Code} (C : MC l G p s m args meth c RX9 cX9_faultsIn 5 (some .int)) (x1 : Int32) : ∀ (n : Nat) (x2 : Int32) (x3 : Int32) (h : PH) (H : Heap) (locs : List Loc) (ls : Array Slot), lv_has ls 5 [(0, .ref (gB G 66)), (1, .int x1), (2, .int x2), (3, .int x3)] → WP G h H → SP G s H locs → f_X9_faultsIn_4 x1 n x2 x3 h = some (rr, hh) → W p l e rmX9_faultsIn s m args below meth c H locs 0 0 (MQ below (QI G rr hh) args s 0 0 (gA G)) (F0 m 4 ls []) := by
  obtain ⟨hx, hb, hr, hlocks, hml, hown, hts, hK⟩ := id C
  intro n
  induction n with
  | zero => intro x2 x3 h H locs ls hl hP hS hf; rw [f_X9_faultsIn_4] at hf; cases hf
  | succ n ih =>
    intro x2 x3 h H locs ls hl hP hS hf
    rw [f_X9_faultsIn_4] at hf
    refine lv_iload_n hx hb dX9_faultsIn_4 rfl (lv_at hl 3 rfl) ?_
    refine lv_aload_n hx hb dX9_faultsIn_5 rfl (lv_at hl 0 rfl) ?_
    refine r_get (a := 66) (v := .int (h.1 66 4)) (C := RX9) (T := TX9) (N := 55) hx hb hts hinX9 hown hK hP (ltX9 rfl) (ceX9 rfl) rfl 4 (by decide) wd1039 rfl dX9_faultsIn_6 ?_
    refine lv_icmp_ge (tgt := 75) hx hb dX9_faultsIn_9 (by decide) (fun c9 => ?_) (fun c9 => ?_)
    · replace hf := if_t c9 hf
      refine lv_iload_n hx hb dX9_faultsIn_75 rfl (lv_at hl 2 rfl) ?_
      exact r_iret hx hb hr hlocks hP hS (re2 (Option.some.inj hf)) dX9_faultsIn_76
    · replace hf := if_f c9 hf
      refine lv_iload_n hx hb dX9_faultsIn_12 rfl (lv_at hl 1 rfl) ?_
      refine lv_aload_n hx hb dX9_faultsIn_13 rfl (lv_at hl 0 rfl) ?_
      refine r_get (a := 66) (v := .ref (gB G 71)) (C := RX9) (T := TX9) (N := 55) hx hb hts hinX9 hown hK hP (ltX9 rfl) (ceX9 rfl) rfl 6 (by decide) wd1041 rfl dX9_faultsIn_14 ?_
      refine lv_iload_n hx hb dX9_faultsIn_17 rfl (lv_at hl 3 rfl) ?_
      obtain ⟨v18, ev18, hf⟩ := bO_s hf
      refine r_iald hx hb hK hP (arX9_6 rfl) ev18 dX9_faultsIn_18 ?_
      obtain ⟨r19, er19, hf⟩ := bO_s hf
      refine r_callI (va_runS (As := [.int x1, .int v18]) (rest := []) ⟨hx, hb, hml, hown, hts⟩ (k_X9_has l hG (h := h) er19) (va_cwS 2 hts (gS wd1260 wd1261 wd82 wd1262) rfl rfl rfl (by decide +kernel) ⟨Nat.le_of_ble_eq_true rfl, Nat.le_of_ble_eq_true rfl⟩) (r_ps hK hP hS) rfl rfl hl.1 rfl (lv_room (Nat.le_of_ble_eq_true rfl)) dX9_faultsIn_19 ⟨Nat.le_of_ble_eq_true rfl, Nat.le_of_ble_eq_true rfl⟩) hS (fun H locs hP hS => ?_)
      refine lv_if_eq (tgt := 51) hx hb dX9_faultsIn_22 (by decide) (fun c22 => ?_) (fun c22 => ?_)
      · replace hf := if_t c22 hf
        exact w_X9_faultsIn_51 hG C x1 (f_X9_faultsIn_4 x1 n) ih x2 x3 h _ _ _ (lv_sub hl [0, 1, 2, 3] rfl) hP hS hf
      · replace hf := if_f c22 hf
        refine lv_aload_n hx hb dX9_faultsIn_25 rfl (lv_at hl 0 rfl) ?_
        refine r_get (a := 66) (v := .ref (gB G 72)) (C := RX9) (T := TX9) (N := 55) hx hb hts hinX9 hown hK hP (ltX9 rfl) (ceX9 rfl) rfl 7 (by decide) wd1042 rfl dX9_faultsIn_26 ?_
        refine lv_iload_n hx hb dX9_faultsIn_29 rfl (lv_at hl 3 rfl) ?_
        obtain ⟨v30, ev30, hf⟩ := bO_s hf
        refine r_iald hx hb hK hP (arX9_7 rfl) ev30 dX9_faultsIn_30 ?_
        refine lv_if_lt (tgt := 47) hx hb dX9_faultsIn_31 (by decide) (fun c31 => ?_) (fun c31 => ?_)
        · replace hf := if_t c31 hf
          exact w_X9_faultsIn_47 hG C x1 (f_X9_faultsIn_4 x1 n) ih x2 x3 h _ _ _ (lv_sub hl [0, 1, 2, 3] rfl) hP hS hf
        · replace hf := if_f c31 hf
          refine lv_iload_n hx hb dX9_faultsIn_34 rfl (lv_at hl 1 rfl) ?_
          refine lv_aload_n hx hb dX9_faultsIn_35 rfl (lv_at hl 0 rfl) ?_
          refine r_get (a := 66) (v := .ref (gB G 72)) (C := RX9) (T := TX9) (N := 55) hx hb hts hinX9 hown hK hP (ltX9 rfl) (ceX9 rfl) rfl 7 (by decide) wd1042 rfl dX9_faultsIn_36 ?_
          refine lv_iload_n hx hb dX9_faultsIn_39 rfl (lv_at hl 3 rfl) ?_
          obtain ⟨v40, ev40, hf⟩ := bO_s hf
          refine r_iald hx hb hK hP (arX9_7 rfl) ev40 dX9_faultsIn_40 ?_
          obtain ⟨r41, er41, hf⟩ := bO_s hf
          refine r_callI (va_runS (As := [.int x1, .int v40]) (rest := []) ⟨hx, hb, hml, hown, hts⟩ (k_X9_has l hG (h := h) er41) (va_cwS 2 hts (gS wd1260 wd1261 wd82 wd1262) rfl rfl rfl (by decide +kernel) ⟨Nat.le_of_ble_eq_true rfl, Nat.le_of_ble_eq_true rfl⟩) (r_ps hK hP hS) rfl rfl hl.1 rfl (lv_room (Nat.le_of_ble_eq_true rfl)) dX9_faultsIn_41 ⟨Nat.le_of_ble_eq_true rfl, Nat.le_of_ble_eq_true rfl⟩) hS (fun H locs hP hS => ?_)
          refine lv_if_ne (tgt := 51) hx hb dX9_faultsIn_44 (by decide) (fun c44 => ?_) (fun c44 => ?_)
          · replace hf := if_f c44 hf
            exact w_X9_faultsIn_51 hG C x1 (f_X9_faultsIn_4 x1 n) ih x2 x3 h _ _ _ (lv_sub hl [0, 1, 2, 3] rfl) hP hS hf
          · replace hf := if_t c44 hf
            exact w_X9_faultsIn_47 hG C x1 (f_X9_faultsIn_4 x1 n) ih x2 x3 h _ _ _ (lv_sub hl [0, 1, 2, 3] rfl) hP hS hf
def f_X9_faultsIn (x1 : Int32) (h : PH) : Option (Int32 × PH) := f_X9_faultsIn_4 x1 FU 0 0 h
set_option maxHeartbeats 4000000 in
set_option maxRecDepth 100000 in
theorem k_X9_faultsIn (l : Launch) {G : GC} (hG : GOK G) {x1 : Int32} {rr : Int32} {h hh : PH} (hf : f_X9_faultsIn x1 h = some (rr, hh)) : CI l yX9_faultsIn vX9_faultsIn rmX9_faultsIn G [.ref (gB G 66), .int x1] h rr hh := by
  refine Met.ofW (cc := cX9_faultsIn) (maxL := 5) (ret := (some .int)) (by decide +kernel) rfl ?_
  intro p e s m args below meth c s₁ B hml hv
  obtain ⟨rfl, hP, hK⟩ := hv
  have C : MC l G p s m _ meth c RX9 cX9_faultsIn 5 (some .int) := ⟨B.exec, B.bytes, B.returns, B.notSynchronized, hml, findClass_of_methodNamed B.named, fun w hw => atoms_spec (ws := vX9_faultsIn) B.pre w (List.mem_cons_of_mem _ hw), hK⟩
  obtain ⟨hx, hb, hr, hlocks, -, hown, hts, -⟩ := id C
  have hl := lv_entry ([.ref (gB G 66), .int x1]) (n := 5) (Nat.le_of_ble_eq_true rfl)
  rw [lg_entry_eq]
  generalize (lg_sl ([.ref (gB G 66), .int x1]) ++ List.replicate (5 - (lg_sl ([.ref (gB G 66), .int x1])).length) Slot.unset).toArray = ls at hl ⊢
  have hl : lv_has ls 5 [(0, .ref (gB G 66)), (1, .int x1)] := hl
  have hS : SP G s s.heap [] := va_S.rf
  replace hP : WP G h s.heap := hP
  rw [f_X9_faultsIn] at hf
  refine lv_iconst (v := 0) hx hb dX9_faultsIn_0 (by decide) ?_
  refine lv_istore_n (lv' := [(2, .int 0), (0, .ref (gB G 66)), (1, .int x1)]) hx hb dX9_faultsIn_1 rfl hl (by decide) rfl (fun ls hl => ?_)
  refine lv_iconst (v := 0) hx hb dX9_faultsIn_2 (by decide) ?_
  refine lv_istore_n (lv' := [(3, .int 0), (2, .int 0), (0, .ref (gB G 66)), (1, .int x1)]) hx hb dX9_faultsIn_3 rfl hl (by decide) rfl (fun ls hl => ?_)
  exact w_X9_faultsIn_4 hG C x1 FU 0 0 h _ _ _ (lv_sub hl [2, 3, 1, 0] rfl) hP hS hf
/-! CarriedBackModel.weightOf(I)I -/
abbrev rmX9_weightOf : Room := { frames := 1, cells := 0, slots := 0, locals := 21 }
abbrev vX9_weightOf : List Cond := Cond.code yX9_weightOf cX9_weightOf 4 (some .int) :: GW
def f_X9_weightOf_4 (x1 : Int32) : Nat → Int32 → Int32 → PH → Option (Int32 × PH)
  | 0, _, _, _ => none
  | n + 1, x2, x3, h => if (h.1 66 4) ≤ x3 then (some (x2, h)) else (bO (f_X9_has x1 x3) (fun r15 => if r15 = 0 then (lt' ((x2 + 0)) (fun x2_32 => (f_X9_weightOf_4 x1 n) x2_32 (x3 + 1) h)) else (bO (ag h 70 10 x3) (fun v26 => lt' ((x2 + v26)) (fun x2_32 => (f_X9_weightOf_4 x1 n) x2_32 (x3 + 1) h)))))
set_option maxHeartbeats 4000000 in
set_option maxRecDepth 100000 in
theorem w_X9_weightOf_4 {l : Launch} {G : GC} (hG : GOK G) {rr : Int32} {hh : PH} {p : Program} {e : Env} {s : State} {m : MethodId} {args : Array Value} {below : List Frame} {meth : Method} {c : Code} (C : MC l G p s m args meth c RX9 cX9_weightOf 4 (some .int)) (x1 : Int32) : ∀ (n : Nat) (x2 : Int32) (x3 : Int32) (h : PH) (H : Heap) (locs : List Loc) (ls : Array Slot), lv_has ls 4 [(0, .ref (gB G 66)), (1, .int x1), (2, .int x2), (3, .int x3)] → WP G h H → SP G s H locs → f_X9_weightOf_4 x1 n x2 x3 h = some (rr, hh) → W p l e rmX9_weightOf s m args below meth c H locs 0 0 (MQ below (QI G rr hh) args s 0 0 (gA G)) (F0 m 4 ls []) := by
  obtain ⟨hx, hb, hr, hlocks, hml, hown, hts, hK⟩ := id C
  intro n
  induction n with
  | zero => intro x2 x3 h H locs ls hl hP hS hf; rw [f_X9_weightOf_4] at hf; cases hf
  | succ n ih =>
    intro x2 x3 h H locs ls hl hP hS hf
    rw [f_X9_weightOf_4] at hf
    refine lv_iload_n hx hb dX9_weightOf_4 rfl (lv_at hl 3 rfl) ?_
    refine lv_aload_n hx hb dX9_weightOf_5 rfl (lv_at hl 0 rfl) ?_
    refine r_get (a := 66) (v := .int (h.1 66 4)) (C := RX9) (T := TX9) (N := 55) hx hb hts hinX9 hown hK hP (ltX9 rfl) (ceX9 rfl) rfl 4 (by decide) wd1039 rfl dX9_weightOf_6 ?_
    refine lv_icmp_ge (tgt := 39) hx hb dX9_weightOf_9 (by decide) (fun c9 => ?_) (fun c9 => ?_)
    · replace hf := if_t c9 hf
      refine lv_iload_n hx hb dX9_weightOf_39 rfl (lv_at hl 2 rfl) ?_
      exact r_iret hx hb hr hlocks hP hS (re2 (Option.some.inj hf)) dX9_weightOf_40
    · replace hf := if_f c9 hf
      refine lv_iload_n hx hb dX9_weightOf_12 rfl (lv_at hl 2 rfl) ?_
      refine lv_iload_n hx hb dX9_weightOf_13 rfl (lv_at hl 1 rfl) ?_
      refine lv_iload_n hx hb dX9_weightOf_14 rfl (lv_at hl 3 rfl) ?_
      obtain ⟨r15, er15, hf⟩ := bO_s hf
      refine r_callI (va_runS (As := [.int x1, .int x3]) (rest := [.int x2]) ⟨hx, hb, hml, hown, hts⟩ (k_X9_has l hG (h := h) er15) (va_cwS 2 hts (gS wd1260 wd1261 wd82 wd1262) rfl rfl rfl (by decide +kernel) ⟨Nat.le_of_ble_eq_true rfl, Nat.le_of_ble_eq_true rfl⟩) (r_ps hK hP hS) rfl rfl hl.1 rfl (lv_room (Nat.le_of_ble_eq_true rfl)) dX9_weightOf_15 ⟨Nat.le_of_ble_eq_true rfl, Nat.le_of_ble_eq_true rfl⟩) hS (fun H locs hP hS => ?_)
      refine lv_if_eq (tgt := 30) hx hb dX9_weightOf_18 (by decide) (fun c18 => ?_) (fun c18 => ?_)
      · replace hf := if_t c18 hf
        refine lv_iconst (v := 0) hx hb dX9_weightOf_30 (by decide) ?_
        refine lv_iadd hx hb dX9_weightOf_31 ?_
        refine lv_topi (fun x2_32 ex2_32 => ?_)
        replace hf := lt_at ex2_32 hf
        refine lv_istore_n (lv' := [(2, .int x2_32), (0, .ref (gB G 66)), (1, .int x1), (3, .int x3)]) hx hb dX9_weightOf_32 rfl hl (by decide) rfl (fun ls hl => ?_)
        refine lv_iinc (v := (x3 + 1)) (lv' := [(3, .int (x3 + 1)), (2, .int x2_32), (0, .ref (gB G 66)), (1, .int x1)]) hx hb dX9_weightOf_33 hl (k := 3) rfl rfl (by decide) rfl (fun ls hl => ?_)
        refine lv_goto (tgt := 4) hx hb dX9_weightOf_36 (by decide) ?_
        exact ih x2_32 (x3 + 1) h _ _ _ (lv_sub hl [2, 3, 1, 0] rfl) hP hS hf
      · replace hf := if_f c18 hf
        refine lv_aload_n hx hb dX9_weightOf_21 rfl (lv_at hl 0 rfl) ?_
        refine r_get (a := 66) (v := .ref (gB G 70)) (C := RX9) (T := TX9) (N := 55) hx hb hts hinX9 hown hK hP (ltX9 rfl) (ceX9 rfl) rfl 5 (by decide) wd1040 rfl dX9_weightOf_22 ?_
        refine lv_iload_n hx hb dX9_weightOf_25 rfl (lv_at hl 3 rfl) ?_
        obtain ⟨v26, ev26, hf⟩ := bO_s hf
        refine r_iald hx hb hK hP (arX9_5 rfl) ev26 dX9_weightOf_26 ?_
        refine lv_goto (tgt := 31) hx hb dX9_weightOf_27 (by decide) ?_
        refine lv_iadd hx hb dX9_weightOf_31 ?_
        refine lv_topi (fun x2_32 ex2_32 => ?_)
        replace hf := lt_at ex2_32 hf
        refine lv_istore_n (lv' := [(2, .int x2_32), (0, .ref (gB G 66)), (1, .int x1), (3, .int x3)]) hx hb dX9_weightOf_32 rfl hl (by decide) rfl (fun ls hl => ?_)
        refine lv_iinc (v := (x3 + 1)) (lv' := [(3, .int (x3 + 1)), (2, .int x2_32), (0, .ref (gB G 66)), (1, .int x1)]) hx hb dX9_weightOf_33 hl (k := 3) rfl rfl (by decide) rfl (fun ls hl => ?_)
        refine lv_goto (tgt := 4) hx hb dX9_weightOf_36 (by decide) ?_
        exact ih x2_32 (x3 + 1) h _ _ _ (lv_sub hl [2, 3, 1, 0] rfl) hP hS hf
def f_X9_weightOf (x1 : Int32) (h : PH) : Option (Int32 × PH) := f_X9_weightOf_4 x1 FU 0 0 h
set_option maxHeartbeats 4000000 in
set_option maxRecDepth 100000 in
theorem k_X9_weightOf (l : Launch) {G : GC} (hG : GOK G) {x1 : Int32} {rr : Int32} {h hh : PH} (hf : f_X9_weightOf x1 h = some (rr, hh)) : CI l yX9_weightOf vX9_weightOf rmX9_weightOf G [.ref (gB G 66), .int x1] h rr hh := by
  refine Met.ofW (cc := cX9_weightOf) (maxL := 4) (ret := (some .int)) (by decide +kernel) rfl ?_
  intro p e s m args below meth c s₁ B hml hv
  obtain ⟨rfl, hP, hK⟩ := hv
  have C : MC l G p s m _ meth c RX9 cX9_weightOf 4 (some .int) := ⟨B.exec, B.bytes, B.returns, B.notSynchronized, hml, findClass_of_methodNamed B.named, fun w hw => atoms_spec (ws := vX9_weightOf) B.pre w (List.mem_cons_of_mem _ hw), hK⟩
  obtain ⟨hx, hb, hr, hlocks, -, hown, hts, -⟩ := id C
  have hl := lv_entry ([.ref (gB G 66), .int x1]) (n := 4) (Nat.le_of_ble_eq_true rfl)
  rw [lg_entry_eq]
  generalize (lg_sl ([.ref (gB G 66), .int x1]) ++ List.replicate (4 - (lg_sl ([.ref (gB G 66), .int x1])).length) Slot.unset).toArray = ls at hl ⊢
  have hl : lv_has ls 4 [(0, .ref (gB G 66)), (1, .int x1)] := hl
  have hS : SP G s s.heap [] := va_S.rf
  replace hP : WP G h s.heap := hP
  rw [f_X9_weightOf] at hf
  refine lv_iconst (v := 0) hx hb dX9_weightOf_0 (by decide) ?_
  refine lv_istore_n (lv' := [(2, .int 0), (0, .ref (gB G 66)), (1, .int x1)]) hx hb dX9_weightOf_1 rfl hl (by decide) rfl (fun ls hl => ?_)
  refine lv_iconst (v := 0) hx hb dX9_weightOf_2 (by decide) ?_
  refine lv_istore_n (lv' := [(3, .int 0), (2, .int 0), (0, .ref (gB G 66)), (1, .int x1)]) hx hb dX9_weightOf_3 rfl hl (by decide) rfl (fun ls hl => ?_)
  exact w_X9_weightOf_4 hG C x1 FU 0 0 h _ _ _ (lv_sub hl [2, 3, 1, 0] rfl) hP hS hf
/-! CarriedBackModel.riskOf(I)I -/
abbrev rmX9_riskOf : Room := { frames := 1, cells := 0, slots := 0, locals := 21 }
abbrev vX9_riskOf : List Cond := Cond.code yX9_riskOf cX9_riskOf 4 (some .int) :: GW
def f_X9_riskOf_4 (x1 : Int32) : Nat → Int32 → Int32 → PH → Option (Int32 × PH)
  | 0, _, _, _ => none
  | n + 1, x2, x3, h => if (h.1 66 0) ≤ x3 then (some (x2, h)) else (bO (f_X9_has x1 x3) (fun r15 => if r15 = 0 then (lt' ((x2 + 0)) (fun x2_32 => (f_X9_riskOf_4 x1 n) x2_32 (x3 + 1) h)) else (bO (ag h 69 24 x3) (fun v26 => lt' ((x2 + v26)) (fun x2_32 => (f_X9_riskOf_4 x1 n) x2_32 (x3 + 1) h)))))
set_option maxHeartbeats 4000000 in
set_option maxRecDepth 100000 in
theorem w_X9_riskOf_4 {l : Launch} {G : GC} (hG : GOK G) {rr : Int32} {hh : PH} {p : Program} {e : Env} {s : State} {m : MethodId} {args : Array Value} {below : List Frame} {meth : Method} {c : Code} (C : MC l G p s m args meth c RX9 cX9_riskOf 4 (some .int)) (x1 : Int32) : ∀ (n : Nat) (x2 : Int32) (x3 : Int32) (h : PH) (H : Heap) (locs : List Loc) (ls : Array Slot), lv_has ls 4 [(0, .ref (gB G 66)), (1, .int x1), (2, .int x2), (3, .int x3)] → WP G h H → SP G s H locs → f_X9_riskOf_4 x1 n x2 x3 h = some (rr, hh) → W p l e rmX9_riskOf s m args below meth c H locs 0 0 (MQ below (QI G rr hh) args s 0 0 (gA G)) (F0 m 4 ls []) := by
  obtain ⟨hx, hb, hr, hlocks, hml, hown, hts, hK⟩ := id C
  intro n
  induction n with
  | zero => intro x2 x3 h H locs ls hl hP hS hf; rw [f_X9_riskOf_4] at hf; cases hf
  | succ n ih =>
    intro x2 x3 h H locs ls hl hP hS hf
    rw [f_X9_riskOf_4] at hf
    refine lv_iload_n hx hb dX9_riskOf_4 rfl (lv_at hl 3 rfl) ?_
    refine lv_aload_n hx hb dX9_riskOf_5 rfl (lv_at hl 0 rfl) ?_
    refine r_get (a := 66) (v := .int (h.1 66 0)) (C := RX9) (T := TX9) (N := 55) hx hb hts hinX9 hown hK hP (ltX9 rfl) (ceX9 rfl) rfl 0 (by decide) wd1035 rfl dX9_riskOf_6 ?_
    refine lv_icmp_ge (tgt := 39) hx hb dX9_riskOf_9 (by decide) (fun c9 => ?_) (fun c9 => ?_)
    · replace hf := if_t c9 hf
      refine lv_iload_n hx hb dX9_riskOf_39 rfl (lv_at hl 2 rfl) ?_
      exact r_iret hx hb hr hlocks hP hS (re2 (Option.some.inj hf)) dX9_riskOf_40
    · replace hf := if_f c9 hf
      refine lv_iload_n hx hb dX9_riskOf_12 rfl (lv_at hl 2 rfl) ?_
      refine lv_iload_n hx hb dX9_riskOf_13 rfl (lv_at hl 1 rfl) ?_
      refine lv_iload_n hx hb dX9_riskOf_14 rfl (lv_at hl 3 rfl) ?_
      obtain ⟨r15, er15, hf⟩ := bO_s hf
      refine r_callI (va_runS (As := [.int x1, .int x3]) (rest := [.int x2]) ⟨hx, hb, hml, hown, hts⟩ (k_X9_has l hG (h := h) er15) (va_cwS 2 hts (gS wd1260 wd1261 wd82 wd1262) rfl rfl rfl (by decide +kernel) ⟨Nat.le_of_ble_eq_true rfl, Nat.le_of_ble_eq_true rfl⟩) (r_ps hK hP hS) rfl rfl hl.1 rfl (lv_room (Nat.le_of_ble_eq_true rfl)) dX9_riskOf_15 ⟨Nat.le_of_ble_eq_true rfl, Nat.le_of_ble_eq_true rfl⟩) hS (fun H locs hP hS => ?_)
      refine lv_if_eq (tgt := 30) hx hb dX9_riskOf_18 (by decide) (fun c18 => ?_) (fun c18 => ?_)
      · replace hf := if_t c18 hf
        refine lv_iconst (v := 0) hx hb dX9_riskOf_30 (by decide) ?_
        refine lv_iadd hx hb dX9_riskOf_31 ?_
        refine lv_topi (fun x2_32 ex2_32 => ?_)
        replace hf := lt_at ex2_32 hf
        refine lv_istore_n (lv' := [(2, .int x2_32), (0, .ref (gB G 66)), (1, .int x1), (3, .int x3)]) hx hb dX9_riskOf_32 rfl hl (by decide) rfl (fun ls hl => ?_)
        refine lv_iinc (v := (x3 + 1)) (lv' := [(3, .int (x3 + 1)), (2, .int x2_32), (0, .ref (gB G 66)), (1, .int x1)]) hx hb dX9_riskOf_33 hl (k := 3) rfl rfl (by decide) rfl (fun ls hl => ?_)
        refine lv_goto (tgt := 4) hx hb dX9_riskOf_36 (by decide) ?_
        exact ih x2_32 (x3 + 1) h _ _ _ (lv_sub hl [2, 3, 1, 0] rfl) hP hS hf
      · replace hf := if_f c18 hf
        refine lv_aload_n hx hb dX9_riskOf_21 rfl (lv_at hl 0 rfl) ?_
        refine r_get (a := 66) (v := .ref (gB G 69)) (C := RX9) (T := TX9) (N := 55) hx hb hts hinX9 hown hK hP (ltX9 rfl) (ceX9 rfl) rfl 3 (by decide) wd1038 rfl dX9_riskOf_22 ?_
        refine lv_iload_n hx hb dX9_riskOf_25 rfl (lv_at hl 3 rfl) ?_
        obtain ⟨v26, ev26, hf⟩ := bO_s hf
        refine r_iald hx hb hK hP (arX9_3 rfl) ev26 dX9_riskOf_26 ?_
        refine lv_goto (tgt := 31) hx hb dX9_riskOf_27 (by decide) ?_
        refine lv_iadd hx hb dX9_riskOf_31 ?_
        refine lv_topi (fun x2_32 ex2_32 => ?_)
        replace hf := lt_at ex2_32 hf
        refine lv_istore_n (lv' := [(2, .int x2_32), (0, .ref (gB G 66)), (1, .int x1), (3, .int x3)]) hx hb dX9_riskOf_32 rfl hl (by decide) rfl (fun ls hl => ?_)
        refine lv_iinc (v := (x3 + 1)) (lv' := [(3, .int (x3 + 1)), (2, .int x2_32), (0, .ref (gB G 66)), (1, .int x1)]) hx hb dX9_riskOf_33 hl (k := 3) rfl rfl (by decide) rfl (fun ls hl => ?_)
        refine lv_goto (tgt := 4) hx hb dX9_riskOf_36 (by decide) ?_
        exact ih x2_32 (x3 + 1) h _ _ _ (lv_sub hl [2, 3, 1, 0] rfl) hP hS hf
def f_X9_riskOf (x1 : Int32) (h : PH) : Option (Int32 × PH) := f_X9_riskOf_4 x1 FU 0 0 h
set_option maxHeartbeats 4000000 in
set_option maxRecDepth 100000 in
theorem k_X9_riskOf (l : Launch) {G : GC} (hG : GOK G) {x1 : Int32} {rr : Int32} {h hh : PH} (hf : f_X9_riskOf x1 h = some (rr, hh)) : CI l yX9_riskOf vX9_riskOf rmX9_riskOf G [.ref (gB G 66), .int x1] h rr hh := by
  refine Met.ofW (cc := cX9_riskOf) (maxL := 4) (ret := (some .int)) (by decide +kernel) rfl ?_
  intro p e s m args below meth c s₁ B hml hv
  obtain ⟨rfl, hP, hK⟩ := hv
  have C : MC l G p s m _ meth c RX9 cX9_riskOf 4 (some .int) := ⟨B.exec, B.bytes, B.returns, B.notSynchronized, hml, findClass_of_methodNamed B.named, fun w hw => atoms_spec (ws := vX9_riskOf) B.pre w (List.mem_cons_of_mem _ hw), hK⟩
  obtain ⟨hx, hb, hr, hlocks, -, hown, hts, -⟩ := id C
  have hl := lv_entry ([.ref (gB G 66), .int x1]) (n := 4) (Nat.le_of_ble_eq_true rfl)
  rw [lg_entry_eq]
  generalize (lg_sl ([.ref (gB G 66), .int x1]) ++ List.replicate (4 - (lg_sl ([.ref (gB G 66), .int x1])).length) Slot.unset).toArray = ls at hl ⊢
  have hl : lv_has ls 4 [(0, .ref (gB G 66)), (1, .int x1)] := hl
  have hS : SP G s s.heap [] := va_S.rf
  replace hP : WP G h s.heap := hP
  rw [f_X9_riskOf] at hf
  refine lv_iconst (v := 0) hx hb dX9_riskOf_0 (by decide) ?_
  refine lv_istore_n (lv' := [(2, .int 0), (0, .ref (gB G 66)), (1, .int x1)]) hx hb dX9_riskOf_1 rfl hl (by decide) rfl (fun ls hl => ?_)
  refine lv_iconst (v := 0) hx hb dX9_riskOf_2 (by decide) ?_
  refine lv_istore_n (lv' := [(3, .int 0), (2, .int 0), (0, .ref (gB G 66)), (1, .int x1)]) hx hb dX9_riskOf_3 rfl hl (by decide) rfl (fun ls hl => ?_)
  exact w_X9_riskOf_4 hG C x1 FU 0 0 h _ _ _ (lv_sub hl [2, 3, 1, 0] rfl) hP hS hf
/-! CarriedBackModel.cut(I)I -/
abbrev rmX9_cut : Room := { frames := 1, cells := 0, slots := 0, locals := 25 }
abbrev vX9_cut : List Cond := Cond.code yX9_cut cX9_cut 3 (some .int) :: GW
def f_X9_cut_66 (x1 : Int32) : Nat → Int32 → PH → Option (Int32 × PH)
  | 0, _, _ => none
  | n + 1, x2, h => if (16 : Int32) ≤ x2 then (lt' (hU h 66 8 ((h.1 66 8) + 1)) (fun h105 => some (((h105.1 66 8) - 1), h105))) else (bP (f_X9_aheadOf x1 x2 h) (fun r88 h88 => bO (asg h88 75 64 ((16 * (h.1 66 8)) + x2) r88) (fun h91 => (f_X9_cut_66 x1 n) (x2 + 1) h91)))
set_option maxHeartbeats 4000000 in
set_option maxRecDepth 100000 in
theorem w_X9_cut_66 {l : Launch} {G : GC} (hG : GOK G) {rr : Int32} {hh : PH} {p : Program} {e : Env} {s : State} {m : MethodId} {args : Array Value} {below : List Frame} {meth : Method} {c : Code} (C : MC l G p s m args meth c RX9 cX9_cut 3 (some .int)) (x1 : Int32) : ∀ (n : Nat) (x2 : Int32) (h : PH) (H : Heap) (locs : List Loc) (ls : Array Slot), lv_has ls 3 [(0, .ref (gB G 66)), (1, .int x1), (2, .int x2)] → WP G h H → SP G s H locs → f_X9_cut_66 x1 n x2 h = some (rr, hh) → W p l e rmX9_cut s m args below meth c H locs 0 0 (MQ below (QI G rr hh) args s 0 0 (gA G)) (F0 m 66 ls []) := by
  obtain ⟨hx, hb, hr, hlocks, hml, hown, hts, hK⟩ := id C
  intro n
  induction n with
  | zero => intro x2 h H locs ls hl hP hS hf; rw [f_X9_cut_66] at hf; cases hf
  | succ n ih =>
    intro x2 h H locs ls hl hP hS hf
    rw [f_X9_cut_66] at hf
    refine lv_iload_n hx hb dX9_cut_66 rfl (lv_at hl 2 rfl) ?_
    refine lv_bipush (v := 16) hx hb dX9_cut_67 (by decide) ?_
    refine lv_icmp_ge (tgt := 98) hx hb dX9_cut_69 (by decide) (fun c69 => ?_) (fun c69 => ?_)
    · replace hf := if_t c69 hf
      refine lv_aload_n hx hb dX9_cut_98 rfl (lv_at hl 0 rfl) ?_
      refine lv_dup hx hb dX9_cut_99 rfl ?_
      refine r_get (a := 66) (v := .int (h.1 66 8)) (C := RX9) (T := TX9) (N := 55) hx hb hts hinX9 hown hK hP (ltX9 rfl) (ceX9 rfl) rfl 8 (by decide) wd1043 rfl dX9_cut_100 ?_
      refine lv_iconst (v := 1) hx hb dX9_cut_103 (by decide) ?_
      refine lv_iadd hx hb dX9_cut_104 ?_
      obtain ⟨h105, eh105⟩ : ∃ y, y = hU h 66 8 ((h.1 66 8) + 1) := ⟨_, rfl⟩
      replace hf := lt_at eh105 hf
      refine r_put (a := 66) (v := .int ((h.1 66 8) + 1)) (ty := .int) (h' := h105) (C := RX9) (T := TX9) (N := 55) hG hx hb hts hinX9 tyX9 tyX9_ok nmX9 hown hK hP hS (ltX9 rfl) (ceX9 rfl) rfl 8 (by decide) wd1043 rfl (by decide +kernel) rfl rfl (Nat.le_of_ble_eq_true rfl) (by rw [eh105]; exact fun j hj => cE_U hj) (by rw [eh105]; exact puX9_8 rfl _) dX9_cut_105 (fun H locs hP hS => ?_)
      refine lv_aload_n hx hb dX9_cut_108 rfl (lv_at hl 0 rfl) ?_
      refine r_get (a := 66) (v := .int (h105.1 66 8)) (C := RX9) (T := TX9) (N := 55) hx hb hts hinX9 hown hK hP (ltX9 rfl) (ceX9 rfl) rfl 8 (by decide) wd1043 rfl dX9_cut_109 ?_
      refine lv_iconst (v := 1) hx hb dX9_cut_112 (by decide) ?_
      refine lv_isub hx hb dX9_cut_113 ?_
      exact r_iret hx hb hr hlocks hP hS (re2 (Option.some.inj hf)) dX9_cut_114
    · replace hf := if_f c69 hf
      refine lv_aload_n hx hb dX9_cut_72 rfl (lv_at hl 0 rfl) ?_
      refine r_get (a := 66) (v := .ref (gB G 75)) (C := RX9) (T := TX9) (N := 55) hx hb hts hinX9 hown hK hP (ltX9 rfl) (ceX9 rfl) rfl 11 (by decide) wd1046 rfl dX9_cut_73 ?_
      refine lv_bipush (v := 16) hx hb dX9_cut_76 (by decide) ?_
      refine lv_aload_n hx hb dX9_cut_78 rfl (lv_at hl 0 rfl) ?_
      refine r_get (a := 66) (v := .int (h.1 66 8)) (C := RX9) (T := TX9) (N := 55) hx hb hts hinX9 hown hK hP (ltX9 rfl) (ceX9 rfl) rfl 8 (by decide) wd1043 rfl dX9_cut_79 ?_
      refine lv_imul hx hb dX9_cut_82 ?_
      refine lv_iload_n hx hb dX9_cut_83 rfl (lv_at hl 2 rfl) ?_
      refine lv_iadd hx hb dX9_cut_84 ?_
      refine lv_aload_n hx hb dX9_cut_85 rfl (lv_at hl 0 rfl) ?_
      refine lv_iload_n hx hb dX9_cut_86 rfl (lv_at hl 1 rfl) ?_
      refine lv_iload_n hx hb dX9_cut_87 rfl (lv_at hl 2 rfl) ?_
      obtain ⟨r88, h88, er88, hf⟩ := bP_s hf
      refine r_callI (va_runV (As := [.int x1, .int x2]) (rest := [.int ((16 * (h.1 66 8)) + x2), .ref (gB G 75)]) ⟨hx, hb, hml, hown, hts⟩ (k_X9_aheadOf l hG er88) (cwV 2 hts (gV wd1323 wd1325 wd45 wd82 wd1326) rfl rfl rfl (by decide +kernel) ⟨Nat.le_of_ble_eq_true rfl, Nat.le_of_ble_eq_true rfl⟩) (r_pv hK hP hS (ltX9 rfl) (ceX9 rfl) rfl) rfl rfl hl.1 rfl (lv_room (Nat.le_of_ble_eq_true rfl)) dX9_cut_88 ⟨Nat.le_of_ble_eq_true rfl, Nat.le_of_ble_eq_true rfl⟩) hS (fun H locs hP hS => ?_)
      obtain ⟨h91, eh91, hf⟩ := bO_s hf
      refine r_iast hG hx hb hK hP hS (arX9_11 rfl) eh91 dX9_cut_91 (fun H locs hP hS => ?_)
      refine lv_iinc (v := (x2 + 1)) (lv' := [(2, .int (x2 + 1)), (0, .ref (gB G 66)), (1, .int x1)]) hx hb dX9_cut_92 hl (k := 2) rfl rfl (by decide) rfl (fun ls hl => ?_)
      refine lv_goto (tgt := 66) hx hb dX9_cut_95 (by decide) ?_
      exact ih (x2 + 1) h91 _ _ _ (lv_sub hl [1, 2, 0] rfl) hP hS hf
def f_X9_cut (x1 : Int32) (h : PH) : Option (Int32 × PH) := bO (f_X9_in (x1 : Int32).toInt64 0 ((h.1 66 0) : Int32).toInt64) (fun r8 => if r8 = 0 then (some ((-1002), h)) else (if (h.1 66 8) = 4 then (some ((-1004), h)) else (bO (asg h 73 4 (h.1 66 8) x1) (fun h39 => bO (asg h39 74 4 (h39.1 66 8) ((1 <<< (x1 &&& 31)) - 1)) (fun h53 => bO (asg h53 76 4 (h53.1 66 8) 0) (fun h63 => f_X9_cut_66 x1 FU 0 h63))))))
set_option maxHeartbeats 4000000 in
set_option maxRecDepth 100000 in
theorem k_X9_cut (l : Launch) {G : GC} (hG : GOK G) {x1 : Int32} {rr : Int32} {h hh : PH} (hf : f_X9_cut x1 h = some (rr, hh)) : CI l yX9_cut vX9_cut rmX9_cut G [.ref (gB G 66), .int x1] h rr hh := by
  refine Met.ofW (cc := cX9_cut) (maxL := 3) (ret := (some .int)) (by decide +kernel) rfl ?_
  intro p e s m args below meth c s₁ B hml hv
  obtain ⟨rfl, hP, hK⟩ := hv
  have C : MC l G p s m _ meth c RX9 cX9_cut 3 (some .int) := ⟨B.exec, B.bytes, B.returns, B.notSynchronized, hml, findClass_of_methodNamed B.named, fun w hw => atoms_spec (ws := vX9_cut) B.pre w (List.mem_cons_of_mem _ hw), hK⟩
  obtain ⟨hx, hb, hr, hlocks, -, hown, hts, -⟩ := id C
  have hl := lv_entry ([.ref (gB G 66), .int x1]) (n := 3) (Nat.le_of_ble_eq_true rfl)
  rw [lg_entry_eq]
  generalize (lg_sl ([.ref (gB G 66), .int x1]) ++ List.replicate (3 - (lg_sl ([.ref (gB G 66), .int x1])).length) Slot.unset).toArray = ls at hl ⊢
  have hl : lv_has ls 3 [(0, .ref (gB G 66)), (1, .int x1)] := hl
  have hS : SP G s s.heap [] := va_S.rf
  replace hP : WP G h s.heap := hP
  rw [f_X9_cut] at hf
  refine lv_iload_n hx hb dX9_cut_0 rfl (lv_at hl 1 rfl) ?_
  refine lv_i2l hx hb dX9_cut_1 rfl ?_
  refine lv_lconst (v := 0) hx hb dX9_cut_2 (by decide) ?_
  refine lv_aload_n hx hb dX9_cut_3 rfl (lv_at hl 0 rfl) ?_
  refine r_get (a := 66) (v := .int (h.1 66 0)) (C := RX9) (T := TX9) (N := 55) hx hb hts hinX9 hown hK hP (ltX9 rfl) (ceX9 rfl) rfl 0 (by decide) wd1035 rfl dX9_cut_4 ?_
  refine lv_i2l hx hb dX9_cut_7 rfl ?_
  obtain ⟨r8, er8, hf⟩ := bO_s hf
  refine r_callI (va_runS (As := [.long (x1 : Int32).toInt64, .long 0, .long ((h.1 66 0) : Int32).toInt64]) (rest := []) ⟨hx, hb, hml, hown, hts⟩ (k_X9_in l hG (h := h) er8) (va_cwS 3 hts (gS wd1206 wd1207 wd82 wd1208) rfl rfl rfl (by decide +kernel) ⟨Nat.le_of_ble_eq_true rfl, Nat.le_of_ble_eq_true rfl⟩) (r_ps hK hP hS) rfl rfl hl.1 rfl (lv_room (Nat.le_of_ble_eq_true rfl)) dX9_cut_8 ⟨Nat.le_of_ble_eq_true rfl, Nat.le_of_ble_eq_true rfl⟩) hS (fun H locs hP hS => ?_)
  refine lv_if_ne (tgt := 18) hx hb dX9_cut_11 (by decide) (fun c11 => ?_) (fun c11 => ?_)
  · replace hf := if_f c11 hf
    refine lv_aload_n hx hb dX9_cut_18 rfl (lv_at hl 0 rfl) ?_
    refine r_get (a := 66) (v := .int (h.1 66 8)) (C := RX9) (T := TX9) (N := 55) hx hb hts hinX9 hown hK hP (ltX9 rfl) (ceX9 rfl) rfl 8 (by decide) wd1043 rfl dX9_cut_19 ?_
    refine lv_iconst (v := 4) hx hb dX9_cut_22 (by decide) ?_
    refine lv_icmp_ne (tgt := 30) hx hb dX9_cut_23 (by decide) (fun c23 => ?_) (fun c23 => ?_)
    · replace hf := if_f c23 hf
      refine lv_aload_n hx hb dX9_cut_30 rfl (lv_at hl 0 rfl) ?_
      refine r_get (a := 66) (v := .ref (gB G 73)) (C := RX9) (T := TX9) (N := 55) hx hb hts hinX9 hown hK hP (ltX9 rfl) (ceX9 rfl) rfl 9 (by decide) wd1044 rfl dX9_cut_31 ?_
      refine lv_aload_n hx hb dX9_cut_34 rfl (lv_at hl 0 rfl) ?_
      refine r_get (a := 66) (v := .int (h.1 66 8)) (C := RX9) (T := TX9) (N := 55) hx hb hts hinX9 hown hK hP (ltX9 rfl) (ceX9 rfl) rfl 8 (by decide) wd1043 rfl dX9_cut_35 ?_
      refine lv_iload_n hx hb dX9_cut_38 rfl (lv_at hl 1 rfl) ?_
      obtain ⟨h39, eh39, hf⟩ := bO_s hf
      refine r_iast hG hx hb hK hP hS (arX9_9 rfl) eh39 dX9_cut_39 (fun H locs hP hS => ?_)
      refine lv_aload_n hx hb dX9_cut_40 rfl (lv_at hl 0 rfl) ?_
      refine r_get (a := 66) (v := .ref (gB G 74)) (C := RX9) (T := TX9) (N := 55) hx hb hts hinX9 hown hK hP (ltX9 rfl) (ceX9 rfl) rfl 10 (by decide) wd1045 rfl dX9_cut_41 ?_
      refine lv_aload_n hx hb dX9_cut_44 rfl (lv_at hl 0 rfl) ?_
      refine r_get (a := 66) (v := .int (h39.1 66 8)) (C := RX9) (T := TX9) (N := 55) hx hb hts hinX9 hown hK hP (ltX9 rfl) (ceX9 rfl) rfl 8 (by decide) wd1043 rfl dX9_cut_45 ?_
      refine lv_iconst (v := 1) hx hb dX9_cut_48 (by decide) ?_
      refine lv_iload_n hx hb dX9_cut_49 rfl (lv_at hl 1 rfl) ?_
      refine lv_ishl hx hb dX9_cut_50 ?_
      refine lv_iconst (v := 1) hx hb dX9_cut_51 (by decide) ?_
      refine lv_isub hx hb dX9_cut_52 ?_
      obtain ⟨h53, eh53, hf⟩ := bO_s hf
      refine r_iast hG hx hb hK hP hS (arX9_10 rfl) eh53 dX9_cut_53 (fun H locs hP hS => ?_)
      refine lv_aload_n hx hb dX9_cut_54 rfl (lv_at hl 0 rfl) ?_
      refine r_get (a := 66) (v := .ref (gB G 76)) (C := RX9) (T := TX9) (N := 55) hx hb hts hinX9 hown hK hP (ltX9 rfl) (ceX9 rfl) rfl 12 (by decide) wd1047 rfl dX9_cut_55 ?_
      refine lv_aload_n hx hb dX9_cut_58 rfl (lv_at hl 0 rfl) ?_
      refine r_get (a := 66) (v := .int (h53.1 66 8)) (C := RX9) (T := TX9) (N := 55) hx hb hts hinX9 hown hK hP (ltX9 rfl) (ceX9 rfl) rfl 8 (by decide) wd1043 rfl dX9_cut_59 ?_
      refine lv_iconst (v := 0) hx hb dX9_cut_62 (by decide) ?_
      obtain ⟨h63, eh63, hf⟩ := bO_s hf
      refine r_iast hG hx hb hK hP hS (arX9_12 rfl) eh63 dX9_cut_63 (fun H locs hP hS => ?_)
      refine lv_iconst (v := 0) hx hb dX9_cut_64 (by decide) ?_
      refine lv_istore_n (lv' := [(2, .int 0), (0, .ref (gB G 66)), (1, .int x1)]) hx hb dX9_cut_65 rfl hl (by decide) rfl (fun ls hl => ?_)
      exact w_X9_cut_66 hG C x1 FU 0 h63 _ _ _ (lv_sub hl [1, 2, 0] rfl) hP hS hf
    · replace hf := if_t c23 hf
      refine lv_sipush (v := (-1004)) hx hb dX9_cut_26 (by decide) ?_
      exact r_iret hx hb hr hlocks hP hS (re2 (Option.some.inj hf)) dX9_cut_29
  · replace hf := if_t c11 hf
    refine lv_sipush (v := (-1002)) hx hb dX9_cut_14 (by decide) ?_
    exact r_iret hx hb hr hlocks hP hS (re2 (Option.some.inj hf)) dX9_cut_17
/-! CarriedBackModel.line(II)I -/
abbrev rmX9_line : Room := { frames := 2, cells := 0, slots := 0, locals := 46 }
abbrev vX9_line : List Cond := Cond.code yX9_line cX9_line 3 (some .int) :: GW
def f_X9_line (x1 : Int32) (x2 : Int32) (h : PH) : Option (Int32 × PH) := bP (f_X9_isLine x1 h) (fun r2 h2 => if r2 = 0 then (some ((-1001), h2)) else (if x2 = 0 then (bO (ag h2 73 4 x1) (fun v53 => some (v53, h2))) else (if x2 = 1 then (bO (ag h2 74 4 x1) (fun v60 => some (v60, h2))) else (if x2 = 2 then (bO (ag h2 74 4 x1) (fun v68 => bP (f_X9_faultsIn v68 h2) (fun r69 h69 => some (r69, h69)))) else (if x2 = 3 then (bO (ag h2 74 4 x1) (fun v79 => bP (f_X9_riskOf v79 h2) (fun r80 h80 => some (r80, h80)))) else (if x2 = 4 then (bO (ag h2 76 4 x1) (fun v89 => some (v89, h2))) else (some ((-1002), h2))))))))
set_option maxHeartbeats 4000000 in
set_option maxRecDepth 100000 in
theorem k_X9_line (l : Launch) {G : GC} (hG : GOK G) {x1 : Int32} {x2 : Int32} {rr : Int32} {h hh : PH} (hf : f_X9_line x1 x2 h = some (rr, hh)) : CI l yX9_line vX9_line rmX9_line G [.ref (gB G 66), .int x1, .int x2] h rr hh := by
  refine Met.ofW (cc := cX9_line) (maxL := 3) (ret := (some .int)) (by decide +kernel) rfl ?_
  intro p e s m args below meth c s₁ B hml hv
  obtain ⟨rfl, hP, hK⟩ := hv
  have C : MC l G p s m _ meth c RX9 cX9_line 3 (some .int) := ⟨B.exec, B.bytes, B.returns, B.notSynchronized, hml, findClass_of_methodNamed B.named, fun w hw => atoms_spec (ws := vX9_line) B.pre w (List.mem_cons_of_mem _ hw), hK⟩
  obtain ⟨hx, hb, hr, hlocks, -, hown, hts, -⟩ := id C
  have hl := lv_entry ([.ref (gB G 66), .int x1, .int x2]) (n := 3) (Nat.le_of_ble_eq_true rfl)
  rw [lg_entry_eq]
  generalize (lg_sl ([.ref (gB G 66), .int x1, .int x2]) ++ List.replicate (3 - (lg_sl ([.ref (gB G 66), .int x1, .int x2])).length) Slot.unset).toArray = ls at hl ⊢
  have hl : lv_has ls 3 [(0, .ref (gB G 66)), (1, .int x1), (2, .int x2)] := hl
  have hS : SP G s s.heap [] := va_S.rf
  replace hP : WP G h s.heap := hP
  rw [f_X9_line] at hf
  refine lv_aload_n hx hb dX9_line_0 rfl (lv_at hl 0 rfl) ?_
  refine lv_iload_n hx hb dX9_line_1 rfl (lv_at hl 1 rfl) ?_
  obtain ⟨r2, h2, er2, hf⟩ := bP_s hf
  refine r_callI (va_runV (As := [.int x1]) (rest := []) ⟨hx, hb, hml, hown, hts⟩ (k_X9_isLine l hG er2) (cwV 1 hts (gV wd1347 wd1349 wd47 wd82 wd1350) rfl rfl rfl (by decide +kernel) ⟨Nat.le_of_ble_eq_true rfl, Nat.le_of_ble_eq_true rfl⟩) (r_pv hK hP hS (ltX9 rfl) (ceX9 rfl) rfl) rfl rfl hl.1 rfl (lv_room (Nat.le_of_ble_eq_true rfl)) dX9_line_2 ⟨Nat.le_of_ble_eq_true rfl, Nat.le_of_ble_eq_true rfl⟩) hS (fun H locs hP hS => ?_)
  refine lv_if_ne (tgt := 12) hx hb dX9_line_5 (by decide) (fun c5 => ?_) (fun c5 => ?_)
  · replace hf := if_f c5 hf
    refine lv_iload_n hx hb dX9_line_12 rfl (lv_at hl 2 rfl) ?_
    by_cases s13_0 : x2 = 0
    · replace hf := if_t s13_0 hf
      refine lv_tableIn (tgt := 48) hx hb dX9_line_13 (by rw [s13_0]; decide) (by rw [s13_0]; decide) (by rw [s13_0]; rfl) (by decide) ?_
      refine lv_aload_n hx hb dX9_line_48 rfl (lv_at hl 0 rfl) ?_
      refine r_get (a := 66) (v := .ref (gB G 73)) (C := RX9) (T := TX9) (N := 55) hx hb hts hinX9 hown hK hP (ltX9 rfl) (ceX9 rfl) rfl 9 (by decide) wd1044 rfl dX9_line_49 ?_
      refine lv_iload_n hx hb dX9_line_52 rfl (lv_at hl 1 rfl) ?_
      obtain ⟨v53, ev53, hf⟩ := bO_s hf
      refine r_iald hx hb hK hP (arX9_9 rfl) ev53 dX9_line_53 ?_
      exact r_iret hx hb hr hlocks hP hS (re2 (Option.some.inj hf)) dX9_line_54
    replace hf := if_f s13_0 hf
    by_cases s13_1 : x2 = 1
    · replace hf := if_t s13_1 hf
      refine lv_tableIn (tgt := 55) hx hb dX9_line_13 (by rw [s13_1]; decide) (by rw [s13_1]; decide) (by rw [s13_1]; rfl) (by decide) ?_
      refine lv_aload_n hx hb dX9_line_55 rfl (lv_at hl 0 rfl) ?_
      refine r_get (a := 66) (v := .ref (gB G 74)) (C := RX9) (T := TX9) (N := 55) hx hb hts hinX9 hown hK hP (ltX9 rfl) (ceX9 rfl) rfl 10 (by decide) wd1045 rfl dX9_line_56 ?_
      refine lv_iload_n hx hb dX9_line_59 rfl (lv_at hl 1 rfl) ?_
      obtain ⟨v60, ev60, hf⟩ := bO_s hf
      refine r_iald hx hb hK hP (arX9_10 rfl) ev60 dX9_line_60 ?_
      exact r_iret hx hb hr hlocks hP hS (re2 (Option.some.inj hf)) dX9_line_61
    replace hf := if_f s13_1 hf
    by_cases s13_2 : x2 = 2
    · replace hf := if_t s13_2 hf
      refine lv_tableIn (tgt := 62) hx hb dX9_line_13 (by rw [s13_2]; decide) (by rw [s13_2]; decide) (by rw [s13_2]; rfl) (by decide) ?_
      refine lv_aload_n hx hb dX9_line_62 rfl (lv_at hl 0 rfl) ?_
      refine lv_aload_n hx hb dX9_line_63 rfl (lv_at hl 0 rfl) ?_
      refine r_get (a := 66) (v := .ref (gB G 74)) (C := RX9) (T := TX9) (N := 55) hx hb hts hinX9 hown hK hP (ltX9 rfl) (ceX9 rfl) rfl 10 (by decide) wd1045 rfl dX9_line_64 ?_
      refine lv_iload_n hx hb dX9_line_67 rfl (lv_at hl 1 rfl) ?_
      obtain ⟨v68, ev68, hf⟩ := bO_s hf
      refine r_iald hx hb hK hP (arX9_10 rfl) ev68 dX9_line_68 ?_
      obtain ⟨r69, h69, er69, hf⟩ := bP_s hf
      refine r_callI (va_runV (As := [.int v68]) (rest := []) ⟨hx, hb, hml, hown, hts⟩ (k_X9_faultsIn l hG er69) (cwV 1 hts (gV wd1351 wd1353 wd48 wd82 wd1354) rfl rfl rfl (by decide +kernel) ⟨Nat.le_of_ble_eq_true rfl, Nat.le_of_ble_eq_true rfl⟩) (r_pv hK hP hS (ltX9 rfl) (ceX9 rfl) rfl) rfl rfl hl.1 rfl (lv_room (Nat.le_of_ble_eq_true rfl)) dX9_line_69 ⟨Nat.le_of_ble_eq_true rfl, Nat.le_of_ble_eq_true rfl⟩) hS (fun H locs hP hS => ?_)
      exact r_iret hx hb hr hlocks hP hS (re2 (Option.some.inj hf)) dX9_line_72
    replace hf := if_f s13_2 hf
    by_cases s13_3 : x2 = 3
    · replace hf := if_t s13_3 hf
      refine lv_tableIn (tgt := 73) hx hb dX9_line_13 (by rw [s13_3]; decide) (by rw [s13_3]; decide) (by rw [s13_3]; rfl) (by decide) ?_
      refine lv_aload_n hx hb dX9_line_73 rfl (lv_at hl 0 rfl) ?_
      refine lv_aload_n hx hb dX9_line_74 rfl (lv_at hl 0 rfl) ?_
      refine r_get (a := 66) (v := .ref (gB G 74)) (C := RX9) (T := TX9) (N := 55) hx hb hts hinX9 hown hK hP (ltX9 rfl) (ceX9 rfl) rfl 10 (by decide) wd1045 rfl dX9_line_75 ?_
      refine lv_iload_n hx hb dX9_line_78 rfl (lv_at hl 1 rfl) ?_
      obtain ⟨v79, ev79, hf⟩ := bO_s hf
      refine r_iald hx hb hK hP (arX9_10 rfl) ev79 dX9_line_79 ?_
      obtain ⟨r80, h80, er80, hf⟩ := bP_s hf
      refine r_callI (va_runV (As := [.int v79]) (rest := []) ⟨hx, hb, hml, hown, hts⟩ (k_X9_riskOf l hG er80) (cwV 1 hts (gV wd1355 wd1357 wd49 wd82 wd1358) rfl rfl rfl (by decide +kernel) ⟨Nat.le_of_ble_eq_true rfl, Nat.le_of_ble_eq_true rfl⟩) (r_pv hK hP hS (ltX9 rfl) (ceX9 rfl) rfl) rfl rfl hl.1 rfl (lv_room (Nat.le_of_ble_eq_true rfl)) dX9_line_80 ⟨Nat.le_of_ble_eq_true rfl, Nat.le_of_ble_eq_true rfl⟩) hS (fun H locs hP hS => ?_)
      exact r_iret hx hb hr hlocks hP hS (re2 (Option.some.inj hf)) dX9_line_83
    replace hf := if_f s13_3 hf
    by_cases s13_4 : x2 = 4
    · replace hf := if_t s13_4 hf
      refine lv_tableIn (tgt := 84) hx hb dX9_line_13 (by rw [s13_4]; decide) (by rw [s13_4]; decide) (by rw [s13_4]; rfl) (by decide) ?_
      refine lv_aload_n hx hb dX9_line_84 rfl (lv_at hl 0 rfl) ?_
      refine r_get (a := 66) (v := .ref (gB G 76)) (C := RX9) (T := TX9) (N := 55) hx hb hts hinX9 hown hK hP (ltX9 rfl) (ceX9 rfl) rfl 12 (by decide) wd1047 rfl dX9_line_85 ?_
      refine lv_iload_n hx hb dX9_line_88 rfl (lv_at hl 1 rfl) ?_
      obtain ⟨v89, ev89, hf⟩ := bO_s hf
      refine r_iald hx hb hK hP (arX9_12 rfl) ev89 dX9_line_89 ?_
      exact r_iret hx hb hr hlocks hP hS (re2 (Option.some.inj hf)) dX9_line_90
    replace hf := if_f s13_4 hf
    refine lv_tableOut (tgt := 91) hx hb dX9_line_13 (sw_out (x := x2) 4 (by decide) (fun k hk => by
      rcases (show k = 0 ∨ k = 1 ∨ k = 2 ∨ k = 3 ∨ k = 4 by omega) with rfl | rfl | rfl | rfl | rfl
      · exact s13_0
      · exact s13_1
      · exact s13_2
      · exact s13_3
      · exact s13_4
      )) (by decide) ?_
    refine lv_sipush (v := (-1002)) hx hb dX9_line_91 (by decide) ?_
    exact r_iret hx hb hr hlocks hP hS (re2 (Option.some.inj hf)) dX9_line_94
  · replace hf := if_t c5 hf
    refine lv_sipush (v := (-1001)) hx hb dX9_line_8 (by decide) ?_
    exact r_iret hx hb hr hlocks hP hS (re2 (Option.some.inj hf)) dX9_line_11
/-! CarriedBackModel.value(II)I -/
abbrev rmX9_value : Room := { frames := 2, cells := 0, slots := 0, locals := 46 }
abbrev vX9_value : List Cond := Cond.code yX9_value cX9_value 3 (some .int) :: GW
def f_X9_value (x1 : Int32) (x2 : Int32) (h : PH) : Option (Int32 × PH) := bP (f_X9_isLine x1 h) (fun r2 h2 => if r2 = 0 then (some ((-1001), h2)) else (bO (f_X9_isSlot x2) (fun r9 => if r9 = 0 then (some ((-1001), h2)) else (bO (ag h2 75 64 ((16 * x1) + x2)) (fun v25 => some (v25, h2))))))
set_option maxHeartbeats 4000000 in
set_option maxRecDepth 100000 in
theorem k_X9_value (l : Launch) {G : GC} (hG : GOK G) {x1 : Int32} {x2 : Int32} {rr : Int32} {h hh : PH} (hf : f_X9_value x1 x2 h = some (rr, hh)) : CI l yX9_value vX9_value rmX9_value G [.ref (gB G 66), .int x1, .int x2] h rr hh := by
  refine Met.ofW (cc := cX9_value) (maxL := 3) (ret := (some .int)) (by decide +kernel) rfl ?_
  intro p e s m args below meth c s₁ B hml hv
  obtain ⟨rfl, hP, hK⟩ := hv
  have C : MC l G p s m _ meth c RX9 cX9_value 3 (some .int) := ⟨B.exec, B.bytes, B.returns, B.notSynchronized, hml, findClass_of_methodNamed B.named, fun w hw => atoms_spec (ws := vX9_value) B.pre w (List.mem_cons_of_mem _ hw), hK⟩
  obtain ⟨hx, hb, hr, hlocks, -, hown, hts, -⟩ := id C
  have hl := lv_entry ([.ref (gB G 66), .int x1, .int x2]) (n := 3) (Nat.le_of_ble_eq_true rfl)
  rw [lg_entry_eq]
  generalize (lg_sl ([.ref (gB G 66), .int x1, .int x2]) ++ List.replicate (3 - (lg_sl ([.ref (gB G 66), .int x1, .int x2])).length) Slot.unset).toArray = ls at hl ⊢
  have hl : lv_has ls 3 [(0, .ref (gB G 66)), (1, .int x1), (2, .int x2)] := hl
  have hS : SP G s s.heap [] := va_S.rf
  replace hP : WP G h s.heap := hP
  rw [f_X9_value] at hf
  refine lv_aload_n hx hb dX9_value_0 rfl (lv_at hl 0 rfl) ?_
  refine lv_iload_n hx hb dX9_value_1 rfl (lv_at hl 1 rfl) ?_
  obtain ⟨r2, h2, er2, hf⟩ := bP_s hf
  refine r_callI (va_runV (As := [.int x1]) (rest := []) ⟨hx, hb, hml, hown, hts⟩ (k_X9_isLine l hG er2) (cwV 1 hts (gV wd1347 wd1349 wd47 wd82 wd1350) rfl rfl rfl (by decide +kernel) ⟨Nat.le_of_ble_eq_true rfl, Nat.le_of_ble_eq_true rfl⟩) (r_pv hK hP hS (ltX9 rfl) (ceX9 rfl) rfl) rfl rfl hl.1 rfl (lv_room (Nat.le_of_ble_eq_true rfl)) dX9_value_2 ⟨Nat.le_of_ble_eq_true rfl, Nat.le_of_ble_eq_true rfl⟩) hS (fun H locs hP hS => ?_)
  refine lv_if_eq (tgt := 29) hx hb dX9_value_5 (by decide) (fun c5 => ?_) (fun c5 => ?_)
  · replace hf := if_t c5 hf
    refine lv_sipush (v := (-1001)) hx hb dX9_value_29 (by decide) ?_
    exact r_iret hx hb hr hlocks hP hS (re2 (Option.some.inj hf)) dX9_value_32
  · replace hf := if_f c5 hf
    refine lv_iload_n hx hb dX9_value_8 rfl (lv_at hl 2 rfl) ?_
    obtain ⟨r9, er9, hf⟩ := bO_s hf
    refine r_callI (va_runS (As := [.int x2]) (rest := []) ⟨hx, hb, hml, hown, hts⟩ (k_X9_isSlot l hG (h := h2) er9) (va_cwS 1 hts (gS wd1315 wd1316 wd82 wd1317) rfl rfl rfl (by decide +kernel) ⟨Nat.le_of_ble_eq_true rfl, Nat.le_of_ble_eq_true rfl⟩) (r_ps hK hP hS) rfl rfl hl.1 rfl (lv_room (Nat.le_of_ble_eq_true rfl)) dX9_value_9 ⟨Nat.le_of_ble_eq_true rfl, Nat.le_of_ble_eq_true rfl⟩) hS (fun H locs hP hS => ?_)
    refine lv_if_eq (tgt := 29) hx hb dX9_value_12 (by decide) (fun c12 => ?_) (fun c12 => ?_)
    · replace hf := if_t c12 hf
      refine lv_sipush (v := (-1001)) hx hb dX9_value_29 (by decide) ?_
      exact r_iret hx hb hr hlocks hP hS (re2 (Option.some.inj hf)) dX9_value_32
    · replace hf := if_f c12 hf
      refine lv_aload_n hx hb dX9_value_15 rfl (lv_at hl 0 rfl) ?_
      refine r_get (a := 66) (v := .ref (gB G 75)) (C := RX9) (T := TX9) (N := 55) hx hb hts hinX9 hown hK hP (ltX9 rfl) (ceX9 rfl) rfl 11 (by decide) wd1046 rfl dX9_value_16 ?_
      refine lv_bipush (v := 16) hx hb dX9_value_19 (by decide) ?_
      refine lv_iload_n hx hb dX9_value_21 rfl (lv_at hl 1 rfl) ?_
      refine lv_imul hx hb dX9_value_22 ?_
      refine lv_iload_n hx hb dX9_value_23 rfl (lv_at hl 2 rfl) ?_
      refine lv_iadd hx hb dX9_value_24 ?_
      obtain ⟨v25, ev25, hf⟩ := bO_s hf
      refine r_iald hx hb hK hP (arX9_11 rfl) ev25 dX9_value_25 ?_
      refine lv_goto (tgt := 32) hx hb dX9_value_26 (by decide) ?_
      exact r_iret hx hb hr hlocks hP hS (re2 (Option.some.inj hf)) dX9_value_32
/-! CarriedBackModel.tryLine(I)V -/
abbrev rmX9_tryLine : Room := { frames := 0, cells := 0, slots := 0, locals := 0 }
abbrev vX9_tryLine : List Cond := Cond.code yX9_tryLine cX9_tryLine 3 none :: GW
def f_X9_tryLine_2 (x1 : Int32) : Nat → Int32 → PH → Option PH
  | 0, _, _ => none
  | n + 1, x2, h => if (16 : Int32) ≤ x2 then (some h) else (bO (ag h 75 64 ((16 * x1) + x2)) (fun v23 => bO (asg h 89 16 x2 v23) (fun h24 => (f_X9_tryLine_2 x1 n) (x2 + 1) h24)))
set_option maxHeartbeats 4000000 in
set_option maxRecDepth 100000 in
theorem w_X9_tryLine_2 {l : Launch} {G : GC} (hG : GOK G) {hh : PH} {p : Program} {e : Env} {s : State} {m : MethodId} {args : Array Value} {below : List Frame} {meth : Method} {c : Code} (C : MC l G p s m args meth c RX9 cX9_tryLine 3 none) (x1 : Int32) : ∀ (n : Nat) (x2 : Int32) (h : PH) (H : Heap) (locs : List Loc) (ls : Array Slot), lv_has ls 3 [(0, .ref (gB G 66)), (1, .int x1), (2, .int x2)] → WP G h H → SP G s H locs → f_X9_tryLine_2 x1 n x2 h = some hh → W p l e rmX9_tryLine s m args below meth c H locs 0 0 (MQ below (QV G hh) args s 0 0 (gA G)) (F0 m 2 ls []) := by
  obtain ⟨hx, hb, hr, hlocks, hml, hown, hts, hK⟩ := id C
  intro n
  induction n with
  | zero => intro x2 h H locs ls hl hP hS hf; rw [f_X9_tryLine_2] at hf; cases hf
  | succ n ih =>
    intro x2 h H locs ls hl hP hS hf
    rw [f_X9_tryLine_2] at hf
    refine lv_iload_n hx hb dX9_tryLine_2 rfl (lv_at hl 2 rfl) ?_
    refine lv_bipush (v := 16) hx hb dX9_tryLine_3 (by decide) ?_
    refine lv_icmp_ge (tgt := 31) hx hb dX9_tryLine_5 (by decide) (fun c5 => ?_) (fun c5 => ?_)
    · replace hf := if_t c5 hf
      exact r_vret hx hb hr hlocks hP hS (Option.some.inj hf) dX9_tryLine_31
    · replace hf := if_f c5 hf
      refine lv_aload_n hx hb dX9_tryLine_8 rfl (lv_at hl 0 rfl) ?_
      refine r_get (a := 66) (v := .ref (gB G 89)) (C := RX9) (T := TX9) (N := 55) hx hb hts hinX9 hown hK hP (ltX9 rfl) (ceX9 rfl) rfl 37 (by decide) wd1072 rfl dX9_tryLine_9 ?_
      refine lv_iload_n hx hb dX9_tryLine_12 rfl (lv_at hl 2 rfl) ?_
      refine lv_aload_n hx hb dX9_tryLine_13 rfl (lv_at hl 0 rfl) ?_
      refine r_get (a := 66) (v := .ref (gB G 75)) (C := RX9) (T := TX9) (N := 55) hx hb hts hinX9 hown hK hP (ltX9 rfl) (ceX9 rfl) rfl 11 (by decide) wd1046 rfl dX9_tryLine_14 ?_
      refine lv_bipush (v := 16) hx hb dX9_tryLine_17 (by decide) ?_
      refine lv_iload_n hx hb dX9_tryLine_19 rfl (lv_at hl 1 rfl) ?_
      refine lv_imul hx hb dX9_tryLine_20 ?_
      refine lv_iload_n hx hb dX9_tryLine_21 rfl (lv_at hl 2 rfl) ?_
      refine lv_iadd hx hb dX9_tryLine_22 ?_
      obtain ⟨v23, ev23, hf⟩ := bO_s hf
      refine r_iald hx hb hK hP (arX9_11 rfl) ev23 dX9_tryLine_23 ?_
      obtain ⟨h24, eh24, hf⟩ := bO_s hf
      refine r_iast hG hx hb hK hP hS (arX9_37 rfl) eh24 dX9_tryLine_24 (fun H locs hP hS => ?_)
      refine lv_iinc (v := (x2 + 1)) (lv' := [(2, .int (x2 + 1)), (0, .ref (gB G 66)), (1, .int x1)]) hx hb dX9_tryLine_25 hl (k := 2) rfl rfl (by decide) rfl (fun ls hl => ?_)
      refine lv_goto (tgt := 2) hx hb dX9_tryLine_28 (by decide) ?_
      exact ih (x2 + 1) h24 _ _ _ (lv_sub hl [1, 2, 0] rfl) hP hS hf
def f_X9_tryLine (x1 : Int32) (h : PH) : Option PH := f_X9_tryLine_2 x1 FU 0 h
set_option maxHeartbeats 4000000 in
set_option maxRecDepth 100000 in
theorem k_X9_tryLine (l : Launch) {G : GC} (hG : GOK G) {x1 : Int32} {h hh : PH} (hf : f_X9_tryLine x1 h = some hh) : CV l yX9_tryLine vX9_tryLine rmX9_tryLine G [.ref (gB G 66), .int x1] h hh := by
  refine Met.ofW (cc := cX9_tryLine) (maxL := 3) (ret := none) (by decide +kernel) rfl ?_
  intro p e s m args below meth c s₁ B hml hv
  obtain ⟨rfl, hP, hK⟩ := hv
  have C : MC l G p s m _ meth c RX9 cX9_tryLine 3 none := ⟨B.exec, B.bytes, B.returns, B.notSynchronized, hml, findClass_of_methodNamed B.named, fun w hw => atoms_spec (ws := vX9_tryLine) B.pre w (List.mem_cons_of_mem _ hw), hK⟩
  obtain ⟨hx, hb, hr, hlocks, -, hown, hts, -⟩ := id C
  have hl := lv_entry ([.ref (gB G 66), .int x1]) (n := 3) (Nat.le_of_ble_eq_true rfl)
  rw [lg_entry_eq]
  generalize (lg_sl ([.ref (gB G 66), .int x1]) ++ List.replicate (3 - (lg_sl ([.ref (gB G 66), .int x1])).length) Slot.unset).toArray = ls at hl ⊢
  have hl : lv_has ls 3 [(0, .ref (gB G 66)), (1, .int x1)] := hl
  have hS : SP G s s.heap [] := va_S.rf
  replace hP : WP G h s.heap := hP
  rw [f_X9_tryLine] at hf
  refine lv_iconst (v := 0) hx hb dX9_tryLine_0 (by decide) ?_
  refine lv_istore_n (lv' := [(2, .int 0), (0, .ref (gB G 66)), (1, .int x1)]) hx hb dX9_tryLine_1 rfl hl (by decide) rfl (fun ls hl => ?_)
  exact w_X9_tryLine_2 hG C x1 FU 0 h _ _ _ (lv_sub hl [1, 2, 0] rfl) hP hS hf
/-! CarriedBackModel.clashOf(I)I -/
abbrev rmX9_clashOf : Room := { frames := 1, cells := 0, slots := 0, locals := 23 }
abbrev vX9_clashOf : List Cond := Cond.code yX9_clashOf cX9_clashOf 5 (some .int) :: GW
def f_X9_clashOf_18 (x1 : Int32) (x2 : Int32) : Nat → Int32 → Int32 → PH → Option (Int32 × PH)
  | 0, _, _, _ => none
  | n + 1, x3, x4, h => if (16 : Int32) ≤ x4 then (some (x3, h)) else (bO (f_X9_has x2 x4) (fun r29 => if r29 = 0 then (lt' ((x3 ||| 0)) (fun x3_61 => (f_X9_clashOf_18 x1 x2 n) x3_61 (x4 + 1) h)) else (bO (ag h 89 16 x4) (fun v41 => bP (f_X9_aheadOf x1 x4 h) (fun r46 h46 => if v41 = r46 then (lt' ((x3 ||| 0)) (fun x3_61 => (f_X9_clashOf_18 x1 x2 n) x3_61 (x4 + 1) h46)) else (lt' ((x3 ||| (1 <<< (x4 &&& 31)))) (fun x3_61 => (f_X9_clashOf_18 x1 x2 n) x3_61 (x4 + 1) h46)))))))
set_option maxHeartbeats 4000000 in
set_option maxRecDepth 100000 in
theorem w_X9_clashOf_18 {l : Launch} {G : GC} (hG : GOK G) {rr : Int32} {hh : PH} {p : Program} {e : Env} {s : State} {m : MethodId} {args : Array Value} {below : List Frame} {meth : Method} {c : Code} (C : MC l G p s m args meth c RX9 cX9_clashOf 5 (some .int)) (x1 : Int32) (x2 : Int32) : ∀ (n : Nat) (x3 : Int32) (x4 : Int32) (h : PH) (H : Heap) (locs : List Loc) (ls : Array Slot), lv_has ls 5 [(0, .ref (gB G 66)), (1, .int x1), (2, .int x2), (3, .int x3), (4, .int x4)] → WP G h H → SP G s H locs → f_X9_clashOf_18 x1 x2 n x3 x4 h = some (rr, hh) → W p l e rmX9_clashOf s m args below meth c H locs 0 0 (MQ below (QI G rr hh) args s 0 0 (gA G)) (F0 m 18 ls []) := by
  obtain ⟨hx, hb, hr, hlocks, hml, hown, hts, hK⟩ := id C
  intro n
  induction n with
  | zero => intro x3 x4 h H locs ls hl hP hS hf; rw [f_X9_clashOf_18] at hf; cases hf
  | succ n ih =>
    intro x3 x4 h H locs ls hl hP hS hf
    rw [f_X9_clashOf_18] at hf
    refine lv_iload hx hb dX9_clashOf_18 (lv_at hl 4 rfl) ?_
    refine lv_bipush (v := 16) hx hb dX9_clashOf_20 (by decide) ?_
    refine lv_icmp_ge (tgt := 68) hx hb dX9_clashOf_22 (by decide) (fun c22 => ?_) (fun c22 => ?_)
    · replace hf := if_t c22 hf
      refine lv_iload_n hx hb dX9_clashOf_68 rfl (lv_at hl 3 rfl) ?_
      exact r_iret hx hb hr hlocks hP hS (re2 (Option.some.inj hf)) dX9_clashOf_69
    · replace hf := if_f c22 hf
      refine lv_iload_n hx hb dX9_clashOf_25 rfl (lv_at hl 3 rfl) ?_
      refine lv_iload_n hx hb dX9_clashOf_26 rfl (lv_at hl 2 rfl) ?_
      refine lv_iload hx hb dX9_clashOf_27 (lv_at hl 4 rfl) ?_
      obtain ⟨r29, er29, hf⟩ := bO_s hf
      refine r_callI (va_runS (As := [.int x2, .int x4]) (rest := [.int x3]) ⟨hx, hb, hml, hown, hts⟩ (k_X9_has l hG (h := h) er29) (va_cwS 2 hts (gS wd1260 wd1261 wd82 wd1262) rfl rfl rfl (by decide +kernel) ⟨Nat.le_of_ble_eq_true rfl, Nat.le_of_ble_eq_true rfl⟩) (r_ps hK hP hS) rfl rfl hl.1 rfl (lv_room (Nat.le_of_ble_eq_true rfl)) dX9_clashOf_29 ⟨Nat.le_of_ble_eq_true rfl, Nat.le_of_ble_eq_true rfl⟩) hS (fun H locs hP hS => ?_)
      refine lv_if_eq (tgt := 59) hx hb dX9_clashOf_32 (by decide) (fun c32 => ?_) (fun c32 => ?_)
      · replace hf := if_t c32 hf
        refine lv_iconst (v := 0) hx hb dX9_clashOf_59 (by decide) ?_
        refine lv_ior hx hb dX9_clashOf_60 ?_
        refine lv_topi (fun x3_61 ex3_61 => ?_)
        replace hf := lt_at ex3_61 hf
        refine lv_istore_n (lv' := [(3, .int x3_61), (0, .ref (gB G 66)), (1, .int x1), (2, .int x2), (4, .int x4)]) hx hb dX9_clashOf_61 rfl hl (by decide) rfl (fun ls hl => ?_)
        refine lv_iinc (v := (x4 + 1)) (lv' := [(4, .int (x4 + 1)), (3, .int x3_61), (0, .ref (gB G 66)), (1, .int x1), (2, .int x2)]) hx hb dX9_clashOf_62 hl (k := 4) rfl rfl (by decide) rfl (fun ls hl => ?_)
        refine lv_goto (tgt := 18) hx hb dX9_clashOf_65 (by decide) ?_
        exact ih x3_61 (x4 + 1) h _ _ _ (lv_sub hl [2, 3, 4, 1, 0] rfl) hP hS hf
      · replace hf := if_f c32 hf
        refine lv_aload_n hx hb dX9_clashOf_35 rfl (lv_at hl 0 rfl) ?_
        refine r_get (a := 66) (v := .ref (gB G 89)) (C := RX9) (T := TX9) (N := 55) hx hb hts hinX9 hown hK hP (ltX9 rfl) (ceX9 rfl) rfl 37 (by decide) wd1072 rfl dX9_clashOf_36 ?_
        refine lv_iload hx hb dX9_clashOf_39 (lv_at hl 4 rfl) ?_
        obtain ⟨v41, ev41, hf⟩ := bO_s hf
        refine r_iald hx hb hK hP (arX9_37 rfl) ev41 dX9_clashOf_41 ?_
        refine lv_aload_n hx hb dX9_clashOf_42 rfl (lv_at hl 0 rfl) ?_
        refine lv_iload_n hx hb dX9_clashOf_43 rfl (lv_at hl 1 rfl) ?_
        refine lv_iload hx hb dX9_clashOf_44 (lv_at hl 4 rfl) ?_
        obtain ⟨r46, h46, er46, hf⟩ := bP_s hf
        refine r_callI (va_runV (As := [.int x1, .int x4]) (rest := [.int v41, .int x3]) ⟨hx, hb, hml, hown, hts⟩ (k_X9_aheadOf l hG er46) (cwV 2 hts (gV wd1323 wd1325 wd45 wd82 wd1326) rfl rfl rfl (by decide +kernel) ⟨Nat.le_of_ble_eq_true rfl, Nat.le_of_ble_eq_true rfl⟩) (r_pv hK hP hS (ltX9 rfl) (ceX9 rfl) rfl) rfl rfl hl.1 rfl (lv_room (Nat.le_of_ble_eq_true rfl)) dX9_clashOf_46 ⟨Nat.le_of_ble_eq_true rfl, Nat.le_of_ble_eq_true rfl⟩) hS (fun H locs hP hS => ?_)
        refine lv_icmp_eq (tgt := 59) hx hb dX9_clashOf_49 (by decide) (fun c49 => ?_) (fun c49 => ?_)
        · replace hf := if_t c49 hf
          refine lv_iconst (v := 0) hx hb dX9_clashOf_59 (by decide) ?_
          refine lv_ior hx hb dX9_clashOf_60 ?_
          refine lv_topi (fun x3_61 ex3_61 => ?_)
          replace hf := lt_at ex3_61 hf
          refine lv_istore_n (lv' := [(3, .int x3_61), (0, .ref (gB G 66)), (1, .int x1), (2, .int x2), (4, .int x4)]) hx hb dX9_clashOf_61 rfl hl (by decide) rfl (fun ls hl => ?_)
          refine lv_iinc (v := (x4 + 1)) (lv' := [(4, .int (x4 + 1)), (3, .int x3_61), (0, .ref (gB G 66)), (1, .int x1), (2, .int x2)]) hx hb dX9_clashOf_62 hl (k := 4) rfl rfl (by decide) rfl (fun ls hl => ?_)
          refine lv_goto (tgt := 18) hx hb dX9_clashOf_65 (by decide) ?_
          exact ih x3_61 (x4 + 1) h46 _ _ _ (lv_sub hl [2, 3, 4, 1, 0] rfl) hP hS hf
        · replace hf := if_f c49 hf
          refine lv_iconst (v := 1) hx hb dX9_clashOf_52 (by decide) ?_
          refine lv_iload hx hb dX9_clashOf_53 (lv_at hl 4 rfl) ?_
          refine lv_ishl hx hb dX9_clashOf_55 ?_
          refine lv_goto (tgt := 60) hx hb dX9_clashOf_56 (by decide) ?_
          refine lv_ior hx hb dX9_clashOf_60 ?_
          refine lv_topi (fun x3_61 ex3_61 => ?_)
          replace hf := lt_at ex3_61 hf
          refine lv_istore_n (lv' := [(3, .int x3_61), (0, .ref (gB G 66)), (1, .int x1), (2, .int x2), (4, .int x4)]) hx hb dX9_clashOf_61 rfl hl (by decide) rfl (fun ls hl => ?_)
          refine lv_iinc (v := (x4 + 1)) (lv' := [(4, .int (x4 + 1)), (3, .int x3_61), (0, .ref (gB G 66)), (1, .int x1), (2, .int x2)]) hx hb dX9_clashOf_62 hl (k := 4) rfl rfl (by decide) rfl (fun ls hl => ?_)
          refine lv_goto (tgt := 18) hx hb dX9_clashOf_65 (by decide) ?_
          exact ih x3_61 (x4 + 1) h46 _ _ _ (lv_sub hl [2, 3, 4, 1, 0] rfl) hP hS hf
def f_X9_clashOf (x1 : Int32) (h : PH) : Option (Int32 × PH) := bP (f_X9_setsOf x1 h) (fun r2 h2 => bO (ag h2 68 24 x1) (fun v10 => lt' ((r2 ||| v10)) (fun x2_12 => f_X9_clashOf_18 x1 x2_12 FU 0 0 h2)))
set_option maxHeartbeats 4000000 in
set_option maxRecDepth 100000 in
theorem k_X9_clashOf (l : Launch) {G : GC} (hG : GOK G) {x1 : Int32} {rr : Int32} {h hh : PH} (hf : f_X9_clashOf x1 h = some (rr, hh)) : CI l yX9_clashOf vX9_clashOf rmX9_clashOf G [.ref (gB G 66), .int x1] h rr hh := by
  refine Met.ofW (cc := cX9_clashOf) (maxL := 5) (ret := (some .int)) (by decide +kernel) rfl ?_
  intro p e s m args below meth c s₁ B hml hv
  obtain ⟨rfl, hP, hK⟩ := hv
  have C : MC l G p s m _ meth c RX9 cX9_clashOf 5 (some .int) := ⟨B.exec, B.bytes, B.returns, B.notSynchronized, hml, findClass_of_methodNamed B.named, fun w hw => atoms_spec (ws := vX9_clashOf) B.pre w (List.mem_cons_of_mem _ hw), hK⟩
  obtain ⟨hx, hb, hr, hlocks, -, hown, hts, -⟩ := id C
  have hl := lv_entry ([.ref (gB G 66), .int x1]) (n := 5) (Nat.le_of_ble_eq_true rfl)
  rw [lg_entry_eq]
  generalize (lg_sl ([.ref (gB G 66), .int x1]) ++ List.replicate (5 - (lg_sl ([.ref (gB G 66), .int x1])).length) Slot.unset).toArray = ls at hl ⊢
  have hl : lv_has ls 5 [(0, .ref (gB G 66)), (1, .int x1)] := hl
  have hS : SP G s s.heap [] := va_S.rf
  replace hP : WP G h s.heap := hP
  rw [f_X9_clashOf] at hf
  refine lv_aload_n hx hb dX9_clashOf_0 rfl (lv_at hl 0 rfl) ?_
  refine lv_iload_n hx hb dX9_clashOf_1 rfl (lv_at hl 1 rfl) ?_
  obtain ⟨r2, h2, er2, hf⟩ := bP_s hf
  refine r_callI (va_runV (As := [.int x1]) (rest := []) ⟨hx, hb, hml, hown, hts⟩ (k_X9_setsOf l hG er2) (cwV 1 hts (gV wd1303 wd1305 wd43 wd82 wd1306) rfl rfl rfl (by decide +kernel) ⟨Nat.le_of_ble_eq_true rfl, Nat.le_of_ble_eq_true rfl⟩) (r_pv hK hP hS (ltX9 rfl) (ceX9 rfl) rfl) rfl rfl hl.1 rfl (lv_room (Nat.le_of_ble_eq_true rfl)) dX9_clashOf_2 ⟨Nat.le_of_ble_eq_true rfl, Nat.le_of_ble_eq_true rfl⟩) hS (fun H locs hP hS => ?_)
  refine lv_aload_n hx hb dX9_clashOf_5 rfl (lv_at hl 0 rfl) ?_
  refine r_get (a := 66) (v := .ref (gB G 68)) (C := RX9) (T := TX9) (N := 55) hx hb hts hinX9 hown hK hP (ltX9 rfl) (ceX9 rfl) rfl 2 (by decide) wd1037 rfl dX9_clashOf_6 ?_
  refine lv_iload_n hx hb dX9_clashOf_9 rfl (lv_at hl 1 rfl) ?_
  obtain ⟨v10, ev10, hf⟩ := bO_s hf
  refine r_iald hx hb hK hP (arX9_2 rfl) ev10 dX9_clashOf_10 ?_
  refine lv_ior hx hb dX9_clashOf_11 ?_
  refine lv_topi (fun x2_12 ex2_12 => ?_)
  replace hf := lt_at ex2_12 hf
  refine lv_istore_n (lv' := [(2, .int x2_12), (0, .ref (gB G 66)), (1, .int x1)]) hx hb dX9_clashOf_12 rfl hl (by decide) rfl (fun ls hl => ?_)
  refine lv_iconst (v := 0) hx hb dX9_clashOf_13 (by decide) ?_
  refine lv_istore_n (lv' := [(3, .int 0), (2, .int x2_12), (0, .ref (gB G 66)), (1, .int x1)]) hx hb dX9_clashOf_14 rfl hl (by decide) rfl (fun ls hl => ?_)
  refine lv_iconst (v := 0) hx hb dX9_clashOf_15 (by decide) ?_
  refine lv_istore (lv' := [(4, .int 0), (3, .int 0), (2, .int x2_12), (0, .ref (gB G 66)), (1, .int x1)]) hx hb dX9_clashOf_16 hl (by decide) rfl (fun ls hl => ?_)
  exact w_X9_clashOf_18 hG C x1 x2_12 FU 0 0 h2 _ _ _ (lv_sub hl [3, 4, 2, 1, 0] rfl) hP hS hf
/-! CarriedBackModel.goOn(I)V -/
abbrev rmX9_goOn : Room := { frames := 0, cells := 0, slots := 0, locals := 0 }
abbrev vX9_goOn : List Cond := Cond.code yX9_goOn cX9_goOn 3 none :: GW
def f_X9_goOn_47 (x1 : Int32) (k2 : Int32 → PH → Option PH) (x2 : Int32) (t1 : Int32) (t2 : Int32) (h : PH) : Option PH := bO (asg h 89 16 t1 t2) (fun h47 => k2 (x2 + 1) h47)
set_option maxHeartbeats 4000000 in
set_option maxRecDepth 100000 in
theorem w_X9_goOn_47 {l : Launch} {G : GC} (hG : GOK G) {hh : PH} {p : Program} {e : Env} {s : State} {m : MethodId} {args : Array Value} {below : List Frame} {meth : Method} {c : Code} (C : MC l G p s m args meth c RX9 cX9_goOn 3 none) (x1 : Int32) (k2 : Int32 → PH → Option PH) (hk2 : ∀ (x2 : Int32) (h : PH) (H : Heap) (locs : List Loc) (ls : Array Slot), lv_has ls 3 [(0, .ref (gB G 66)), (1, .int x1), (2, .int x2)] → WP G h H → SP G s H locs → k2 x2 h = some hh → W p l e rmX9_goOn s m args below meth c H locs 0 0 (MQ below (QV G hh) args s 0 0 (gA G)) (F0 m 2 ls [])) : ∀ (x2 : Int32) (t1 : Int32) (t2 : Int32) (h : PH) (H : Heap) (locs : List Loc) (ls : Array Slot), lv_has ls 3 [(0, .ref (gB G 66)), (1, .int x1), (2, .int x2)] → WP G h H → SP G s H locs → f_X9_goOn_47 x1 k2 x2 t1 t2 h = some hh → W p l e rmX9_goOn s m args below meth c H locs 0 0 (MQ below (QV G hh) args s 0 0 (gA G)) (F0 m 47 ls [.int t2, .int t1, .ref (gB G 89)]) := by
  obtain ⟨hx, hb, hr, hlocks, hml, hown, hts, hK⟩ := id C
  intro x2 t1 t2 h H locs ls hl hP hS hf
  rw [f_X9_goOn_47] at hf
  obtain ⟨h47, eh47, hf⟩ := bO_s hf
  refine r_iast hG hx hb hK hP hS (arX9_37 rfl) eh47 dX9_goOn_47 (fun H locs hP hS => ?_)
  refine lv_iinc (v := (x2 + 1)) (lv' := [(2, .int (x2 + 1)), (0, .ref (gB G 66)), (1, .int x1)]) hx hb dX9_goOn_48 hl (k := 2) rfl rfl (by decide) rfl (fun ls hl => ?_)
  refine lv_goto (tgt := 2) hx hb dX9_goOn_51 (by decide) ?_
  exact hk2 (x2 + 1) h47 _ _ _ (lv_sub hl [1, 2, 0] rfl) hP hS hf
def f_X9_goOn_2 (x1 : Int32) : Nat → Int32 → PH → Option PH
  | 0, _, _ => none
  | n + 1, x2, h => if (16 : Int32) ≤ x2 then (some h) else (bO (ag h 67 384 ((16 * x1) + x2)) (fun v23 => if v23 ≤ 0 then (bO (ag h 89 16 x2) (fun v46 => f_X9_goOn_47 x1 (f_X9_goOn_2 x1 n) x2 x2 v46 h)) else (bO (ag h 67 384 ((16 * x1) + x2)) (fun v37 => f_X9_goOn_47 x1 (f_X9_goOn_2 x1 n) x2 x2 v37 h))))
set_option maxHeartbeats 4000000 in
set_option maxRecDepth 100000 in
theorem w_X9_goOn_2 {l : Launch} {G : GC} (hG : GOK G) {hh : PH} {p : Program} {e : Env} {s : State} {m : MethodId} {args : Array Value} {below : List Frame} {meth : Method} {c : Code} (C : MC l G p s m args meth c RX9 cX9_goOn 3 none) (x1 : Int32) : ∀ (n : Nat) (x2 : Int32) (h : PH) (H : Heap) (locs : List Loc) (ls : Array Slot), lv_has ls 3 [(0, .ref (gB G 66)), (1, .int x1), (2, .int x2)] → WP G h H → SP G s H locs → f_X9_goOn_2 x1 n x2 h = some hh → W p l e rmX9_goOn s m args below meth c H locs 0 0 (MQ below (QV G hh) args s 0 0 (gA G)) (F0 m 2 ls []) := by
  obtain ⟨hx, hb, hr, hlocks, hml, hown, hts, hK⟩ := id C
  intro n
  induction n with
  | zero => intro x2 h H locs ls hl hP hS hf; rw [f_X9_goOn_2] at hf; cases hf
  | succ n ih =>
    intro x2 h H locs ls hl hP hS hf
    rw [f_X9_goOn_2] at hf
    refine lv_iload_n hx hb dX9_goOn_2 rfl (lv_at hl 2 rfl) ?_
    refine lv_bipush (v := 16) hx hb dX9_goOn_3 (by decide) ?_
    refine lv_icmp_ge (tgt := 54) hx hb dX9_goOn_5 (by decide) (fun c5 => ?_) (fun c5 => ?_)
    · replace hf := if_t c5 hf
      exact r_vret hx hb hr hlocks hP hS (Option.some.inj hf) dX9_goOn_54
    · replace hf := if_f c5 hf
      refine lv_aload_n hx hb dX9_goOn_8 rfl (lv_at hl 0 rfl) ?_
      refine r_get (a := 66) (v := .ref (gB G 89)) (C := RX9) (T := TX9) (N := 55) hx hb hts hinX9 hown hK hP (ltX9 rfl) (ceX9 rfl) rfl 37 (by decide) wd1072 rfl dX9_goOn_9 ?_
      refine lv_iload_n hx hb dX9_goOn_12 rfl (lv_at hl 2 rfl) ?_
      refine lv_aload_n hx hb dX9_goOn_13 rfl (lv_at hl 0 rfl) ?_
      refine r_get (a := 66) (v := .ref (gB G 67)) (C := RX9) (T := TX9) (N := 55) hx hb hts hinX9 hown hK hP (ltX9 rfl) (ceX9 rfl) rfl 1 (by decide) wd1036 rfl dX9_goOn_14 ?_
      refine lv_bipush (v := 16) hx hb dX9_goOn_17 (by decide) ?_
      refine lv_iload_n hx hb dX9_goOn_19 rfl (lv_at hl 1 rfl) ?_
      refine lv_imul hx hb dX9_goOn_20 ?_
      refine lv_iload_n hx hb dX9_goOn_21 rfl (lv_at hl 2 rfl) ?_
      refine lv_iadd hx hb dX9_goOn_22 ?_
      obtain ⟨v23, ev23, hf⟩ := bO_s hf
      refine r_iald hx hb hK hP (arX9_1 rfl) ev23 dX9_goOn_23 ?_
      refine lv_if_le (tgt := 41) hx hb dX9_goOn_24 (by decide) (fun c24 => ?_) (fun c24 => ?_)
      · replace hf := if_t c24 hf
        refine lv_aload_n hx hb dX9_goOn_41 rfl (lv_at hl 0 rfl) ?_
        refine r_get (a := 66) (v := .ref (gB G 89)) (C := RX9) (T := TX9) (N := 55) hx hb hts hinX9 hown hK hP (ltX9 rfl) (ceX9 rfl) rfl 37 (by decide) wd1072 rfl dX9_goOn_42 ?_
        refine lv_iload_n hx hb dX9_goOn_45 rfl (lv_at hl 2 rfl) ?_
        obtain ⟨v46, ev46, hf⟩ := bO_s hf
        refine r_iald hx hb hK hP (arX9_37 rfl) ev46 dX9_goOn_46 ?_
        exact w_X9_goOn_47 hG C x1 (f_X9_goOn_2 x1 n) ih x2 x2 v46 h _ _ _ (lv_sub hl [0, 1, 2] rfl) hP hS hf
      · replace hf := if_f c24 hf
        refine lv_aload_n hx hb dX9_goOn_27 rfl (lv_at hl 0 rfl) ?_
        refine r_get (a := 66) (v := .ref (gB G 67)) (C := RX9) (T := TX9) (N := 55) hx hb hts hinX9 hown hK hP (ltX9 rfl) (ceX9 rfl) rfl 1 (by decide) wd1036 rfl dX9_goOn_28 ?_
        refine lv_bipush (v := 16) hx hb dX9_goOn_31 (by decide) ?_
        refine lv_iload_n hx hb dX9_goOn_33 rfl (lv_at hl 1 rfl) ?_
        refine lv_imul hx hb dX9_goOn_34 ?_
        refine lv_iload_n hx hb dX9_goOn_35 rfl (lv_at hl 2 rfl) ?_
        refine lv_iadd hx hb dX9_goOn_36 ?_
        obtain ⟨v37, ev37, hf⟩ := bO_s hf
        refine r_iald hx hb hK hP (arX9_1 rfl) ev37 dX9_goOn_37 ?_
        refine lv_goto (tgt := 47) hx hb dX9_goOn_38 (by decide) ?_
        exact w_X9_goOn_47 hG C x1 (f_X9_goOn_2 x1 n) ih x2 x2 v37 h _ _ _ (lv_sub hl [0, 1, 2] rfl) hP hS hf
def f_X9_goOn (x1 : Int32) (h : PH) : Option PH := f_X9_goOn_2 x1 FU 0 h
set_option maxHeartbeats 4000000 in
set_option maxRecDepth 100000 in
theorem k_X9_goOn (l : Launch) {G : GC} (hG : GOK G) {x1 : Int32} {h hh : PH} (hf : f_X9_goOn x1 h = some hh) : CV l yX9_goOn vX9_goOn rmX9_goOn G [.ref (gB G 66), .int x1] h hh := by
  refine Met.ofW (cc := cX9_goOn) (maxL := 3) (ret := none) (by decide +kernel) rfl ?_
  intro p e s m args below meth c s₁ B hml hv
  obtain ⟨rfl, hP, hK⟩ := hv
  have C : MC l G p s m _ meth c RX9 cX9_goOn 3 none := ⟨B.exec, B.bytes, B.returns, B.notSynchronized, hml, findClass_of_methodNamed B.named, fun w hw => atoms_spec (ws := vX9_goOn) B.pre w (List.mem_cons_of_mem _ hw), hK⟩
  obtain ⟨hx, hb, hr, hlocks, -, hown, hts, -⟩ := id C
  have hl := lv_entry ([.ref (gB G 66), .int x1]) (n := 3) (Nat.le_of_ble_eq_true rfl)
  rw [lg_entry_eq]
  generalize (lg_sl ([.ref (gB G 66), .int x1]) ++ List.replicate (3 - (lg_sl ([.ref (gB G 66), .int x1])).length) Slot.unset).toArray = ls at hl ⊢
  have hl : lv_has ls 3 [(0, .ref (gB G 66)), (1, .int x1)] := hl
  have hS : SP G s s.heap [] := va_S.rf
  replace hP : WP G h s.heap := hP
  rw [f_X9_goOn] at hf
  refine lv_iconst (v := 0) hx hb dX9_goOn_0 (by decide) ?_
  refine lv_istore_n (lv' := [(2, .int 0), (0, .ref (gB G 66)), (1, .int x1)]) hx hb dX9_goOn_1 rfl hl (by decide) rfl (fun ls hl => ?_)
  exact w_X9_goOn_2 hG C x1 FU 0 h _ _ _ (lv_sub hl [1, 2, 0] rfl) hP hS hf
/-! CarriedBackModel.goAll(I)Z -/
abbrev rmX9_goAll : Room := { frames := 2, cells := 0, slots := 0, locals := 47 }
abbrev vX9_goAll : List Cond := Cond.code yX9_goAll cX9_goAll 4 (some .boolean) :: GW
def f_X9_goAll_37 (x1 : Int32) (k4 : Int32 → Int32 → PH → Option (Int32 × PH)) (x3 : Int32) (t0 : Int32) (h : PH) : Option (Int32 × PH) := bO (f_X9_goOn x3 h) (fun h40 => k4 t0 (x3 + 1) h40)
set_option maxHeartbeats 4000000 in
set_option maxRecDepth 100000 in
theorem w_X9_goAll_37 {l : Launch} {G : GC} (hG : GOK G) {rr : Int32} {hh : PH} {p : Program} {e : Env} {s : State} {m : MethodId} {args : Array Value} {below : List Frame} {meth : Method} {c : Code} (C : MC l G p s m args meth c RX9 cX9_goAll 4 (some .boolean)) (x1 : Int32) (k4 : Int32 → Int32 → PH → Option (Int32 × PH)) (hk4 : ∀ (x2 : Int32) (x3 : Int32) (h : PH) (H : Heap) (locs : List Loc) (ls : Array Slot), lv_has ls 4 [(0, .ref (gB G 66)), (1, .int x1), (2, .int x2), (3, .int x3)] → WP G h H → SP G s H locs → k4 x2 x3 h = some (rr, hh) → W p l e rmX9_goAll s m args below meth c H locs 0 0 (MQ below (QI G rr hh) args s 0 0 (gA G)) (F0 m 4 ls [])) : ∀ (x3 : Int32) (t0 : Int32) (h : PH) (H : Heap) (locs : List Loc) (ls : Array Slot), lv_has ls 4 [(0, .ref (gB G 66)), (1, .int x1), (3, .int x3)] → WP G h H → SP G s H locs → f_X9_goAll_37 x1 k4 x3 t0 h = some (rr, hh) → W p l e rmX9_goAll s m args below meth c H locs 0 0 (MQ below (QI G rr hh) args s 0 0 (gA G)) (F0 m 37 ls [.int t0]) := by
  obtain ⟨hx, hb, hr, hlocks, hml, hown, hts, hK⟩ := id C
  intro x3 t0 h H locs ls hl hP hS hf
  rw [f_X9_goAll_37] at hf
  refine lv_istore_n (lv' := [(2, .int t0), (0, .ref (gB G 66)), (1, .int x1), (3, .int x3)]) hx hb dX9_goAll_37 rfl hl (by decide) rfl (fun ls hl => ?_)
  refine lv_aload_n hx hb dX9_goAll_38 rfl (lv_at hl 1 rfl) ?_
  refine lv_iload_n hx hb dX9_goAll_39 rfl (lv_at hl 3 rfl) ?_
  obtain ⟨h40, eh40, hf⟩ := bO_s hf
  refine r_callV (va_runV (As := [.int x3]) (rest := []) ⟨hx, hb, hml, hown, hts⟩ (k_X9_goOn l hG eh40) (cwV 1 hts (gV wd1379 wd1381 wd52 wd82 wd1382) rfl rfl rfl (by decide +kernel) ⟨Nat.le_of_ble_eq_true rfl, Nat.le_of_ble_eq_true rfl⟩) (r_pv hK hP hS (ltX9 rfl) (ceX9 rfl) rfl) rfl rfl hl.1 rfl (lv_room (Nat.le_of_ble_eq_true rfl)) dX9_goAll_40 ⟨Nat.le_of_ble_eq_true rfl, Nat.le_of_ble_eq_true rfl⟩) hS (fun H locs hP hS => ?_)
  refine lv_iinc (v := (x3 + 1)) (lv' := [(3, .int (x3 + 1)), (2, .int t0), (0, .ref (gB G 66)), (1, .int x1)]) hx hb dX9_goAll_43 hl (k := 3) rfl rfl (by decide) rfl (fun ls hl => ?_)
  refine lv_goto (tgt := 4) hx hb dX9_goAll_46 (by decide) ?_
  exact hk4 t0 (x3 + 1) h40 _ _ _ (lv_sub hl [2, 3, 1, 0] rfl) hP hS hf
def f_X9_goAll_4 (x1 : Int32) : Nat → Int32 → Int32 → PH → Option (Int32 × PH)
  | 0, _, _, _ => none
  | n + 1, x2, x3, h => if (h.1 66 0) ≤ x3 then (zr x2 (x2, h)) else (if x2 = 0 then (zr x2 (x2, h)) else (bO (f_X9_has x1 x3) (fun r18 => if r18 = 0 then ((f_X9_goAll_4 x1 n) x2 (x3 + 1) h) else (bP (f_X9_clashOf x3 h) (fun r26 h26 => if r26 = 0 then (f_X9_goAll_37 x1 (f_X9_goAll_4 x1 n) x3 1 h26) else (f_X9_goAll_37 x1 (f_X9_goAll_4 x1 n) x3 0 h26))))))
set_option maxHeartbeats 4000000 in
set_option maxRecDepth 100000 in
theorem w_X9_goAll_4 {l : Launch} {G : GC} (hG : GOK G) {rr : Int32} {hh : PH} {p : Program} {e : Env} {s : State} {m : MethodId} {args : Array Value} {below : List Frame} {meth : Method} {c : Code} (C : MC l G p s m args meth c RX9 cX9_goAll 4 (some .boolean)) (x1 : Int32) : ∀ (n : Nat) (x2 : Int32) (x3 : Int32) (h : PH) (H : Heap) (locs : List Loc) (ls : Array Slot), lv_has ls 4 [(0, .ref (gB G 66)), (1, .int x1), (2, .int x2), (3, .int x3)] → WP G h H → SP G s H locs → f_X9_goAll_4 x1 n x2 x3 h = some (rr, hh) → W p l e rmX9_goAll s m args below meth c H locs 0 0 (MQ below (QI G rr hh) args s 0 0 (gA G)) (F0 m 4 ls []) := by
  obtain ⟨hx, hb, hr, hlocks, hml, hown, hts, hK⟩ := id C
  intro n
  induction n with
  | zero => intro x2 x3 h H locs ls hl hP hS hf; rw [f_X9_goAll_4] at hf; cases hf
  | succ n ih =>
    intro x2 x3 h H locs ls hl hP hS hf
    rw [f_X9_goAll_4] at hf
    refine lv_iload_n hx hb dX9_goAll_4 rfl (lv_at hl 3 rfl) ?_
    refine lv_aload_n hx hb dX9_goAll_5 rfl (lv_at hl 0 rfl) ?_
    refine r_get (a := 66) (v := .int (h.1 66 0)) (C := RX9) (T := TX9) (N := 55) hx hb hts hinX9 hown hK hP (ltX9 rfl) (ceX9 rfl) rfl 0 (by decide) wd1035 rfl dX9_goAll_6 ?_
    refine lv_icmp_ge (tgt := 49) hx hb dX9_goAll_9 (by decide) (fun c9 => ?_) (fun c9 => ?_)
    · replace hf := if_t c9 hf
      refine lv_iload_n hx hb dX9_goAll_49 rfl (lv_at hl 2 rfl) ?_
      obtain ⟨hz, hf⟩ := zr_s hf
      exact r_zret hx hb hr hz hlocks hP hS (re2 hf) dX9_goAll_50
    · replace hf := if_f c9 hf
      refine lv_iload_n hx hb dX9_goAll_12 rfl (lv_at hl 2 rfl) ?_
      refine lv_if_eq (tgt := 49) hx hb dX9_goAll_13 (by decide) (fun c13 => ?_) (fun c13 => ?_)
      · replace hf := if_t c13 hf
        refine lv_iload_n hx hb dX9_goAll_49 rfl (lv_at hl 2 rfl) ?_
        obtain ⟨hz, hf⟩ := zr_s hf
        exact r_zret hx hb hr hz hlocks hP hS (re2 hf) dX9_goAll_50
      · replace hf := if_f c13 hf
        refine lv_iload_n hx hb dX9_goAll_16 rfl (lv_at hl 1 rfl) ?_
        refine lv_iload_n hx hb dX9_goAll_17 rfl (lv_at hl 3 rfl) ?_
        obtain ⟨r18, er18, hf⟩ := bO_s hf
        refine r_callI (va_runS (As := [.int x1, .int x3]) (rest := []) ⟨hx, hb, hml, hown, hts⟩ (k_X9_has l hG (h := h) er18) (va_cwS 2 hts (gS wd1260 wd1261 wd82 wd1262) rfl rfl rfl (by decide +kernel) ⟨Nat.le_of_ble_eq_true rfl, Nat.le_of_ble_eq_true rfl⟩) (r_ps hK hP hS) rfl rfl hl.1 rfl (lv_room (Nat.le_of_ble_eq_true rfl)) dX9_goAll_18 ⟨Nat.le_of_ble_eq_true rfl, Nat.le_of_ble_eq_true rfl⟩) hS (fun H locs hP hS => ?_)
        refine lv_if_eq (tgt := 43) hx hb dX9_goAll_21 (by decide) (fun c21 => ?_) (fun c21 => ?_)
        · replace hf := if_t c21 hf
          refine lv_iinc (v := (x3 + 1)) (lv' := [(3, .int (x3 + 1)), (0, .ref (gB G 66)), (1, .int x1), (2, .int x2)]) hx hb dX9_goAll_43 hl (k := 3) rfl rfl (by decide) rfl (fun ls hl => ?_)
          refine lv_goto (tgt := 4) hx hb dX9_goAll_46 (by decide) ?_
          exact ih x2 (x3 + 1) h _ _ _ (lv_sub hl [1, 2, 3, 0] rfl) hP hS hf
        · replace hf := if_f c21 hf
          refine lv_aload_n hx hb dX9_goAll_24 rfl (lv_at hl 0 rfl) ?_
          refine lv_iload_n hx hb dX9_goAll_25 rfl (lv_at hl 3 rfl) ?_
          obtain ⟨r26, h26, er26, hf⟩ := bP_s hf
          refine r_callI (va_runV (As := [.int x3]) (rest := []) ⟨hx, hb, hml, hown, hts⟩ (k_X9_clashOf l hG er26) (cwV 1 hts (gV wd1371 wd1373 wd51 wd82 wd1374) rfl rfl rfl (by decide +kernel) ⟨Nat.le_of_ble_eq_true rfl, Nat.le_of_ble_eq_true rfl⟩) (r_pv hK hP hS (ltX9 rfl) (ceX9 rfl) rfl) rfl rfl hl.1 rfl (lv_room (Nat.le_of_ble_eq_true rfl)) dX9_goAll_26 ⟨Nat.le_of_ble_eq_true rfl, Nat.le_of_ble_eq_true rfl⟩) hS (fun H locs hP hS => ?_)
          refine lv_if_ne (tgt := 36) hx hb dX9_goAll_29 (by decide) (fun c29 => ?_) (fun c29 => ?_)
          · replace hf := if_f c29 hf
            refine lv_iconst (v := 0) hx hb dX9_goAll_36 (by decide) ?_
            exact w_X9_goAll_37 hG C x1 (f_X9_goAll_4 x1 n) ih x3 0 h26 _ _ _ (lv_sub hl [0, 1, 3] rfl) hP hS hf
          · replace hf := if_t c29 hf
            refine lv_iconst (v := 1) hx hb dX9_goAll_32 (by decide) ?_
            refine lv_goto (tgt := 37) hx hb dX9_goAll_33 (by decide) ?_
            exact w_X9_goAll_37 hG C x1 (f_X9_goAll_4 x1 n) ih x3 1 h26 _ _ _ (lv_sub hl [0, 1, 3] rfl) hP hS hf
def f_X9_goAll (x1 : Int32) (h : PH) : Option (Int32 × PH) := f_X9_goAll_4 x1 FU 1 0 h
set_option maxHeartbeats 4000000 in
set_option maxRecDepth 100000 in
theorem k_X9_goAll (l : Launch) {G : GC} (hG : GOK G) {x1 : Int32} {rr : Int32} {h hh : PH} (hf : f_X9_goAll x1 h = some (rr, hh)) : CI l yX9_goAll vX9_goAll rmX9_goAll G [.ref (gB G 66), .int x1] h rr hh := by
  refine Met.ofW (cc := cX9_goAll) (maxL := 4) (ret := (some .boolean)) (by decide +kernel) rfl ?_
  intro p e s m args below meth c s₁ B hml hv
  obtain ⟨rfl, hP, hK⟩ := hv
  have C : MC l G p s m _ meth c RX9 cX9_goAll 4 (some .boolean) := ⟨B.exec, B.bytes, B.returns, B.notSynchronized, hml, findClass_of_methodNamed B.named, fun w hw => atoms_spec (ws := vX9_goAll) B.pre w (List.mem_cons_of_mem _ hw), hK⟩
  obtain ⟨hx, hb, hr, hlocks, -, hown, hts, -⟩ := id C
  have hl := lv_entry ([.ref (gB G 66), .int x1]) (n := 4) (Nat.le_of_ble_eq_true rfl)
  rw [lg_entry_eq]
  generalize (lg_sl ([.ref (gB G 66), .int x1]) ++ List.replicate (4 - (lg_sl ([.ref (gB G 66), .int x1])).length) Slot.unset).toArray = ls at hl ⊢
  have hl : lv_has ls 4 [(0, .ref (gB G 66)), (1, .int x1)] := hl
  have hS : SP G s s.heap [] := va_S.rf
  replace hP : WP G h s.heap := hP
  rw [f_X9_goAll] at hf
  refine lv_iconst (v := 1) hx hb dX9_goAll_0 (by decide) ?_
  refine lv_istore_n (lv' := [(2, .int 1), (0, .ref (gB G 66)), (1, .int x1)]) hx hb dX9_goAll_1 rfl hl (by decide) rfl (fun ls hl => ?_)
  refine lv_iconst (v := 0) hx hb dX9_goAll_2 (by decide) ?_
  refine lv_istore_n (lv' := [(3, .int 0), (2, .int 1), (0, .ref (gB G 66)), (1, .int x1)]) hx hb dX9_goAll_3 rfl hl (by decide) rfl (fun ls hl => ?_)
  exact w_X9_goAll_4 hG C x1 FU 1 0 h _ _ _ (lv_sub hl [2, 3, 1, 0] rfl) hP hS hf
/-! CarriedBackModel.putLine(II)V -/
abbrev rmX9_putLine : Room := { frames := 0, cells := 0, slots := 0, locals := 0 }
abbrev vX9_putLine : List Cond := Cond.code yX9_putLine cX9_putLine 4 none :: GW
def f_X9_putLine_2 (x1 : Int32) (x2 : Int32) : Nat → Int32 → PH → Option PH
  | 0, _, _ => none
  | n + 1, x3, h => if (16 : Int32) ≤ x3 then (bO (ag h 74 4 x1) (fun v37 => bO (asg h 74 4 x1 (v37 ||| x2)) (fun h40 => some h40))) else (bO (ag h 89 16 x3) (fun v23 => bO (asg h 75 64 ((16 * x1) + x3) v23) (fun h24 => (f_X9_putLine_2 x1 x2 n) (x3 + 1) h24)))
set_option maxHeartbeats 4000000 in
set_option maxRecDepth 100000 in
theorem w_X9_putLine_2 {l : Launch} {G : GC} (hG : GOK G) {hh : PH} {p : Program} {e : Env} {s : State} {m : MethodId} {args : Array Value} {below : List Frame} {meth : Method} {c : Code} (C : MC l G p s m args meth c RX9 cX9_putLine 4 none) (x1 : Int32) (x2 : Int32) : ∀ (n : Nat) (x3 : Int32) (h : PH) (H : Heap) (locs : List Loc) (ls : Array Slot), lv_has ls 4 [(0, .ref (gB G 66)), (1, .int x1), (2, .int x2), (3, .int x3)] → WP G h H → SP G s H locs → f_X9_putLine_2 x1 x2 n x3 h = some hh → W p l e rmX9_putLine s m args below meth c H locs 0 0 (MQ below (QV G hh) args s 0 0 (gA G)) (F0 m 2 ls []) := by
  obtain ⟨hx, hb, hr, hlocks, hml, hown, hts, hK⟩ := id C
  intro n
  induction n with
  | zero => intro x3 h H locs ls hl hP hS hf; rw [f_X9_putLine_2] at hf; cases hf
  | succ n ih =>
    intro x3 h H locs ls hl hP hS hf
    rw [f_X9_putLine_2] at hf
    refine lv_iload_n hx hb dX9_putLine_2 rfl (lv_at hl 3 rfl) ?_
    refine lv_bipush (v := 16) hx hb dX9_putLine_3 (by decide) ?_
    refine lv_icmp_ge (tgt := 31) hx hb dX9_putLine_5 (by decide) (fun c5 => ?_) (fun c5 => ?_)
    · replace hf := if_t c5 hf
      refine lv_aload_n hx hb dX9_putLine_31 rfl (lv_at hl 0 rfl) ?_
      refine r_get (a := 66) (v := .ref (gB G 74)) (C := RX9) (T := TX9) (N := 55) hx hb hts hinX9 hown hK hP (ltX9 rfl) (ceX9 rfl) rfl 10 (by decide) wd1045 rfl dX9_putLine_32 ?_
      refine lv_iload_n hx hb dX9_putLine_35 rfl (lv_at hl 1 rfl) ?_
      refine lv_dup2_11 hx hb dX9_putLine_36 rfl rfl ?_
      obtain ⟨v37, ev37, hf⟩ := bO_s hf
      refine r_iald hx hb hK hP (arX9_10 rfl) ev37 dX9_putLine_37 ?_
      refine lv_iload_n hx hb dX9_putLine_38 rfl (lv_at hl 2 rfl) ?_
      refine lv_ior hx hb dX9_putLine_39 ?_
      obtain ⟨h40, eh40, hf⟩ := bO_s hf
      refine r_iast hG hx hb hK hP hS (arX9_10 rfl) eh40 dX9_putLine_40 (fun H locs hP hS => ?_)
      exact r_vret hx hb hr hlocks hP hS (Option.some.inj hf) dX9_putLine_41
    · replace hf := if_f c5 hf
      refine lv_aload_n hx hb dX9_putLine_8 rfl (lv_at hl 0 rfl) ?_
      refine r_get (a := 66) (v := .ref (gB G 75)) (C := RX9) (T := TX9) (N := 55) hx hb hts hinX9 hown hK hP (ltX9 rfl) (ceX9 rfl) rfl 11 (by decide) wd1046 rfl dX9_putLine_9 ?_
      refine lv_bipush (v := 16) hx hb dX9_putLine_12 (by decide) ?_
      refine lv_iload_n hx hb dX9_putLine_14 rfl (lv_at hl 1 rfl) ?_
      refine lv_imul hx hb dX9_putLine_15 ?_
      refine lv_iload_n hx hb dX9_putLine_16 rfl (lv_at hl 3 rfl) ?_
      refine lv_iadd hx hb dX9_putLine_17 ?_
      refine lv_aload_n hx hb dX9_putLine_18 rfl (lv_at hl 0 rfl) ?_
      refine r_get (a := 66) (v := .ref (gB G 89)) (C := RX9) (T := TX9) (N := 55) hx hb hts hinX9 hown hK hP (ltX9 rfl) (ceX9 rfl) rfl 37 (by decide) wd1072 rfl dX9_putLine_19 ?_
      refine lv_iload_n hx hb dX9_putLine_22 rfl (lv_at hl 3 rfl) ?_
      obtain ⟨v23, ev23, hf⟩ := bO_s hf
      refine r_iald hx hb hK hP (arX9_37 rfl) ev23 dX9_putLine_23 ?_
      obtain ⟨h24, eh24, hf⟩ := bO_s hf
      refine r_iast hG hx hb hK hP hS (arX9_11 rfl) eh24 dX9_putLine_24 (fun H locs hP hS => ?_)
      refine lv_iinc (v := (x3 + 1)) (lv' := [(3, .int (x3 + 1)), (0, .ref (gB G 66)), (1, .int x1), (2, .int x2)]) hx hb dX9_putLine_25 hl (k := 3) rfl rfl (by decide) rfl (fun ls hl => ?_)
      refine lv_goto (tgt := 2) hx hb dX9_putLine_28 (by decide) ?_
      exact ih (x3 + 1) h24 _ _ _ (lv_sub hl [1, 2, 3, 0] rfl) hP hS hf
def f_X9_putLine (x1 : Int32) (x2 : Int32) (h : PH) : Option PH := f_X9_putLine_2 x1 x2 FU 0 h
set_option maxHeartbeats 4000000 in
set_option maxRecDepth 100000 in
theorem k_X9_putLine (l : Launch) {G : GC} (hG : GOK G) {x1 : Int32} {x2 : Int32} {h hh : PH} (hf : f_X9_putLine x1 x2 h = some hh) : CV l yX9_putLine vX9_putLine rmX9_putLine G [.ref (gB G 66), .int x1, .int x2] h hh := by
  refine Met.ofW (cc := cX9_putLine) (maxL := 4) (ret := none) (by decide +kernel) rfl ?_
  intro p e s m args below meth c s₁ B hml hv
  obtain ⟨rfl, hP, hK⟩ := hv
  have C : MC l G p s m _ meth c RX9 cX9_putLine 4 none := ⟨B.exec, B.bytes, B.returns, B.notSynchronized, hml, findClass_of_methodNamed B.named, fun w hw => atoms_spec (ws := vX9_putLine) B.pre w (List.mem_cons_of_mem _ hw), hK⟩
  obtain ⟨hx, hb, hr, hlocks, -, hown, hts, -⟩ := id C
  have hl := lv_entry ([.ref (gB G 66), .int x1, .int x2]) (n := 4) (Nat.le_of_ble_eq_true rfl)
  rw [lg_entry_eq]
  generalize (lg_sl ([.ref (gB G 66), .int x1, .int x2]) ++ List.replicate (4 - (lg_sl ([.ref (gB G 66), .int x1, .int x2])).length) Slot.unset).toArray = ls at hl ⊢
  have hl : lv_has ls 4 [(0, .ref (gB G 66)), (1, .int x1), (2, .int x2)] := hl
  have hS : SP G s s.heap [] := va_S.rf
  replace hP : WP G h s.heap := hP
  rw [f_X9_putLine] at hf
  refine lv_iconst (v := 0) hx hb dX9_putLine_0 (by decide) ?_
  refine lv_istore_n (lv' := [(3, .int 0), (0, .ref (gB G 66)), (1, .int x1), (2, .int x2)]) hx hb dX9_putLine_1 rfl hl (by decide) rfl (fun ls hl => ?_)
  exact w_X9_putLine_2 hG C x1 x2 FU 0 h _ _ _ (lv_sub hl [1, 2, 3, 0] rfl) hP hS hf
/-! CarriedBackModel.clash(II)I -/
abbrev rmX9_clash : Room := { frames := 2, cells := 0, slots := 0, locals := 47 }
abbrev vX9_clash : List Cond := Cond.code yX9_clash cX9_clash 3 (some .int) :: GW
def f_X9_clash (x1 : Int32) (x2 : Int32) (h : PH) : Option (Int32 × PH) := bP (f_X9_isLine x1 h) (fun r2 h2 => if r2 = 0 then (some ((-1001), h2)) else (bP (f_X9_isChange x2 h2) (fun r10 h10 => if r10 = 0 then (some ((-1001), h10)) else (bO (ag h10 74 4 x1) (fun v25 => bO (f_X9_has v25 x2) (fun r27 => if r27 = 0 then (bO (f_X9_tryLine x1 h10) (fun h39 => bP (f_X9_clashOf x2 h39) (fun r44 h44 => some (r44, h44)))) else (some ((-1003), h10))))))))
set_option maxHeartbeats 4000000 in
set_option maxRecDepth 100000 in
theorem k_X9_clash (l : Launch) {G : GC} (hG : GOK G) {x1 : Int32} {x2 : Int32} {rr : Int32} {h hh : PH} (hf : f_X9_clash x1 x2 h = some (rr, hh)) : CI l yX9_clash vX9_clash rmX9_clash G [.ref (gB G 66), .int x1, .int x2] h rr hh := by
  refine Met.ofW (cc := cX9_clash) (maxL := 3) (ret := (some .int)) (by decide +kernel) rfl ?_
  intro p e s m args below meth c s₁ B hml hv
  obtain ⟨rfl, hP, hK⟩ := hv
  have C : MC l G p s m _ meth c RX9 cX9_clash 3 (some .int) := ⟨B.exec, B.bytes, B.returns, B.notSynchronized, hml, findClass_of_methodNamed B.named, fun w hw => atoms_spec (ws := vX9_clash) B.pre w (List.mem_cons_of_mem _ hw), hK⟩
  obtain ⟨hx, hb, hr, hlocks, -, hown, hts, -⟩ := id C
  have hl := lv_entry ([.ref (gB G 66), .int x1, .int x2]) (n := 3) (Nat.le_of_ble_eq_true rfl)
  rw [lg_entry_eq]
  generalize (lg_sl ([.ref (gB G 66), .int x1, .int x2]) ++ List.replicate (3 - (lg_sl ([.ref (gB G 66), .int x1, .int x2])).length) Slot.unset).toArray = ls at hl ⊢
  have hl : lv_has ls 3 [(0, .ref (gB G 66)), (1, .int x1), (2, .int x2)] := hl
  have hS : SP G s s.heap [] := va_S.rf
  replace hP : WP G h s.heap := hP
  rw [f_X9_clash] at hf
  refine lv_aload_n hx hb dX9_clash_0 rfl (lv_at hl 0 rfl) ?_
  refine lv_iload_n hx hb dX9_clash_1 rfl (lv_at hl 1 rfl) ?_
  obtain ⟨r2, h2, er2, hf⟩ := bP_s hf
  refine r_callI (va_runV (As := [.int x1]) (rest := []) ⟨hx, hb, hml, hown, hts⟩ (k_X9_isLine l hG er2) (cwV 1 hts (gV wd1347 wd1349 wd47 wd82 wd1350) rfl rfl rfl (by decide +kernel) ⟨Nat.le_of_ble_eq_true rfl, Nat.le_of_ble_eq_true rfl⟩) (r_pv hK hP hS (ltX9 rfl) (ceX9 rfl) rfl) rfl rfl hl.1 rfl (lv_room (Nat.le_of_ble_eq_true rfl)) dX9_clash_2 ⟨Nat.le_of_ble_eq_true rfl, Nat.le_of_ble_eq_true rfl⟩) hS (fun H locs hP hS => ?_)
  refine lv_if_eq (tgt := 16) hx hb dX9_clash_5 (by decide) (fun c5 => ?_) (fun c5 => ?_)
  · replace hf := if_t c5 hf
    refine lv_sipush (v := (-1001)) hx hb dX9_clash_16 (by decide) ?_
    exact r_iret hx hb hr hlocks hP hS (re2 (Option.some.inj hf)) dX9_clash_19
  · replace hf := if_f c5 hf
    refine lv_aload_n hx hb dX9_clash_8 rfl (lv_at hl 0 rfl) ?_
    refine lv_iload_n hx hb dX9_clash_9 rfl (lv_at hl 2 rfl) ?_
    obtain ⟨r10, h10, er10, hf⟩ := bP_s hf
    refine r_callI (va_runV (As := [.int x2]) (rest := []) ⟨hx, hb, hml, hown, hts⟩ (k_X9_isChange l hG er10) (cwV 1 hts (gV wd1299 wd1301 wd42 wd82 wd1302) rfl rfl rfl (by decide +kernel) ⟨Nat.le_of_ble_eq_true rfl, Nat.le_of_ble_eq_true rfl⟩) (r_pv hK hP hS (ltX9 rfl) (ceX9 rfl) rfl) rfl rfl hl.1 rfl (lv_room (Nat.le_of_ble_eq_true rfl)) dX9_clash_10 ⟨Nat.le_of_ble_eq_true rfl, Nat.le_of_ble_eq_true rfl⟩) hS (fun H locs hP hS => ?_)
    refine lv_if_ne (tgt := 20) hx hb dX9_clash_13 (by decide) (fun c13 => ?_) (fun c13 => ?_)
    · replace hf := if_f c13 hf
      refine lv_aload_n hx hb dX9_clash_20 rfl (lv_at hl 0 rfl) ?_
      refine r_get (a := 66) (v := .ref (gB G 74)) (C := RX9) (T := TX9) (N := 55) hx hb hts hinX9 hown hK hP (ltX9 rfl) (ceX9 rfl) rfl 10 (by decide) wd1045 rfl dX9_clash_21 ?_
      refine lv_iload_n hx hb dX9_clash_24 rfl (lv_at hl 1 rfl) ?_
      obtain ⟨v25, ev25, hf⟩ := bO_s hf
      refine r_iald hx hb hK hP (arX9_10 rfl) ev25 dX9_clash_25 ?_
      refine lv_iload_n hx hb dX9_clash_26 rfl (lv_at hl 2 rfl) ?_
      obtain ⟨r27, er27, hf⟩ := bO_s hf
      refine r_callI (va_runS (As := [.int v25, .int x2]) (rest := []) ⟨hx, hb, hml, hown, hts⟩ (k_X9_has l hG (h := h10) er27) (va_cwS 2 hts (gS wd1260 wd1261 wd82 wd1262) rfl rfl rfl (by decide +kernel) ⟨Nat.le_of_ble_eq_true rfl, Nat.le_of_ble_eq_true rfl⟩) (r_ps hK hP hS) rfl rfl hl.1 rfl (lv_room (Nat.le_of_ble_eq_true rfl)) dX9_clash_27 ⟨Nat.le_of_ble_eq_true rfl, Nat.le_of_ble_eq_true rfl⟩) hS (fun H locs hP hS => ?_)
      refine lv_if_eq (tgt := 37) hx hb dX9_clash_30 (by decide) (fun c30 => ?_) (fun c30 => ?_)
      · replace hf := if_t c30 hf
        refine lv_aload_n hx hb dX9_clash_37 rfl (lv_at hl 0 rfl) ?_
        refine lv_iload_n hx hb dX9_clash_38 rfl (lv_at hl 1 rfl) ?_
        obtain ⟨h39, eh39, hf⟩ := bO_s hf
        refine r_callV (va_runV (As := [.int x1]) (rest := []) ⟨hx, hb, hml, hown, hts⟩ (k_X9_tryLine l hG eh39) (cwV 1 hts (gV wd1367 wd1369 wd50 wd82 wd1370) rfl rfl rfl (by decide +kernel) ⟨Nat.le_of_ble_eq_true rfl, Nat.le_of_ble_eq_true rfl⟩) (r_pv hK hP hS (ltX9 rfl) (ceX9 rfl) rfl) rfl rfl hl.1 rfl (lv_room (Nat.le_of_ble_eq_true rfl)) dX9_clash_39 ⟨Nat.le_of_ble_eq_true rfl, Nat.le_of_ble_eq_true rfl⟩) hS (fun H locs hP hS => ?_)
        refine lv_aload_n hx hb dX9_clash_42 rfl (lv_at hl 0 rfl) ?_
        refine lv_iload_n hx hb dX9_clash_43 rfl (lv_at hl 2 rfl) ?_
        obtain ⟨r44, h44, er44, hf⟩ := bP_s hf
        refine r_callI (va_runV (As := [.int x2]) (rest := []) ⟨hx, hb, hml, hown, hts⟩ (k_X9_clashOf l hG er44) (cwV 1 hts (gV wd1371 wd1373 wd51 wd82 wd1374) rfl rfl rfl (by decide +kernel) ⟨Nat.le_of_ble_eq_true rfl, Nat.le_of_ble_eq_true rfl⟩) (r_pv hK hP hS (ltX9 rfl) (ceX9 rfl) rfl) rfl rfl hl.1 rfl (lv_room (Nat.le_of_ble_eq_true rfl)) dX9_clash_44 ⟨Nat.le_of_ble_eq_true rfl, Nat.le_of_ble_eq_true rfl⟩) hS (fun H locs hP hS => ?_)
        exact r_iret hx hb hr hlocks hP hS (re2 (Option.some.inj hf)) dX9_clash_47
      · replace hf := if_f c30 hf
        refine lv_sipush (v := (-1003)) hx hb dX9_clash_33 (by decide) ?_
        exact r_iret hx hb hr hlocks hP hS (re2 (Option.some.inj hf)) dX9_clash_36
    · replace hf := if_t c13 hf
      refine lv_sipush (v := (-1001)) hx hb dX9_clash_16 (by decide) ?_
      exact r_iret hx hb hr hlocks hP hS (re2 (Option.some.inj hf)) dX9_clash_19
/-! CarriedBackModel.pick(II)I -/
abbrev rmX9_pick : Room := { frames := 2, cells := 0, slots := 0, locals := 47 }
abbrev vX9_pick : List Cond := Cond.code yX9_pick cX9_pick 3 (some .int) :: GW
def f_X9_pick (x1 : Int32) (x2 : Int32) (h : PH) : Option (Int32 × PH) := bP (f_X9_isLine x1 h) (fun r2 h2 => if r2 = 0 then (some ((-1001), h2)) else (bP (f_X9_isChange x2 h2) (fun r10 h10 => if r10 = 0 then (some ((-1001), h10)) else (bO (f_X9_tryLine x1 h10) (fun h22 => bO (ag h22 74 4 x1) (fun v30 => bO (f_X9_has v30 x2) (fun r32 => if r32 = 0 then (bP (f_X9_clashOf x2 h22) (fun r40 h40 => if r40 = 0 then (bO (f_X9_goOn x2 h40) (fun h52 => bO (f_X9_putLine x1 (1 <<< (x2 &&& 31)) h52) (fun h60 => bO (ag h60 74 4 x1) (fun v68 => bO (f_X9_bits v68) (fun r69 => some (r69, h60)))))) else (some ((-1003), h40)))) else (some ((-1003), h22)))))))))
set_option maxHeartbeats 4000000 in
set_option maxRecDepth 100000 in
theorem k_X9_pick (l : Launch) {G : GC} (hG : GOK G) {x1 : Int32} {x2 : Int32} {rr : Int32} {h hh : PH} (hf : f_X9_pick x1 x2 h = some (rr, hh)) : CI l yX9_pick vX9_pick rmX9_pick G [.ref (gB G 66), .int x1, .int x2] h rr hh := by
  refine Met.ofW (cc := cX9_pick) (maxL := 3) (ret := (some .int)) (by decide +kernel) rfl ?_
  intro p e s m args below meth c s₁ B hml hv
  obtain ⟨rfl, hP, hK⟩ := hv
  have C : MC l G p s m _ meth c RX9 cX9_pick 3 (some .int) := ⟨B.exec, B.bytes, B.returns, B.notSynchronized, hml, findClass_of_methodNamed B.named, fun w hw => atoms_spec (ws := vX9_pick) B.pre w (List.mem_cons_of_mem _ hw), hK⟩
  obtain ⟨hx, hb, hr, hlocks, -, hown, hts, -⟩ := id C
  have hl := lv_entry ([.ref (gB G 66), .int x1, .int x2]) (n := 3) (Nat.le_of_ble_eq_true rfl)
  rw [lg_entry_eq]
  generalize (lg_sl ([.ref (gB G 66), .int x1, .int x2]) ++ List.replicate (3 - (lg_sl ([.ref (gB G 66), .int x1, .int x2])).length) Slot.unset).toArray = ls at hl ⊢
  have hl : lv_has ls 3 [(0, .ref (gB G 66)), (1, .int x1), (2, .int x2)] := hl
  have hS : SP G s s.heap [] := va_S.rf
  replace hP : WP G h s.heap := hP
  rw [f_X9_pick] at hf
  refine lv_aload_n hx hb dX9_pick_0 rfl (lv_at hl 0 rfl) ?_
  refine lv_iload_n hx hb dX9_pick_1 rfl (lv_at hl 1 rfl) ?_
  obtain ⟨r2, h2, er2, hf⟩ := bP_s hf
  refine r_callI (va_runV (As := [.int x1]) (rest := []) ⟨hx, hb, hml, hown, hts⟩ (k_X9_isLine l hG er2) (cwV 1 hts (gV wd1347 wd1349 wd47 wd82 wd1350) rfl rfl rfl (by decide +kernel) ⟨Nat.le_of_ble_eq_true rfl, Nat.le_of_ble_eq_true rfl⟩) (r_pv hK hP hS (ltX9 rfl) (ceX9 rfl) rfl) rfl rfl hl.1 rfl (lv_room (Nat.le_of_ble_eq_true rfl)) dX9_pick_2 ⟨Nat.le_of_ble_eq_true rfl, Nat.le_of_ble_eq_true rfl⟩) hS (fun H locs hP hS => ?_)
  refine lv_if_eq (tgt := 16) hx hb dX9_pick_5 (by decide) (fun c5 => ?_) (fun c5 => ?_)
  · replace hf := if_t c5 hf
    refine lv_sipush (v := (-1001)) hx hb dX9_pick_16 (by decide) ?_
    exact r_iret hx hb hr hlocks hP hS (re2 (Option.some.inj hf)) dX9_pick_19
  · replace hf := if_f c5 hf
    refine lv_aload_n hx hb dX9_pick_8 rfl (lv_at hl 0 rfl) ?_
    refine lv_iload_n hx hb dX9_pick_9 rfl (lv_at hl 2 rfl) ?_
    obtain ⟨r10, h10, er10, hf⟩ := bP_s hf
    refine r_callI (va_runV (As := [.int x2]) (rest := []) ⟨hx, hb, hml, hown, hts⟩ (k_X9_isChange l hG er10) (cwV 1 hts (gV wd1299 wd1301 wd42 wd82 wd1302) rfl rfl rfl (by decide +kernel) ⟨Nat.le_of_ble_eq_true rfl, Nat.le_of_ble_eq_true rfl⟩) (r_pv hK hP hS (ltX9 rfl) (ceX9 rfl) rfl) rfl rfl hl.1 rfl (lv_room (Nat.le_of_ble_eq_true rfl)) dX9_pick_10 ⟨Nat.le_of_ble_eq_true rfl, Nat.le_of_ble_eq_true rfl⟩) hS (fun H locs hP hS => ?_)
    refine lv_if_ne (tgt := 20) hx hb dX9_pick_13 (by decide) (fun c13 => ?_) (fun c13 => ?_)
    · replace hf := if_f c13 hf
      refine lv_aload_n hx hb dX9_pick_20 rfl (lv_at hl 0 rfl) ?_
      refine lv_iload_n hx hb dX9_pick_21 rfl (lv_at hl 1 rfl) ?_
      obtain ⟨h22, eh22, hf⟩ := bO_s hf
      refine r_callV (va_runV (As := [.int x1]) (rest := []) ⟨hx, hb, hml, hown, hts⟩ (k_X9_tryLine l hG eh22) (cwV 1 hts (gV wd1367 wd1369 wd50 wd82 wd1370) rfl rfl rfl (by decide +kernel) ⟨Nat.le_of_ble_eq_true rfl, Nat.le_of_ble_eq_true rfl⟩) (r_pv hK hP hS (ltX9 rfl) (ceX9 rfl) rfl) rfl rfl hl.1 rfl (lv_room (Nat.le_of_ble_eq_true rfl)) dX9_pick_22 ⟨Nat.le_of_ble_eq_true rfl, Nat.le_of_ble_eq_true rfl⟩) hS (fun H locs hP hS => ?_)
      refine lv_aload_n hx hb dX9_pick_25 rfl (lv_at hl 0 rfl) ?_
      refine r_get (a := 66) (v := .ref (gB G 74)) (C := RX9) (T := TX9) (N := 55) hx hb hts hinX9 hown hK hP (ltX9 rfl) (ceX9 rfl) rfl 10 (by decide) wd1045 rfl dX9_pick_26 ?_
      refine lv_iload_n hx hb dX9_pick_29 rfl (lv_at hl 1 rfl) ?_
      obtain ⟨v30, ev30, hf⟩ := bO_s hf
      refine r_iald hx hb hK hP (arX9_10 rfl) ev30 dX9_pick_30 ?_
      refine lv_iload_n hx hb dX9_pick_31 rfl (lv_at hl 2 rfl) ?_
      obtain ⟨r32, er32, hf⟩ := bO_s hf
      refine r_callI (va_runS (As := [.int v30, .int x2]) (rest := []) ⟨hx, hb, hml, hown, hts⟩ (k_X9_has l hG (h := h22) er32) (va_cwS 2 hts (gS wd1260 wd1261 wd82 wd1262) rfl rfl rfl (by decide +kernel) ⟨Nat.le_of_ble_eq_true rfl, Nat.le_of_ble_eq_true rfl⟩) (r_ps hK hP hS) rfl rfl hl.1 rfl (lv_room (Nat.le_of_ble_eq_true rfl)) dX9_pick_32 ⟨Nat.le_of_ble_eq_true rfl, Nat.le_of_ble_eq_true rfl⟩) hS (fun H locs hP hS => ?_)
      refine lv_if_ne (tgt := 46) hx hb dX9_pick_35 (by decide) (fun c35 => ?_) (fun c35 => ?_)
      · replace hf := if_f c35 hf
        refine lv_sipush (v := (-1003)) hx hb dX9_pick_46 (by decide) ?_
        exact r_iret hx hb hr hlocks hP hS (re2 (Option.some.inj hf)) dX9_pick_49
      · replace hf := if_t c35 hf
        refine lv_aload_n hx hb dX9_pick_38 rfl (lv_at hl 0 rfl) ?_
        refine lv_iload_n hx hb dX9_pick_39 rfl (lv_at hl 2 rfl) ?_
        obtain ⟨r40, h40, er40, hf⟩ := bP_s hf
        refine r_callI (va_runV (As := [.int x2]) (rest := []) ⟨hx, hb, hml, hown, hts⟩ (k_X9_clashOf l hG er40) (cwV 1 hts (gV wd1371 wd1373 wd51 wd82 wd1374) rfl rfl rfl (by decide +kernel) ⟨Nat.le_of_ble_eq_true rfl, Nat.le_of_ble_eq_true rfl⟩) (r_pv hK hP hS (ltX9 rfl) (ceX9 rfl) rfl) rfl rfl hl.1 rfl (lv_room (Nat.le_of_ble_eq_true rfl)) dX9_pick_40 ⟨Nat.le_of_ble_eq_true rfl, Nat.le_of_ble_eq_true rfl⟩) hS (fun H locs hP hS => ?_)
        refine lv_if_eq (tgt := 50) hx hb dX9_pick_43 (by decide) (fun c43 => ?_) (fun c43 => ?_)
        · replace hf := if_t c43 hf
          refine lv_aload_n hx hb dX9_pick_50 rfl (lv_at hl 0 rfl) ?_
          refine lv_iload_n hx hb dX9_pick_51 rfl (lv_at hl 2 rfl) ?_
          obtain ⟨h52, eh52, hf⟩ := bO_s hf
          refine r_callV (va_runV (As := [.int x2]) (rest := []) ⟨hx, hb, hml, hown, hts⟩ (k_X9_goOn l hG eh52) (cwV 1 hts (gV wd1379 wd1381 wd52 wd82 wd1382) rfl rfl rfl (by decide +kernel) ⟨Nat.le_of_ble_eq_true rfl, Nat.le_of_ble_eq_true rfl⟩) (r_pv hK hP hS (ltX9 rfl) (ceX9 rfl) rfl) rfl rfl hl.1 rfl (lv_room (Nat.le_of_ble_eq_true rfl)) dX9_pick_52 ⟨Nat.le_of_ble_eq_true rfl, Nat.le_of_ble_eq_true rfl⟩) hS (fun H locs hP hS => ?_)
          refine lv_aload_n hx hb dX9_pick_55 rfl (lv_at hl 0 rfl) ?_
          refine lv_iload_n hx hb dX9_pick_56 rfl (lv_at hl 1 rfl) ?_
          refine lv_iconst (v := 1) hx hb dX9_pick_57 (by decide) ?_
          refine lv_iload_n hx hb dX9_pick_58 rfl (lv_at hl 2 rfl) ?_
          refine lv_ishl hx hb dX9_pick_59 ?_
          obtain ⟨h60, eh60, hf⟩ := bO_s hf
          refine r_callV (va_runV (As := [.int x1, .int (1 <<< (x2 &&& 31))]) (rest := []) ⟨hx, hb, hml, hown, hts⟩ (k_X9_putLine l hG eh60) (cwV 2 hts (gV wd1383 wd1385 wd53 wd82 wd1386) rfl rfl rfl (by decide +kernel) ⟨Nat.le_of_ble_eq_true rfl, Nat.le_of_ble_eq_true rfl⟩) (r_pv hK hP hS (ltX9 rfl) (ceX9 rfl) rfl) rfl rfl hl.1 rfl (lv_room (Nat.le_of_ble_eq_true rfl)) dX9_pick_60 ⟨Nat.le_of_ble_eq_true rfl, Nat.le_of_ble_eq_true rfl⟩) hS (fun H locs hP hS => ?_)
          refine lv_aload_n hx hb dX9_pick_63 rfl (lv_at hl 0 rfl) ?_
          refine r_get (a := 66) (v := .ref (gB G 74)) (C := RX9) (T := TX9) (N := 55) hx hb hts hinX9 hown hK hP (ltX9 rfl) (ceX9 rfl) rfl 10 (by decide) wd1045 rfl dX9_pick_64 ?_
          refine lv_iload_n hx hb dX9_pick_67 rfl (lv_at hl 1 rfl) ?_
          obtain ⟨v68, ev68, hf⟩ := bO_s hf
          refine r_iald hx hb hK hP (arX9_10 rfl) ev68 dX9_pick_68 ?_
          obtain ⟨r69, er69, hf⟩ := bO_s hf
          refine r_callI (va_runS (As := [.int v68]) (rest := []) ⟨hx, hb, hml, hown, hts⟩ (k_X9_bits l hG (h := h60) er69) (va_cwS 1 hts (gS wd1387 wd1388 wd82 wd1389) rfl rfl rfl (by decide +kernel) ⟨Nat.le_of_ble_eq_true rfl, Nat.le_of_ble_eq_true rfl⟩) (r_ps hK hP hS) rfl rfl hl.1 rfl (lv_room (Nat.le_of_ble_eq_true rfl)) dX9_pick_69 ⟨Nat.le_of_ble_eq_true rfl, Nat.le_of_ble_eq_true rfl⟩) hS (fun H locs hP hS => ?_)
          exact r_iret hx hb hr hlocks hP hS (re2 (Option.some.inj hf)) dX9_pick_72
        · replace hf := if_f c43 hf
          refine lv_sipush (v := (-1003)) hx hb dX9_pick_46 (by decide) ?_
          exact r_iret hx hb hr hlocks hP hS (re2 (Option.some.inj hf)) dX9_pick_49
    · replace hf := if_t c13 hf
      refine lv_sipush (v := (-1001)) hx hb dX9_pick_16 (by decide) ?_
      exact r_iret hx hb hr hlocks hP hS (re2 (Option.some.inj hf)) dX9_pick_19
/-! CarriedBackModel.undo(II)I -/
abbrev rmX9_undo : Room := { frames := 2, cells := 0, slots := 0, locals := 46 }
abbrev vX9_undo : List Cond := Cond.code yX9_undo cX9_undo 5 (some .int) :: GW
def f_X9_undo_165 (x1 : Int32) (x2 : Int32) (k110 : Int32 → PH → Option (Int32 × PH)) (x4 : Int32) (t1 : Int32) (t2 : Int32) (h : PH) : Option (Int32 × PH) := bO (asg h 75 64 t1 t2) (fun h165 => k110 (x4 + 1) h165)
set_option maxHeartbeats 4000000 in
set_option maxRecDepth 100000 in
theorem w_X9_undo_165 {l : Launch} {G : GC} (hG : GOK G) {rr : Int32} {hh : PH} {p : Program} {e : Env} {s : State} {m : MethodId} {args : Array Value} {below : List Frame} {meth : Method} {c : Code} (C : MC l G p s m args meth c RX9 cX9_undo 5 (some .int)) (x1 : Int32) (x2 : Int32) (k110 : Int32 → PH → Option (Int32 × PH)) (hk110 : ∀ (x4 : Int32) (h : PH) (H : Heap) (locs : List Loc) (ls : Array Slot), lv_has ls 5 [(0, .ref (gB G 66)), (1, .int x1), (2, .int x2), (4, .int x4)] → WP G h H → SP G s H locs → k110 x4 h = some (rr, hh) → W p l e rmX9_undo s m args below meth c H locs 0 0 (MQ below (QI G rr hh) args s 0 0 (gA G)) (F0 m 110 ls [])) : ∀ (x4 : Int32) (t1 : Int32) (t2 : Int32) (h : PH) (H : Heap) (locs : List Loc) (ls : Array Slot), lv_has ls 5 [(0, .ref (gB G 66)), (1, .int x1), (2, .int x2), (4, .int x4)] → WP G h H → SP G s H locs → f_X9_undo_165 x1 x2 k110 x4 t1 t2 h = some (rr, hh) → W p l e rmX9_undo s m args below meth c H locs 0 0 (MQ below (QI G rr hh) args s 0 0 (gA G)) (F0 m 165 ls [.int t2, .int t1, .ref (gB G 75)]) := by
  obtain ⟨hx, hb, hr, hlocks, hml, hown, hts, hK⟩ := id C
  intro x4 t1 t2 h H locs ls hl hP hS hf
  rw [f_X9_undo_165] at hf
  obtain ⟨h165, eh165, hf⟩ := bO_s hf
  refine r_iast hG hx hb hK hP hS (arX9_11 rfl) eh165 dX9_undo_165 (fun H locs hP hS => ?_)
  refine lv_iinc (v := (x4 + 1)) (lv' := [(4, .int (x4 + 1)), (0, .ref (gB G 66)), (1, .int x1), (2, .int x2)]) hx hb dX9_undo_166 hl (k := 3) rfl rfl (by decide) rfl (fun ls hl => ?_)
  refine lv_goto (tgt := 110) hx hb dX9_undo_169 (by decide) ?_
  exact hk110 (x4 + 1) h165 _ _ _ (lv_sub hl [1, 2, 3, 0] rfl) hP hS hf
def f_X9_undo_110 (x1 : Int32) (x2 : Int32) : Nat → Int32 → PH → Option (Int32 × PH)
  | 0, _, _ => none
  | n + 1, x4, h => if (16 : Int32) ≤ x4 then (bO (ag h 74 4 x1) (fun v178 => bO (asg h 74 4 x1 (v178 &&& ((1 <<< (x2 &&& 31)) ^^^ (-1)))) (fun h185 => bO (ag h185 74 4 x1) (fun v191 => bO (f_X9_bits v191) (fun r192 => some (r192, h185)))))) else (bO (ag h 67 384 ((16 * x2) + x4)) (fun v139 => if v139 = 0 then (bO (ag h 75 64 ((16 * x1) + x4)) (fun v154 => f_X9_undo_165 x1 x2 (f_X9_undo_110 x1 x2 n) x4 ((16 * x1) + x4) v154 h)) else (bP (f_X9_aheadOf x2 x4 h) (fun r162 h162 => f_X9_undo_165 x1 x2 (f_X9_undo_110 x1 x2 n) x4 ((16 * x1) + x4) r162 h162))))
set_option maxHeartbeats 4000000 in
set_option maxRecDepth 100000 in
theorem w_X9_undo_110 {l : Launch} {G : GC} (hG : GOK G) {rr : Int32} {hh : PH} {p : Program} {e : Env} {s : State} {m : MethodId} {args : Array Value} {below : List Frame} {meth : Method} {c : Code} (C : MC l G p s m args meth c RX9 cX9_undo 5 (some .int)) (x1 : Int32) (x2 : Int32) : ∀ (n : Nat) (x4 : Int32) (h : PH) (H : Heap) (locs : List Loc) (ls : Array Slot), lv_has ls 5 [(0, .ref (gB G 66)), (1, .int x1), (2, .int x2), (4, .int x4)] → WP G h H → SP G s H locs → f_X9_undo_110 x1 x2 n x4 h = some (rr, hh) → W p l e rmX9_undo s m args below meth c H locs 0 0 (MQ below (QI G rr hh) args s 0 0 (gA G)) (F0 m 110 ls []) := by
  obtain ⟨hx, hb, hr, hlocks, hml, hown, hts, hK⟩ := id C
  intro n
  induction n with
  | zero => intro x4 h H locs ls hl hP hS hf; rw [f_X9_undo_110] at hf; cases hf
  | succ n ih =>
    intro x4 h H locs ls hl hP hS hf
    rw [f_X9_undo_110] at hf
    refine lv_iload hx hb dX9_undo_110 (lv_at hl 3 rfl) ?_
    refine lv_bipush (v := 16) hx hb dX9_undo_112 (by decide) ?_
    refine lv_icmp_ge (tgt := 172) hx hb dX9_undo_114 (by decide) (fun c114 => ?_) (fun c114 => ?_)
    · replace hf := if_t c114 hf
      refine lv_aload_n hx hb dX9_undo_172 rfl (lv_at hl 0 rfl) ?_
      refine r_get (a := 66) (v := .ref (gB G 74)) (C := RX9) (T := TX9) (N := 55) hx hb hts hinX9 hown hK hP (ltX9 rfl) (ceX9 rfl) rfl 10 (by decide) wd1045 rfl dX9_undo_173 ?_
      refine lv_iload_n hx hb dX9_undo_176 rfl (lv_at hl 1 rfl) ?_
      refine lv_dup2_11 hx hb dX9_undo_177 rfl rfl ?_
      obtain ⟨v178, ev178, hf⟩ := bO_s hf
      refine r_iald hx hb hK hP (arX9_10 rfl) ev178 dX9_undo_178 ?_
      refine lv_iconst (v := 1) hx hb dX9_undo_179 (by decide) ?_
      refine lv_iload_n hx hb dX9_undo_180 rfl (lv_at hl 2 rfl) ?_
      refine lv_ishl hx hb dX9_undo_181 ?_
      refine lv_iconst (v := (-1)) hx hb dX9_undo_182 (by decide) ?_
      refine lv_ixor hx hb dX9_undo_183 ?_
      refine lv_iand hx hb dX9_undo_184 ?_
      obtain ⟨h185, eh185, hf⟩ := bO_s hf
      refine r_iast hG hx hb hK hP hS (arX9_10 rfl) eh185 dX9_undo_185 (fun H locs hP hS => ?_)
      refine lv_aload_n hx hb dX9_undo_186 rfl (lv_at hl 0 rfl) ?_
      refine r_get (a := 66) (v := .ref (gB G 74)) (C := RX9) (T := TX9) (N := 55) hx hb hts hinX9 hown hK hP (ltX9 rfl) (ceX9 rfl) rfl 10 (by decide) wd1045 rfl dX9_undo_187 ?_
      refine lv_iload_n hx hb dX9_undo_190 rfl (lv_at hl 1 rfl) ?_
      obtain ⟨v191, ev191, hf⟩ := bO_s hf
      refine r_iald hx hb hK hP (arX9_10 rfl) ev191 dX9_undo_191 ?_
      obtain ⟨r192, er192, hf⟩ := bO_s hf
      refine r_callI (va_runS (As := [.int v191]) (rest := []) ⟨hx, hb, hml, hown, hts⟩ (k_X9_bits l hG (h := h185) er192) (va_cwS 1 hts (gS wd1387 wd1388 wd82 wd1389) rfl rfl rfl (by decide +kernel) ⟨Nat.le_of_ble_eq_true rfl, Nat.le_of_ble_eq_true rfl⟩) (r_ps hK hP hS) rfl rfl hl.1 rfl (lv_room (Nat.le_of_ble_eq_true rfl)) dX9_undo_192 ⟨Nat.le_of_ble_eq_true rfl, Nat.le_of_ble_eq_true rfl⟩) hS (fun H locs hP hS => ?_)
      exact r_iret hx hb hr hlocks hP hS (re2 (Option.some.inj hf)) dX9_undo_195
    · replace hf := if_f c114 hf
      refine lv_aload_n hx hb dX9_undo_117 rfl (lv_at hl 0 rfl) ?_
      refine r_get (a := 66) (v := .ref (gB G 75)) (C := RX9) (T := TX9) (N := 55) hx hb hts hinX9 hown hK hP (ltX9 rfl) (ceX9 rfl) rfl 11 (by decide) wd1046 rfl dX9_undo_118 ?_
      refine lv_bipush (v := 16) hx hb dX9_undo_121 (by decide) ?_
      refine lv_iload_n hx hb dX9_undo_123 rfl (lv_at hl 1 rfl) ?_
      refine lv_imul hx hb dX9_undo_124 ?_
      refine lv_iload hx hb dX9_undo_125 (lv_at hl 3 rfl) ?_
      refine lv_iadd hx hb dX9_undo_127 ?_
      refine lv_aload_n hx hb dX9_undo_128 rfl (lv_at hl 0 rfl) ?_
      refine r_get (a := 66) (v := .ref (gB G 67)) (C := RX9) (T := TX9) (N := 55) hx hb hts hinX9 hown hK hP (ltX9 rfl) (ceX9 rfl) rfl 1 (by decide) wd1036 rfl dX9_undo_129 ?_
      refine lv_bipush (v := 16) hx hb dX9_undo_132 (by decide) ?_
      refine lv_iload_n hx hb dX9_undo_134 rfl (lv_at hl 2 rfl) ?_
      refine lv_imul hx hb dX9_undo_135 ?_
      refine lv_iload hx hb dX9_undo_136 (lv_at hl 3 rfl) ?_
      refine lv_iadd hx hb dX9_undo_138 ?_
      obtain ⟨v139, ev139, hf⟩ := bO_s hf
      refine r_iald hx hb hK hP (arX9_1 rfl) ev139 dX9_undo_139 ?_
      refine lv_if_ne (tgt := 158) hx hb dX9_undo_140 (by decide) (fun c140 => ?_) (fun c140 => ?_)
      · replace hf := if_f c140 hf
        refine lv_aload_n hx hb dX9_undo_158 rfl (lv_at hl 0 rfl) ?_
        refine lv_iload_n hx hb dX9_undo_159 rfl (lv_at hl 2 rfl) ?_
        refine lv_iload hx hb dX9_undo_160 (lv_at hl 3 rfl) ?_
        obtain ⟨r162, h162, er162, hf⟩ := bP_s hf
        refine r_callI (va_runV (As := [.int x2, .int x4]) (rest := [.int ((16 * x1) + x4), .ref (gB G 75)]) ⟨hx, hb, hml, hown, hts⟩ (k_X9_aheadOf l hG er162) (cwV 2 hts (gV wd1323 wd1325 wd45 wd82 wd1326) rfl rfl rfl (by decide +kernel) ⟨Nat.le_of_ble_eq_true rfl, Nat.le_of_ble_eq_true rfl⟩) (r_pv hK hP hS (ltX9 rfl) (ceX9 rfl) rfl) rfl rfl hl.1 rfl (lv_room (Nat.le_of_ble_eq_true rfl)) dX9_undo_162 ⟨Nat.le_of_ble_eq_true rfl, Nat.le_of_ble_eq_true rfl⟩) hS (fun H locs hP hS => ?_)
        exact w_X9_undo_165 hG C x1 x2 (f_X9_undo_110 x1 x2 n) ih x4 ((16 * x1) + x4) r162 h162 _ _ _ (lv_sub hl [0, 1, 2, 3] rfl) hP hS hf
      · replace hf := if_t c140 hf
        refine lv_aload_n hx hb dX9_undo_143 rfl (lv_at hl 0 rfl) ?_
        refine r_get (a := 66) (v := .ref (gB G 75)) (C := RX9) (T := TX9) (N := 55) hx hb hts hinX9 hown hK hP (ltX9 rfl) (ceX9 rfl) rfl 11 (by decide) wd1046 rfl dX9_undo_144 ?_
        refine lv_bipush (v := 16) hx hb dX9_undo_147 (by decide) ?_
        refine lv_iload_n hx hb dX9_undo_149 rfl (lv_at hl 1 rfl) ?_
        refine lv_imul hx hb dX9_undo_150 ?_
        refine lv_iload hx hb dX9_undo_151 (lv_at hl 3 rfl) ?_
        refine lv_iadd hx hb dX9_undo_153 ?_
        obtain ⟨v154, ev154, hf⟩ := bO_s hf
        refine r_iald hx hb hK hP (arX9_11 rfl) ev154 dX9_undo_154 ?_
        refine lv_goto (tgt := 165) hx hb dX9_undo_155 (by decide) ?_
        exact w_X9_undo_165 hG C x1 x2 (f_X9_undo_110 x1 x2 n) ih x4 ((16 * x1) + x4) v154 h _ _ _ (lv_sub hl [0, 1, 2, 3] rfl) hP hS hf
def f_X9_undo_34 (x1 : Int32) (x2 : Int32) : Nat → Int32 → Int32 → PH → Option (Int32 × PH)
  | 0, _, _, _ => none
  | n + 1, x3, x4, h => if (16 : Int32) ≤ x4 then (if x3 = 0 then (some ((-1003), h)) else (f_X9_undo_110 x1 x2 FU 0 h)) else (if x3 = 0 then ((f_X9_undo_34 x1 x2 n) 0 (x4 + 1) h) else (bO (ag h 67 384 ((16 * x2) + x4)) (fun v56 => if v56 = 0 then ((f_X9_undo_34 x1 x2 n) 1 (x4 + 1) h) else (bO (ag h 75 64 ((16 * x1) + x4)) (fun v71 => bO (ag h 67 384 ((16 * x2) + x4)) (fun v83 => if v71 = v83 then ((f_X9_undo_34 x1 x2 n) 1 (x4 + 1) h) else ((f_X9_undo_34 x1 x2 n) 0 (x4 + 1) h)))))))
set_option maxHeartbeats 4000000 in
set_option maxRecDepth 100000 in
theorem w_X9_undo_34 {l : Launch} {G : GC} (hG : GOK G) {rr : Int32} {hh : PH} {p : Program} {e : Env} {s : State} {m : MethodId} {args : Array Value} {below : List Frame} {meth : Method} {c : Code} (C : MC l G p s m args meth c RX9 cX9_undo 5 (some .int)) (x1 : Int32) (x2 : Int32) : ∀ (n : Nat) (x3 : Int32) (x4 : Int32) (h : PH) (H : Heap) (locs : List Loc) (ls : Array Slot), lv_has ls 5 [(0, .ref (gB G 66)), (1, .int x1), (2, .int x2), (3, .int x3), (4, .int x4)] → WP G h H → SP G s H locs → f_X9_undo_34 x1 x2 n x3 x4 h = some (rr, hh) → W p l e rmX9_undo s m args below meth c H locs 0 0 (MQ below (QI G rr hh) args s 0 0 (gA G)) (F0 m 34 ls []) := by
  obtain ⟨hx, hb, hr, hlocks, hml, hown, hts, hK⟩ := id C
  intro n
  induction n with
  | zero => intro x3 x4 h H locs ls hl hP hS hf; rw [f_X9_undo_34] at hf; cases hf
  | succ n ih =>
    intro x3 x4 h H locs ls hl hP hS hf
    rw [f_X9_undo_34] at hf
    refine lv_iload hx hb dX9_undo_34 (lv_at hl 4 rfl) ?_
    refine lv_bipush (v := 16) hx hb dX9_undo_36 (by decide) ?_
    refine lv_icmp_ge (tgt := 99) hx hb dX9_undo_38 (by decide) (fun c38 => ?_) (fun c38 => ?_)
    · replace hf := if_t c38 hf
      refine lv_iload_n hx hb dX9_undo_99 rfl (lv_at hl 3 rfl) ?_
      refine lv_if_ne (tgt := 107) hx hb dX9_undo_100 (by decide) (fun c100 => ?_) (fun c100 => ?_)
      · replace hf := if_f c100 hf
        refine lv_iconst (v := 0) hx hb dX9_undo_107 (by decide) ?_
        refine lv_istore (lv' := [(4, .int 0), (0, .ref (gB G 66)), (1, .int x1), (2, .int x2), (3, .int x3)]) hx hb dX9_undo_108 hl (by decide) rfl (fun ls hl => ?_)
        exact w_X9_undo_110 hG C x1 x2 FU 0 h _ _ _ (lv_sub hl [1, 2, 3, 0] rfl) hP hS hf
      · replace hf := if_t c100 hf
        refine lv_sipush (v := (-1003)) hx hb dX9_undo_103 (by decide) ?_
        exact r_iret hx hb hr hlocks hP hS (re2 (Option.some.inj hf)) dX9_undo_106
    · replace hf := if_f c38 hf
      refine lv_iload_n hx hb dX9_undo_41 rfl (lv_at hl 3 rfl) ?_
      refine lv_if_eq (tgt := 91) hx hb dX9_undo_42 (by decide) (fun c42 => ?_) (fun c42 => ?_)
      · replace hf := if_t c42 hf
        refine lv_iconst (v := 0) hx hb dX9_undo_91 (by decide) ?_
        refine lv_istore_n (lv' := [(3, .int 0), (0, .ref (gB G 66)), (1, .int x1), (2, .int x2), (4, .int x4)]) hx hb dX9_undo_92 rfl hl (by decide) rfl (fun ls hl => ?_)
        refine lv_iinc (v := (x4 + 1)) (lv' := [(4, .int (x4 + 1)), (3, .int 0), (0, .ref (gB G 66)), (1, .int x1), (2, .int x2)]) hx hb dX9_undo_93 hl (k := 4) rfl rfl (by decide) rfl (fun ls hl => ?_)
        refine lv_goto (tgt := 34) hx hb dX9_undo_96 (by decide) ?_
        exact ih 0 (x4 + 1) h _ _ _ (lv_sub hl [2, 3, 4, 1, 0] rfl) hP hS hf
      · replace hf := if_f c42 hf
        refine lv_aload_n hx hb dX9_undo_45 rfl (lv_at hl 0 rfl) ?_
        refine r_get (a := 66) (v := .ref (gB G 67)) (C := RX9) (T := TX9) (N := 55) hx hb hts hinX9 hown hK hP (ltX9 rfl) (ceX9 rfl) rfl 1 (by decide) wd1036 rfl dX9_undo_46 ?_
        refine lv_bipush (v := 16) hx hb dX9_undo_49 (by decide) ?_
        refine lv_iload_n hx hb dX9_undo_51 rfl (lv_at hl 2 rfl) ?_
        refine lv_imul hx hb dX9_undo_52 ?_
        refine lv_iload hx hb dX9_undo_53 (lv_at hl 4 rfl) ?_
        refine lv_iadd hx hb dX9_undo_55 ?_
        obtain ⟨v56, ev56, hf⟩ := bO_s hf
        refine r_iald hx hb hK hP (arX9_1 rfl) ev56 dX9_undo_56 ?_
        refine lv_if_eq (tgt := 87) hx hb dX9_undo_57 (by decide) (fun c57 => ?_) (fun c57 => ?_)
        · replace hf := if_t c57 hf
          refine lv_iconst (v := 1) hx hb dX9_undo_87 (by decide) ?_
          refine lv_goto (tgt := 92) hx hb dX9_undo_88 (by decide) ?_
          refine lv_istore_n (lv' := [(3, .int 1), (0, .ref (gB G 66)), (1, .int x1), (2, .int x2), (4, .int x4)]) hx hb dX9_undo_92 rfl hl (by decide) rfl (fun ls hl => ?_)
          refine lv_iinc (v := (x4 + 1)) (lv' := [(4, .int (x4 + 1)), (3, .int 1), (0, .ref (gB G 66)), (1, .int x1), (2, .int x2)]) hx hb dX9_undo_93 hl (k := 4) rfl rfl (by decide) rfl (fun ls hl => ?_)
          refine lv_goto (tgt := 34) hx hb dX9_undo_96 (by decide) ?_
          exact ih 1 (x4 + 1) h _ _ _ (lv_sub hl [2, 3, 4, 1, 0] rfl) hP hS hf
        · replace hf := if_f c57 hf
          refine lv_aload_n hx hb dX9_undo_60 rfl (lv_at hl 0 rfl) ?_
          refine r_get (a := 66) (v := .ref (gB G 75)) (C := RX9) (T := TX9) (N := 55) hx hb hts hinX9 hown hK hP (ltX9 rfl) (ceX9 rfl) rfl 11 (by decide) wd1046 rfl dX9_undo_61 ?_
          refine lv_bipush (v := 16) hx hb dX9_undo_64 (by decide) ?_
          refine lv_iload_n hx hb dX9_undo_66 rfl (lv_at hl 1 rfl) ?_
          refine lv_imul hx hb dX9_undo_67 ?_
          refine lv_iload hx hb dX9_undo_68 (lv_at hl 4 rfl) ?_
          refine lv_iadd hx hb dX9_undo_70 ?_
          obtain ⟨v71, ev71, hf⟩ := bO_s hf
          refine r_iald hx hb hK hP (arX9_11 rfl) ev71 dX9_undo_71 ?_
          refine lv_aload_n hx hb dX9_undo_72 rfl (lv_at hl 0 rfl) ?_
          refine r_get (a := 66) (v := .ref (gB G 67)) (C := RX9) (T := TX9) (N := 55) hx hb hts hinX9 hown hK hP (ltX9 rfl) (ceX9 rfl) rfl 1 (by decide) wd1036 rfl dX9_undo_73 ?_
          refine lv_bipush (v := 16) hx hb dX9_undo_76 (by decide) ?_
          refine lv_iload_n hx hb dX9_undo_78 rfl (lv_at hl 2 rfl) ?_
          refine lv_imul hx hb dX9_undo_79 ?_
          refine lv_iload hx hb dX9_undo_80 (lv_at hl 4 rfl) ?_
          refine lv_iadd hx hb dX9_undo_82 ?_
          obtain ⟨v83, ev83, hf⟩ := bO_s hf
          refine r_iald hx hb hK hP (arX9_1 rfl) ev83 dX9_undo_83 ?_
          refine lv_icmp_ne (tgt := 91) hx hb dX9_undo_84 (by decide) (fun c84 => ?_) (fun c84 => ?_)
          · replace hf := if_f c84 hf
            refine lv_iconst (v := 0) hx hb dX9_undo_91 (by decide) ?_
            refine lv_istore_n (lv' := [(3, .int 0), (0, .ref (gB G 66)), (1, .int x1), (2, .int x2), (4, .int x4)]) hx hb dX9_undo_92 rfl hl (by decide) rfl (fun ls hl => ?_)
            refine lv_iinc (v := (x4 + 1)) (lv' := [(4, .int (x4 + 1)), (3, .int 0), (0, .ref (gB G 66)), (1, .int x1), (2, .int x2)]) hx hb dX9_undo_93 hl (k := 4) rfl rfl (by decide) rfl (fun ls hl => ?_)
            refine lv_goto (tgt := 34) hx hb dX9_undo_96 (by decide) ?_
            exact ih 0 (x4 + 1) h _ _ _ (lv_sub hl [2, 3, 4, 1, 0] rfl) hP hS hf
          · replace hf := if_t c84 hf
            refine lv_iconst (v := 1) hx hb dX9_undo_87 (by decide) ?_
            refine lv_goto (tgt := 92) hx hb dX9_undo_88 (by decide) ?_
            refine lv_istore_n (lv' := [(3, .int 1), (0, .ref (gB G 66)), (1, .int x1), (2, .int x2), (4, .int x4)]) hx hb dX9_undo_92 rfl hl (by decide) rfl (fun ls hl => ?_)
            refine lv_iinc (v := (x4 + 1)) (lv' := [(4, .int (x4 + 1)), (3, .int 1), (0, .ref (gB G 66)), (1, .int x1), (2, .int x2)]) hx hb dX9_undo_93 hl (k := 4) rfl rfl (by decide) rfl (fun ls hl => ?_)
            refine lv_goto (tgt := 34) hx hb dX9_undo_96 (by decide) ?_
            exact ih 1 (x4 + 1) h _ _ _ (lv_sub hl [2, 3, 4, 1, 0] rfl) hP hS hf
def f_X9_undo (x1 : Int32) (x2 : Int32) (h : PH) : Option (Int32 × PH) := bP (f_X9_isLine x1 h) (fun r2 h2 => if r2 = 0 then (some ((-1001), h2)) else (bP (f_X9_isChange x2 h2) (fun r10 h10 => if r10 = 0 then (some ((-1001), h10)) else (bO (ag h10 74 4 x1) (fun v25 => bO (f_X9_has v25 x2) (fun r27 => f_X9_undo_34 x1 x2 FU r27 0 h10))))))
set_option maxHeartbeats 4000000 in
set_option maxRecDepth 100000 in
theorem k_X9_undo (l : Launch) {G : GC} (hG : GOK G) {x1 : Int32} {x2 : Int32} {rr : Int32} {h hh : PH} (hf : f_X9_undo x1 x2 h = some (rr, hh)) : CI l yX9_undo vX9_undo rmX9_undo G [.ref (gB G 66), .int x1, .int x2] h rr hh := by
  refine Met.ofW (cc := cX9_undo) (maxL := 5) (ret := (some .int)) (by decide +kernel) rfl ?_
  intro p e s m args below meth c s₁ B hml hv
  obtain ⟨rfl, hP, hK⟩ := hv
  have C : MC l G p s m _ meth c RX9 cX9_undo 5 (some .int) := ⟨B.exec, B.bytes, B.returns, B.notSynchronized, hml, findClass_of_methodNamed B.named, fun w hw => atoms_spec (ws := vX9_undo) B.pre w (List.mem_cons_of_mem _ hw), hK⟩
  obtain ⟨hx, hb, hr, hlocks, -, hown, hts, -⟩ := id C
  have hl := lv_entry ([.ref (gB G 66), .int x1, .int x2]) (n := 5) (Nat.le_of_ble_eq_true rfl)
  rw [lg_entry_eq]
  generalize (lg_sl ([.ref (gB G 66), .int x1, .int x2]) ++ List.replicate (5 - (lg_sl ([.ref (gB G 66), .int x1, .int x2])).length) Slot.unset).toArray = ls at hl ⊢
  have hl : lv_has ls 5 [(0, .ref (gB G 66)), (1, .int x1), (2, .int x2)] := hl
  have hS : SP G s s.heap [] := va_S.rf
  replace hP : WP G h s.heap := hP
  rw [f_X9_undo] at hf
  refine lv_aload_n hx hb dX9_undo_0 rfl (lv_at hl 0 rfl) ?_
  refine lv_iload_n hx hb dX9_undo_1 rfl (lv_at hl 1 rfl) ?_
  obtain ⟨r2, h2, er2, hf⟩ := bP_s hf
  refine r_callI (va_runV (As := [.int x1]) (rest := []) ⟨hx, hb, hml, hown, hts⟩ (k_X9_isLine l hG er2) (cwV 1 hts (gV wd1347 wd1349 wd47 wd82 wd1350) rfl rfl rfl (by decide +kernel) ⟨Nat.le_of_ble_eq_true rfl, Nat.le_of_ble_eq_true rfl⟩) (r_pv hK hP hS (ltX9 rfl) (ceX9 rfl) rfl) rfl rfl hl.1 rfl (lv_room (Nat.le_of_ble_eq_true rfl)) dX9_undo_2 ⟨Nat.le_of_ble_eq_true rfl, Nat.le_of_ble_eq_true rfl⟩) hS (fun H locs hP hS => ?_)
  refine lv_if_eq (tgt := 16) hx hb dX9_undo_5 (by decide) (fun c5 => ?_) (fun c5 => ?_)
  · replace hf := if_t c5 hf
    refine lv_sipush (v := (-1001)) hx hb dX9_undo_16 (by decide) ?_
    exact r_iret hx hb hr hlocks hP hS (re2 (Option.some.inj hf)) dX9_undo_19
  · replace hf := if_f c5 hf
    refine lv_aload_n hx hb dX9_undo_8 rfl (lv_at hl 0 rfl) ?_
    refine lv_iload_n hx hb dX9_undo_9 rfl (lv_at hl 2 rfl) ?_
    obtain ⟨r10, h10, er10, hf⟩ := bP_s hf
    refine r_callI (va_runV (As := [.int x2]) (rest := []) ⟨hx, hb, hml, hown, hts⟩ (k_X9_isChange l hG er10) (cwV 1 hts (gV wd1299 wd1301 wd42 wd82 wd1302) rfl rfl rfl (by decide +kernel) ⟨Nat.le_of_ble_eq_true rfl, Nat.le_of_ble_eq_true rfl⟩) (r_pv hK hP hS (ltX9 rfl) (ceX9 rfl) rfl) rfl rfl hl.1 rfl (lv_room (Nat.le_of_ble_eq_true rfl)) dX9_undo_10 ⟨Nat.le_of_ble_eq_true rfl, Nat.le_of_ble_eq_true rfl⟩) hS (fun H locs hP hS => ?_)
    refine lv_if_ne (tgt := 20) hx hb dX9_undo_13 (by decide) (fun c13 => ?_) (fun c13 => ?_)
    · replace hf := if_f c13 hf
      refine lv_aload_n hx hb dX9_undo_20 rfl (lv_at hl 0 rfl) ?_
      refine r_get (a := 66) (v := .ref (gB G 74)) (C := RX9) (T := TX9) (N := 55) hx hb hts hinX9 hown hK hP (ltX9 rfl) (ceX9 rfl) rfl 10 (by decide) wd1045 rfl dX9_undo_21 ?_
      refine lv_iload_n hx hb dX9_undo_24 rfl (lv_at hl 1 rfl) ?_
      obtain ⟨v25, ev25, hf⟩ := bO_s hf
      refine r_iald hx hb hK hP (arX9_10 rfl) ev25 dX9_undo_25 ?_
      refine lv_iload_n hx hb dX9_undo_26 rfl (lv_at hl 2 rfl) ?_
      obtain ⟨r27, er27, hf⟩ := bO_s hf
      refine r_callI (va_runS (As := [.int v25, .int x2]) (rest := []) ⟨hx, hb, hml, hown, hts⟩ (k_X9_has l hG (h := h10) er27) (va_cwS 2 hts (gS wd1260 wd1261 wd82 wd1262) rfl rfl rfl (by decide +kernel) ⟨Nat.le_of_ble_eq_true rfl, Nat.le_of_ble_eq_true rfl⟩) (r_ps hK hP hS) rfl rfl hl.1 rfl (lv_room (Nat.le_of_ble_eq_true rfl)) dX9_undo_27 ⟨Nat.le_of_ble_eq_true rfl, Nat.le_of_ble_eq_true rfl⟩) hS (fun H locs hP hS => ?_)
      refine lv_istore_n (lv' := [(3, .int r27), (0, .ref (gB G 66)), (1, .int x1), (2, .int x2)]) hx hb dX9_undo_30 rfl hl (by decide) rfl (fun ls hl => ?_)
      refine lv_iconst (v := 0) hx hb dX9_undo_31 (by decide) ?_
      refine lv_istore (lv' := [(4, .int 0), (3, .int r27), (0, .ref (gB G 66)), (1, .int x1), (2, .int x2)]) hx hb dX9_undo_32 hl (by decide) rfl (fun ls hl => ?_)
      exact w_X9_undo_34 hG C x1 x2 FU r27 0 h10 _ _ _ (lv_sub hl [2, 3, 4, 1, 0] rfl) hP hS hf
    · replace hf := if_t c13 hf
      refine lv_sipush (v := (-1001)) hx hb dX9_undo_16 (by decide) ?_
      exact r_iret hx hb hr hlocks hP hS (re2 (Option.some.inj hf)) dX9_undo_19
/-! CarriedBackModel.needsOf(II)I -/
abbrev rmX9_needsOf : Room := { frames := 3, cells := 0, slots := 0, locals := 70 }
abbrev vX9_needsOf : List Cond := Cond.code yX9_needsOf cX9_needsOf 8 (some .int) :: GW
def f_X9_needsOf_56 (x1 : Int32) (x2 : Int32) (x4 : Int32) (x5 : Int32) (k25 : Int32 → Int32 → PH → Option (Int32 × PH)) : Nat → Int32 → Int32 → PH → Option (Int32 × PH)
  | 0, _, _, _ => none
  | n + 1, x3, x6, h => if (16 : Int32) ≤ x6 then (k25 x3 (x4 + (-1)) h) else (bO (f_X9_has x5 x6) (fun r67 => if r67 = 0 then ((f_X9_needsOf_56 x1 x2 x4 x5 k25 n) x3 (x6 + 1) h) else (bP (f_X9_setter x4 x6 h) (fun r78 h78 => if r78 < 0 then (some ((-1), h78)) else (bO (ag h78 74 4 x1) (fun v93 => bO (f_X9_has v93 r78) (fun r96 => if r96 = 0 then (lt' ((x3 ||| (1 <<< (r78 &&& 31)))) (fun x3_110 => (f_X9_needsOf_56 x1 x2 x4 x5 k25 n) x3_110 (x6 + 1) h78)) else (some ((-1), h78)))))))))
set_option maxHeartbeats 4000000 in
set_option maxRecDepth 100000 in
theorem w_X9_needsOf_56 {l : Launch} {G : GC} (hG : GOK G) {rr : Int32} {hh : PH} {p : Program} {e : Env} {s : State} {m : MethodId} {args : Array Value} {below : List Frame} {meth : Method} {c : Code} (C : MC l G p s m args meth c RX9 cX9_needsOf 8 (some .int)) (x1 : Int32) (x2 : Int32) (x4 : Int32) (x5 : Int32) (k25 : Int32 → Int32 → PH → Option (Int32 × PH)) (hk25 : ∀ (x3 : Int32) (x4 : Int32) (h : PH) (H : Heap) (locs : List Loc) (ls : Array Slot), lv_has ls 8 [(0, .ref (gB G 66)), (1, .int x1), (2, .int x2), (3, .int x3), (4, .int x4)] → WP G h H → SP G s H locs → k25 x3 x4 h = some (rr, hh) → W p l e rmX9_needsOf s m args below meth c H locs 0 0 (MQ below (QI G rr hh) args s 0 0 (gA G)) (F0 m 25 ls [])) : ∀ (n : Nat) (x3 : Int32) (x6 : Int32) (h : PH) (H : Heap) (locs : List Loc) (ls : Array Slot), lv_has ls 8 [(0, .ref (gB G 66)), (1, .int x1), (2, .int x2), (3, .int x3), (4, .int x4), (5, .int x5), (6, .int x6)] → WP G h H → SP G s H locs → f_X9_needsOf_56 x1 x2 x4 x5 k25 n x3 x6 h = some (rr, hh) → W p l e rmX9_needsOf s m args below meth c H locs 0 0 (MQ below (QI G rr hh) args s 0 0 (gA G)) (F0 m 56 ls []) := by
  obtain ⟨hx, hb, hr, hlocks, hml, hown, hts, hK⟩ := id C
  intro n
  induction n with
  | zero => intro x3 x6 h H locs ls hl hP hS hf; rw [f_X9_needsOf_56] at hf; cases hf
  | succ n ih =>
    intro x3 x6 h H locs ls hl hP hS hf
    rw [f_X9_needsOf_56] at hf
    refine lv_iload hx hb dX9_needsOf_56 (lv_at hl 6 rfl) ?_
    refine lv_bipush (v := 16) hx hb dX9_needsOf_58 (by decide) ?_
    refine lv_icmp_ge (tgt := 117) hx hb dX9_needsOf_60 (by decide) (fun c60 => ?_) (fun c60 => ?_)
    · replace hf := if_t c60 hf
      refine lv_iinc (v := (x4 + (-1))) (lv' := [(4, .int (x4 + (-1))), (0, .ref (gB G 66)), (1, .int x1), (2, .int x2), (3, .int x3), (5, .int x5), (6, .int x6)]) hx hb dX9_needsOf_117 hl (k := 4) rfl rfl (by decide) rfl (fun ls hl => ?_)
      refine lv_goto (tgt := 25) hx hb dX9_needsOf_120 (by decide) ?_
      exact hk25 x3 (x4 + (-1)) h _ _ _ (lv_sub hl [1, 2, 3, 4, 0] rfl) hP hS hf
    · replace hf := if_f c60 hf
      refine lv_iload hx hb dX9_needsOf_63 (lv_at hl 5 rfl) ?_
      refine lv_iload hx hb dX9_needsOf_65 (lv_at hl 6 rfl) ?_
      obtain ⟨r67, er67, hf⟩ := bO_s hf
      refine r_callI (va_runS (As := [.int x5, .int x6]) (rest := []) ⟨hx, hb, hml, hown, hts⟩ (k_X9_has l hG (h := h) er67) (va_cwS 2 hts (gS wd1260 wd1261 wd82 wd1262) rfl rfl rfl (by decide +kernel) ⟨Nat.le_of_ble_eq_true rfl, Nat.le_of_ble_eq_true rfl⟩) (r_ps hK hP hS) rfl rfl hl.1 rfl (lv_room (Nat.le_of_ble_eq_true rfl)) dX9_needsOf_67 ⟨Nat.le_of_ble_eq_true rfl, Nat.le_of_ble_eq_true rfl⟩) hS (fun H locs hP hS => ?_)
      refine lv_if_eq (tgt := 111) hx hb dX9_needsOf_70 (by decide) (fun c70 => ?_) (fun c70 => ?_)
      · replace hf := if_t c70 hf
        refine lv_iinc (v := (x6 + 1)) (lv' := [(6, .int (x6 + 1)), (0, .ref (gB G 66)), (1, .int x1), (2, .int x2), (3, .int x3), (4, .int x4), (5, .int x5)]) hx hb dX9_needsOf_111 hl (k := 6) rfl rfl (by decide) rfl (fun ls hl => ?_)
        refine lv_goto (tgt := 56) hx hb dX9_needsOf_114 (by decide) ?_
        exact ih x3 (x6 + 1) h _ _ _ (lv_sub hl [1, 2, 3, 4, 5, 6, 0] rfl) hP hS hf
      · replace hf := if_f c70 hf
        refine lv_aload_n hx hb dX9_needsOf_73 rfl (lv_at hl 0 rfl) ?_
        refine lv_iload hx hb dX9_needsOf_74 (lv_at hl 4 rfl) ?_
        refine lv_iload hx hb dX9_needsOf_76 (lv_at hl 6 rfl) ?_
        obtain ⟨r78, h78, er78, hf⟩ := bP_s hf
        refine r_callI (va_runV (As := [.int x4, .int x6]) (rest := []) ⟨hx, hb, hml, hown, hts⟩ (k_X9_setter l hG er78) (cwV 2 hts (gV wd1287 wd1289 wd41 wd82 wd1290) rfl rfl rfl (by decide +kernel) ⟨Nat.le_of_ble_eq_true rfl, Nat.le_of_ble_eq_true rfl⟩) (r_pv hK hP hS (ltX9 rfl) (ceX9 rfl) rfl) rfl rfl hl.1 rfl (lv_room (Nat.le_of_ble_eq_true rfl)) dX9_needsOf_78 ⟨Nat.le_of_ble_eq_true rfl, Nat.le_of_ble_eq_true rfl⟩) hS (fun H locs hP hS => ?_)
        refine lv_istore (lv' := [(7, .int r78), (0, .ref (gB G 66)), (1, .int x1), (2, .int x2), (3, .int x3), (4, .int x4), (5, .int x5), (6, .int x6)]) hx hb dX9_needsOf_81 hl (by decide) rfl (fun ls hl => ?_)
        refine lv_iload hx hb dX9_needsOf_83 (lv_at hl 0 rfl) ?_
        refine lv_if_lt (tgt := 102) hx hb dX9_needsOf_85 (by decide) (fun c85 => ?_) (fun c85 => ?_)
        · replace hf := if_t c85 hf
          refine lv_iconst (v := (-1)) hx hb dX9_needsOf_102 (by decide) ?_
          exact r_iret hx hb hr hlocks hP hS (re2 (Option.some.inj hf)) dX9_needsOf_103
        · replace hf := if_f c85 hf
          refine lv_aload_n hx hb dX9_needsOf_88 rfl (lv_at hl 1 rfl) ?_
          refine r_get (a := 66) (v := .ref (gB G 74)) (C := RX9) (T := TX9) (N := 55) hx hb hts hinX9 hown hK hP (ltX9 rfl) (ceX9 rfl) rfl 10 (by decide) wd1045 rfl dX9_needsOf_89 ?_
          refine lv_iload_n hx hb dX9_needsOf_92 rfl (lv_at hl 2 rfl) ?_
          obtain ⟨v93, ev93, hf⟩ := bO_s hf
          refine r_iald hx hb hK hP (arX9_10 rfl) ev93 dX9_needsOf_93 ?_
          refine lv_iload hx hb dX9_needsOf_94 (lv_at hl 0 rfl) ?_
          obtain ⟨r96, er96, hf⟩ := bO_s hf
          refine r_callI (va_runS (As := [.int v93, .int r78]) (rest := []) ⟨hx, hb, hml, hown, hts⟩ (k_X9_has l hG (h := h78) er96) (va_cwS 2 hts (gS wd1260 wd1261 wd82 wd1262) rfl rfl rfl (by decide +kernel) ⟨Nat.le_of_ble_eq_true rfl, Nat.le_of_ble_eq_true rfl⟩) (r_ps hK hP hS) rfl rfl hl.1 rfl (lv_room (Nat.le_of_ble_eq_true rfl)) dX9_needsOf_96 ⟨Nat.le_of_ble_eq_true rfl, Nat.le_of_ble_eq_true rfl⟩) hS (fun H locs hP hS => ?_)
          refine lv_if_eq (tgt := 104) hx hb dX9_needsOf_99 (by decide) (fun c99 => ?_) (fun c99 => ?_)
          · replace hf := if_t c99 hf
            refine lv_iload_n hx hb dX9_needsOf_104 rfl (lv_at hl 4 rfl) ?_
            refine lv_iconst (v := 1) hx hb dX9_needsOf_105 (by decide) ?_
            refine lv_iload hx hb dX9_needsOf_106 (lv_at hl 0 rfl) ?_
            refine lv_ishl hx hb dX9_needsOf_108 ?_
            refine lv_ior hx hb dX9_needsOf_109 ?_
            refine lv_topi (fun x3_110 ex3_110 => ?_)
            replace hf := lt_at ex3_110 hf
            refine lv_istore_n (lv' := [(3, .int x3_110), (7, .int r78), (0, .ref (gB G 66)), (1, .int x1), (2, .int x2), (4, .int x4), (5, .int x5), (6, .int x6)]) hx hb dX9_needsOf_110 rfl hl (by decide) rfl (fun ls hl => ?_)
            refine lv_iinc (v := (x6 + 1)) (lv' := [(6, .int (x6 + 1)), (3, .int x3_110), (7, .int r78), (0, .ref (gB G 66)), (1, .int x1), (2, .int x2), (4, .int x4), (5, .int x5)]) hx hb dX9_needsOf_111 hl (k := 7) rfl rfl (by decide) rfl (fun ls hl => ?_)
            refine lv_goto (tgt := 56) hx hb dX9_needsOf_114 (by decide) ?_
            exact ih x3_110 (x6 + 1) h78 _ _ _ (lv_sub hl [3, 4, 5, 1, 6, 7, 0] rfl) hP hS hf
          · replace hf := if_f c99 hf
            refine lv_iconst (v := (-1)) hx hb dX9_needsOf_102 (by decide) ?_
            exact r_iret hx hb hr hlocks hP hS (re2 (Option.some.inj hf)) dX9_needsOf_103
def f_X9_needsOf_45 (x1 : Int32) (x2 : Int32) (k25 : Int32 → Int32 → PH → Option (Int32 × PH)) (x3 : Int32) (x4 : Int32) (h : PH) : Option (Int32 × PH) := bP (f_X9_clashOf x4 h) (fun r48 h48 => f_X9_needsOf_56 x1 x2 x4 r48 k25 FU x3 0 h48)
set_option maxHeartbeats 4000000 in
set_option maxRecDepth 100000 in
theorem w_X9_needsOf_45 {l : Launch} {G : GC} (hG : GOK G) {rr : Int32} {hh : PH} {p : Program} {e : Env} {s : State} {m : MethodId} {args : Array Value} {below : List Frame} {meth : Method} {c : Code} (C : MC l G p s m args meth c RX9 cX9_needsOf 8 (some .int)) (x1 : Int32) (x2 : Int32) (k25 : Int32 → Int32 → PH → Option (Int32 × PH)) (hk25 : ∀ (x3 : Int32) (x4 : Int32) (h : PH) (H : Heap) (locs : List Loc) (ls : Array Slot), lv_has ls 8 [(0, .ref (gB G 66)), (1, .int x1), (2, .int x2), (3, .int x3), (4, .int x4)] → WP G h H → SP G s H locs → k25 x3 x4 h = some (rr, hh) → W p l e rmX9_needsOf s m args below meth c H locs 0 0 (MQ below (QI G rr hh) args s 0 0 (gA G)) (F0 m 25 ls [])) : ∀ (x3 : Int32) (x4 : Int32) (h : PH) (H : Heap) (locs : List Loc) (ls : Array Slot), lv_has ls 8 [(0, .ref (gB G 66)), (1, .int x1), (2, .int x2), (3, .int x3), (4, .int x4)] → WP G h H → SP G s H locs → f_X9_needsOf_45 x1 x2 k25 x3 x4 h = some (rr, hh) → W p l e rmX9_needsOf s m args below meth c H locs 0 0 (MQ below (QI G rr hh) args s 0 0 (gA G)) (F0 m 45 ls []) := by
  obtain ⟨hx, hb, hr, hlocks, hml, hown, hts, hK⟩ := id C
  intro x3 x4 h H locs ls hl hP hS hf
  rw [f_X9_needsOf_45] at hf
  refine lv_aload_n hx hb dX9_needsOf_45 rfl (lv_at hl 0 rfl) ?_
  refine lv_iload hx hb dX9_needsOf_46 (lv_at hl 4 rfl) ?_
  obtain ⟨r48, h48, er48, hf⟩ := bP_s hf
  refine r_callI (va_runV (As := [.int x4]) (rest := []) ⟨hx, hb, hml, hown, hts⟩ (k_X9_clashOf l hG er48) (cwV 1 hts (gV wd1371 wd1373 wd51 wd82 wd1374) rfl rfl rfl (by decide +kernel) ⟨Nat.le_of_ble_eq_true rfl, Nat.le_of_ble_eq_true rfl⟩) (r_pv hK hP hS (ltX9 rfl) (ceX9 rfl) rfl) rfl rfl hl.1 rfl (lv_room (Nat.le_of_ble_eq_true rfl)) dX9_needsOf_48 ⟨Nat.le_of_ble_eq_true rfl, Nat.le_of_ble_eq_true rfl⟩) hS (fun H locs hP hS => ?_)
  refine lv_istore (lv' := [(5, .int r48), (0, .ref (gB G 66)), (1, .int x1), (2, .int x2), (3, .int x3), (4, .int x4)]) hx hb dX9_needsOf_51 hl (by decide) rfl (fun ls hl => ?_)
  refine lv_iconst (v := 0) hx hb dX9_needsOf_53 (by decide) ?_
  refine lv_istore (lv' := [(6, .int 0), (5, .int r48), (0, .ref (gB G 66)), (1, .int x1), (2, .int x2), (3, .int x3), (4, .int x4)]) hx hb dX9_needsOf_54 hl (by decide) rfl (fun ls hl => ?_)
  exact w_X9_needsOf_56 hG C x1 x2 x4 r48 k25 hk25 FU x3 0 h48 _ _ _ (lv_sub hl [2, 3, 4, 5, 6, 1, 0] rfl) hP hS hf
def f_X9_needsOf_25 (x1 : Int32) (x2 : Int32) : Nat → Int32 → Int32 → PH → Option (Int32 × PH)
  | 0, _, _, _ => none
  | n + 1, x3, x4, h => if x4 < 0 then (bP (f_X9_goAll (x3 ||| (1 <<< (x2 &&& 31))) h) (fun r129 h129 => if r129 = 0 then (some ((-1), h129)) else (some (x3, h129)))) else (if x4 = x2 then (f_X9_needsOf_45 x1 x2 (f_X9_needsOf_25 x1 x2 n) x3 x4 h) else (bO (f_X9_has x3 x4) (fun r39 => if r39 = 0 then ((f_X9_needsOf_25 x1 x2 n) x3 (x4 + (-1)) h) else (f_X9_needsOf_45 x1 x2 (f_X9_needsOf_25 x1 x2 n) x3 x4 h))))
set_option maxHeartbeats 4000000 in
set_option maxRecDepth 100000 in
theorem w_X9_needsOf_25 {l : Launch} {G : GC} (hG : GOK G) {rr : Int32} {hh : PH} {p : Program} {e : Env} {s : State} {m : MethodId} {args : Array Value} {below : List Frame} {meth : Method} {c : Code} (C : MC l G p s m args meth c RX9 cX9_needsOf 8 (some .int)) (x1 : Int32) (x2 : Int32) : ∀ (n : Nat) (x3 : Int32) (x4 : Int32) (h : PH) (H : Heap) (locs : List Loc) (ls : Array Slot), lv_has ls 8 [(0, .ref (gB G 66)), (1, .int x1), (2, .int x2), (3, .int x3), (4, .int x4)] → WP G h H → SP G s H locs → f_X9_needsOf_25 x1 x2 n x3 x4 h = some (rr, hh) → W p l e rmX9_needsOf s m args below meth c H locs 0 0 (MQ below (QI G rr hh) args s 0 0 (gA G)) (F0 m 25 ls []) := by
  obtain ⟨hx, hb, hr, hlocks, hml, hown, hts, hK⟩ := id C
  intro n
  induction n with
  | zero => intro x3 x4 h H locs ls hl hP hS hf; rw [f_X9_needsOf_25] at hf; cases hf
  | succ n ih =>
    intro x3 x4 h H locs ls hl hP hS hf
    rw [f_X9_needsOf_25] at hf
    refine lv_iload hx hb dX9_needsOf_25 (lv_at hl 4 rfl) ?_
    refine lv_if_lt (tgt := 123) hx hb dX9_needsOf_27 (by decide) (fun c27 => ?_) (fun c27 => ?_)
    · replace hf := if_t c27 hf
      refine lv_aload_n hx hb dX9_needsOf_123 rfl (lv_at hl 0 rfl) ?_
      refine lv_iload_n hx hb dX9_needsOf_124 rfl (lv_at hl 3 rfl) ?_
      refine lv_iconst (v := 1) hx hb dX9_needsOf_125 (by decide) ?_
      refine lv_iload_n hx hb dX9_needsOf_126 rfl (lv_at hl 2 rfl) ?_
      refine lv_ishl hx hb dX9_needsOf_127 ?_
      refine lv_ior hx hb dX9_needsOf_128 ?_
      obtain ⟨r129, h129, er129, hf⟩ := bP_s hf
      refine r_callI (va_runV (As := [.int (x3 ||| (1 <<< (x2 &&& 31)))]) (rest := []) ⟨hx, hb, hml, hown, hts⟩ (k_X9_goAll l hG er129) (cwV 1 hts (gV wd1402 wd1404 wd55 wd82 wd1405) rfl rfl rfl (by decide +kernel) ⟨Nat.le_of_ble_eq_true rfl, Nat.le_of_ble_eq_true rfl⟩) (r_pv hK hP hS (ltX9 rfl) (ceX9 rfl) rfl) rfl rfl hl.1 rfl (lv_room (Nat.le_of_ble_eq_true rfl)) dX9_needsOf_129 ⟨Nat.le_of_ble_eq_true rfl, Nat.le_of_ble_eq_true rfl⟩) hS (fun H locs hP hS => ?_)
      refine lv_if_eq (tgt := 139) hx hb dX9_needsOf_132 (by decide) (fun c132 => ?_) (fun c132 => ?_)
      · replace hf := if_t c132 hf
        refine lv_iconst (v := (-1)) hx hb dX9_needsOf_139 (by decide) ?_
        exact r_iret hx hb hr hlocks hP hS (re2 (Option.some.inj hf)) dX9_needsOf_140
      · replace hf := if_f c132 hf
        refine lv_iload_n hx hb dX9_needsOf_135 rfl (lv_at hl 3 rfl) ?_
        refine lv_goto (tgt := 140) hx hb dX9_needsOf_136 (by decide) ?_
        exact r_iret hx hb hr hlocks hP hS (re2 (Option.some.inj hf)) dX9_needsOf_140
    · replace hf := if_f c27 hf
      refine lv_iload hx hb dX9_needsOf_30 (lv_at hl 4 rfl) ?_
      refine lv_iload_n hx hb dX9_needsOf_32 rfl (lv_at hl 2 rfl) ?_
      refine lv_icmp_eq (tgt := 45) hx hb dX9_needsOf_33 (by decide) (fun c33 => ?_) (fun c33 => ?_)
      · replace hf := if_t c33 hf
        exact w_X9_needsOf_45 hG C x1 x2 (f_X9_needsOf_25 x1 x2 n) ih x3 x4 h _ _ _ (lv_sub hl [0, 1, 2, 3, 4] rfl) hP hS hf
      · replace hf := if_f c33 hf
        refine lv_iload_n hx hb dX9_needsOf_36 rfl (lv_at hl 3 rfl) ?_
        refine lv_iload hx hb dX9_needsOf_37 (lv_at hl 4 rfl) ?_
        obtain ⟨r39, er39, hf⟩ := bO_s hf
        refine r_callI (va_runS (As := [.int x3, .int x4]) (rest := []) ⟨hx, hb, hml, hown, hts⟩ (k_X9_has l hG (h := h) er39) (va_cwS 2 hts (gS wd1260 wd1261 wd82 wd1262) rfl rfl rfl (by decide +kernel) ⟨Nat.le_of_ble_eq_true rfl, Nat.le_of_ble_eq_true rfl⟩) (r_ps hK hP hS) rfl rfl hl.1 rfl (lv_room (Nat.le_of_ble_eq_true rfl)) dX9_needsOf_39 ⟨Nat.le_of_ble_eq_true rfl, Nat.le_of_ble_eq_true rfl⟩) hS (fun H locs hP hS => ?_)
        refine lv_if_eq (tgt := 117) hx hb dX9_needsOf_42 (by decide) (fun c42 => ?_) (fun c42 => ?_)
        · replace hf := if_t c42 hf
          refine lv_iinc (v := (x4 + (-1))) (lv' := [(4, .int (x4 + (-1))), (0, .ref (gB G 66)), (1, .int x1), (2, .int x2), (3, .int x3)]) hx hb dX9_needsOf_117 hl (k := 4) rfl rfl (by decide) rfl (fun ls hl => ?_)
          refine lv_goto (tgt := 25) hx hb dX9_needsOf_120 (by decide) ?_
          exact ih x3 (x4 + (-1)) h _ _ _ (lv_sub hl [1, 2, 3, 4, 0] rfl) hP hS hf
        · replace hf := if_f c42 hf
          exact w_X9_needsOf_45 hG C x1 x2 (f_X9_needsOf_25 x1 x2 n) ih x3 x4 h _ _ _ (lv_sub hl [0, 1, 2, 3, 4] rfl) hP hS hf
def f_X9_needsOf (x1 : Int32) (x2 : Int32) (h : PH) : Option (Int32 × PH) := bO (ag h 74 4 x1) (fun v5 => bO (f_X9_has v5 x2) (fun r7 => if r7 = 0 then (bO (f_X9_tryLine x1 h) (fun h19 => f_X9_needsOf_25 x1 x2 FU 0 x2 h19)) else (some ((-1), h))))
set_option maxHeartbeats 4000000 in
set_option maxRecDepth 100000 in
theorem k_X9_needsOf (l : Launch) {G : GC} (hG : GOK G) {x1 : Int32} {x2 : Int32} {rr : Int32} {h hh : PH} (hf : f_X9_needsOf x1 x2 h = some (rr, hh)) : CI l yX9_needsOf vX9_needsOf rmX9_needsOf G [.ref (gB G 66), .int x1, .int x2] h rr hh := by
  refine Met.ofW (cc := cX9_needsOf) (maxL := 8) (ret := (some .int)) (by decide +kernel) rfl ?_
  intro p e s m args below meth c s₁ B hml hv
  obtain ⟨rfl, hP, hK⟩ := hv
  have C : MC l G p s m _ meth c RX9 cX9_needsOf 8 (some .int) := ⟨B.exec, B.bytes, B.returns, B.notSynchronized, hml, findClass_of_methodNamed B.named, fun w hw => atoms_spec (ws := vX9_needsOf) B.pre w (List.mem_cons_of_mem _ hw), hK⟩
  obtain ⟨hx, hb, hr, hlocks, -, hown, hts, -⟩ := id C
  have hl := lv_entry ([.ref (gB G 66), .int x1, .int x2]) (n := 8) (Nat.le_of_ble_eq_true rfl)
  rw [lg_entry_eq]
  generalize (lg_sl ([.ref (gB G 66), .int x1, .int x2]) ++ List.replicate (8 - (lg_sl ([.ref (gB G 66), .int x1, .int x2])).length) Slot.unset).toArray = ls at hl ⊢
  have hl : lv_has ls 8 [(0, .ref (gB G 66)), (1, .int x1), (2, .int x2)] := hl
  have hS : SP G s s.heap [] := va_S.rf
  replace hP : WP G h s.heap := hP
  rw [f_X9_needsOf] at hf
  refine lv_aload_n hx hb dX9_needsOf_0 rfl (lv_at hl 0 rfl) ?_
  refine r_get (a := 66) (v := .ref (gB G 74)) (C := RX9) (T := TX9) (N := 55) hx hb hts hinX9 hown hK hP (ltX9 rfl) (ceX9 rfl) rfl 10 (by decide) wd1045 rfl dX9_needsOf_1 ?_
  refine lv_iload_n hx hb dX9_needsOf_4 rfl (lv_at hl 1 rfl) ?_
  obtain ⟨v5, ev5, hf⟩ := bO_s hf
  refine r_iald hx hb hK hP (arX9_10 rfl) ev5 dX9_needsOf_5 ?_
  refine lv_iload_n hx hb dX9_needsOf_6 rfl (lv_at hl 2 rfl) ?_
  obtain ⟨r7, er7, hf⟩ := bO_s hf
  refine r_callI (va_runS (As := [.int v5, .int x2]) (rest := []) ⟨hx, hb, hml, hown, hts⟩ (k_X9_has l hG (h := h) er7) (va_cwS 2 hts (gS wd1260 wd1261 wd82 wd1262) rfl rfl rfl (by decide +kernel) ⟨Nat.le_of_ble_eq_true rfl, Nat.le_of_ble_eq_true rfl⟩) (r_ps hK hP hS) rfl rfl hl.1 rfl (lv_room (Nat.le_of_ble_eq_true rfl)) dX9_needsOf_7 ⟨Nat.le_of_ble_eq_true rfl, Nat.le_of_ble_eq_true rfl⟩) hS (fun H locs hP hS => ?_)
  refine lv_if_eq (tgt := 15) hx hb dX9_needsOf_10 (by decide) (fun c10 => ?_) (fun c10 => ?_)
  · replace hf := if_t c10 hf
    refine lv_iconst (v := 0) hx hb dX9_needsOf_15 (by decide) ?_
    refine lv_istore_n (lv' := [(3, .int 0), (0, .ref (gB G 66)), (1, .int x1), (2, .int x2)]) hx hb dX9_needsOf_16 rfl hl (by decide) rfl (fun ls hl => ?_)
    refine lv_aload_n hx hb dX9_needsOf_17 rfl (lv_at hl 1 rfl) ?_
    refine lv_iload_n hx hb dX9_needsOf_18 rfl (lv_at hl 2 rfl) ?_
    obtain ⟨h19, eh19, hf⟩ := bO_s hf
    refine r_callV (va_runV (As := [.int x1]) (rest := []) ⟨hx, hb, hml, hown, hts⟩ (k_X9_tryLine l hG eh19) (cwV 1 hts (gV wd1367 wd1369 wd50 wd82 wd1370) rfl rfl rfl (by decide +kernel) ⟨Nat.le_of_ble_eq_true rfl, Nat.le_of_ble_eq_true rfl⟩) (r_pv hK hP hS (ltX9 rfl) (ceX9 rfl) rfl) rfl rfl hl.1 rfl (lv_room (Nat.le_of_ble_eq_true rfl)) dX9_needsOf_19 ⟨Nat.le_of_ble_eq_true rfl, Nat.le_of_ble_eq_true rfl⟩) hS (fun H locs hP hS => ?_)
    refine lv_iload_n hx hb dX9_needsOf_22 rfl (lv_at hl 3 rfl) ?_
    refine lv_istore (lv' := [(4, .int x2), (3, .int 0), (0, .ref (gB G 66)), (1, .int x1), (2, .int x2)]) hx hb dX9_needsOf_23 hl (by decide) rfl (fun ls hl => ?_)
    exact w_X9_needsOf_25 hG C x1 x2 FU 0 x2 h19 _ _ _ (lv_sub hl [2, 3, 4, 1, 0] rfl) hP hS hf
  · replace hf := if_f c10 hf
    refine lv_iconst (v := (-1)) hx hb dX9_needsOf_13 (by decide) ?_
    exact r_iret hx hb hr hlocks hP hS (re2 (Option.some.inj hf)) dX9_needsOf_14
/-! CarriedBackModel.needs(II)I -/
abbrev rmX9_needs : Room := { frames := 4, cells := 0, slots := 0, locals := 97 }
abbrev vX9_needs : List Cond := Cond.code yX9_needs cX9_needs 3 (some .int) :: GW
def f_X9_needs (x1 : Int32) (x2 : Int32) (h : PH) : Option (Int32 × PH) := bP (f_X9_isLine x1 h) (fun r2 h2 => if r2 = 0 then (some ((-1001), h2)) else (bP (f_X9_isChange x2 h2) (fun r10 h10 => if r10 = 0 then (some ((-1001), h10)) else (bP (f_X9_needsOf x1 x2 h10) (fun r19 h19 => some (r19, h19))))))
set_option maxHeartbeats 4000000 in
set_option maxRecDepth 100000 in
theorem k_X9_needs (l : Launch) {G : GC} (hG : GOK G) {x1 : Int32} {x2 : Int32} {rr : Int32} {h hh : PH} (hf : f_X9_needs x1 x2 h = some (rr, hh)) : CI l yX9_needs vX9_needs rmX9_needs G [.ref (gB G 66), .int x1, .int x2] h rr hh := by
  refine Met.ofW (cc := cX9_needs) (maxL := 3) (ret := (some .int)) (by decide +kernel) rfl ?_
  intro p e s m args below meth c s₁ B hml hv
  obtain ⟨rfl, hP, hK⟩ := hv
  have C : MC l G p s m _ meth c RX9 cX9_needs 3 (some .int) := ⟨B.exec, B.bytes, B.returns, B.notSynchronized, hml, findClass_of_methodNamed B.named, fun w hw => atoms_spec (ws := vX9_needs) B.pre w (List.mem_cons_of_mem _ hw), hK⟩
  obtain ⟨hx, hb, hr, hlocks, -, hown, hts, -⟩ := id C
  have hl := lv_entry ([.ref (gB G 66), .int x1, .int x2]) (n := 3) (Nat.le_of_ble_eq_true rfl)
  rw [lg_entry_eq]
  generalize (lg_sl ([.ref (gB G 66), .int x1, .int x2]) ++ List.replicate (3 - (lg_sl ([.ref (gB G 66), .int x1, .int x2])).length) Slot.unset).toArray = ls at hl ⊢
  have hl : lv_has ls 3 [(0, .ref (gB G 66)), (1, .int x1), (2, .int x2)] := hl
  have hS : SP G s s.heap [] := va_S.rf
  replace hP : WP G h s.heap := hP
  rw [f_X9_needs] at hf
  refine lv_aload_n hx hb dX9_needs_0 rfl (lv_at hl 0 rfl) ?_
  refine lv_iload_n hx hb dX9_needs_1 rfl (lv_at hl 1 rfl) ?_
  obtain ⟨r2, h2, er2, hf⟩ := bP_s hf
  refine r_callI (va_runV (As := [.int x1]) (rest := []) ⟨hx, hb, hml, hown, hts⟩ (k_X9_isLine l hG er2) (cwV 1 hts (gV wd1347 wd1349 wd47 wd82 wd1350) rfl rfl rfl (by decide +kernel) ⟨Nat.le_of_ble_eq_true rfl, Nat.le_of_ble_eq_true rfl⟩) (r_pv hK hP hS (ltX9 rfl) (ceX9 rfl) rfl) rfl rfl hl.1 rfl (lv_room (Nat.le_of_ble_eq_true rfl)) dX9_needs_2 ⟨Nat.le_of_ble_eq_true rfl, Nat.le_of_ble_eq_true rfl⟩) hS (fun H locs hP hS => ?_)
  refine lv_if_eq (tgt := 25) hx hb dX9_needs_5 (by decide) (fun c5 => ?_) (fun c5 => ?_)
  · replace hf := if_t c5 hf
    refine lv_sipush (v := (-1001)) hx hb dX9_needs_25 (by decide) ?_
    exact r_iret hx hb hr hlocks hP hS (re2 (Option.some.inj hf)) dX9_needs_28
  · replace hf := if_f c5 hf
    refine lv_aload_n hx hb dX9_needs_8 rfl (lv_at hl 0 rfl) ?_
    refine lv_iload_n hx hb dX9_needs_9 rfl (lv_at hl 2 rfl) ?_
    obtain ⟨r10, h10, er10, hf⟩ := bP_s hf
    refine r_callI (va_runV (As := [.int x2]) (rest := []) ⟨hx, hb, hml, hown, hts⟩ (k_X9_isChange l hG er10) (cwV 1 hts (gV wd1299 wd1301 wd42 wd82 wd1302) rfl rfl rfl (by decide +kernel) ⟨Nat.le_of_ble_eq_true rfl, Nat.le_of_ble_eq_true rfl⟩) (r_pv hK hP hS (ltX9 rfl) (ceX9 rfl) rfl) rfl rfl hl.1 rfl (lv_room (Nat.le_of_ble_eq_true rfl)) dX9_needs_10 ⟨Nat.le_of_ble_eq_true rfl, Nat.le_of_ble_eq_true rfl⟩) hS (fun H locs hP hS => ?_)
    refine lv_if_eq (tgt := 25) hx hb dX9_needs_13 (by decide) (fun c13 => ?_) (fun c13 => ?_)
    · replace hf := if_t c13 hf
      refine lv_sipush (v := (-1001)) hx hb dX9_needs_25 (by decide) ?_
      exact r_iret hx hb hr hlocks hP hS (re2 (Option.some.inj hf)) dX9_needs_28
    · replace hf := if_f c13 hf
      refine lv_aload_n hx hb dX9_needs_16 rfl (lv_at hl 0 rfl) ?_
      refine lv_iload_n hx hb dX9_needs_17 rfl (lv_at hl 1 rfl) ?_
      refine lv_iload_n hx hb dX9_needs_18 rfl (lv_at hl 2 rfl) ?_
      obtain ⟨r19, h19, er19, hf⟩ := bP_s hf
      refine r_callI (va_runV (As := [.int x1, .int x2]) (rest := []) ⟨hx, hb, hml, hown, hts⟩ (k_X9_needsOf l hG er19) (cwV 2 hts (gV wd1398 wd1400 wd54 wd82 wd1401) rfl rfl rfl (by decide +kernel) ⟨Nat.le_of_ble_eq_true rfl, Nat.le_of_ble_eq_true rfl⟩) (r_pv hK hP hS (ltX9 rfl) (ceX9 rfl) rfl) rfl rfl hl.1 rfl (lv_room (Nat.le_of_ble_eq_true rfl)) dX9_needs_19 ⟨Nat.le_of_ble_eq_true rfl, Nat.le_of_ble_eq_true rfl⟩) hS (fun H locs hP hS => ?_)
      refine lv_goto (tgt := 28) hx hb dX9_needs_22 (by decide) ?_
      exact r_iret hx hb hr hlocks hP hS (re2 (Option.some.inj hf)) dX9_needs_28
/-! CarriedBackModel.carry(II)I -/
abbrev rmX9_carry : Room := { frames := 4, cells := 0, slots := 0, locals := 97 }
abbrev vX9_carry : List Cond := Cond.code yX9_carry cX9_carry 4 (some .int) :: GW
def f_X9_carry (x1 : Int32) (x2 : Int32) (h : PH) : Option (Int32 × PH) := bP (f_X9_isLine x1 h) (fun r2 h2 => if r2 = 0 then (some ((-1001), h2)) else (bP (f_X9_isChange x2 h2) (fun r10 h10 => if r10 = 0 then (some ((-1001), h10)) else (bP (f_X9_needsOf x1 x2 h10) (fun r23 h23 => if (0 : Int32) ≤ r23 then (bO (f_X9_putLine x1 (r23 ||| (1 <<< (x2 &&& 31))) h23) (fun h42 => bO (f_X9_bits r23) (fun r46 => some ((r46 + 1), h42)))) else (some ((-1003), h23)))))))
set_option maxHeartbeats 4000000 in
set_option maxRecDepth 100000 in
theorem k_X9_carry (l : Launch) {G : GC} (hG : GOK G) {x1 : Int32} {x2 : Int32} {rr : Int32} {h hh : PH} (hf : f_X9_carry x1 x2 h = some (rr, hh)) : CI l yX9_carry vX9_carry rmX9_carry G [.ref (gB G 66), .int x1, .int x2] h rr hh := by
  refine Met.ofW (cc := cX9_carry) (maxL := 4) (ret := (some .int)) (by decide +kernel) rfl ?_
  intro p e s m args below meth c s₁ B hml hv
  obtain ⟨rfl, hP, hK⟩ := hv
  have C : MC l G p s m _ meth c RX9 cX9_carry 4 (some .int) := ⟨B.exec, B.bytes, B.returns, B.notSynchronized, hml, findClass_of_methodNamed B.named, fun w hw => atoms_spec (ws := vX9_carry) B.pre w (List.mem_cons_of_mem _ hw), hK⟩
  obtain ⟨hx, hb, hr, hlocks, -, hown, hts, -⟩ := id C
  have hl := lv_entry ([.ref (gB G 66), .int x1, .int x2]) (n := 4) (Nat.le_of_ble_eq_true rfl)
  rw [lg_entry_eq]
  generalize (lg_sl ([.ref (gB G 66), .int x1, .int x2]) ++ List.replicate (4 - (lg_sl ([.ref (gB G 66), .int x1, .int x2])).length) Slot.unset).toArray = ls at hl ⊢
  have hl : lv_has ls 4 [(0, .ref (gB G 66)), (1, .int x1), (2, .int x2)] := hl
  have hS : SP G s s.heap [] := va_S.rf
  replace hP : WP G h s.heap := hP
  rw [f_X9_carry] at hf
  refine lv_aload_n hx hb dX9_carry_0 rfl (lv_at hl 0 rfl) ?_
  refine lv_iload_n hx hb dX9_carry_1 rfl (lv_at hl 1 rfl) ?_
  obtain ⟨r2, h2, er2, hf⟩ := bP_s hf
  refine r_callI (va_runV (As := [.int x1]) (rest := []) ⟨hx, hb, hml, hown, hts⟩ (k_X9_isLine l hG er2) (cwV 1 hts (gV wd1347 wd1349 wd47 wd82 wd1350) rfl rfl rfl (by decide +kernel) ⟨Nat.le_of_ble_eq_true rfl, Nat.le_of_ble_eq_true rfl⟩) (r_pv hK hP hS (ltX9 rfl) (ceX9 rfl) rfl) rfl rfl hl.1 rfl (lv_room (Nat.le_of_ble_eq_true rfl)) dX9_carry_2 ⟨Nat.le_of_ble_eq_true rfl, Nat.le_of_ble_eq_true rfl⟩) hS (fun H locs hP hS => ?_)
  refine lv_if_eq (tgt := 16) hx hb dX9_carry_5 (by decide) (fun c5 => ?_) (fun c5 => ?_)
  · replace hf := if_t c5 hf
    refine lv_sipush (v := (-1001)) hx hb dX9_carry_16 (by decide) ?_
    exact r_iret hx hb hr hlocks hP hS (re2 (Option.some.inj hf)) dX9_carry_19
  · replace hf := if_f c5 hf
    refine lv_aload_n hx hb dX9_carry_8 rfl (lv_at hl 0 rfl) ?_
    refine lv_iload_n hx hb dX9_carry_9 rfl (lv_at hl 2 rfl) ?_
    obtain ⟨r10, h10, er10, hf⟩ := bP_s hf
    refine r_callI (va_runV (As := [.int x2]) (rest := []) ⟨hx, hb, hml, hown, hts⟩ (k_X9_isChange l hG er10) (cwV 1 hts (gV wd1299 wd1301 wd42 wd82 wd1302) rfl rfl rfl (by decide +kernel) ⟨Nat.le_of_ble_eq_true rfl, Nat.le_of_ble_eq_true rfl⟩) (r_pv hK hP hS (ltX9 rfl) (ceX9 rfl) rfl) rfl rfl hl.1 rfl (lv_room (Nat.le_of_ble_eq_true rfl)) dX9_carry_10 ⟨Nat.le_of_ble_eq_true rfl, Nat.le_of_ble_eq_true rfl⟩) hS (fun H locs hP hS => ?_)
    refine lv_if_ne (tgt := 20) hx hb dX9_carry_13 (by decide) (fun c13 => ?_) (fun c13 => ?_)
    · replace hf := if_f c13 hf
      refine lv_aload_n hx hb dX9_carry_20 rfl (lv_at hl 0 rfl) ?_
      refine lv_iload_n hx hb dX9_carry_21 rfl (lv_at hl 1 rfl) ?_
      refine lv_iload_n hx hb dX9_carry_22 rfl (lv_at hl 2 rfl) ?_
      obtain ⟨r23, h23, er23, hf⟩ := bP_s hf
      refine r_callI (va_runV (As := [.int x1, .int x2]) (rest := []) ⟨hx, hb, hml, hown, hts⟩ (k_X9_needsOf l hG er23) (cwV 2 hts (gV wd1398 wd1400 wd54 wd82 wd1401) rfl rfl rfl (by decide +kernel) ⟨Nat.le_of_ble_eq_true rfl, Nat.le_of_ble_eq_true rfl⟩) (r_pv hK hP hS (ltX9 rfl) (ceX9 rfl) rfl) rfl rfl hl.1 rfl (lv_room (Nat.le_of_ble_eq_true rfl)) dX9_carry_23 ⟨Nat.le_of_ble_eq_true rfl, Nat.le_of_ble_eq_true rfl⟩) hS (fun H locs hP hS => ?_)
      refine lv_istore_n (lv' := [(3, .int r23), (0, .ref (gB G 66)), (1, .int x1), (2, .int x2)]) hx hb dX9_carry_26 rfl hl (by decide) rfl (fun ls hl => ?_)
      refine lv_iload_n hx hb dX9_carry_27 rfl (lv_at hl 0 rfl) ?_
      refine lv_if_ge (tgt := 35) hx hb dX9_carry_28 (by decide) (fun c28 => ?_) (fun c28 => ?_)
      · replace hf := if_t c28 hf
        refine lv_aload_n hx hb dX9_carry_35 rfl (lv_at hl 1 rfl) ?_
        refine lv_iload_n hx hb dX9_carry_36 rfl (lv_at hl 2 rfl) ?_
        refine lv_iload_n hx hb dX9_carry_37 rfl (lv_at hl 0 rfl) ?_
        refine lv_iconst (v := 1) hx hb dX9_carry_38 (by decide) ?_
        refine lv_iload_n hx hb dX9_carry_39 rfl (lv_at hl 3 rfl) ?_
        refine lv_ishl hx hb dX9_carry_40 ?_
        refine lv_ior hx hb dX9_carry_41 ?_
        obtain ⟨h42, eh42, hf⟩ := bO_s hf
        refine r_callV (va_runV (As := [.int x1, .int (r23 ||| (1 <<< (x2 &&& 31)))]) (rest := []) ⟨hx, hb, hml, hown, hts⟩ (k_X9_putLine l hG eh42) (cwV 2 hts (gV wd1383 wd1385 wd53 wd82 wd1386) rfl rfl rfl (by decide +kernel) ⟨Nat.le_of_ble_eq_true rfl, Nat.le_of_ble_eq_true rfl⟩) (r_pv hK hP hS (ltX9 rfl) (ceX9 rfl) rfl) rfl rfl hl.1 rfl (lv_room (Nat.le_of_ble_eq_true rfl)) dX9_carry_42 ⟨Nat.le_of_ble_eq_true rfl, Nat.le_of_ble_eq_true rfl⟩) hS (fun H locs hP hS => ?_)
        refine lv_iload_n hx hb dX9_carry_45 rfl (lv_at hl 0 rfl) ?_
        obtain ⟨r46, er46, hf⟩ := bO_s hf
        refine r_callI (va_runS (As := [.int r23]) (rest := []) ⟨hx, hb, hml, hown, hts⟩ (k_X9_bits l hG (h := h42) er46) (va_cwS 1 hts (gS wd1387 wd1388 wd82 wd1389) rfl rfl rfl (by decide +kernel) ⟨Nat.le_of_ble_eq_true rfl, Nat.le_of_ble_eq_true rfl⟩) (r_ps hK hP hS) rfl rfl hl.1 rfl (lv_room (Nat.le_of_ble_eq_true rfl)) dX9_carry_46 ⟨Nat.le_of_ble_eq_true rfl, Nat.le_of_ble_eq_true rfl⟩) hS (fun H locs hP hS => ?_)
        refine lv_iconst (v := 1) hx hb dX9_carry_49 (by decide) ?_
        refine lv_iadd hx hb dX9_carry_50 ?_
        exact r_iret hx hb hr hlocks hP hS (re2 (Option.some.inj hf)) dX9_carry_51
      · replace hf := if_f c28 hf
        refine lv_sipush (v := (-1003)) hx hb dX9_carry_31 (by decide) ?_
        exact r_iret hx hb hr hlocks hP hS (re2 (Option.some.inj hf)) dX9_carry_34
    · replace hf := if_t c13 hf
      refine lv_sipush (v := (-1001)) hx hb dX9_carry_16 (by decide) ?_
      exact r_iret hx hb hr hlocks hP hS (re2 (Option.some.inj hf)) dX9_carry_19
/-! CarriedBackModel.goBoth(III)Z -/
abbrev rmX9_goBoth : Room := { frames := 2, cells := 0, slots := 0, locals := 47 }
abbrev vX9_goBoth : List Cond := Cond.code yX9_goBoth cX9_goBoth 5 (some .boolean) :: GW
def f_X9_goBoth_43 (x3 : Int32) (t0 : Int32) (h : PH) : Option (Int32 × PH) := bO (f_X9_goOn x3 h) (fun h47 => zr t0 (t0, h47))
set_option maxHeartbeats 4000000 in
set_option maxRecDepth 100000 in
theorem w_X9_goBoth_43 {l : Launch} {G : GC} (hG : GOK G) {rr : Int32} {hh : PH} {p : Program} {e : Env} {s : State} {m : MethodId} {args : Array Value} {below : List Frame} {meth : Method} {c : Code} (C : MC l G p s m args meth c RX9 cX9_goBoth 5 (some .boolean)) : ∀ (x3 : Int32) (t0 : Int32) (h : PH) (H : Heap) (locs : List Loc) (ls : Array Slot), lv_has ls 5 [(0, .ref (gB G 66)), (3, .int x3)] → WP G h H → SP G s H locs → f_X9_goBoth_43 x3 t0 h = some (rr, hh) → W p l e rmX9_goBoth s m args below meth c H locs 0 0 (MQ below (QI G rr hh) args s 0 0 (gA G)) (F0 m 43 ls [.int t0]) := by
  obtain ⟨hx, hb, hr, hlocks, hml, hown, hts, hK⟩ := id C
  intro x3 t0 h H locs ls hl hP hS hf
  rw [f_X9_goBoth_43] at hf
  refine lv_istore (lv' := [(4, .int t0), (0, .ref (gB G 66)), (3, .int x3)]) hx hb dX9_goBoth_43 hl (by decide) rfl (fun ls hl => ?_)
  refine lv_aload_n hx hb dX9_goBoth_45 rfl (lv_at hl 1 rfl) ?_
  refine lv_iload_n hx hb dX9_goBoth_46 rfl (lv_at hl 2 rfl) ?_
  obtain ⟨h47, eh47, hf⟩ := bO_s hf
  refine r_callV (va_runV (As := [.int x3]) (rest := []) ⟨hx, hb, hml, hown, hts⟩ (k_X9_goOn l hG eh47) (cwV 1 hts (gV wd1379 wd1381 wd52 wd82 wd1382) rfl rfl rfl (by decide +kernel) ⟨Nat.le_of_ble_eq_true rfl, Nat.le_of_ble_eq_true rfl⟩) (r_pv hK hP hS (ltX9 rfl) (ceX9 rfl) rfl) rfl rfl hl.1 rfl (lv_room (Nat.le_of_ble_eq_true rfl)) dX9_goBoth_47 ⟨Nat.le_of_ble_eq_true rfl, Nat.le_of_ble_eq_true rfl⟩) hS (fun H locs hP hS => ?_)
  refine lv_iload hx hb dX9_goBoth_50 (lv_at hl 0 rfl) ?_
  obtain ⟨hz, hf⟩ := zr_s hf
  exact r_zret hx hb hr hz hlocks hP hS (re2 hf) dX9_goBoth_52
def f_X9_goBoth_42 (x3 : Int32) (h : PH) : Option (Int32 × PH) := f_X9_goBoth_43 x3 0 h
set_option maxHeartbeats 4000000 in
set_option maxRecDepth 100000 in
theorem w_X9_goBoth_42 {l : Launch} {G : GC} (hG : GOK G) {rr : Int32} {hh : PH} {p : Program} {e : Env} {s : State} {m : MethodId} {args : Array Value} {below : List Frame} {meth : Method} {c : Code} (C : MC l G p s m args meth c RX9 cX9_goBoth 5 (some .boolean)) : ∀ (x3 : Int32) (h : PH) (H : Heap) (locs : List Loc) (ls : Array Slot), lv_has ls 5 [(0, .ref (gB G 66)), (3, .int x3)] → WP G h H → SP G s H locs → f_X9_goBoth_42 x3 h = some (rr, hh) → W p l e rmX9_goBoth s m args below meth c H locs 0 0 (MQ below (QI G rr hh) args s 0 0 (gA G)) (F0 m 42 ls []) := by
  obtain ⟨hx, hb, hr, hlocks, hml, hown, hts, hK⟩ := id C
  intro x3 h H locs ls hl hP hS hf
  rw [f_X9_goBoth_42] at hf
  refine lv_iconst (v := 0) hx hb dX9_goBoth_42 (by decide) ?_
  exact w_X9_goBoth_43 hG C x3 0 h _ _ _ (lv_sub hl [0, 1] rfl) hP hS hf
def f_X9_goBoth_18 (x2 : Int32) (x3 : Int32) (t0 : Int32) (h : PH) : Option (Int32 × PH) := bO (f_X9_goOn x2 h) (fun h22 => if t0 = 0 then (f_X9_goBoth_42 x3 h22) else (bP (f_X9_clashOf x3 h22) (fun r32 h32 => if r32 = 0 then (f_X9_goBoth_43 x3 1 h32) else (f_X9_goBoth_42 x3 h32))))
set_option maxHeartbeats 4000000 in
set_option maxRecDepth 100000 in
theorem w_X9_goBoth_18 {l : Launch} {G : GC} (hG : GOK G) {rr : Int32} {hh : PH} {p : Program} {e : Env} {s : State} {m : MethodId} {args : Array Value} {below : List Frame} {meth : Method} {c : Code} (C : MC l G p s m args meth c RX9 cX9_goBoth 5 (some .boolean)) : ∀ (x2 : Int32) (x3 : Int32) (t0 : Int32) (h : PH) (H : Heap) (locs : List Loc) (ls : Array Slot), lv_has ls 5 [(0, .ref (gB G 66)), (2, .int x2), (3, .int x3)] → WP G h H → SP G s H locs → f_X9_goBoth_18 x2 x3 t0 h = some (rr, hh) → W p l e rmX9_goBoth s m args below meth c H locs 0 0 (MQ below (QI G rr hh) args s 0 0 (gA G)) (F0 m 18 ls [.int t0]) := by
  obtain ⟨hx, hb, hr, hlocks, hml, hown, hts, hK⟩ := id C
  intro x2 x3 t0 h H locs ls hl hP hS hf
  rw [f_X9_goBoth_18] at hf
  refine lv_istore (lv' := [(4, .int t0), (0, .ref (gB G 66)), (2, .int x2), (3, .int x3)]) hx hb dX9_goBoth_18 hl (by decide) rfl (fun ls hl => ?_)
  refine lv_aload_n hx hb dX9_goBoth_20 rfl (lv_at hl 1 rfl) ?_
  refine lv_iload_n hx hb dX9_goBoth_21 rfl (lv_at hl 2 rfl) ?_
  obtain ⟨h22, eh22, hf⟩ := bO_s hf
  refine r_callV (va_runV (As := [.int x2]) (rest := []) ⟨hx, hb, hml, hown, hts⟩ (k_X9_goOn l hG eh22) (cwV 1 hts (gV wd1379 wd1381 wd52 wd82 wd1382) rfl rfl rfl (by decide +kernel) ⟨Nat.le_of_ble_eq_true rfl, Nat.le_of_ble_eq_true rfl⟩) (r_pv hK hP hS (ltX9 rfl) (ceX9 rfl) rfl) rfl rfl hl.1 rfl (lv_room (Nat.le_of_ble_eq_true rfl)) dX9_goBoth_22 ⟨Nat.le_of_ble_eq_true rfl, Nat.le_of_ble_eq_true rfl⟩) hS (fun H locs hP hS => ?_)
  refine lv_iload hx hb dX9_goBoth_25 (lv_at hl 0 rfl) ?_
  refine lv_if_eq (tgt := 42) hx hb dX9_goBoth_27 (by decide) (fun c27 => ?_) (fun c27 => ?_)
  · replace hf := if_t c27 hf
    exact w_X9_goBoth_42 hG C x3 h22 _ _ _ (lv_sub hl [1, 3] rfl) hP hS hf
  · replace hf := if_f c27 hf
    refine lv_aload_n hx hb dX9_goBoth_30 rfl (lv_at hl 1 rfl) ?_
    refine lv_iload_n hx hb dX9_goBoth_31 rfl (lv_at hl 3 rfl) ?_
    obtain ⟨r32, h32, er32, hf⟩ := bP_s hf
    refine r_callI (va_runV (As := [.int x3]) (rest := []) ⟨hx, hb, hml, hown, hts⟩ (k_X9_clashOf l hG er32) (cwV 1 hts (gV wd1371 wd1373 wd51 wd82 wd1374) rfl rfl rfl (by decide +kernel) ⟨Nat.le_of_ble_eq_true rfl, Nat.le_of_ble_eq_true rfl⟩) (r_pv hK hP hS (ltX9 rfl) (ceX9 rfl) rfl) rfl rfl hl.1 rfl (lv_room (Nat.le_of_ble_eq_true rfl)) dX9_goBoth_32 ⟨Nat.le_of_ble_eq_true rfl, Nat.le_of_ble_eq_true rfl⟩) hS (fun H locs hP hS => ?_)
    refine lv_if_ne (tgt := 42) hx hb dX9_goBoth_35 (by decide) (fun c35 => ?_) (fun c35 => ?_)
    · replace hf := if_f c35 hf
      exact w_X9_goBoth_42 hG C x3 h32 _ _ _ (lv_sub hl [1, 3] rfl) hP hS hf
    · replace hf := if_t c35 hf
      refine lv_iconst (v := 1) hx hb dX9_goBoth_38 (by decide) ?_
      refine lv_goto (tgt := 43) hx hb dX9_goBoth_39 (by decide) ?_
      exact w_X9_goBoth_43 hG C x3 1 h32 _ _ _ (lv_sub hl [1, 3] rfl) hP hS hf
def f_X9_goBoth (x1 : Int32) (x2 : Int32) (x3 : Int32) (h : PH) : Option (Int32 × PH) := bO (f_X9_tryLine x1 h) (fun h2 => bP (f_X9_clashOf x2 h2) (fun r7 h7 => if r7 = 0 then (f_X9_goBoth_18 x2 x3 1 h7) else (f_X9_goBoth_18 x2 x3 0 h7)))
set_option maxHeartbeats 4000000 in
set_option maxRecDepth 100000 in
theorem k_X9_goBoth (l : Launch) {G : GC} (hG : GOK G) {x1 : Int32} {x2 : Int32} {x3 : Int32} {rr : Int32} {h hh : PH} (hf : f_X9_goBoth x1 x2 x3 h = some (rr, hh)) : CI l yX9_goBoth vX9_goBoth rmX9_goBoth G [.ref (gB G 66), .int x1, .int x2, .int x3] h rr hh := by
  refine Met.ofW (cc := cX9_goBoth) (maxL := 5) (ret := (some .boolean)) (by decide +kernel) rfl ?_
  intro p e s m args below meth c s₁ B hml hv
  obtain ⟨rfl, hP, hK⟩ := hv
  have C : MC l G p s m _ meth c RX9 cX9_goBoth 5 (some .boolean) := ⟨B.exec, B.bytes, B.returns, B.notSynchronized, hml, findClass_of_methodNamed B.named, fun w hw => atoms_spec (ws := vX9_goBoth) B.pre w (List.mem_cons_of_mem _ hw), hK⟩
  obtain ⟨hx, hb, hr, hlocks, -, hown, hts, -⟩ := id C
  have hl := lv_entry ([.ref (gB G 66), .int x1, .int x2, .int x3]) (n := 5) (Nat.le_of_ble_eq_true rfl)
  rw [lg_entry_eq]
  generalize (lg_sl ([.ref (gB G 66), .int x1, .int x2, .int x3]) ++ List.replicate (5 - (lg_sl ([.ref (gB G 66), .int x1, .int x2, .int x3])).length) Slot.unset).toArray = ls at hl ⊢
  have hl : lv_has ls 5 [(0, .ref (gB G 66)), (1, .int x1), (2, .int x2), (3, .int x3)] := hl
  have hS : SP G s s.heap [] := va_S.rf
  replace hP : WP G h s.heap := hP
  rw [f_X9_goBoth] at hf
  refine lv_aload_n hx hb dX9_goBoth_0 rfl (lv_at hl 0 rfl) ?_
  refine lv_iload_n hx hb dX9_goBoth_1 rfl (lv_at hl 1 rfl) ?_
  obtain ⟨h2, eh2, hf⟩ := bO_s hf
  refine r_callV (va_runV (As := [.int x1]) (rest := []) ⟨hx, hb, hml, hown, hts⟩ (k_X9_tryLine l hG eh2) (cwV 1 hts (gV wd1367 wd1369 wd50 wd82 wd1370) rfl rfl rfl (by decide +kernel) ⟨Nat.le_of_ble_eq_true rfl, Nat.le_of_ble_eq_true rfl⟩) (r_pv hK hP hS (ltX9 rfl) (ceX9 rfl) rfl) rfl rfl hl.1 rfl (lv_room (Nat.le_of_ble_eq_true rfl)) dX9_goBoth_2 ⟨Nat.le_of_ble_eq_true rfl, Nat.le_of_ble_eq_true rfl⟩) hS (fun H locs hP hS => ?_)
  refine lv_aload_n hx hb dX9_goBoth_5 rfl (lv_at hl 0 rfl) ?_
  refine lv_iload_n hx hb dX9_goBoth_6 rfl (lv_at hl 2 rfl) ?_
  obtain ⟨r7, h7, er7, hf⟩ := bP_s hf
  refine r_callI (va_runV (As := [.int x2]) (rest := []) ⟨hx, hb, hml, hown, hts⟩ (k_X9_clashOf l hG er7) (cwV 1 hts (gV wd1371 wd1373 wd51 wd82 wd1374) rfl rfl rfl (by decide +kernel) ⟨Nat.le_of_ble_eq_true rfl, Nat.le_of_ble_eq_true rfl⟩) (r_pv hK hP hS (ltX9 rfl) (ceX9 rfl) rfl) rfl rfl hl.1 rfl (lv_room (Nat.le_of_ble_eq_true rfl)) dX9_goBoth_7 ⟨Nat.le_of_ble_eq_true rfl, Nat.le_of_ble_eq_true rfl⟩) hS (fun H locs hP hS => ?_)
  refine lv_if_ne (tgt := 17) hx hb dX9_goBoth_10 (by decide) (fun c10 => ?_) (fun c10 => ?_)
  · replace hf := if_f c10 hf
    refine lv_iconst (v := 0) hx hb dX9_goBoth_17 (by decide) ?_
    exact w_X9_goBoth_18 hG C x2 x3 0 h7 _ _ _ (lv_sub hl [0, 2, 3] rfl) hP hS hf
  · replace hf := if_t c10 hf
    refine lv_iconst (v := 1) hx hb dX9_goBoth_13 (by decide) ?_
    refine lv_goto (tgt := 18) hx hb dX9_goBoth_14 (by decide) ?_
    exact w_X9_goBoth_18 hG C x2 x3 1 h7 _ _ _ (lv_sub hl [0, 2, 3] rfl) hP hS hf
/-! CarriedBackModel.apart(III)I -/
abbrev rmX9_apart : Room := { frames := 3, cells := 0, slots := 0, locals := 71 }
abbrev vX9_apart : List Cond := Cond.code yX9_apart cX9_apart 6 (some .int) :: GW
def f_X9_apart_127 : Nat → Int32 → Int32 → PH → Option (Int32 × PH)
  | 0, _, _, _ => none
  | n + 1, x4, x5, h => if (16 : Int32) ≤ x5 then (if x4 = 0 then (some (0, h)) else (some (1, h))) else (if x4 = 0 then ((f_X9_apart_127 n) 0 (x5 + 1) h) else (bO (ag h 90 16 x5) (fun v145 => bO (ag h 89 16 x5) (fun v152 => if v145 = v152 then ((f_X9_apart_127 n) 1 (x5 + 1) h) else ((f_X9_apart_127 n) 0 (x5 + 1) h)))))
set_option maxHeartbeats 4000000 in
set_option maxRecDepth 100000 in
theorem w_X9_apart_127 {l : Launch} {G : GC} (hG : GOK G) {rr : Int32} {hh : PH} {p : Program} {e : Env} {s : State} {m : MethodId} {args : Array Value} {below : List Frame} {meth : Method} {c : Code} (C : MC l G p s m args meth c RX9 cX9_apart 6 (some .int)) : ∀ (n : Nat) (x4 : Int32) (x5 : Int32) (h : PH) (H : Heap) (locs : List Loc) (ls : Array Slot), lv_has ls 6 [(0, .ref (gB G 66)), (4, .int x4), (5, .int x5)] → WP G h H → SP G s H locs → f_X9_apart_127 n x4 x5 h = some (rr, hh) → W p l e rmX9_apart s m args below meth c H locs 0 0 (MQ below (QI G rr hh) args s 0 0 (gA G)) (F0 m 127 ls []) := by
  obtain ⟨hx, hb, hr, hlocks, hml, hown, hts, hK⟩ := id C
  intro n
  induction n with
  | zero => intro x4 x5 h H locs ls hl hP hS hf; rw [f_X9_apart_127] at hf; cases hf
  | succ n ih =>
    intro x4 x5 h H locs ls hl hP hS hf
    rw [f_X9_apart_127] at hf
    refine lv_iload hx hb dX9_apart_127 (lv_at hl 2 rfl) ?_
    refine lv_bipush (v := 16) hx hb dX9_apart_129 (by decide) ?_
    refine lv_icmp_ge (tgt := 169) hx hb dX9_apart_131 (by decide) (fun c131 => ?_) (fun c131 => ?_)
    · replace hf := if_t c131 hf
      refine lv_iload hx hb dX9_apart_169 (lv_at hl 1 rfl) ?_
      refine lv_if_eq (tgt := 178) hx hb dX9_apart_171 (by decide) (fun c171 => ?_) (fun c171 => ?_)
      · replace hf := if_t c171 hf
        refine lv_iconst (v := 0) hx hb dX9_apart_178 (by decide) ?_
        exact r_iret hx hb hr hlocks hP hS (re2 (Option.some.inj hf)) dX9_apart_179
      · replace hf := if_f c171 hf
        refine lv_iconst (v := 1) hx hb dX9_apart_174 (by decide) ?_
        refine lv_goto (tgt := 179) hx hb dX9_apart_175 (by decide) ?_
        exact r_iret hx hb hr hlocks hP hS (re2 (Option.some.inj hf)) dX9_apart_179
    · replace hf := if_f c131 hf
      refine lv_iload hx hb dX9_apart_134 (lv_at hl 1 rfl) ?_
      refine lv_if_eq (tgt := 160) hx hb dX9_apart_136 (by decide) (fun c136 => ?_) (fun c136 => ?_)
      · replace hf := if_t c136 hf
        refine lv_iconst (v := 0) hx hb dX9_apart_160 (by decide) ?_
        refine lv_istore (lv' := [(4, .int 0), (0, .ref (gB G 66)), (5, .int x5)]) hx hb dX9_apart_161 hl (by decide) rfl (fun ls hl => ?_)
        refine lv_iinc (v := (x5 + 1)) (lv' := [(5, .int (x5 + 1)), (4, .int 0), (0, .ref (gB G 66))]) hx hb dX9_apart_163 hl (k := 2) rfl rfl (by decide) rfl (fun ls hl => ?_)
        refine lv_goto (tgt := 127) hx hb dX9_apart_166 (by decide) ?_
        exact ih 0 (x5 + 1) h _ _ _ (lv_sub hl [2, 1, 0] rfl) hP hS hf
      · replace hf := if_f c136 hf
        refine lv_aload_n hx hb dX9_apart_139 rfl (lv_at hl 0 rfl) ?_
        refine r_get (a := 66) (v := .ref (gB G 90)) (C := RX9) (T := TX9) (N := 55) hx hb hts hinX9 hown hK hP (ltX9 rfl) (ceX9 rfl) rfl 38 (by decide) wd1073 rfl dX9_apart_140 ?_
        refine lv_iload hx hb dX9_apart_143 (lv_at hl 2 rfl) ?_
        obtain ⟨v145, ev145, hf⟩ := bO_s hf
        refine r_iald hx hb hK hP (arX9_38 rfl) ev145 dX9_apart_145 ?_
        refine lv_aload_n hx hb dX9_apart_146 rfl (lv_at hl 0 rfl) ?_
        refine r_get (a := 66) (v := .ref (gB G 89)) (C := RX9) (T := TX9) (N := 55) hx hb hts hinX9 hown hK hP (ltX9 rfl) (ceX9 rfl) rfl 37 (by decide) wd1072 rfl dX9_apart_147 ?_
        refine lv_iload hx hb dX9_apart_150 (lv_at hl 2 rfl) ?_
        obtain ⟨v152, ev152, hf⟩ := bO_s hf
        refine r_iald hx hb hK hP (arX9_37 rfl) ev152 dX9_apart_152 ?_
        refine lv_icmp_ne (tgt := 160) hx hb dX9_apart_153 (by decide) (fun c153 => ?_) (fun c153 => ?_)
        · replace hf := if_f c153 hf
          refine lv_iconst (v := 0) hx hb dX9_apart_160 (by decide) ?_
          refine lv_istore (lv' := [(4, .int 0), (0, .ref (gB G 66)), (5, .int x5)]) hx hb dX9_apart_161 hl (by decide) rfl (fun ls hl => ?_)
          refine lv_iinc (v := (x5 + 1)) (lv' := [(5, .int (x5 + 1)), (4, .int 0), (0, .ref (gB G 66))]) hx hb dX9_apart_163 hl (k := 2) rfl rfl (by decide) rfl (fun ls hl => ?_)
          refine lv_goto (tgt := 127) hx hb dX9_apart_166 (by decide) ?_
          exact ih 0 (x5 + 1) h _ _ _ (lv_sub hl [2, 1, 0] rfl) hP hS hf
        · replace hf := if_t c153 hf
          refine lv_iconst (v := 1) hx hb dX9_apart_156 (by decide) ?_
          refine lv_goto (tgt := 161) hx hb dX9_apart_157 (by decide) ?_
          refine lv_istore (lv' := [(4, .int 1), (0, .ref (gB G 66)), (5, .int x5)]) hx hb dX9_apart_161 hl (by decide) rfl (fun ls hl => ?_)
          refine lv_iinc (v := (x5 + 1)) (lv' := [(5, .int (x5 + 1)), (4, .int 1), (0, .ref (gB G 66))]) hx hb dX9_apart_163 hl (k := 2) rfl rfl (by decide) rfl (fun ls hl => ?_)
          refine lv_goto (tgt := 127) hx hb dX9_apart_166 (by decide) ?_
          exact ih 1 (x5 + 1) h _ _ _ (lv_sub hl [2, 1, 0] rfl) hP hS hf
def f_X9_apart_75 (x1 : Int32) (x2 : Int32) (x3 : Int32) (x4 : Int32) : Nat → Int32 → PH → Option (Int32 × PH)
  | 0, _, _ => none
  | n + 1, x5, h => if (16 : Int32) ≤ x5 then (bP (f_X9_goBoth x1 x3 x2 h) (fun r106 h106 => if r106 = 0 then (f_X9_apart_127 FU 0 0 h106) else (if x4 = 0 then (f_X9_apart_127 FU 0 0 h106) else (f_X9_apart_127 FU 1 0 h106)))) else (bO (ag h 89 16 x5) (fun v94 => bO (asg h 90 16 x5 v94) (fun h95 => (f_X9_apart_75 x1 x2 x3 x4 n) (x5 + 1) h95)))
set_option maxHeartbeats 4000000 in
set_option maxRecDepth 100000 in
theorem w_X9_apart_75 {l : Launch} {G : GC} (hG : GOK G) {rr : Int32} {hh : PH} {p : Program} {e : Env} {s : State} {m : MethodId} {args : Array Value} {below : List Frame} {meth : Method} {c : Code} (C : MC l G p s m args meth c RX9 cX9_apart 6 (some .int)) (x1 : Int32) (x2 : Int32) (x3 : Int32) (x4 : Int32) : ∀ (n : Nat) (x5 : Int32) (h : PH) (H : Heap) (locs : List Loc) (ls : Array Slot), lv_has ls 6 [(0, .ref (gB G 66)), (1, .int x1), (2, .int x2), (3, .int x3), (4, .int x4), (5, .int x5)] → WP G h H → SP G s H locs → f_X9_apart_75 x1 x2 x3 x4 n x5 h = some (rr, hh) → W p l e rmX9_apart s m args below meth c H locs 0 0 (MQ below (QI G rr hh) args s 0 0 (gA G)) (F0 m 75 ls []) := by
  obtain ⟨hx, hb, hr, hlocks, hml, hown, hts, hK⟩ := id C
  intro n
  induction n with
  | zero => intro x5 h H locs ls hl hP hS hf; rw [f_X9_apart_75] at hf; cases hf
  | succ n ih =>
    intro x5 h H locs ls hl hP hS hf
    rw [f_X9_apart_75] at hf
    refine lv_iload hx hb dX9_apart_75 (lv_at hl 5 rfl) ?_
    refine lv_bipush (v := 16) hx hb dX9_apart_77 (by decide) ?_
    refine lv_icmp_ge (tgt := 102) hx hb dX9_apart_79 (by decide) (fun c79 => ?_) (fun c79 => ?_)
    · replace hf := if_t c79 hf
      refine lv_aload_n hx hb dX9_apart_102 rfl (lv_at hl 0 rfl) ?_
      refine lv_iload_n hx hb dX9_apart_103 rfl (lv_at hl 1 rfl) ?_
      refine lv_iload_n hx hb dX9_apart_104 rfl (lv_at hl 3 rfl) ?_
      refine lv_iload_n hx hb dX9_apart_105 rfl (lv_at hl 2 rfl) ?_
      obtain ⟨r106, h106, er106, hf⟩ := bP_s hf
      refine r_callI (va_runV (As := [.int x1, .int x3, .int x2]) (rest := []) ⟨hx, hb, hml, hown, hts⟩ (k_X9_goBoth l hG er106) (cwV 3 hts (gV wd1414 wd1416 wd56 wd82 wd1417) rfl rfl rfl (by decide +kernel) ⟨Nat.le_of_ble_eq_true rfl, Nat.le_of_ble_eq_true rfl⟩) (r_pv hK hP hS (ltX9 rfl) (ceX9 rfl) rfl) rfl rfl hl.1 rfl (lv_room (Nat.le_of_ble_eq_true rfl)) dX9_apart_106 ⟨Nat.le_of_ble_eq_true rfl, Nat.le_of_ble_eq_true rfl⟩) hS (fun H locs hP hS => ?_)
      refine lv_if_eq (tgt := 121) hx hb dX9_apart_109 (by decide) (fun c109 => ?_) (fun c109 => ?_)
      · replace hf := if_t c109 hf
        refine lv_iconst (v := 0) hx hb dX9_apart_121 (by decide) ?_
        refine lv_istore (lv' := [(4, .int 0), (0, .ref (gB G 66)), (1, .int x1), (2, .int x2), (3, .int x3), (5, .int x5)]) hx hb dX9_apart_122 hl (by decide) rfl (fun ls hl => ?_)
        refine lv_iconst (v := 0) hx hb dX9_apart_124 (by decide) ?_
        refine lv_istore (lv' := [(5, .int 0), (4, .int 0), (0, .ref (gB G 66)), (1, .int x1), (2, .int x2), (3, .int x3)]) hx hb dX9_apart_125 hl (by decide) rfl (fun ls hl => ?_)
        exact w_X9_apart_127 hG C FU 0 0 h106 _ _ _ (lv_sub hl [2, 1, 0] rfl) hP hS hf
      · replace hf := if_f c109 hf
        refine lv_iload hx hb dX9_apart_112 (lv_at hl 4 rfl) ?_
        refine lv_if_eq (tgt := 121) hx hb dX9_apart_114 (by decide) (fun c114 => ?_) (fun c114 => ?_)
        · replace hf := if_t c114 hf
          refine lv_iconst (v := 0) hx hb dX9_apart_121 (by decide) ?_
          refine lv_istore (lv' := [(4, .int 0), (0, .ref (gB G 66)), (1, .int x1), (2, .int x2), (3, .int x3), (5, .int x5)]) hx hb dX9_apart_122 hl (by decide) rfl (fun ls hl => ?_)
          refine lv_iconst (v := 0) hx hb dX9_apart_124 (by decide) ?_
          refine lv_istore (lv' := [(5, .int 0), (4, .int 0), (0, .ref (gB G 66)), (1, .int x1), (2, .int x2), (3, .int x3)]) hx hb dX9_apart_125 hl (by decide) rfl (fun ls hl => ?_)
          exact w_X9_apart_127 hG C FU 0 0 h106 _ _ _ (lv_sub hl [2, 1, 0] rfl) hP hS hf
        · replace hf := if_f c114 hf
          refine lv_iconst (v := 1) hx hb dX9_apart_117 (by decide) ?_
          refine lv_goto (tgt := 122) hx hb dX9_apart_118 (by decide) ?_
          refine lv_istore (lv' := [(4, .int 1), (0, .ref (gB G 66)), (1, .int x1), (2, .int x2), (3, .int x3), (5, .int x5)]) hx hb dX9_apart_122 hl (by decide) rfl (fun ls hl => ?_)
          refine lv_iconst (v := 0) hx hb dX9_apart_124 (by decide) ?_
          refine lv_istore (lv' := [(5, .int 0), (4, .int 1), (0, .ref (gB G 66)), (1, .int x1), (2, .int x2), (3, .int x3)]) hx hb dX9_apart_125 hl (by decide) rfl (fun ls hl => ?_)
          exact w_X9_apart_127 hG C FU 1 0 h106 _ _ _ (lv_sub hl [2, 1, 0] rfl) hP hS hf
    · replace hf := if_f c79 hf
      refine lv_aload_n hx hb dX9_apart_82 rfl (lv_at hl 0 rfl) ?_
      refine r_get (a := 66) (v := .ref (gB G 90)) (C := RX9) (T := TX9) (N := 55) hx hb hts hinX9 hown hK hP (ltX9 rfl) (ceX9 rfl) rfl 38 (by decide) wd1073 rfl dX9_apart_83 ?_
      refine lv_iload hx hb dX9_apart_86 (lv_at hl 5 rfl) ?_
      refine lv_aload_n hx hb dX9_apart_88 rfl (lv_at hl 0 rfl) ?_
      refine r_get (a := 66) (v := .ref (gB G 89)) (C := RX9) (T := TX9) (N := 55) hx hb hts hinX9 hown hK hP (ltX9 rfl) (ceX9 rfl) rfl 37 (by decide) wd1072 rfl dX9_apart_89 ?_
      refine lv_iload hx hb dX9_apart_92 (lv_at hl 5 rfl) ?_
      obtain ⟨v94, ev94, hf⟩ := bO_s hf
      refine r_iald hx hb hK hP (arX9_37 rfl) ev94 dX9_apart_94 ?_
      obtain ⟨h95, eh95, hf⟩ := bO_s hf
      refine r_iast hG hx hb hK hP hS (arX9_38 rfl) eh95 dX9_apart_95 (fun H locs hP hS => ?_)
      refine lv_iinc (v := (x5 + 1)) (lv' := [(5, .int (x5 + 1)), (0, .ref (gB G 66)), (1, .int x1), (2, .int x2), (3, .int x3), (4, .int x4)]) hx hb dX9_apart_96 hl (k := 5) rfl rfl (by decide) rfl (fun ls hl => ?_)
      refine lv_goto (tgt := 75) hx hb dX9_apart_99 (by decide) ?_
      exact ih (x5 + 1) h95 _ _ _ (lv_sub hl [1, 2, 3, 4, 5, 0] rfl) hP hS hf
def f_X9_apart (x1 : Int32) (x2 : Int32) (x3 : Int32) (h : PH) : Option (Int32 × PH) := bP (f_X9_isLine x1 h) (fun r2 h2 => if r2 = 0 then (some ((-1001), h2)) else (bP (f_X9_isChange x2 h2) (fun r10 h10 => if r10 = 0 then (some ((-1001), h10)) else (bP (f_X9_isChange x3 h10) (fun r18 h18 => if r18 = 0 then (some ((-1001), h18)) else (if x2 = x3 then (some ((-1001), h18)) else (bO (ag h18 74 4 x1) (fun v38 => bO (f_X9_has v38 x2) (fun r40 => if r40 = 0 then (bO (ag h18 74 4 x1) (fun v51 => bO (f_X9_has v51 x3) (fun r53 => if r53 = 0 then (bP (f_X9_goBoth x1 x2 x3 h18) (fun r67 h67 => f_X9_apart_75 x1 x2 x3 r67 FU 0 h67)) else (some ((-1003), h18))))) else (some ((-1003), h18)))))))))))
set_option maxHeartbeats 4000000 in
set_option maxRecDepth 100000 in
theorem k_X9_apart (l : Launch) {G : GC} (hG : GOK G) {x1 : Int32} {x2 : Int32} {x3 : Int32} {rr : Int32} {h hh : PH} (hf : f_X9_apart x1 x2 x3 h = some (rr, hh)) : CI l yX9_apart vX9_apart rmX9_apart G [.ref (gB G 66), .int x1, .int x2, .int x3] h rr hh := by
  refine Met.ofW (cc := cX9_apart) (maxL := 6) (ret := (some .int)) (by decide +kernel) rfl ?_
  intro p e s m args below meth c s₁ B hml hv
  obtain ⟨rfl, hP, hK⟩ := hv
  have C : MC l G p s m _ meth c RX9 cX9_apart 6 (some .int) := ⟨B.exec, B.bytes, B.returns, B.notSynchronized, hml, findClass_of_methodNamed B.named, fun w hw => atoms_spec (ws := vX9_apart) B.pre w (List.mem_cons_of_mem _ hw), hK⟩
  obtain ⟨hx, hb, hr, hlocks, -, hown, hts, -⟩ := id C
  have hl := lv_entry ([.ref (gB G 66), .int x1, .int x2, .int x3]) (n := 6) (Nat.le_of_ble_eq_true rfl)
  rw [lg_entry_eq]
  generalize (lg_sl ([.ref (gB G 66), .int x1, .int x2, .int x3]) ++ List.replicate (6 - (lg_sl ([.ref (gB G 66), .int x1, .int x2, .int x3])).length) Slot.unset).toArray = ls at hl ⊢
  have hl : lv_has ls 6 [(0, .ref (gB G 66)), (1, .int x1), (2, .int x2), (3, .int x3)] := hl
  have hS : SP G s s.heap [] := va_S.rf
  replace hP : WP G h s.heap := hP
  rw [f_X9_apart] at hf
  refine lv_aload_n hx hb dX9_apart_0 rfl (lv_at hl 0 rfl) ?_
  refine lv_iload_n hx hb dX9_apart_1 rfl (lv_at hl 1 rfl) ?_
  obtain ⟨r2, h2, er2, hf⟩ := bP_s hf
  refine r_callI (va_runV (As := [.int x1]) (rest := []) ⟨hx, hb, hml, hown, hts⟩ (k_X9_isLine l hG er2) (cwV 1 hts (gV wd1347 wd1349 wd47 wd82 wd1350) rfl rfl rfl (by decide +kernel) ⟨Nat.le_of_ble_eq_true rfl, Nat.le_of_ble_eq_true rfl⟩) (r_pv hK hP hS (ltX9 rfl) (ceX9 rfl) rfl) rfl rfl hl.1 rfl (lv_room (Nat.le_of_ble_eq_true rfl)) dX9_apart_2 ⟨Nat.le_of_ble_eq_true rfl, Nat.le_of_ble_eq_true rfl⟩) hS (fun H locs hP hS => ?_)
  refine lv_if_eq (tgt := 29) hx hb dX9_apart_5 (by decide) (fun c5 => ?_) (fun c5 => ?_)
  · replace hf := if_t c5 hf
    refine lv_sipush (v := (-1001)) hx hb dX9_apart_29 (by decide) ?_
    exact r_iret hx hb hr hlocks hP hS (re2 (Option.some.inj hf)) dX9_apart_32
  · replace hf := if_f c5 hf
    refine lv_aload_n hx hb dX9_apart_8 rfl (lv_at hl 0 rfl) ?_
    refine lv_iload_n hx hb dX9_apart_9 rfl (lv_at hl 2 rfl) ?_
    obtain ⟨r10, h10, er10, hf⟩ := bP_s hf
    refine r_callI (va_runV (As := [.int x2]) (rest := []) ⟨hx, hb, hml, hown, hts⟩ (k_X9_isChange l hG er10) (cwV 1 hts (gV wd1299 wd1301 wd42 wd82 wd1302) rfl rfl rfl (by decide +kernel) ⟨Nat.le_of_ble_eq_true rfl, Nat.le_of_ble_eq_true rfl⟩) (r_pv hK hP hS (ltX9 rfl) (ceX9 rfl) rfl) rfl rfl hl.1 rfl (lv_room (Nat.le_of_ble_eq_true rfl)) dX9_apart_10 ⟨Nat.le_of_ble_eq_true rfl, Nat.le_of_ble_eq_true rfl⟩) hS (fun H locs hP hS => ?_)
    refine lv_if_eq (tgt := 29) hx hb dX9_apart_13 (by decide) (fun c13 => ?_) (fun c13 => ?_)
    · replace hf := if_t c13 hf
      refine lv_sipush (v := (-1001)) hx hb dX9_apart_29 (by decide) ?_
      exact r_iret hx hb hr hlocks hP hS (re2 (Option.some.inj hf)) dX9_apart_32
    · replace hf := if_f c13 hf
      refine lv_aload_n hx hb dX9_apart_16 rfl (lv_at hl 0 rfl) ?_
      refine lv_iload_n hx hb dX9_apart_17 rfl (lv_at hl 3 rfl) ?_
      obtain ⟨r18, h18, er18, hf⟩ := bP_s hf
      refine r_callI (va_runV (As := [.int x3]) (rest := []) ⟨hx, hb, hml, hown, hts⟩ (k_X9_isChange l hG er18) (cwV 1 hts (gV wd1299 wd1301 wd42 wd82 wd1302) rfl rfl rfl (by decide +kernel) ⟨Nat.le_of_ble_eq_true rfl, Nat.le_of_ble_eq_true rfl⟩) (r_pv hK hP hS (ltX9 rfl) (ceX9 rfl) rfl) rfl rfl hl.1 rfl (lv_room (Nat.le_of_ble_eq_true rfl)) dX9_apart_18 ⟨Nat.le_of_ble_eq_true rfl, Nat.le_of_ble_eq_true rfl⟩) hS (fun H locs hP hS => ?_)
      refine lv_if_eq (tgt := 29) hx hb dX9_apart_21 (by decide) (fun c21 => ?_) (fun c21 => ?_)
      · replace hf := if_t c21 hf
        refine lv_sipush (v := (-1001)) hx hb dX9_apart_29 (by decide) ?_
        exact r_iret hx hb hr hlocks hP hS (re2 (Option.some.inj hf)) dX9_apart_32
      · replace hf := if_f c21 hf
        refine lv_iload_n hx hb dX9_apart_24 rfl (lv_at hl 2 rfl) ?_
        refine lv_iload_n hx hb dX9_apart_25 rfl (lv_at hl 3 rfl) ?_
        refine lv_icmp_ne (tgt := 33) hx hb dX9_apart_26 (by decide) (fun c26 => ?_) (fun c26 => ?_)
        · replace hf := if_f c26 hf
          refine lv_aload_n hx hb dX9_apart_33 rfl (lv_at hl 0 rfl) ?_
          refine r_get (a := 66) (v := .ref (gB G 74)) (C := RX9) (T := TX9) (N := 55) hx hb hts hinX9 hown hK hP (ltX9 rfl) (ceX9 rfl) rfl 10 (by decide) wd1045 rfl dX9_apart_34 ?_
          refine lv_iload_n hx hb dX9_apart_37 rfl (lv_at hl 1 rfl) ?_
          obtain ⟨v38, ev38, hf⟩ := bO_s hf
          refine r_iald hx hb hK hP (arX9_10 rfl) ev38 dX9_apart_38 ?_
          refine lv_iload_n hx hb dX9_apart_39 rfl (lv_at hl 2 rfl) ?_
          obtain ⟨r40, er40, hf⟩ := bO_s hf
          refine r_callI (va_runS (As := [.int v38, .int x2]) (rest := []) ⟨hx, hb, hml, hown, hts⟩ (k_X9_has l hG (h := h18) er40) (va_cwS 2 hts (gS wd1260 wd1261 wd82 wd1262) rfl rfl rfl (by decide +kernel) ⟨Nat.le_of_ble_eq_true rfl, Nat.le_of_ble_eq_true rfl⟩) (r_ps hK hP hS) rfl rfl hl.1 rfl (lv_room (Nat.le_of_ble_eq_true rfl)) dX9_apart_40 ⟨Nat.le_of_ble_eq_true rfl, Nat.le_of_ble_eq_true rfl⟩) hS (fun H locs hP hS => ?_)
          refine lv_if_ne (tgt := 59) hx hb dX9_apart_43 (by decide) (fun c43 => ?_) (fun c43 => ?_)
          · replace hf := if_f c43 hf
            refine lv_sipush (v := (-1003)) hx hb dX9_apart_59 (by decide) ?_
            exact r_iret hx hb hr hlocks hP hS (re2 (Option.some.inj hf)) dX9_apart_62
          · replace hf := if_t c43 hf
            refine lv_aload_n hx hb dX9_apart_46 rfl (lv_at hl 0 rfl) ?_
            refine r_get (a := 66) (v := .ref (gB G 74)) (C := RX9) (T := TX9) (N := 55) hx hb hts hinX9 hown hK hP (ltX9 rfl) (ceX9 rfl) rfl 10 (by decide) wd1045 rfl dX9_apart_47 ?_
            refine lv_iload_n hx hb dX9_apart_50 rfl (lv_at hl 1 rfl) ?_
            obtain ⟨v51, ev51, hf⟩ := bO_s hf
            refine r_iald hx hb hK hP (arX9_10 rfl) ev51 dX9_apart_51 ?_
            refine lv_iload_n hx hb dX9_apart_52 rfl (lv_at hl 3 rfl) ?_
            obtain ⟨r53, er53, hf⟩ := bO_s hf
            refine r_callI (va_runS (As := [.int v51, .int x3]) (rest := []) ⟨hx, hb, hml, hown, hts⟩ (k_X9_has l hG (h := h18) er53) (va_cwS 2 hts (gS wd1260 wd1261 wd82 wd1262) rfl rfl rfl (by decide +kernel) ⟨Nat.le_of_ble_eq_true rfl, Nat.le_of_ble_eq_true rfl⟩) (r_ps hK hP hS) rfl rfl hl.1 rfl (lv_room (Nat.le_of_ble_eq_true rfl)) dX9_apart_53 ⟨Nat.le_of_ble_eq_true rfl, Nat.le_of_ble_eq_true rfl⟩) hS (fun H locs hP hS => ?_)
            refine lv_if_eq (tgt := 63) hx hb dX9_apart_56 (by decide) (fun c56 => ?_) (fun c56 => ?_)
            · replace hf := if_t c56 hf
              refine lv_aload_n hx hb dX9_apart_63 rfl (lv_at hl 0 rfl) ?_
              refine lv_iload_n hx hb dX9_apart_64 rfl (lv_at hl 1 rfl) ?_
              refine lv_iload_n hx hb dX9_apart_65 rfl (lv_at hl 2 rfl) ?_
              refine lv_iload_n hx hb dX9_apart_66 rfl (lv_at hl 3 rfl) ?_
              obtain ⟨r67, h67, er67, hf⟩ := bP_s hf
              refine r_callI (va_runV (As := [.int x1, .int x2, .int x3]) (rest := []) ⟨hx, hb, hml, hown, hts⟩ (k_X9_goBoth l hG er67) (cwV 3 hts (gV wd1414 wd1416 wd56 wd82 wd1417) rfl rfl rfl (by decide +kernel) ⟨Nat.le_of_ble_eq_true rfl, Nat.le_of_ble_eq_true rfl⟩) (r_pv hK hP hS (ltX9 rfl) (ceX9 rfl) rfl) rfl rfl hl.1 rfl (lv_room (Nat.le_of_ble_eq_true rfl)) dX9_apart_67 ⟨Nat.le_of_ble_eq_true rfl, Nat.le_of_ble_eq_true rfl⟩) hS (fun H locs hP hS => ?_)
              refine lv_istore (lv' := [(4, .int r67), (0, .ref (gB G 66)), (1, .int x1), (2, .int x2), (3, .int x3)]) hx hb dX9_apart_70 hl (by decide) rfl (fun ls hl => ?_)
              refine lv_iconst (v := 0) hx hb dX9_apart_72 (by decide) ?_
              refine lv_istore (lv' := [(5, .int 0), (4, .int r67), (0, .ref (gB G 66)), (1, .int x1), (2, .int x2), (3, .int x3)]) hx hb dX9_apart_73 hl (by decide) rfl (fun ls hl => ?_)
              exact w_X9_apart_75 hG C x1 x2 x3 r67 FU 0 h67 _ _ _ (lv_sub hl [2, 3, 4, 5, 1, 0] rfl) hP hS hf
            · replace hf := if_f c56 hf
              refine lv_sipush (v := (-1003)) hx hb dX9_apart_59 (by decide) ?_
              exact r_iret hx hb hr hlocks hP hS (re2 (Option.some.inj hf)) dX9_apart_62
        · replace hf := if_t c26 hf
          refine lv_sipush (v := (-1001)) hx hb dX9_apart_29 (by decide) ?_
          exact r_iret hx hb hr hlocks hP hS (re2 (Option.some.inj hf)) dX9_apart_32
/-! CarriedBackModel.areFaults(I)Z -/
abbrev rmX9_areFaults : Room := { frames := 1, cells := 0, slots := 0, locals := 25 }
abbrev vX9_areFaults : List Cond := Cond.code yX9_areFaults cX9_areFaults 2 (some .boolean) :: GW
def f_X9_areFaults (x1 : Int32) (h : PH) : Option (Int32 × PH) := bO (f_X9_in (x1 : Int32).toInt64 0 (((1 <<< ((h.1 66 4) &&& 31)) - 1) : Int32).toInt64) (fun r12 => zr r12 (r12, h))
set_option maxHeartbeats 4000000 in
set_option maxRecDepth 100000 in
theorem k_X9_areFaults (l : Launch) {G : GC} (hG : GOK G) {x1 : Int32} {rr : Int32} {h hh : PH} (hf : f_X9_areFaults x1 h = some (rr, hh)) : CI l yX9_areFaults vX9_areFaults rmX9_areFaults G [.ref (gB G 66), .int x1] h rr hh := by
  refine Met.ofW (cc := cX9_areFaults) (maxL := 2) (ret := (some .boolean)) (by decide +kernel) rfl ?_
  intro p e s m args below meth c s₁ B hml hv
  obtain ⟨rfl, hP, hK⟩ := hv
  have C : MC l G p s m _ meth c RX9 cX9_areFaults 2 (some .boolean) := ⟨B.exec, B.bytes, B.returns, B.notSynchronized, hml, findClass_of_methodNamed B.named, fun w hw => atoms_spec (ws := vX9_areFaults) B.pre w (List.mem_cons_of_mem _ hw), hK⟩
  obtain ⟨hx, hb, hr, hlocks, -, hown, hts, -⟩ := id C
  have hl := lv_entry ([.ref (gB G 66), .int x1]) (n := 2) (Nat.le_of_ble_eq_true rfl)
  rw [lg_entry_eq]
  generalize (lg_sl ([.ref (gB G 66), .int x1]) ++ List.replicate (2 - (lg_sl ([.ref (gB G 66), .int x1])).length) Slot.unset).toArray = ls at hl ⊢
  have hl : lv_has ls 2 [(0, .ref (gB G 66)), (1, .int x1)] := hl
  have hS : SP G s s.heap [] := va_S.rf
  replace hP : WP G h s.heap := hP
  rw [f_X9_areFaults] at hf
  refine lv_iload_n hx hb dX9_areFaults_0 rfl (lv_at hl 1 rfl) ?_
  refine lv_i2l hx hb dX9_areFaults_1 rfl ?_
  refine lv_lconst (v := 0) hx hb dX9_areFaults_2 (by decide) ?_
  refine lv_iconst (v := 1) hx hb dX9_areFaults_3 (by decide) ?_
  refine lv_aload_n hx hb dX9_areFaults_4 rfl (lv_at hl 0 rfl) ?_
  refine r_get (a := 66) (v := .int (h.1 66 4)) (C := RX9) (T := TX9) (N := 55) hx hb hts hinX9 hown hK hP (ltX9 rfl) (ceX9 rfl) rfl 4 (by decide) wd1039 rfl dX9_areFaults_5 ?_
  refine lv_ishl hx hb dX9_areFaults_8 ?_
  refine lv_iconst (v := 1) hx hb dX9_areFaults_9 (by decide) ?_
  refine lv_isub hx hb dX9_areFaults_10 ?_
  refine lv_i2l hx hb dX9_areFaults_11 rfl ?_
  obtain ⟨r12, er12, hf⟩ := bO_s hf
  refine r_callI (va_runS (As := [.long (x1 : Int32).toInt64, .long 0, .long (((1 <<< ((h.1 66 4) &&& 31)) - 1) : Int32).toInt64]) (rest := []) ⟨hx, hb, hml, hown, hts⟩ (k_X9_in l hG (h := h) er12) (va_cwS 3 hts (gS wd1206 wd1207 wd82 wd1208) rfl rfl rfl (by decide +kernel) ⟨Nat.le_of_ble_eq_true rfl, Nat.le_of_ble_eq_true rfl⟩) (r_ps hK hP hS) rfl rfl hl.1 rfl (lv_room (Nat.le_of_ble_eq_true rfl)) dX9_areFaults_12 ⟨Nat.le_of_ble_eq_true rfl, Nat.le_of_ble_eq_true rfl⟩) hS (fun H locs hP hS => ?_)
  obtain ⟨hz, hf⟩ := zr_s hf
  exact r_zret hx hb hr hz hlocks hP hS (re2 hf) dX9_areFaults_15
/-! CarriedBackModel.costOf(II)I -/
abbrev rmX9_costOf : Room := { frames := 4, cells := 0, slots := 0, locals := 97 }
abbrev vX9_costOf : List Cond := Cond.code yX9_costOf cX9_costOf 7 (some .int) :: GW
def f_X9_costOf_71 (x1 : Int32) (x2 : Int32) (x4 : Int32) (k17 : Int32 → Int32 → PH → Option (Int32 × PH)) (x3 : Int32) (x5 : Int32) (t0 : Int32) (h : PH) : Option (Int32 × PH) := if (0 : Int32) ≤ t0 then (bO (ag h 72 10 x5) (fun v90 => lt' ((x3 ||| (t0 ||| (1 <<< (v90 &&& 31))))) (fun x3_94 => k17 x3_94 (x5 + 1) h))) else (some ((-1), h))
set_option maxHeartbeats 4000000 in
set_option maxRecDepth 100000 in
theorem w_X9_costOf_71 {l : Launch} {G : GC} (hG : GOK G) {rr : Int32} {hh : PH} {p : Program} {e : Env} {s : State} {m : MethodId} {args : Array Value} {below : List Frame} {meth : Method} {c : Code} (C : MC l G p s m args meth c RX9 cX9_costOf 7 (some .int)) (x1 : Int32) (x2 : Int32) (x4 : Int32) (k17 : Int32 → Int32 → PH → Option (Int32 × PH)) (hk17 : ∀ (x3 : Int32) (x5 : Int32) (h : PH) (H : Heap) (locs : List Loc) (ls : Array Slot), lv_has ls 7 [(0, .ref (gB G 66)), (1, .int x1), (2, .int x2), (3, .int x3), (4, .int x4), (5, .int x5)] → WP G h H → SP G s H locs → k17 x3 x5 h = some (rr, hh) → W p l e rmX9_costOf s m args below meth c H locs 0 0 (MQ below (QI G rr hh) args s 0 0 (gA G)) (F0 m 17 ls [])) : ∀ (x3 : Int32) (x5 : Int32) (t0 : Int32) (h : PH) (H : Heap) (locs : List Loc) (ls : Array Slot), lv_has ls 7 [(0, .ref (gB G 66)), (1, .int x1), (2, .int x2), (3, .int x3), (4, .int x4), (5, .int x5)] → WP G h H → SP G s H locs → f_X9_costOf_71 x1 x2 x4 k17 x3 x5 t0 h = some (rr, hh) → W p l e rmX9_costOf s m args below meth c H locs 0 0 (MQ below (QI G rr hh) args s 0 0 (gA G)) (F0 m 71 ls [.int t0]) := by
  obtain ⟨hx, hb, hr, hlocks, hml, hown, hts, hK⟩ := id C
  intro x3 x5 t0 h H locs ls hl hP hS hf
  rw [f_X9_costOf_71] at hf
  refine lv_istore (lv' := [(6, .int t0), (0, .ref (gB G 66)), (1, .int x1), (2, .int x2), (3, .int x3), (4, .int x4), (5, .int x5)]) hx hb dX9_costOf_71 hl (by decide) rfl (fun ls hl => ?_)
  refine lv_iload hx hb dX9_costOf_73 (lv_at hl 0 rfl) ?_
  refine lv_if_ge (tgt := 80) hx hb dX9_costOf_75 (by decide) (fun c75 => ?_) (fun c75 => ?_)
  · replace hf := if_t c75 hf
    refine lv_iload_n hx hb dX9_costOf_80 rfl (lv_at hl 4 rfl) ?_
    refine lv_iload hx hb dX9_costOf_81 (lv_at hl 0 rfl) ?_
    refine lv_iconst (v := 1) hx hb dX9_costOf_83 (by decide) ?_
    refine lv_aload_n hx hb dX9_costOf_84 rfl (lv_at hl 1 rfl) ?_
    refine r_get (a := 66) (v := .ref (gB G 72)) (C := RX9) (T := TX9) (N := 55) hx hb hts hinX9 hown hK hP (ltX9 rfl) (ceX9 rfl) rfl 7 (by decide) wd1042 rfl dX9_costOf_85 ?_
    refine lv_iload hx hb dX9_costOf_88 (lv_at hl 6 rfl) ?_
    obtain ⟨v90, ev90, hf⟩ := bO_s hf
    refine r_iald hx hb hK hP (arX9_7 rfl) ev90 dX9_costOf_90 ?_
    refine lv_ishl hx hb dX9_costOf_91 ?_
    refine lv_ior hx hb dX9_costOf_92 ?_
    refine lv_ior hx hb dX9_costOf_93 ?_
    refine lv_topi (fun x3_94 ex3_94 => ?_)
    replace hf := lt_at ex3_94 hf
    refine lv_istore_n (lv' := [(3, .int x3_94), (6, .int t0), (0, .ref (gB G 66)), (1, .int x1), (2, .int x2), (4, .int x4), (5, .int x5)]) hx hb dX9_costOf_94 rfl hl (by decide) rfl (fun ls hl => ?_)
    refine lv_iinc (v := (x5 + 1)) (lv' := [(5, .int (x5 + 1)), (3, .int x3_94), (6, .int t0), (0, .ref (gB G 66)), (1, .int x1), (2, .int x2), (4, .int x4)]) hx hb dX9_costOf_95 hl (k := 6) rfl rfl (by decide) rfl (fun ls hl => ?_)
    refine lv_goto (tgt := 17) hx hb dX9_costOf_98 (by decide) ?_
    exact hk17 x3_94 (x5 + 1) h _ _ _ (lv_sub hl [3, 4, 5, 1, 6, 0] rfl) hP hS hf
  · replace hf := if_f c75 hf
    refine lv_iconst (v := (-1)) hx hb dX9_costOf_78 (by decide) ?_
    exact r_iret hx hb hr hlocks hP hS (re2 (Option.some.inj hf)) dX9_costOf_79
def f_X9_costOf_70 (x1 : Int32) (x2 : Int32) (x4 : Int32) (k17 : Int32 → Int32 → PH → Option (Int32 × PH)) (x3 : Int32) (x5 : Int32) (h : PH) : Option (Int32 × PH) := f_X9_costOf_71 x1 x2 x4 k17 x3 x5 (-1) h
set_option maxHeartbeats 4000000 in
set_option maxRecDepth 100000 in
theorem w_X9_costOf_70 {l : Launch} {G : GC} (hG : GOK G) {rr : Int32} {hh : PH} {p : Program} {e : Env} {s : State} {m : MethodId} {args : Array Value} {below : List Frame} {meth : Method} {c : Code} (C : MC l G p s m args meth c RX9 cX9_costOf 7 (some .int)) (x1 : Int32) (x2 : Int32) (x4 : Int32) (k17 : Int32 → Int32 → PH → Option (Int32 × PH)) (hk17 : ∀ (x3 : Int32) (x5 : Int32) (h : PH) (H : Heap) (locs : List Loc) (ls : Array Slot), lv_has ls 7 [(0, .ref (gB G 66)), (1, .int x1), (2, .int x2), (3, .int x3), (4, .int x4), (5, .int x5)] → WP G h H → SP G s H locs → k17 x3 x5 h = some (rr, hh) → W p l e rmX9_costOf s m args below meth c H locs 0 0 (MQ below (QI G rr hh) args s 0 0 (gA G)) (F0 m 17 ls [])) : ∀ (x3 : Int32) (x5 : Int32) (h : PH) (H : Heap) (locs : List Loc) (ls : Array Slot), lv_has ls 7 [(0, .ref (gB G 66)), (1, .int x1), (2, .int x2), (3, .int x3), (4, .int x4), (5, .int x5)] → WP G h H → SP G s H locs → f_X9_costOf_70 x1 x2 x4 k17 x3 x5 h = some (rr, hh) → W p l e rmX9_costOf s m args below meth c H locs 0 0 (MQ below (QI G rr hh) args s 0 0 (gA G)) (F0 m 70 ls []) := by
  obtain ⟨hx, hb, hr, hlocks, hml, hown, hts, hK⟩ := id C
  intro x3 x5 h H locs ls hl hP hS hf
  rw [f_X9_costOf_70] at hf
  refine lv_iconst (v := (-1)) hx hb dX9_costOf_70 (by decide) ?_
  exact w_X9_costOf_71 hG C x1 x2 x4 k17 hk17 x3 x5 (-1) h _ _ _ (lv_sub hl [0, 1, 2, 3, 4, 5] rfl) hP hS hf
def f_X9_costOf_17 (x1 : Int32) (x2 : Int32) (x4 : Int32) : Nat → Int32 → Int32 → PH → Option (Int32 × PH)
  | 0, _, _, _ => none
  | n + 1, x3, x5, h => if (h.1 66 4) ≤ x5 then (bO (f_X9_tryLine x1 h) (fun h103 => bP (f_X9_goAll x3 h103) (fun r108 h108 => if r108 = 0 then (some ((-1), h108)) else (some (x3, h108))))) else (bO (f_X9_has x2 x5) (fun r29 => if r29 = 0 then ((f_X9_costOf_17 x1 x2 x4 n) x3 (x5 + 1) h) else (bO (f_X9_has x4 x5) (fun r39 => if r39 = 0 then (f_X9_costOf_70 x1 x2 x4 (f_X9_costOf_17 x1 x2 x4 n) x3 x5 h) else (bO (ag h 72 10 x5) (fun v51 => if v51 < 0 then (f_X9_costOf_70 x1 x2 x4 (f_X9_costOf_17 x1 x2 x4 n) x3 x5 h) else (bO (ag h 72 10 x5) (fun v63 => bP (f_X9_needsOf x1 v63 h) (fun r64 h64 => f_X9_costOf_71 x1 x2 x4 (f_X9_costOf_17 x1 x2 x4 n) x3 x5 r64 h64)))))))))
set_option maxHeartbeats 4000000 in
set_option maxRecDepth 100000 in
theorem w_X9_costOf_17 {l : Launch} {G : GC} (hG : GOK G) {rr : Int32} {hh : PH} {p : Program} {e : Env} {s : State} {m : MethodId} {args : Array Value} {below : List Frame} {meth : Method} {c : Code} (C : MC l G p s m args meth c RX9 cX9_costOf 7 (some .int)) (x1 : Int32) (x2 : Int32) (x4 : Int32) : ∀ (n : Nat) (x3 : Int32) (x5 : Int32) (h : PH) (H : Heap) (locs : List Loc) (ls : Array Slot), lv_has ls 7 [(0, .ref (gB G 66)), (1, .int x1), (2, .int x2), (3, .int x3), (4, .int x4), (5, .int x5)] → WP G h H → SP G s H locs → f_X9_costOf_17 x1 x2 x4 n x3 x5 h = some (rr, hh) → W p l e rmX9_costOf s m args below meth c H locs 0 0 (MQ below (QI G rr hh) args s 0 0 (gA G)) (F0 m 17 ls []) := by
  obtain ⟨hx, hb, hr, hlocks, hml, hown, hts, hK⟩ := id C
  intro n
  induction n with
  | zero => intro x3 x5 h H locs ls hl hP hS hf; rw [f_X9_costOf_17] at hf; cases hf
  | succ n ih =>
    intro x3 x5 h H locs ls hl hP hS hf
    rw [f_X9_costOf_17] at hf
    refine lv_iload hx hb dX9_costOf_17 (lv_at hl 5 rfl) ?_
    refine lv_aload_n hx hb dX9_costOf_19 rfl (lv_at hl 0 rfl) ?_
    refine r_get (a := 66) (v := .int (h.1 66 4)) (C := RX9) (T := TX9) (N := 55) hx hb hts hinX9 hown hK hP (ltX9 rfl) (ceX9 rfl) rfl 4 (by decide) wd1039 rfl dX9_costOf_20 ?_
    refine lv_icmp_ge (tgt := 101) hx hb dX9_costOf_23 (by decide) (fun c23 => ?_) (fun c23 => ?_)
    · replace hf := if_t c23 hf
      refine lv_aload_n hx hb dX9_costOf_101 rfl (lv_at hl 0 rfl) ?_
      refine lv_iload_n hx hb dX9_costOf_102 rfl (lv_at hl 1 rfl) ?_
      obtain ⟨h103, eh103, hf⟩ := bO_s hf
      refine r_callV (va_runV (As := [.int x1]) (rest := []) ⟨hx, hb, hml, hown, hts⟩ (k_X9_tryLine l hG eh103) (cwV 1 hts (gV wd1367 wd1369 wd50 wd82 wd1370) rfl rfl rfl (by decide +kernel) ⟨Nat.le_of_ble_eq_true rfl, Nat.le_of_ble_eq_true rfl⟩) (r_pv hK hP hS (ltX9 rfl) (ceX9 rfl) rfl) rfl rfl hl.1 rfl (lv_room (Nat.le_of_ble_eq_true rfl)) dX9_costOf_103 ⟨Nat.le_of_ble_eq_true rfl, Nat.le_of_ble_eq_true rfl⟩) hS (fun H locs hP hS => ?_)
      refine lv_aload_n hx hb dX9_costOf_106 rfl (lv_at hl 0 rfl) ?_
      refine lv_iload_n hx hb dX9_costOf_107 rfl (lv_at hl 3 rfl) ?_
      obtain ⟨r108, h108, er108, hf⟩ := bP_s hf
      refine r_callI (va_runV (As := [.int x3]) (rest := []) ⟨hx, hb, hml, hown, hts⟩ (k_X9_goAll l hG er108) (cwV 1 hts (gV wd1402 wd1404 wd55 wd82 wd1405) rfl rfl rfl (by decide +kernel) ⟨Nat.le_of_ble_eq_true rfl, Nat.le_of_ble_eq_true rfl⟩) (r_pv hK hP hS (ltX9 rfl) (ceX9 rfl) rfl) rfl rfl hl.1 rfl (lv_room (Nat.le_of_ble_eq_true rfl)) dX9_costOf_108 ⟨Nat.le_of_ble_eq_true rfl, Nat.le_of_ble_eq_true rfl⟩) hS (fun H locs hP hS => ?_)
      refine lv_if_eq (tgt := 118) hx hb dX9_costOf_111 (by decide) (fun c111 => ?_) (fun c111 => ?_)
      · replace hf := if_t c111 hf
        refine lv_iconst (v := (-1)) hx hb dX9_costOf_118 (by decide) ?_
        exact r_iret hx hb hr hlocks hP hS (re2 (Option.some.inj hf)) dX9_costOf_119
      · replace hf := if_f c111 hf
        refine lv_iload_n hx hb dX9_costOf_114 rfl (lv_at hl 3 rfl) ?_
        refine lv_goto (tgt := 119) hx hb dX9_costOf_115 (by decide) ?_
        exact r_iret hx hb hr hlocks hP hS (re2 (Option.some.inj hf)) dX9_costOf_119
    · replace hf := if_f c23 hf
      refine lv_iload_n hx hb dX9_costOf_26 rfl (lv_at hl 2 rfl) ?_
      refine lv_iload hx hb dX9_costOf_27 (lv_at hl 5 rfl) ?_
      obtain ⟨r29, er29, hf⟩ := bO_s hf
      refine r_callI (va_runS (As := [.int x2, .int x5]) (rest := []) ⟨hx, hb, hml, hown, hts⟩ (k_X9_has l hG (h := h) er29) (va_cwS 2 hts (gS wd1260 wd1261 wd82 wd1262) rfl rfl rfl (by decide +kernel) ⟨Nat.le_of_ble_eq_true rfl, Nat.le_of_ble_eq_true rfl⟩) (r_ps hK hP hS) rfl rfl hl.1 rfl (lv_room (Nat.le_of_ble_eq_true rfl)) dX9_costOf_29 ⟨Nat.le_of_ble_eq_true rfl, Nat.le_of_ble_eq_true rfl⟩) hS (fun H locs hP hS => ?_)
      refine lv_if_eq (tgt := 95) hx hb dX9_costOf_32 (by decide) (fun c32 => ?_) (fun c32 => ?_)
      · replace hf := if_t c32 hf
        refine lv_iinc (v := (x5 + 1)) (lv' := [(5, .int (x5 + 1)), (0, .ref (gB G 66)), (1, .int x1), (2, .int x2), (3, .int x3), (4, .int x4)]) hx hb dX9_costOf_95 hl (k := 5) rfl rfl (by decide) rfl (fun ls hl => ?_)
        refine lv_goto (tgt := 17) hx hb dX9_costOf_98 (by decide) ?_
        exact ih x3 (x5 + 1) h _ _ _ (lv_sub hl [1, 2, 3, 4, 5, 0] rfl) hP hS hf
      · replace hf := if_f c32 hf
        refine lv_iload hx hb dX9_costOf_35 (lv_at hl 4 rfl) ?_
        refine lv_iload hx hb dX9_costOf_37 (lv_at hl 5 rfl) ?_
        obtain ⟨r39, er39, hf⟩ := bO_s hf
        refine r_callI (va_runS (As := [.int x4, .int x5]) (rest := []) ⟨hx, hb, hml, hown, hts⟩ (k_X9_has l hG (h := h) er39) (va_cwS 2 hts (gS wd1260 wd1261 wd82 wd1262) rfl rfl rfl (by decide +kernel) ⟨Nat.le_of_ble_eq_true rfl, Nat.le_of_ble_eq_true rfl⟩) (r_ps hK hP hS) rfl rfl hl.1 rfl (lv_room (Nat.le_of_ble_eq_true rfl)) dX9_costOf_39 ⟨Nat.le_of_ble_eq_true rfl, Nat.le_of_ble_eq_true rfl⟩) hS (fun H locs hP hS => ?_)
        refine lv_if_eq (tgt := 70) hx hb dX9_costOf_42 (by decide) (fun c42 => ?_) (fun c42 => ?_)
        · replace hf := if_t c42 hf
          exact w_X9_costOf_70 hG C x1 x2 x4 (f_X9_costOf_17 x1 x2 x4 n) ih x3 x5 h _ _ _ (lv_sub hl [0, 1, 2, 3, 4, 5] rfl) hP hS hf
        · replace hf := if_f c42 hf
          refine lv_aload_n hx hb dX9_costOf_45 rfl (lv_at hl 0 rfl) ?_
          refine r_get (a := 66) (v := .ref (gB G 72)) (C := RX9) (T := TX9) (N := 55) hx hb hts hinX9 hown hK hP (ltX9 rfl) (ceX9 rfl) rfl 7 (by decide) wd1042 rfl dX9_costOf_46 ?_
          refine lv_iload hx hb dX9_costOf_49 (lv_at hl 5 rfl) ?_
          obtain ⟨v51, ev51, hf⟩ := bO_s hf
          refine r_iald hx hb hK hP (arX9_7 rfl) ev51 dX9_costOf_51 ?_
          refine lv_if_lt (tgt := 70) hx hb dX9_costOf_52 (by decide) (fun c52 => ?_) (fun c52 => ?_)
          · replace hf := if_t c52 hf
            exact w_X9_costOf_70 hG C x1 x2 x4 (f_X9_costOf_17 x1 x2 x4 n) ih x3 x5 h _ _ _ (lv_sub hl [0, 1, 2, 3, 4, 5] rfl) hP hS hf
          · replace hf := if_f c52 hf
            refine lv_aload_n hx hb dX9_costOf_55 rfl (lv_at hl 0 rfl) ?_
            refine lv_iload_n hx hb dX9_costOf_56 rfl (lv_at hl 1 rfl) ?_
            refine lv_aload_n hx hb dX9_costOf_57 rfl (lv_at hl 0 rfl) ?_
            refine r_get (a := 66) (v := .ref (gB G 72)) (C := RX9) (T := TX9) (N := 55) hx hb hts hinX9 hown hK hP (ltX9 rfl) (ceX9 rfl) rfl 7 (by decide) wd1042 rfl dX9_costOf_58 ?_
            refine lv_iload hx hb dX9_costOf_61 (lv_at hl 5 rfl) ?_
            obtain ⟨v63, ev63, hf⟩ := bO_s hf
            refine r_iald hx hb hK hP (arX9_7 rfl) ev63 dX9_costOf_63 ?_
            obtain ⟨r64, h64, er64, hf⟩ := bP_s hf
            refine r_callI (va_runV (As := [.int x1, .int v63]) (rest := []) ⟨hx, hb, hml, hown, hts⟩ (k_X9_needsOf l hG er64) (cwV 2 hts (gV wd1398 wd1400 wd54 wd82 wd1401) rfl rfl rfl (by decide +kernel) ⟨Nat.le_of_ble_eq_true rfl, Nat.le_of_ble_eq_true rfl⟩) (r_pv hK hP hS (ltX9 rfl) (ceX9 rfl) rfl) rfl rfl hl.1 rfl (lv_room (Nat.le_of_ble_eq_true rfl)) dX9_costOf_64 ⟨Nat.le_of_ble_eq_true rfl, Nat.le_of_ble_eq_true rfl⟩) hS (fun H locs hP hS => ?_)
            refine lv_goto (tgt := 71) hx hb dX9_costOf_67 (by decide) ?_
            exact w_X9_costOf_71 hG C x1 x2 x4 (f_X9_costOf_17 x1 x2 x4 n) ih x3 x5 r64 h64 _ _ _ (lv_sub hl [0, 1, 2, 3, 4, 5] rfl) hP hS hf
def f_X9_costOf (x1 : Int32) (x2 : Int32) (h : PH) : Option (Int32 × PH) := bO (ag h 74 4 x1) (fun v8 => bP (f_X9_faultsIn v8 h) (fun r9 h9 => f_X9_costOf_17 x1 x2 r9 FU 0 0 h9))
set_option maxHeartbeats 4000000 in
set_option maxRecDepth 100000 in
theorem k_X9_costOf (l : Launch) {G : GC} (hG : GOK G) {x1 : Int32} {x2 : Int32} {rr : Int32} {h hh : PH} (hf : f_X9_costOf x1 x2 h = some (rr, hh)) : CI l yX9_costOf vX9_costOf rmX9_costOf G [.ref (gB G 66), .int x1, .int x2] h rr hh := by
  refine Met.ofW (cc := cX9_costOf) (maxL := 7) (ret := (some .int)) (by decide +kernel) rfl ?_
  intro p e s m args below meth c s₁ B hml hv
  obtain ⟨rfl, hP, hK⟩ := hv
  have C : MC l G p s m _ meth c RX9 cX9_costOf 7 (some .int) := ⟨B.exec, B.bytes, B.returns, B.notSynchronized, hml, findClass_of_methodNamed B.named, fun w hw => atoms_spec (ws := vX9_costOf) B.pre w (List.mem_cons_of_mem _ hw), hK⟩
  obtain ⟨hx, hb, hr, hlocks, -, hown, hts, -⟩ := id C
  have hl := lv_entry ([.ref (gB G 66), .int x1, .int x2]) (n := 7) (Nat.le_of_ble_eq_true rfl)
  rw [lg_entry_eq]
  generalize (lg_sl ([.ref (gB G 66), .int x1, .int x2]) ++ List.replicate (7 - (lg_sl ([.ref (gB G 66), .int x1, .int x2])).length) Slot.unset).toArray = ls at hl ⊢
  have hl : lv_has ls 7 [(0, .ref (gB G 66)), (1, .int x1), (2, .int x2)] := hl
  have hS : SP G s s.heap [] := va_S.rf
  replace hP : WP G h s.heap := hP
  rw [f_X9_costOf] at hf
  refine lv_iconst (v := 0) hx hb dX9_costOf_0 (by decide) ?_
  refine lv_istore_n (lv' := [(3, .int 0), (0, .ref (gB G 66)), (1, .int x1), (2, .int x2)]) hx hb dX9_costOf_1 rfl hl (by decide) rfl (fun ls hl => ?_)
  refine lv_aload_n hx hb dX9_costOf_2 rfl (lv_at hl 1 rfl) ?_
  refine lv_aload_n hx hb dX9_costOf_3 rfl (lv_at hl 1 rfl) ?_
  refine r_get (a := 66) (v := .ref (gB G 74)) (C := RX9) (T := TX9) (N := 55) hx hb hts hinX9 hown hK hP (ltX9 rfl) (ceX9 rfl) rfl 10 (by decide) wd1045 rfl dX9_costOf_4 ?_
  refine lv_iload_n hx hb dX9_costOf_7 rfl (lv_at hl 2 rfl) ?_
  obtain ⟨v8, ev8, hf⟩ := bO_s hf
  refine r_iald hx hb hK hP (arX9_10 rfl) ev8 dX9_costOf_8 ?_
  obtain ⟨r9, h9, er9, hf⟩ := bP_s hf
  refine r_callI (va_runV (As := [.int v8]) (rest := []) ⟨hx, hb, hml, hown, hts⟩ (k_X9_faultsIn l hG er9) (cwV 1 hts (gV wd1351 wd1353 wd48 wd82 wd1354) rfl rfl rfl (by decide +kernel) ⟨Nat.le_of_ble_eq_true rfl, Nat.le_of_ble_eq_true rfl⟩) (r_pv hK hP hS (ltX9 rfl) (ceX9 rfl) rfl) rfl rfl hl.1 rfl (lv_room (Nat.le_of_ble_eq_true rfl)) dX9_costOf_9 ⟨Nat.le_of_ble_eq_true rfl, Nat.le_of_ble_eq_true rfl⟩) hS (fun H locs hP hS => ?_)
  refine lv_istore (lv' := [(4, .int r9), (3, .int 0), (0, .ref (gB G 66)), (1, .int x1), (2, .int x2)]) hx hb dX9_costOf_12 hl (by decide) rfl (fun ls hl => ?_)
  refine lv_iconst (v := 0) hx hb dX9_costOf_14 (by decide) ?_
  refine lv_istore (lv' := [(5, .int 0), (4, .int r9), (3, .int 0), (0, .ref (gB G 66)), (1, .int x1), (2, .int x2)]) hx hb dX9_costOf_15 hl (by decide) rfl (fun ls hl => ?_)
  exact w_X9_costOf_17 hG C x1 x2 r9 FU 0 0 h9 _ _ _ (lv_sub hl [3, 4, 5, 2, 1, 0] rfl) hP hS hf
/-! CarriedBackModel.cost(II)I -/
abbrev rmX9_cost : Room := { frames := 5, cells := 0, slots := 0, locals := 123 }
abbrev vX9_cost : List Cond := Cond.code yX9_cost cX9_cost 3 (some .int) :: GW
def f_X9_cost (x1 : Int32) (x2 : Int32) (h : PH) : Option (Int32 × PH) := bP (f_X9_isLine x1 h) (fun r2 h2 => if r2 = 0 then (some ((-1001), h2)) else (bP (f_X9_areFaults x2 h2) (fun r10 h10 => if r10 = 0 then (some ((-1001), h10)) else (bP (f_X9_costOf x1 x2 h10) (fun r19 h19 => some (r19, h19))))))
set_option maxHeartbeats 4000000 in
set_option maxRecDepth 100000 in
theorem k_X9_cost (l : Launch) {G : GC} (hG : GOK G) {x1 : Int32} {x2 : Int32} {rr : Int32} {h hh : PH} (hf : f_X9_cost x1 x2 h = some (rr, hh)) : CI l yX9_cost vX9_cost rmX9_cost G [.ref (gB G 66), .int x1, .int x2] h rr hh := by
  refine Met.ofW (cc := cX9_cost) (maxL := 3) (ret := (some .int)) (by decide +kernel) rfl ?_
  intro p e s m args below meth c s₁ B hml hv
  obtain ⟨rfl, hP, hK⟩ := hv
  have C : MC l G p s m _ meth c RX9 cX9_cost 3 (some .int) := ⟨B.exec, B.bytes, B.returns, B.notSynchronized, hml, findClass_of_methodNamed B.named, fun w hw => atoms_spec (ws := vX9_cost) B.pre w (List.mem_cons_of_mem _ hw), hK⟩
  obtain ⟨hx, hb, hr, hlocks, -, hown, hts, -⟩ := id C
  have hl := lv_entry ([.ref (gB G 66), .int x1, .int x2]) (n := 3) (Nat.le_of_ble_eq_true rfl)
  rw [lg_entry_eq]
  generalize (lg_sl ([.ref (gB G 66), .int x1, .int x2]) ++ List.replicate (3 - (lg_sl ([.ref (gB G 66), .int x1, .int x2])).length) Slot.unset).toArray = ls at hl ⊢
  have hl : lv_has ls 3 [(0, .ref (gB G 66)), (1, .int x1), (2, .int x2)] := hl
  have hS : SP G s s.heap [] := va_S.rf
  replace hP : WP G h s.heap := hP
  rw [f_X9_cost] at hf
  refine lv_aload_n hx hb dX9_cost_0 rfl (lv_at hl 0 rfl) ?_
  refine lv_iload_n hx hb dX9_cost_1 rfl (lv_at hl 1 rfl) ?_
  obtain ⟨r2, h2, er2, hf⟩ := bP_s hf
  refine r_callI (va_runV (As := [.int x1]) (rest := []) ⟨hx, hb, hml, hown, hts⟩ (k_X9_isLine l hG er2) (cwV 1 hts (gV wd1347 wd1349 wd47 wd82 wd1350) rfl rfl rfl (by decide +kernel) ⟨Nat.le_of_ble_eq_true rfl, Nat.le_of_ble_eq_true rfl⟩) (r_pv hK hP hS (ltX9 rfl) (ceX9 rfl) rfl) rfl rfl hl.1 rfl (lv_room (Nat.le_of_ble_eq_true rfl)) dX9_cost_2 ⟨Nat.le_of_ble_eq_true rfl, Nat.le_of_ble_eq_true rfl⟩) hS (fun H locs hP hS => ?_)
  refine lv_if_eq (tgt := 25) hx hb dX9_cost_5 (by decide) (fun c5 => ?_) (fun c5 => ?_)
  · replace hf := if_t c5 hf
    refine lv_sipush (v := (-1001)) hx hb dX9_cost_25 (by decide) ?_
    exact r_iret hx hb hr hlocks hP hS (re2 (Option.some.inj hf)) dX9_cost_28
  · replace hf := if_f c5 hf
    refine lv_aload_n hx hb dX9_cost_8 rfl (lv_at hl 0 rfl) ?_
    refine lv_iload_n hx hb dX9_cost_9 rfl (lv_at hl 2 rfl) ?_
    obtain ⟨r10, h10, er10, hf⟩ := bP_s hf
    refine r_callI (va_runV (As := [.int x2]) (rest := []) ⟨hx, hb, hml, hown, hts⟩ (k_X9_areFaults l hG er10) (cwV 1 hts (gV wd1422 wd1424 wd57 wd82 wd1425) rfl rfl rfl (by decide +kernel) ⟨Nat.le_of_ble_eq_true rfl, Nat.le_of_ble_eq_true rfl⟩) (r_pv hK hP hS (ltX9 rfl) (ceX9 rfl) rfl) rfl rfl hl.1 rfl (lv_room (Nat.le_of_ble_eq_true rfl)) dX9_cost_10 ⟨Nat.le_of_ble_eq_true rfl, Nat.le_of_ble_eq_true rfl⟩) hS (fun H locs hP hS => ?_)
    refine lv_if_eq (tgt := 25) hx hb dX9_cost_13 (by decide) (fun c13 => ?_) (fun c13 => ?_)
    · replace hf := if_t c13 hf
      refine lv_sipush (v := (-1001)) hx hb dX9_cost_25 (by decide) ?_
      exact r_iret hx hb hr hlocks hP hS (re2 (Option.some.inj hf)) dX9_cost_28
    · replace hf := if_f c13 hf
      refine lv_aload_n hx hb dX9_cost_16 rfl (lv_at hl 0 rfl) ?_
      refine lv_iload_n hx hb dX9_cost_17 rfl (lv_at hl 1 rfl) ?_
      refine lv_iload_n hx hb dX9_cost_18 rfl (lv_at hl 2 rfl) ?_
      obtain ⟨r19, h19, er19, hf⟩ := bP_s hf
      refine r_callI (va_runV (As := [.int x1, .int x2]) (rest := []) ⟨hx, hb, hml, hown, hts⟩ (k_X9_costOf l hG er19) (cwV 2 hts (gV wd1426 wd1428 wd58 wd82 wd1429) rfl rfl rfl (by decide +kernel) ⟨Nat.le_of_ble_eq_true rfl, Nat.le_of_ble_eq_true rfl⟩) (r_pv hK hP hS (ltX9 rfl) (ceX9 rfl) rfl) rfl rfl hl.1 rfl (lv_room (Nat.le_of_ble_eq_true rfl)) dX9_cost_19 ⟨Nat.le_of_ble_eq_true rfl, Nat.le_of_ble_eq_true rfl⟩) hS (fun H locs hP hS => ?_)
      refine lv_goto (tgt := 28) hx hb dX9_cost_22 (by decide) ?_
      exact r_iret hx hb hr hlocks hP hS (re2 (Option.some.inj hf)) dX9_cost_28
/-! CarriedBackModel.best(IIII)I -/
abbrev rmX9_best : Room := { frames := 5, cells := 0, slots := 0, locals := 123 }
abbrev vX9_best : List Cond := Cond.code yX9_best cX9_best 11 (some .int) :: GW
def f_X9_best_163 (x1 : Int32) (x2 : Int32) (x3 : Int32) (x4 : Int32) (k62 : Int32 → Int32 → Int32 → PH → Option (Int32 × PH)) (x5 : Int32) (x7 : Int32) (x10 : Int32) (t0 : Int32) (h : PH) : Option (Int32 × PH) := if x10 = 0 then (k62 x5 t0 (x7 + 1) h) else (k62 x7 t0 (x7 + 1) h)
set_option maxHeartbeats 4000000 in
set_option maxRecDepth 100000 in
theorem w_X9_best_163 {l : Launch} {G : GC} (hG : GOK G) {rr : Int32} {hh : PH} {p : Program} {e : Env} {s : State} {m : MethodId} {args : Array Value} {below : List Frame} {meth : Method} {c : Code} (C : MC l G p s m args meth c RX9 cX9_best 11 (some .int)) (x1 : Int32) (x2 : Int32) (x3 : Int32) (x4 : Int32) (k62 : Int32 → Int32 → Int32 → PH → Option (Int32 × PH)) (hk62 : ∀ (x5 : Int32) (x6 : Int32) (x7 : Int32) (h : PH) (H : Heap) (locs : List Loc) (ls : Array Slot), lv_has ls 11 [(0, .ref (gB G 66)), (1, .int x1), (2, .int x2), (3, .int x3), (4, .int x4), (5, .int x5), (6, .int x6), (7, .int x7)] → WP G h H → SP G s H locs → k62 x5 x6 x7 h = some (rr, hh) → W p l e rmX9_best s m args below meth c H locs 0 0 (MQ below (QI G rr hh) args s 0 0 (gA G)) (F0 m 62 ls [])) : ∀ (x5 : Int32) (x7 : Int32) (x10 : Int32) (t0 : Int32) (h : PH) (H : Heap) (locs : List Loc) (ls : Array Slot), lv_has ls 11 [(0, .ref (gB G 66)), (1, .int x1), (2, .int x2), (3, .int x3), (4, .int x4), (5, .int x5), (7, .int x7), (10, .int x10)] → WP G h H → SP G s H locs → f_X9_best_163 x1 x2 x3 x4 k62 x5 x7 x10 t0 h = some (rr, hh) → W p l e rmX9_best s m args below meth c H locs 0 0 (MQ below (QI G rr hh) args s 0 0 (gA G)) (F0 m 163 ls [.int t0]) := by
  obtain ⟨hx, hb, hr, hlocks, hml, hown, hts, hK⟩ := id C
  intro x5 x7 x10 t0 h H locs ls hl hP hS hf
  rw [f_X9_best_163] at hf
  refine lv_istore (lv' := [(6, .int t0), (0, .ref (gB G 66)), (1, .int x1), (2, .int x2), (3, .int x3), (4, .int x4), (5, .int x5), (7, .int x7), (10, .int x10)]) hx hb dX9_best_163 hl (by decide) rfl (fun ls hl => ?_)
  refine lv_iload hx hb dX9_best_165 (lv_at hl 8 rfl) ?_
  refine lv_if_eq (tgt := 175) hx hb dX9_best_167 (by decide) (fun c167 => ?_) (fun c167 => ?_)
  · replace hf := if_t c167 hf
    refine lv_iload hx hb dX9_best_175 (lv_at hl 6 rfl) ?_
    refine lv_istore (lv' := [(5, .int x5), (6, .int t0), (0, .ref (gB G 66)), (1, .int x1), (2, .int x2), (3, .int x3), (4, .int x4), (7, .int x7), (10, .int x10)]) hx hb dX9_best_177 hl (by decide) rfl (fun ls hl => ?_)
    refine lv_iinc (v := (x7 + 1)) (lv' := [(7, .int (x7 + 1)), (5, .int x5), (6, .int t0), (0, .ref (gB G 66)), (1, .int x1), (2, .int x2), (3, .int x3), (4, .int x4), (10, .int x10)]) hx hb dX9_best_179 hl (k := 7) rfl rfl (by decide) rfl (fun ls hl => ?_)
    refine lv_goto (tgt := 62) hx hb dX9_best_182 (by decide) ?_
    exact hk62 x5 t0 (x7 + 1) h _ _ _ (lv_sub hl [3, 4, 5, 6, 7, 1, 2, 0] rfl) hP hS hf
  · replace hf := if_f c167 hf
    refine lv_iload hx hb dX9_best_170 (lv_at hl 7 rfl) ?_
    refine lv_goto (tgt := 177) hx hb dX9_best_172 (by decide) ?_
    refine lv_istore (lv' := [(5, .int x7), (6, .int t0), (0, .ref (gB G 66)), (1, .int x1), (2, .int x2), (3, .int x3), (4, .int x4), (7, .int x7), (10, .int x10)]) hx hb dX9_best_177 hl (by decide) rfl (fun ls hl => ?_)
    refine lv_iinc (v := (x7 + 1)) (lv' := [(7, .int (x7 + 1)), (5, .int x7), (6, .int t0), (0, .ref (gB G 66)), (1, .int x1), (2, .int x2), (3, .int x3), (4, .int x4), (10, .int x10)]) hx hb dX9_best_179 hl (k := 7) rfl rfl (by decide) rfl (fun ls hl => ?_)
    refine lv_goto (tgt := 62) hx hb dX9_best_182 (by decide) ?_
    exact hk62 x7 t0 (x7 + 1) h _ _ _ (lv_sub hl [3, 4, 5, 6, 7, 1, 2, 0] rfl) hP hS hf
def f_X9_best_149 (x1 : Int32) (x2 : Int32) (x3 : Int32) (x4 : Int32) (k62 : Int32 → Int32 → Int32 → PH → Option (Int32 × PH)) (x5 : Int32) (x6 : Int32) (x7 : Int32) (x8 : Int32) (t0 : Int32) (h : PH) : Option (Int32 × PH) := if t0 = 0 then (f_X9_best_163 x1 x2 x3 x4 k62 x5 x7 t0 x6 h) else (f_X9_best_163 x1 x2 x3 x4 k62 x5 x7 t0 x8 h)
set_option maxHeartbeats 4000000 in
set_option maxRecDepth 100000 in
theorem w_X9_best_149 {l : Launch} {G : GC} (hG : GOK G) {rr : Int32} {hh : PH} {p : Program} {e : Env} {s : State} {m : MethodId} {args : Array Value} {below : List Frame} {meth : Method} {c : Code} (C : MC l G p s m args meth c RX9 cX9_best 11 (some .int)) (x1 : Int32) (x2 : Int32) (x3 : Int32) (x4 : Int32) (k62 : Int32 → Int32 → Int32 → PH → Option (Int32 × PH)) (hk62 : ∀ (x5 : Int32) (x6 : Int32) (x7 : Int32) (h : PH) (H : Heap) (locs : List Loc) (ls : Array Slot), lv_has ls 11 [(0, .ref (gB G 66)), (1, .int x1), (2, .int x2), (3, .int x3), (4, .int x4), (5, .int x5), (6, .int x6), (7, .int x7)] → WP G h H → SP G s H locs → k62 x5 x6 x7 h = some (rr, hh) → W p l e rmX9_best s m args below meth c H locs 0 0 (MQ below (QI G rr hh) args s 0 0 (gA G)) (F0 m 62 ls [])) : ∀ (x5 : Int32) (x6 : Int32) (x7 : Int32) (x8 : Int32) (t0 : Int32) (h : PH) (H : Heap) (locs : List Loc) (ls : Array Slot), lv_has ls 11 [(0, .ref (gB G 66)), (1, .int x1), (2, .int x2), (3, .int x3), (4, .int x4), (5, .int x5), (6, .int x6), (7, .int x7), (8, .int x8)] → WP G h H → SP G s H locs → f_X9_best_149 x1 x2 x3 x4 k62 x5 x6 x7 x8 t0 h = some (rr, hh) → W p l e rmX9_best s m args below meth c H locs 0 0 (MQ below (QI G rr hh) args s 0 0 (gA G)) (F0 m 149 ls [.int t0]) := by
  obtain ⟨hx, hb, hr, hlocks, hml, hown, hts, hK⟩ := id C
  intro x5 x6 x7 x8 t0 h H locs ls hl hP hS hf
  rw [f_X9_best_149] at hf
  refine lv_istore (lv' := [(10, .int t0), (0, .ref (gB G 66)), (1, .int x1), (2, .int x2), (3, .int x3), (4, .int x4), (5, .int x5), (6, .int x6), (7, .int x7), (8, .int x8)]) hx hb dX9_best_149 hl (by decide) rfl (fun ls hl => ?_)
  refine lv_iload hx hb dX9_best_151 (lv_at hl 0 rfl) ?_
  refine lv_if_eq (tgt := 161) hx hb dX9_best_153 (by decide) (fun c153 => ?_) (fun c153 => ?_)
  · replace hf := if_t c153 hf
    refine lv_iload hx hb dX9_best_161 (lv_at hl 7 rfl) ?_
    exact w_X9_best_163 hG C x1 x2 x3 x4 k62 hk62 x5 x7 t0 x6 h _ _ _ (lv_sub hl [1, 2, 3, 4, 5, 6, 8, 0] rfl) hP hS hf
  · replace hf := if_f c153 hf
    refine lv_iload hx hb dX9_best_156 (lv_at hl 9 rfl) ?_
    refine lv_goto (tgt := 163) hx hb dX9_best_158 (by decide) ?_
    exact w_X9_best_163 hG C x1 x2 x3 x4 k62 hk62 x5 x7 t0 x8 h _ _ _ (lv_sub hl [1, 2, 3, 4, 5, 6, 8, 0] rfl) hP hS hf
def f_X9_best_144 (x1 : Int32) (x2 : Int32) (x3 : Int32) (x4 : Int32) (k62 : Int32 → Int32 → Int32 → PH → Option (Int32 × PH)) (x5 : Int32) (x6 : Int32) (x7 : Int32) (x8 : Int32) (h : PH) : Option (Int32 × PH) := f_X9_best_149 x1 x2 x3 x4 k62 x5 x6 x7 x8 1 h
set_option maxHeartbeats 4000000 in
set_option maxRecDepth 100000 in
theorem w_X9_best_144 {l : Launch} {G : GC} (hG : GOK G) {rr : Int32} {hh : PH} {p : Program} {e : Env} {s : State} {m : MethodId} {args : Array Value} {below : List Frame} {meth : Method} {c : Code} (C : MC l G p s m args meth c RX9 cX9_best 11 (some .int)) (x1 : Int32) (x2 : Int32) (x3 : Int32) (x4 : Int32) (k62 : Int32 → Int32 → Int32 → PH → Option (Int32 × PH)) (hk62 : ∀ (x5 : Int32) (x6 : Int32) (x7 : Int32) (h : PH) (H : Heap) (locs : List Loc) (ls : Array Slot), lv_has ls 11 [(0, .ref (gB G 66)), (1, .int x1), (2, .int x2), (3, .int x3), (4, .int x4), (5, .int x5), (6, .int x6), (7, .int x7)] → WP G h H → SP G s H locs → k62 x5 x6 x7 h = some (rr, hh) → W p l e rmX9_best s m args below meth c H locs 0 0 (MQ below (QI G rr hh) args s 0 0 (gA G)) (F0 m 62 ls [])) : ∀ (x5 : Int32) (x6 : Int32) (x7 : Int32) (x8 : Int32) (h : PH) (H : Heap) (locs : List Loc) (ls : Array Slot), lv_has ls 11 [(0, .ref (gB G 66)), (1, .int x1), (2, .int x2), (3, .int x3), (4, .int x4), (5, .int x5), (6, .int x6), (7, .int x7), (8, .int x8)] → WP G h H → SP G s H locs → f_X9_best_144 x1 x2 x3 x4 k62 x5 x6 x7 x8 h = some (rr, hh) → W p l e rmX9_best s m args below meth c H locs 0 0 (MQ below (QI G rr hh) args s 0 0 (gA G)) (F0 m 144 ls []) := by
  obtain ⟨hx, hb, hr, hlocks, hml, hown, hts, hK⟩ := id C
  intro x5 x6 x7 x8 h H locs ls hl hP hS hf
  rw [f_X9_best_144] at hf
  refine lv_iconst (v := 1) hx hb dX9_best_144 (by decide) ?_
  refine lv_goto (tgt := 149) hx hb dX9_best_145 (by decide) ?_
  exact w_X9_best_149 hG C x1 x2 x3 x4 k62 hk62 x5 x6 x7 x8 1 h _ _ _ (lv_sub hl [0, 1, 2, 3, 4, 5, 6, 7, 8] rfl) hP hS hf
def f_X9_best_148 (x1 : Int32) (x2 : Int32) (x3 : Int32) (x4 : Int32) (k62 : Int32 → Int32 → Int32 → PH → Option (Int32 × PH)) (x5 : Int32) (x6 : Int32) (x7 : Int32) (x8 : Int32) (h : PH) : Option (Int32 × PH) := f_X9_best_149 x1 x2 x3 x4 k62 x5 x6 x7 x8 0 h
set_option maxHeartbeats 4000000 in
set_option maxRecDepth 100000 in
theorem w_X9_best_148 {l : Launch} {G : GC} (hG : GOK G) {rr : Int32} {hh : PH} {p : Program} {e : Env} {s : State} {m : MethodId} {args : Array Value} {below : List Frame} {meth : Method} {c : Code} (C : MC l G p s m args meth c RX9 cX9_best 11 (some .int)) (x1 : Int32) (x2 : Int32) (x3 : Int32) (x4 : Int32) (k62 : Int32 → Int32 → Int32 → PH → Option (Int32 × PH)) (hk62 : ∀ (x5 : Int32) (x6 : Int32) (x7 : Int32) (h : PH) (H : Heap) (locs : List Loc) (ls : Array Slot), lv_has ls 11 [(0, .ref (gB G 66)), (1, .int x1), (2, .int x2), (3, .int x3), (4, .int x4), (5, .int x5), (6, .int x6), (7, .int x7)] → WP G h H → SP G s H locs → k62 x5 x6 x7 h = some (rr, hh) → W p l e rmX9_best s m args below meth c H locs 0 0 (MQ below (QI G rr hh) args s 0 0 (gA G)) (F0 m 62 ls [])) : ∀ (x5 : Int32) (x6 : Int32) (x7 : Int32) (x8 : Int32) (h : PH) (H : Heap) (locs : List Loc) (ls : Array Slot), lv_has ls 11 [(0, .ref (gB G 66)), (1, .int x1), (2, .int x2), (3, .int x3), (4, .int x4), (5, .int x5), (6, .int x6), (7, .int x7), (8, .int x8)] → WP G h H → SP G s H locs → f_X9_best_148 x1 x2 x3 x4 k62 x5 x6 x7 x8 h = some (rr, hh) → W p l e rmX9_best s m args below meth c H locs 0 0 (MQ below (QI G rr hh) args s 0 0 (gA G)) (F0 m 148 ls []) := by
  obtain ⟨hx, hb, hr, hlocks, hml, hown, hts, hK⟩ := id C
  intro x5 x6 x7 x8 h H locs ls hl hP hS hf
  rw [f_X9_best_148] at hf
  refine lv_iconst (v := 0) hx hb dX9_best_148 (by decide) ?_
  exact w_X9_best_149 hG C x1 x2 x3 x4 k62 hk62 x5 x6 x7 x8 0 h _ _ _ (lv_sub hl [0, 1, 2, 3, 4, 5, 6, 7, 8] rfl) hP hS hf
def f_X9_best_62 (x1 : Int32) (x2 : Int32) (x3 : Int32) (x4 : Int32) : Nat → Int32 → Int32 → Int32 → PH → Option (Int32 × PH)
  | 0, _, _, _, _ => none
  | n + 1, x5, x6, x7, h => if (1 <<< ((h.1 66 4) &&& 31)) ≤ x7 then (if x4 = 0 then (some (x5, h)) else (if x4 = 1 then (bP (f_X9_weightOf x5 h) (fun r204 h204 => some (r204, h204))) else (some (x6, h)))) else (bP (f_X9_costOf x1 x7 h) (fun r77 h77 => if r77 < 0 then ((f_X9_best_62 x1 x2 x3 x4 n) x5 x6 (x7 + 1) h77) else (bO (f_X9_bits r77) (fun r89 => if x2 < r89 then ((f_X9_best_62 x1 x2 x3 x4 n) x5 x6 (x7 + 1) h77) else (bP (f_X9_riskOf r77 h77) (fun r99 h99 => if x3 < r99 then ((f_X9_best_62 x1 x2 x3 x4 n) x5 x6 (x7 + 1) h99) else (bP (f_X9_weightOf x7 h99) (fun r109 h109 => bP (f_X9_weightOf x5 h109) (fun r115 h115 => lt' ((r109 - r115)) (fun x9_119 => if (0 : Int32) < x9_119 then (f_X9_best_144 x1 x2 x3 x4 (f_X9_best_62 x1 x2 x3 x4 n) x5 x6 x7 r77 h115) else (if x9_119 = 0 then (bO (f_X9_bits r77) (fun r133 => bO (f_X9_bits x6) (fun r138 => if r138 ≤ r133 then (f_X9_best_148 x1 x2 x3 x4 (f_X9_best_62 x1 x2 x3 x4 n) x5 x6 x7 r77 h115) else (f_X9_best_144 x1 x2 x3 x4 (f_X9_best_62 x1 x2 x3 x4 n) x5 x6 x7 r77 h115)))) else (f_X9_best_148 x1 x2 x3 x4 (f_X9_best_62 x1 x2 x3 x4 n) x5 x6 x7 r77 h115))))))))))))
set_option maxHeartbeats 4000000 in
set_option maxRecDepth 100000 in
theorem w_X9_best_62 {l : Launch} {G : GC} (hG : GOK G) {rr : Int32} {hh : PH} {p : Program} {e : Env} {s : State} {m : MethodId} {args : Array Value} {below : List Frame} {meth : Method} {c : Code} (C : MC l G p s m args meth c RX9 cX9_best 11 (some .int)) (x1 : Int32) (x2 : Int32) (x3 : Int32) (x4 : Int32) : ∀ (n : Nat) (x5 : Int32) (x6 : Int32) (x7 : Int32) (h : PH) (H : Heap) (locs : List Loc) (ls : Array Slot), lv_has ls 11 [(0, .ref (gB G 66)), (1, .int x1), (2, .int x2), (3, .int x3), (4, .int x4), (5, .int x5), (6, .int x6), (7, .int x7)] → WP G h H → SP G s H locs → f_X9_best_62 x1 x2 x3 x4 n x5 x6 x7 h = some (rr, hh) → W p l e rmX9_best s m args below meth c H locs 0 0 (MQ below (QI G rr hh) args s 0 0 (gA G)) (F0 m 62 ls []) := by
  obtain ⟨hx, hb, hr, hlocks, hml, hown, hts, hK⟩ := id C
  intro n
  induction n with
  | zero => intro x5 x6 x7 h H locs ls hl hP hS hf; rw [f_X9_best_62] at hf; cases hf
  | succ n ih =>
    intro x5 x6 x7 h H locs ls hl hP hS hf
    rw [f_X9_best_62] at hf
    refine lv_iload hx hb dX9_best_62 (lv_at hl 7 rfl) ?_
    refine lv_iconst (v := 1) hx hb dX9_best_64 (by decide) ?_
    refine lv_aload_n hx hb dX9_best_65 rfl (lv_at hl 0 rfl) ?_
    refine r_get (a := 66) (v := .int (h.1 66 4)) (C := RX9) (T := TX9) (N := 55) hx hb hts hinX9 hown hK hP (ltX9 rfl) (ceX9 rfl) rfl 4 (by decide) wd1039 rfl dX9_best_66 ?_
    refine lv_ishl hx hb dX9_best_69 ?_
    refine lv_icmp_ge (tgt := 185) hx hb dX9_best_70 (by decide) (fun c70 => ?_) (fun c70 => ?_)
    · replace hf := if_t c70 hf
      refine lv_iload hx hb dX9_best_185 (lv_at hl 4 rfl) ?_
      refine lv_if_ne (tgt := 195) hx hb dX9_best_187 (by decide) (fun c187 => ?_) (fun c187 => ?_)
      · replace hf := if_f c187 hf
        refine lv_iload hx hb dX9_best_195 (lv_at hl 4 rfl) ?_
        refine lv_iconst (v := 1) hx hb dX9_best_197 (by decide) ?_
        refine lv_icmp_ne (tgt := 210) hx hb dX9_best_198 (by decide) (fun c198 => ?_) (fun c198 => ?_)
        · replace hf := if_f c198 hf
          refine lv_iload hx hb dX9_best_210 (lv_at hl 6 rfl) ?_
          exact r_iret hx hb hr hlocks hP hS (re2 (Option.some.inj hf)) dX9_best_212
        · replace hf := if_t c198 hf
          refine lv_aload_n hx hb dX9_best_201 rfl (lv_at hl 0 rfl) ?_
          refine lv_iload hx hb dX9_best_202 (lv_at hl 5 rfl) ?_
          obtain ⟨r204, h204, er204, hf⟩ := bP_s hf
          refine r_callI (va_runV (As := [.int x5]) (rest := []) ⟨hx, hb, hml, hown, hts⟩ (k_X9_weightOf l hG er204) (cwV 1 hts (gV wd1437 wd1439 wd59 wd82 wd1440) rfl rfl rfl (by decide +kernel) ⟨Nat.le_of_ble_eq_true rfl, Nat.le_of_ble_eq_true rfl⟩) (r_pv hK hP hS (ltX9 rfl) (ceX9 rfl) rfl) rfl rfl hl.1 rfl (lv_room (Nat.le_of_ble_eq_true rfl)) dX9_best_204 ⟨Nat.le_of_ble_eq_true rfl, Nat.le_of_ble_eq_true rfl⟩) hS (fun H locs hP hS => ?_)
          refine lv_goto (tgt := 212) hx hb dX9_best_207 (by decide) ?_
          exact r_iret hx hb hr hlocks hP hS (re2 (Option.some.inj hf)) dX9_best_212
      · replace hf := if_t c187 hf
        refine lv_iload hx hb dX9_best_190 (lv_at hl 5 rfl) ?_
        refine lv_goto (tgt := 212) hx hb dX9_best_192 (by decide) ?_
        exact r_iret hx hb hr hlocks hP hS (re2 (Option.some.inj hf)) dX9_best_212
    · replace hf := if_f c70 hf
      refine lv_aload_n hx hb dX9_best_73 rfl (lv_at hl 0 rfl) ?_
      refine lv_iload_n hx hb dX9_best_74 rfl (lv_at hl 1 rfl) ?_
      refine lv_iload hx hb dX9_best_75 (lv_at hl 7 rfl) ?_
      obtain ⟨r77, h77, er77, hf⟩ := bP_s hf
      refine r_callI (va_runV (As := [.int x1, .int x7]) (rest := []) ⟨hx, hb, hml, hown, hts⟩ (k_X9_costOf l hG er77) (cwV 2 hts (gV wd1426 wd1428 wd58 wd82 wd1429) rfl rfl rfl (by decide +kernel) ⟨Nat.le_of_ble_eq_true rfl, Nat.le_of_ble_eq_true rfl⟩) (r_pv hK hP hS (ltX9 rfl) (ceX9 rfl) rfl) rfl rfl hl.1 rfl (lv_room (Nat.le_of_ble_eq_true rfl)) dX9_best_77 ⟨Nat.le_of_ble_eq_true rfl, Nat.le_of_ble_eq_true rfl⟩) hS (fun H locs hP hS => ?_)
      refine lv_istore (lv' := [(8, .int r77), (0, .ref (gB G 66)), (1, .int x1), (2, .int x2), (3, .int x3), (4, .int x4), (5, .int x5), (6, .int x6), (7, .int x7)]) hx hb dX9_best_80 hl (by decide) rfl (fun ls hl => ?_)
      refine lv_iload hx hb dX9_best_82 (lv_at hl 0 rfl) ?_
      refine lv_if_lt (tgt := 179) hx hb dX9_best_84 (by decide) (fun c84 => ?_) (fun c84 => ?_)
      · replace hf := if_t c84 hf
        refine lv_iinc (v := (x7 + 1)) (lv' := [(7, .int (x7 + 1)), (8, .int r77), (0, .ref (gB G 66)), (1, .int x1), (2, .int x2), (3, .int x3), (4, .int x4), (5, .int x5), (6, .int x6)]) hx hb dX9_best_179 hl (k := 8) rfl rfl (by decide) rfl (fun ls hl => ?_)
        refine lv_goto (tgt := 62) hx hb dX9_best_182 (by decide) ?_
        exact ih x5 x6 (x7 + 1) h77 _ _ _ (lv_sub hl [2, 3, 4, 5, 6, 7, 8, 0] rfl) hP hS hf
      · replace hf := if_f c84 hf
        refine lv_iload hx hb dX9_best_87 (lv_at hl 0 rfl) ?_
        obtain ⟨r89, er89, hf⟩ := bO_s hf
        refine r_callI (va_runS (As := [.int r77]) (rest := []) ⟨hx, hb, hml, hown, hts⟩ (k_X9_bits l hG (h := h77) er89) (va_cwS 1 hts (gS wd1387 wd1388 wd82 wd1389) rfl rfl rfl (by decide +kernel) ⟨Nat.le_of_ble_eq_true rfl, Nat.le_of_ble_eq_true rfl⟩) (r_ps hK hP hS) rfl rfl hl.1 rfl (lv_room (Nat.le_of_ble_eq_true rfl)) dX9_best_89 ⟨Nat.le_of_ble_eq_true rfl, Nat.le_of_ble_eq_true rfl⟩) hS (fun H locs hP hS => ?_)
        refine lv_iload_n hx hb dX9_best_92 rfl (lv_at hl 3 rfl) ?_
        refine lv_icmp_gt (tgt := 179) hx hb dX9_best_93 (by decide) (fun c93 => ?_) (fun c93 => ?_)
        · replace hf := if_t c93 hf
          refine lv_iinc (v := (x7 + 1)) (lv' := [(7, .int (x7 + 1)), (8, .int r77), (0, .ref (gB G 66)), (1, .int x1), (2, .int x2), (3, .int x3), (4, .int x4), (5, .int x5), (6, .int x6)]) hx hb dX9_best_179 hl (k := 8) rfl rfl (by decide) rfl (fun ls hl => ?_)
          refine lv_goto (tgt := 62) hx hb dX9_best_182 (by decide) ?_
          exact ih x5 x6 (x7 + 1) h77 _ _ _ (lv_sub hl [2, 3, 4, 5, 6, 7, 8, 0] rfl) hP hS hf
        · replace hf := if_f c93 hf
          refine lv_aload_n hx hb dX9_best_96 rfl (lv_at hl 1 rfl) ?_
          refine lv_iload hx hb dX9_best_97 (lv_at hl 0 rfl) ?_
          obtain ⟨r99, h99, er99, hf⟩ := bP_s hf
          refine r_callI (va_runV (As := [.int r77]) (rest := []) ⟨hx, hb, hml, hown, hts⟩ (k_X9_riskOf l hG er99) (cwV 1 hts (gV wd1355 wd1357 wd49 wd82 wd1358) rfl rfl rfl (by decide +kernel) ⟨Nat.le_of_ble_eq_true rfl, Nat.le_of_ble_eq_true rfl⟩) (r_pv hK hP hS (ltX9 rfl) (ceX9 rfl) rfl) rfl rfl hl.1 rfl (lv_room (Nat.le_of_ble_eq_true rfl)) dX9_best_99 ⟨Nat.le_of_ble_eq_true rfl, Nat.le_of_ble_eq_true rfl⟩) hS (fun H locs hP hS => ?_)
          refine lv_iload_n hx hb dX9_best_102 rfl (lv_at hl 4 rfl) ?_
          refine lv_icmp_gt (tgt := 179) hx hb dX9_best_103 (by decide) (fun c103 => ?_) (fun c103 => ?_)
          · replace hf := if_t c103 hf
            refine lv_iinc (v := (x7 + 1)) (lv' := [(7, .int (x7 + 1)), (8, .int r77), (0, .ref (gB G 66)), (1, .int x1), (2, .int x2), (3, .int x3), (4, .int x4), (5, .int x5), (6, .int x6)]) hx hb dX9_best_179 hl (k := 8) rfl rfl (by decide) rfl (fun ls hl => ?_)
            refine lv_goto (tgt := 62) hx hb dX9_best_182 (by decide) ?_
            exact ih x5 x6 (x7 + 1) h99 _ _ _ (lv_sub hl [2, 3, 4, 5, 6, 7, 8, 0] rfl) hP hS hf
          · replace hf := if_f c103 hf
            refine lv_aload_n hx hb dX9_best_106 rfl (lv_at hl 1 rfl) ?_
            refine lv_iload hx hb dX9_best_107 (lv_at hl 8 rfl) ?_
            obtain ⟨r109, h109, er109, hf⟩ := bP_s hf
            refine r_callI (va_runV (As := [.int x7]) (rest := []) ⟨hx, hb, hml, hown, hts⟩ (k_X9_weightOf l hG er109) (cwV 1 hts (gV wd1437 wd1439 wd59 wd82 wd1440) rfl rfl rfl (by decide +kernel) ⟨Nat.le_of_ble_eq_true rfl, Nat.le_of_ble_eq_true rfl⟩) (r_pv hK hP hS (ltX9 rfl) (ceX9 rfl) rfl) rfl rfl hl.1 rfl (lv_room (Nat.le_of_ble_eq_true rfl)) dX9_best_109 ⟨Nat.le_of_ble_eq_true rfl, Nat.le_of_ble_eq_true rfl⟩) hS (fun H locs hP hS => ?_)
            refine lv_aload_n hx hb dX9_best_112 rfl (lv_at hl 1 rfl) ?_
            refine lv_iload hx hb dX9_best_113 (lv_at hl 6 rfl) ?_
            obtain ⟨r115, h115, er115, hf⟩ := bP_s hf
            refine r_callI (va_runV (As := [.int x5]) (rest := [.int r109]) ⟨hx, hb, hml, hown, hts⟩ (k_X9_weightOf l hG er115) (cwV 1 hts (gV wd1437 wd1439 wd59 wd82 wd1440) rfl rfl rfl (by decide +kernel) ⟨Nat.le_of_ble_eq_true rfl, Nat.le_of_ble_eq_true rfl⟩) (r_pv hK hP hS (ltX9 rfl) (ceX9 rfl) rfl) rfl rfl hl.1 rfl (lv_room (Nat.le_of_ble_eq_true rfl)) dX9_best_115 ⟨Nat.le_of_ble_eq_true rfl, Nat.le_of_ble_eq_true rfl⟩) hS (fun H locs hP hS => ?_)
            refine lv_isub hx hb dX9_best_118 ?_
            refine lv_topi (fun x9_119 ex9_119 => ?_)
            replace hf := lt_at ex9_119 hf
            refine lv_istore (lv' := [(9, .int x9_119), (8, .int r77), (0, .ref (gB G 66)), (1, .int x1), (2, .int x2), (3, .int x3), (4, .int x4), (5, .int x5), (6, .int x6), (7, .int x7)]) hx hb dX9_best_119 hl (by decide) rfl (fun ls hl => ?_)
            refine lv_iload hx hb dX9_best_121 (lv_at hl 0 rfl) ?_
            refine lv_if_gt (tgt := 144) hx hb dX9_best_123 (by decide) (fun c123 => ?_) (fun c123 => ?_)
            · replace hf := if_t c123 hf
              exact w_X9_best_144 hG C x1 x2 x3 x4 (f_X9_best_62 x1 x2 x3 x4 n) ih x5 x6 x7 r77 h115 _ _ _ (lv_sub hl [2, 3, 4, 5, 6, 7, 8, 9, 1] rfl) hP hS hf
            · replace hf := if_f c123 hf
              refine lv_iload hx hb dX9_best_126 (lv_at hl 0 rfl) ?_
              refine lv_if_ne (tgt := 148) hx hb dX9_best_128 (by decide) (fun c128 => ?_) (fun c128 => ?_)
              · replace hf := if_f c128 hf
                exact w_X9_best_148 hG C x1 x2 x3 x4 (f_X9_best_62 x1 x2 x3 x4 n) ih x5 x6 x7 r77 h115 _ _ _ (lv_sub hl [2, 3, 4, 5, 6, 7, 8, 9, 1] rfl) hP hS hf
              · replace hf := if_t c128 hf
                refine lv_iload hx hb dX9_best_131 (lv_at hl 1 rfl) ?_
                obtain ⟨r133, er133, hf⟩ := bO_s hf
                refine r_callI (va_runS (As := [.int r77]) (rest := []) ⟨hx, hb, hml, hown, hts⟩ (k_X9_bits l hG (h := h115) er133) (va_cwS 1 hts (gS wd1387 wd1388 wd82 wd1389) rfl rfl rfl (by decide +kernel) ⟨Nat.le_of_ble_eq_true rfl, Nat.le_of_ble_eq_true rfl⟩) (r_ps hK hP hS) rfl rfl hl.1 rfl (lv_room (Nat.le_of_ble_eq_true rfl)) dX9_best_133 ⟨Nat.le_of_ble_eq_true rfl, Nat.le_of_ble_eq_true rfl⟩) hS (fun H locs hP hS => ?_)
                refine lv_iload hx hb dX9_best_136 (lv_at hl 8 rfl) ?_
                obtain ⟨r138, er138, hf⟩ := bO_s hf
                refine r_callI (va_runS (As := [.int x6]) (rest := [.int r133]) ⟨hx, hb, hml, hown, hts⟩ (k_X9_bits l hG (h := h115) er138) (va_cwS 1 hts (gS wd1387 wd1388 wd82 wd1389) rfl rfl rfl (by decide +kernel) ⟨Nat.le_of_ble_eq_true rfl, Nat.le_of_ble_eq_true rfl⟩) (r_ps hK hP hS) rfl rfl hl.1 rfl (lv_room (Nat.le_of_ble_eq_true rfl)) dX9_best_138 ⟨Nat.le_of_ble_eq_true rfl, Nat.le_of_ble_eq_true rfl⟩) hS (fun H locs hP hS => ?_)
                refine lv_icmp_ge (tgt := 148) hx hb dX9_best_141 (by decide) (fun c141 => ?_) (fun c141 => ?_)
                · replace hf := if_t c141 hf
                  exact w_X9_best_148 hG C x1 x2 x3 x4 (f_X9_best_62 x1 x2 x3 x4 n) ih x5 x6 x7 r77 h115 _ _ _ (lv_sub hl [2, 3, 4, 5, 6, 7, 8, 9, 1] rfl) hP hS hf
                · replace hf := if_f c141 hf
                  exact w_X9_best_144 hG C x1 x2 x3 x4 (f_X9_best_62 x1 x2 x3 x4 n) ih x5 x6 x7 r77 h115 _ _ _ (lv_sub hl [2, 3, 4, 5, 6, 7, 8, 9, 1] rfl) hP hS hf
def f_X9_best (x1 : Int32) (x2 : Int32) (x3 : Int32) (x4 : Int32) (h : PH) : Option (Int32 × PH) := bP (f_X9_isLine x1 h) (fun r2 h2 => if r2 = 0 then (some ((-1001), h2)) else (bO (f_X9_in (x2 : Int32).toInt64 0 24) (fun r18 => if r18 = 0 then (some ((-1002), h2)) else (bO (f_X9_in (x3 : Int32).toInt64 0 99) (fun r30 => if r30 = 0 then (some ((-1002), h2)) else (bO (f_X9_in (x4 : Int32).toInt64 0 2) (fun r43 => if r43 = 0 then (some ((-1002), h2)) else (f_X9_best_62 x1 x2 x3 x4 FU 0 0 1 h2))))))))
set_option maxHeartbeats 4000000 in
set_option maxRecDepth 100000 in
theorem k_X9_best (l : Launch) {G : GC} (hG : GOK G) {x1 : Int32} {x2 : Int32} {x3 : Int32} {x4 : Int32} {rr : Int32} {h hh : PH} (hf : f_X9_best x1 x2 x3 x4 h = some (rr, hh)) : CI l yX9_best vX9_best rmX9_best G [.ref (gB G 66), .int x1, .int x2, .int x3, .int x4] h rr hh := by
  refine Met.ofW (cc := cX9_best) (maxL := 11) (ret := (some .int)) (by decide +kernel) rfl ?_
  intro p e s m args below meth c s₁ B hml hv
  obtain ⟨rfl, hP, hK⟩ := hv
  have C : MC l G p s m _ meth c RX9 cX9_best 11 (some .int) := ⟨B.exec, B.bytes, B.returns, B.notSynchronized, hml, findClass_of_methodNamed B.named, fun w hw => atoms_spec (ws := vX9_best) B.pre w (List.mem_cons_of_mem _ hw), hK⟩
  obtain ⟨hx, hb, hr, hlocks, -, hown, hts, -⟩ := id C
  have hl := lv_entry ([.ref (gB G 66), .int x1, .int x2, .int x3, .int x4]) (n := 11) (Nat.le_of_ble_eq_true rfl)
  rw [lg_entry_eq]
  generalize (lg_sl ([.ref (gB G 66), .int x1, .int x2, .int x3, .int x4]) ++ List.replicate (11 - (lg_sl ([.ref (gB G 66), .int x1, .int x2, .int x3, .int x4])).length) Slot.unset).toArray = ls at hl ⊢
  have hl : lv_has ls 11 [(0, .ref (gB G 66)), (1, .int x1), (2, .int x2), (3, .int x3), (4, .int x4)] := hl
  have hS : SP G s s.heap [] := va_S.rf
  replace hP : WP G h s.heap := hP
  rw [f_X9_best] at hf
  refine lv_aload_n hx hb dX9_best_0 rfl (lv_at hl 0 rfl) ?_
  refine lv_iload_n hx hb dX9_best_1 rfl (lv_at hl 1 rfl) ?_
  obtain ⟨r2, h2, er2, hf⟩ := bP_s hf
  refine r_callI (va_runV (As := [.int x1]) (rest := []) ⟨hx, hb, hml, hown, hts⟩ (k_X9_isLine l hG er2) (cwV 1 hts (gV wd1347 wd1349 wd47 wd82 wd1350) rfl rfl rfl (by decide +kernel) ⟨Nat.le_of_ble_eq_true rfl, Nat.le_of_ble_eq_true rfl⟩) (r_pv hK hP hS (ltX9 rfl) (ceX9 rfl) rfl) rfl rfl hl.1 rfl (lv_room (Nat.le_of_ble_eq_true rfl)) dX9_best_2 ⟨Nat.le_of_ble_eq_true rfl, Nat.le_of_ble_eq_true rfl⟩) hS (fun H locs hP hS => ?_)
  refine lv_if_ne (tgt := 12) hx hb dX9_best_5 (by decide) (fun c5 => ?_) (fun c5 => ?_)
  · replace hf := if_f c5 hf
    refine lv_iload_n hx hb dX9_best_12 rfl (lv_at hl 2 rfl) ?_
    refine lv_i2l hx hb dX9_best_13 rfl ?_
    refine lv_lconst (v := 0) hx hb dX9_best_14 (by decide) ?_
    refine lv_ldc2 (v := 24) hx hb hown (hts _ wd1434) dX9_best_15 ?_
    obtain ⟨r18, er18, hf⟩ := bO_s hf
    refine r_callI (va_runS (As := [.long (x2 : Int32).toInt64, .long 0, .long 24]) (rest := []) ⟨hx, hb, hml, hown, hts⟩ (k_X9_in l hG (h := h2) er18) (va_cwS 3 hts (gS wd1206 wd1207 wd82 wd1208) rfl rfl rfl (by decide +kernel) ⟨Nat.le_of_ble_eq_true rfl, Nat.le_of_ble_eq_true rfl⟩) (r_ps hK hP hS) rfl rfl hl.1 rfl (lv_room (Nat.le_of_ble_eq_true rfl)) dX9_best_18 ⟨Nat.le_of_ble_eq_true rfl, Nat.le_of_ble_eq_true rfl⟩) hS (fun H locs hP hS => ?_)
    refine lv_if_eq (tgt := 49) hx hb dX9_best_21 (by decide) (fun c21 => ?_) (fun c21 => ?_)
    · replace hf := if_t c21 hf
      refine lv_sipush (v := (-1002)) hx hb dX9_best_49 (by decide) ?_
      exact r_iret hx hb hr hlocks hP hS (re2 (Option.some.inj hf)) dX9_best_52
    · replace hf := if_f c21 hf
      refine lv_iload_n hx hb dX9_best_24 rfl (lv_at hl 3 rfl) ?_
      refine lv_i2l hx hb dX9_best_25 rfl ?_
      refine lv_lconst (v := 0) hx hb dX9_best_26 (by decide) ?_
      refine lv_ldc2 (v := 99) hx hb hown (hts _ wd1435) dX9_best_27 ?_
      obtain ⟨r30, er30, hf⟩ := bO_s hf
      refine r_callI (va_runS (As := [.long (x3 : Int32).toInt64, .long 0, .long 99]) (rest := []) ⟨hx, hb, hml, hown, hts⟩ (k_X9_in l hG (h := h2) er30) (va_cwS 3 hts (gS wd1206 wd1207 wd82 wd1208) rfl rfl rfl (by decide +kernel) ⟨Nat.le_of_ble_eq_true rfl, Nat.le_of_ble_eq_true rfl⟩) (r_ps hK hP hS) rfl rfl hl.1 rfl (lv_room (Nat.le_of_ble_eq_true rfl)) dX9_best_30 ⟨Nat.le_of_ble_eq_true rfl, Nat.le_of_ble_eq_true rfl⟩) hS (fun H locs hP hS => ?_)
      refine lv_if_eq (tgt := 49) hx hb dX9_best_33 (by decide) (fun c33 => ?_) (fun c33 => ?_)
      · replace hf := if_t c33 hf
        refine lv_sipush (v := (-1002)) hx hb dX9_best_49 (by decide) ?_
        exact r_iret hx hb hr hlocks hP hS (re2 (Option.some.inj hf)) dX9_best_52
      · replace hf := if_f c33 hf
        refine lv_iload hx hb dX9_best_36 (lv_at hl 4 rfl) ?_
        refine lv_i2l hx hb dX9_best_38 rfl ?_
        refine lv_lconst (v := 0) hx hb dX9_best_39 (by decide) ?_
        refine lv_ldc2 (v := 2) hx hb hown (hts _ wd1436) dX9_best_40 ?_
        obtain ⟨r43, er43, hf⟩ := bO_s hf
        refine r_callI (va_runS (As := [.long (x4 : Int32).toInt64, .long 0, .long 2]) (rest := []) ⟨hx, hb, hml, hown, hts⟩ (k_X9_in l hG (h := h2) er43) (va_cwS 3 hts (gS wd1206 wd1207 wd82 wd1208) rfl rfl rfl (by decide +kernel) ⟨Nat.le_of_ble_eq_true rfl, Nat.le_of_ble_eq_true rfl⟩) (r_ps hK hP hS) rfl rfl hl.1 rfl (lv_room (Nat.le_of_ble_eq_true rfl)) dX9_best_43 ⟨Nat.le_of_ble_eq_true rfl, Nat.le_of_ble_eq_true rfl⟩) hS (fun H locs hP hS => ?_)
        refine lv_if_ne (tgt := 53) hx hb dX9_best_46 (by decide) (fun c46 => ?_) (fun c46 => ?_)
        · replace hf := if_f c46 hf
          refine lv_iconst (v := 0) hx hb dX9_best_53 (by decide) ?_
          refine lv_istore (lv' := [(5, .int 0), (0, .ref (gB G 66)), (1, .int x1), (2, .int x2), (3, .int x3), (4, .int x4)]) hx hb dX9_best_54 hl (by decide) rfl (fun ls hl => ?_)
          refine lv_iconst (v := 0) hx hb dX9_best_56 (by decide) ?_
          refine lv_istore (lv' := [(6, .int 0), (5, .int 0), (0, .ref (gB G 66)), (1, .int x1), (2, .int x2), (3, .int x3), (4, .int x4)]) hx hb dX9_best_57 hl (by decide) rfl (fun ls hl => ?_)
          refine lv_iconst (v := 1) hx hb dX9_best_59 (by decide) ?_
          refine lv_istore (lv' := [(7, .int 1), (6, .int 0), (5, .int 0), (0, .ref (gB G 66)), (1, .int x1), (2, .int x2), (3, .int x3), (4, .int x4)]) hx hb dX9_best_60 hl (by decide) rfl (fun ls hl => ?_)
          exact w_X9_best_62 hG C x1 x2 x3 x4 FU 0 0 1 h2 _ _ _ (lv_sub hl [3, 4, 5, 6, 7, 2, 1, 0] rfl) hP hS hf
        · replace hf := if_t c46 hf
          refine lv_sipush (v := (-1002)) hx hb dX9_best_49 (by decide) ?_
          exact r_iret hx hb hr hlocks hP hS (re2 (Option.some.inj hf)) dX9_best_52
  · replace hf := if_t c5 hf
    refine lv_sipush (v := (-1001)) hx hb dX9_best_8 (by decide) ?_
    exact r_iret hx hb hr hlocks hP hS (re2 (Option.some.inj hf)) dX9_best_11
