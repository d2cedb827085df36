/-! CarriedBackModel.later(II)I -/
abbrev rmX9_later : Room := { frames := 2, cells := 0, slots := 0, locals := 46 }
abbrev vX9_later : List Cond := Cond.code yX9_later cX9_later 4 (some .int) :: GW
def f_X9_later_58 (x1 : Int32) (t0 : Int32) (h : PH) : Option (Int32 × PH) := bO (ag h 74 4 x1) (fun v66 => bP (f_X9_faultsIn v66 h) (fun r67 h67 => bP (f_X9_weightOf r67 h67) (fun r70 h70 => bP (f_X9_faultsIn ((1 <<< (t0 &&& 31)) - 1) h70) (fun r80 h80 => bP (f_X9_weightOf r80 h80) (fun r83 h83 => some ((r70 - r83), h83))))))
set_option maxHeartbeats 4000000 in
set_option maxRecDepth 100000 in
theorem w_X9_later_58 {l : Launch} {G : GC} (hG : GOK G) {rr : Int32} {hh : PH} {p : Program} {e : Env} {s : State} {m : MethodId} {args : Array Value} {below : List Frame} {meth : Method} {c : Code} (C : MC l G p s m args meth c RX9 cX9_later 4 (some .int)) : ∀ (x1 : Int32) (t0 : Int32) (h : PH) (H : Heap) (locs : List Loc) (ls : Array Slot), lv_has ls 4 [(0, .ref (gB G 66)), (1, .int x1)] → WP G h H → SP G s H locs → f_X9_later_58 x1 t0 h = some (rr, hh) → W p l e rmX9_later s m args below meth c H locs 0 0 (MQ below (QI G rr hh) args s 0 0 (gA G)) (F0 m 58 ls [.int t0]) := by
  obtain ⟨hx, hb, hr, hlocks, hml, hown, hts, hK⟩ := id C
  intro x1 t0 h H locs ls hl hP hS hf
  rw [f_X9_later_58] at hf
  refine lv_istore_n (lv' := [(3, .int t0), (0, .ref (gB G 66)), (1, .int x1)]) hx hb dX9_later_58 rfl hl (by decide) rfl (fun ls hl => ?_)
  refine lv_aload_n hx hb dX9_later_59 rfl (lv_at hl 1 rfl) ?_
  refine lv_aload_n hx hb dX9_later_60 rfl (lv_at hl 1 rfl) ?_
  refine lv_aload_n hx hb dX9_later_61 rfl (lv_at hl 1 rfl) ?_
  refine r_get (a := 66) (v := .ref (gB G 74)) (C := RX9) (T := TX9) (N := 55) hx hb hts hinX9 hown hK hP (ltX9 rfl) (ceX9 rfl) rfl 10 (by decide) wd1045 rfl dX9_later_62 ?_
  refine lv_iload_n hx hb dX9_later_65 rfl (lv_at hl 2 rfl) ?_
  obtain ⟨v66, ev66, hf⟩ := bO_s hf
  refine r_iald hx hb hK hP (arX9_10 rfl) ev66 dX9_later_66 ?_
  obtain ⟨r67, h67, er67, hf⟩ := bP_s hf
  refine r_callI (va_runV (As := [.int v66]) (rest := [.ref (gB G 66)]) ⟨hx, hb, hml, hown, hts⟩ (k_X9_faultsIn l hG er67) (cwV 1 hts (gV wd1351 wd1353 wd48 wd82 wd1354) rfl rfl rfl (by decide +kernel) ⟨Nat.le_of_ble_eq_true rfl, Nat.le_of_ble_eq_true rfl⟩) (r_pv hK hP hS (ltX9 rfl) (ceX9 rfl) rfl) rfl rfl hl.1 rfl (lv_room (Nat.le_of_ble_eq_true rfl)) dX9_later_67 ⟨Nat.le_of_ble_eq_true rfl, Nat.le_of_ble_eq_true rfl⟩) hS (fun H locs hP hS => ?_)
  obtain ⟨r70, h70, er70, hf⟩ := bP_s hf
  refine r_callI (va_runV (As := [.int r67]) (rest := []) ⟨hx, hb, hml, hown, hts⟩ (k_X9_weightOf l hG er70) (cwV 1 hts (gV wd1437 wd1439 wd59 wd82 wd1440) rfl rfl rfl (by decide +kernel) ⟨Nat.le_of_ble_eq_true rfl, Nat.le_of_ble_eq_true rfl⟩) (r_pv hK hP hS (ltX9 rfl) (ceX9 rfl) rfl) rfl rfl hl.1 rfl (lv_room (Nat.le_of_ble_eq_true rfl)) dX9_later_70 ⟨Nat.le_of_ble_eq_true rfl, Nat.le_of_ble_eq_true rfl⟩) hS (fun H locs hP hS => ?_)
  refine lv_aload_n hx hb dX9_later_73 rfl (lv_at hl 1 rfl) ?_
  refine lv_aload_n hx hb dX9_later_74 rfl (lv_at hl 1 rfl) ?_
  refine lv_iconst (v := 1) hx hb dX9_later_75 (by decide) ?_
  refine lv_iload_n hx hb dX9_later_76 rfl (lv_at hl 0 rfl) ?_
  refine lv_ishl hx hb dX9_later_77 ?_
  refine lv_iconst (v := 1) hx hb dX9_later_78 (by decide) ?_
  refine lv_isub hx hb dX9_later_79 ?_
  obtain ⟨r80, h80, er80, hf⟩ := bP_s hf
  refine r_callI (va_runV (As := [.int ((1 <<< (t0 &&& 31)) - 1)]) (rest := [.ref (gB G 66), .int r70]) ⟨hx, hb, hml, hown, hts⟩ (k_X9_faultsIn l hG er80) (cwV 1 hts (gV wd1351 wd1353 wd48 wd82 wd1354) rfl rfl rfl (by decide +kernel) ⟨Nat.le_of_ble_eq_true rfl, Nat.le_of_ble_eq_true rfl⟩) (r_pv hK hP hS (ltX9 rfl) (ceX9 rfl) rfl) rfl rfl hl.1 rfl (lv_room (Nat.le_of_ble_eq_true rfl)) dX9_later_80 ⟨Nat.le_of_ble_eq_true rfl, Nat.le_of_ble_eq_true rfl⟩) hS (fun H locs hP hS => ?_)
  obtain ⟨r83, h83, er83, hf⟩ := bP_s hf
  refine r_callI (va_runV (As := [.int r80]) (rest := [.int r70]) ⟨hx, hb, hml, hown, hts⟩ (k_X9_weightOf l hG er83) (cwV 1 hts (gV wd1437 wd1439 wd59 wd82 wd1440) rfl rfl rfl (by decide +kernel) ⟨Nat.le_of_ble_eq_true rfl, Nat.le_of_ble_eq_true rfl⟩) (r_pv hK hP hS (ltX9 rfl) (ceX9 rfl) rfl) rfl rfl hl.1 rfl (lv_room (Nat.le_of_ble_eq_true rfl)) dX9_later_83 ⟨Nat.le_of_ble_eq_true rfl, Nat.le_of_ble_eq_true rfl⟩) hS (fun H locs hP hS => ?_)
  refine lv_isub hx hb dX9_later_86 ?_
  exact r_iret hx hb hr hlocks hP hS (re2 (Option.some.inj hf)) dX9_later_87
def f_X9_later (x1 : Int32) (x2 : Int32) (h : PH) : Option (Int32 × PH) := bP (f_X9_isLine x1 h) (fun r2 h2 => if r2 = 0 then (some ((-1001), h2)) else (bO (f_X9_in (x2 : Int32).toInt64 0 24) (fun r18 => if r18 = 0 then (some ((-1002), h2)) else (bO (ag h2 73 4 x1) (fun v33 => if (v33 + x2) ≤ (h2.1 66 0) then (bO (ag h2 73 4 x1) (fun v55 => f_X9_later_58 x1 (v55 + x2) h2)) else (f_X9_later_58 x1 (h2.1 66 0) h2))))))
set_option maxHeartbeats 4000000 in
set_option maxRecDepth 100000 in
theorem k_X9_later (l : Launch) {G : GC} (hG : GOK G) {x1 : Int32} {x2 : Int32} {rr : Int32} {h hh : PH} (hf : f_X9_later x1 x2 h = some (rr, hh)) : CI l yX9_later vX9_later rmX9_later G [.ref (gB G 66), .int x1, .int x2] h rr hh := by
  refine Met.ofW (cc := cX9_later) (maxL := 4) (ret := (some .int)) (by decide +kernel) rfl ?_
  intro p e s m args below meth c s₁ B hml hv
  obtain ⟨rfl, hP, hK⟩ := hv
  have C : MC l G p s m _ meth c RX9 cX9_later 4 (some .int) := ⟨B.exec, B.bytes, B.returns, B.notSynchronized, hml, findClass_of_methodNamed B.named, fun w hw => atoms_spec (ws := vX9_later) B.pre w (List.mem_cons_of_mem _ hw), hK⟩
  obtain ⟨hx, hb, hr, hlocks, -, hown, hts, -⟩ := id C
  have hl := lv_entry ([.ref (gB G 66), .int x1, .int x2]) (n := 4) (Nat.le_of_ble_eq_true rfl)
  rw [lg_entry_eq]
  generalize (lg_sl ([.ref (gB G 66), .int x1, .int x2]) ++ List.replicate (4 - (lg_sl ([.ref (gB G 66), .int x1, .int x2])).length) Slot.unset).toArray = ls at hl ⊢
  have hl : lv_has ls 4 [(0, .ref (gB G 66)), (1, .int x1), (2, .int x2)] := hl
  have hS : SP G s s.heap [] := va_S.rf
  replace hP : WP G h s.heap := hP
  rw [f_X9_later] at hf
  refine lv_aload_n hx hb dX9_later_0 rfl (lv_at hl 0 rfl) ?_
  refine lv_iload_n hx hb dX9_later_1 rfl (lv_at hl 1 rfl) ?_
  obtain ⟨r2, h2, er2, hf⟩ := bP_s hf
  refine r_callI (va_runV (As := [.int x1]) (rest := []) ⟨hx, hb, hml, hown, hts⟩ (k_X9_isLine l hG er2) (cwV 1 hts (gV wd1347 wd1349 wd47 wd82 wd1350) rfl rfl rfl (by decide +kernel) ⟨Nat.le_of_ble_eq_true rfl, Nat.le_of_ble_eq_true rfl⟩) (r_pv hK hP hS (ltX9 rfl) (ceX9 rfl) rfl) rfl rfl hl.1 rfl (lv_room (Nat.le_of_ble_eq_true rfl)) dX9_later_2 ⟨Nat.le_of_ble_eq_true rfl, Nat.le_of_ble_eq_true rfl⟩) hS (fun H locs hP hS => ?_)
  refine lv_if_ne (tgt := 12) hx hb dX9_later_5 (by decide) (fun c5 => ?_) (fun c5 => ?_)
  · replace hf := if_f c5 hf
    refine lv_iload_n hx hb dX9_later_12 rfl (lv_at hl 2 rfl) ?_
    refine lv_i2l hx hb dX9_later_13 rfl ?_
    refine lv_lconst (v := 0) hx hb dX9_later_14 (by decide) ?_
    refine lv_ldc2 (v := 24) hx hb hown (hts _ wd1434) dX9_later_15 ?_
    obtain ⟨r18, er18, hf⟩ := bO_s hf
    refine r_callI (va_runS (As := [.long (x2 : Int32).toInt64, .long 0, .long 24]) (rest := []) ⟨hx, hb, hml, hown, hts⟩ (k_X9_in l hG (h := h2) er18) (va_cwS 3 hts (gS wd1206 wd1207 wd82 wd1208) rfl rfl rfl (by decide +kernel) ⟨Nat.le_of_ble_eq_true rfl, Nat.le_of_ble_eq_true rfl⟩) (r_ps hK hP hS) rfl rfl hl.1 rfl (lv_room (Nat.le_of_ble_eq_true rfl)) dX9_later_18 ⟨Nat.le_of_ble_eq_true rfl, Nat.le_of_ble_eq_true rfl⟩) hS (fun H locs hP hS => ?_)
    refine lv_if_ne (tgt := 28) hx hb dX9_later_21 (by decide) (fun c21 => ?_) (fun c21 => ?_)
    · replace hf := if_f c21 hf
      refine lv_aload_n hx hb dX9_later_28 rfl (lv_at hl 0 rfl) ?_
      refine r_get (a := 66) (v := .ref (gB G 73)) (C := RX9) (T := TX9) (N := 55) hx hb hts hinX9 hown hK hP (ltX9 rfl) (ceX9 rfl) rfl 9 (by decide) wd1044 rfl dX9_later_29 ?_
      refine lv_iload_n hx hb dX9_later_32 rfl (lv_at hl 1 rfl) ?_
      obtain ⟨v33, ev33, hf⟩ := bO_s hf
      refine r_iald hx hb hK hP (arX9_9 rfl) ev33 dX9_later_33 ?_
      refine lv_iload_n hx hb dX9_later_34 rfl (lv_at hl 2 rfl) ?_
      refine lv_iadd hx hb dX9_later_35 ?_
      refine lv_aload_n hx hb dX9_later_36 rfl (lv_at hl 0 rfl) ?_
      refine r_get (a := 66) (v := .int (h2.1 66 0)) (C := RX9) (T := TX9) (N := 55) hx hb hts hinX9 hown hK hP (ltX9 rfl) (ceX9 rfl) rfl 0 (by decide) wd1035 rfl dX9_later_37 ?_
      refine lv_icmp_le (tgt := 50) hx hb dX9_later_40 (by decide) (fun c40 => ?_) (fun c40 => ?_)
      · replace hf := if_t c40 hf
        refine lv_aload_n hx hb dX9_later_50 rfl (lv_at hl 0 rfl) ?_
        refine r_get (a := 66) (v := .ref (gB G 73)) (C := RX9) (T := TX9) (N := 55) hx hb hts hinX9 hown hK hP (ltX9 rfl) (ceX9 rfl) rfl 9 (by decide) wd1044 rfl dX9_later_51 ?_
        refine lv_iload_n hx hb dX9_later_54 rfl (lv_at hl 1 rfl) ?_
        obtain ⟨v55, ev55, hf⟩ := bO_s hf
        refine r_iald hx hb hK hP (arX9_9 rfl) ev55 dX9_later_55 ?_
        refine lv_iload_n hx hb dX9_later_56 rfl (lv_at hl 2 rfl) ?_
        refine lv_iadd hx hb dX9_later_57 ?_
        exact w_X9_later_58 hG C x1 (v55 + x2) h2 _ _ _ (lv_sub hl [0, 1] rfl) hP hS hf
      · replace hf := if_f c40 hf
        refine lv_aload_n hx hb dX9_later_43 rfl (lv_at hl 0 rfl) ?_
        refine r_get (a := 66) (v := .int (h2.1 66 0)) (C := RX9) (T := TX9) (N := 55) hx hb hts hinX9 hown hK hP (ltX9 rfl) (ceX9 rfl) rfl 0 (by decide) wd1035 rfl dX9_later_44 ?_
        refine lv_goto (tgt := 58) hx hb dX9_later_47 (by decide) ?_
        exact w_X9_later_58 hG C x1 (h2.1 66 0) h2 _ _ _ (lv_sub hl [0, 1] rfl) hP hS hf
    · replace hf := if_t c21 hf
      refine lv_sipush (v := (-1002)) hx hb dX9_later_24 (by decide) ?_
      exact r_iret hx hb hr hlocks hP hS (re2 (Option.some.inj hf)) dX9_later_27
  · replace hf := if_t c5 hf
    refine lv_sipush (v := (-1001)) hx hb dX9_later_8 (by decide) ?_
    exact r_iret hx hb hr hlocks hP hS (re2 (Option.some.inj hf)) dX9_later_11
/-! CarriedBackModel.release(II)I -/
abbrev rmX9_release : Room := { frames := 2, cells := 0, slots := 0, locals := 46 }
abbrev vX9_release : List Cond := Cond.code yX9_release cX9_release 4 (some .int) :: GW
def f_X9_release_99 (x1 : Int32) : Nat → Int32 → PH → Option (Int32 × PH)
  | 0, _, _ => none
  | n + 1, x3, h => if (16 : Int32) ≤ x3 then (lt' (hU h 66 13 ((h.1 66 13) + 1)) (fun h143 => some (((h143.1 66 13) - 1), h143))) else (bO (ag h 75 64 ((16 * x1) + x3)) (fun v128 => bO (asg h 80 320 ((16 * (h.1 66 13)) + x3) v128) (fun h129 => (f_X9_release_99 x1 n) (x3 + 1) h129)))
set_option maxHeartbeats 4000000 in
set_option maxRecDepth 100000 in
theorem w_X9_release_99 {l : Launch} {G : GC} (hG : GOK G) {rr : Int32} {hh : PH} {p : Program} {e : Env} {s : State} {m : MethodId} {args : Array Value} {below : List Frame} {meth : Method} {c : Code} (C : MC l G p s m args meth c RX9 cX9_release 4 (some .int)) (x1 : Int32) : ∀ (n : Nat) (x3 : Int32) (h : PH) (H : Heap) (locs : List Loc) (ls : Array Slot), lv_has ls 4 [(0, .ref (gB G 66)), (1, .int x1), (3, .int x3)] → WP G h H → SP G s H locs → f_X9_release_99 x1 n x3 h = some (rr, hh) → W p l e rmX9_release s m args below meth c H locs 0 0 (MQ below (QI G rr hh) args s 0 0 (gA G)) (F0 m 99 ls []) := by
  obtain ⟨hx, hb, hr, hlocks, hml, hown, hts, hK⟩ := id C
  intro n
  induction n with
  | zero => intro x3 h H locs ls hl hP hS hf; rw [f_X9_release_99] at hf; cases hf
  | succ n ih =>
    intro x3 h H locs ls hl hP hS hf
    rw [f_X9_release_99] at hf
    refine lv_iload_n hx hb dX9_release_99 rfl (lv_at hl 2 rfl) ?_
    refine lv_bipush (v := 16) hx hb dX9_release_100 (by decide) ?_
    refine lv_icmp_ge (tgt := 136) hx hb dX9_release_102 (by decide) (fun c102 => ?_) (fun c102 => ?_)
    · replace hf := if_t c102 hf
      refine lv_aload_n hx hb dX9_release_136 rfl (lv_at hl 0 rfl) ?_
      refine lv_dup hx hb dX9_release_137 rfl ?_
      refine r_get (a := 66) (v := .int (h.1 66 13)) (C := RX9) (T := TX9) (N := 55) hx hb hts hinX9 hown hK hP (ltX9 rfl) (ceX9 rfl) rfl 13 (by decide) wd1048 rfl dX9_release_138 ?_
      refine lv_iconst (v := 1) hx hb dX9_release_141 (by decide) ?_
      refine lv_iadd hx hb dX9_release_142 ?_
      obtain ⟨h143, eh143⟩ : ∃ y, y = hU h 66 13 ((h.1 66 13) + 1) := ⟨_, rfl⟩
      replace hf := lt_at eh143 hf
      refine r_put (a := 66) (v := .int ((h.1 66 13) + 1)) (ty := .int) (h' := h143) (C := RX9) (T := TX9) (N := 55) hG hx hb hts hinX9 tyX9 tyX9_ok nmX9 hown hK hP hS (ltX9 rfl) (ceX9 rfl) rfl 13 (by decide) wd1048 rfl (by decide +kernel) rfl rfl (Nat.le_of_ble_eq_true rfl) (by rw [eh143]; exact fun j hj => cE_U hj) (by rw [eh143]; exact puX9_13 rfl _) dX9_release_143 (fun H locs hP hS => ?_)
      refine lv_aload_n hx hb dX9_release_146 rfl (lv_at hl 0 rfl) ?_
      refine r_get (a := 66) (v := .int (h143.1 66 13)) (C := RX9) (T := TX9) (N := 55) hx hb hts hinX9 hown hK hP (ltX9 rfl) (ceX9 rfl) rfl 13 (by decide) wd1048 rfl dX9_release_147 ?_
      refine lv_iconst (v := 1) hx hb dX9_release_150 (by decide) ?_
      refine lv_isub hx hb dX9_release_151 ?_
      exact r_iret hx hb hr hlocks hP hS (re2 (Option.some.inj hf)) dX9_release_152
    · replace hf := if_f c102 hf
      refine lv_aload_n hx hb dX9_release_105 rfl (lv_at hl 0 rfl) ?_
      refine r_get (a := 66) (v := .ref (gB G 80)) (C := RX9) (T := TX9) (N := 55) hx hb hts hinX9 hown hK hP (ltX9 rfl) (ceX9 rfl) rfl 17 (by decide) wd1052 rfl dX9_release_106 ?_
      refine lv_bipush (v := 16) hx hb dX9_release_109 (by decide) ?_
      refine lv_aload_n hx hb dX9_release_111 rfl (lv_at hl 0 rfl) ?_
      refine r_get (a := 66) (v := .int (h.1 66 13)) (C := RX9) (T := TX9) (N := 55) hx hb hts hinX9 hown hK hP (ltX9 rfl) (ceX9 rfl) rfl 13 (by decide) wd1048 rfl dX9_release_112 ?_
      refine lv_imul hx hb dX9_release_115 ?_
      refine lv_iload_n hx hb dX9_release_116 rfl (lv_at hl 2 rfl) ?_
      refine lv_iadd hx hb dX9_release_117 ?_
      refine lv_aload_n hx hb dX9_release_118 rfl (lv_at hl 0 rfl) ?_
      refine r_get (a := 66) (v := .ref (gB G 75)) (C := RX9) (T := TX9) (N := 55) hx hb hts hinX9 hown hK hP (ltX9 rfl) (ceX9 rfl) rfl 11 (by decide) wd1046 rfl dX9_release_119 ?_
      refine lv_bipush (v := 16) hx hb dX9_release_122 (by decide) ?_
      refine lv_iload_n hx hb dX9_release_124 rfl (lv_at hl 1 rfl) ?_
      refine lv_imul hx hb dX9_release_125 ?_
      refine lv_iload_n hx hb dX9_release_126 rfl (lv_at hl 2 rfl) ?_
      refine lv_iadd hx hb dX9_release_127 ?_
      obtain ⟨v128, ev128, hf⟩ := bO_s hf
      refine r_iald hx hb hK hP (arX9_11 rfl) ev128 dX9_release_128 ?_
      obtain ⟨h129, eh129, hf⟩ := bO_s hf
      refine r_iast hG hx hb hK hP hS (arX9_17 rfl) eh129 dX9_release_129 (fun H locs hP hS => ?_)
      refine lv_iinc (v := (x3 + 1)) (lv' := [(3, .int (x3 + 1)), (0, .ref (gB G 66)), (1, .int x1)]) hx hb dX9_release_130 hl (k := 2) rfl rfl (by decide) rfl (fun ls hl => ?_)
      refine lv_goto (tgt := 99) hx hb dX9_release_133 (by decide) ?_
      exact ih (x3 + 1) h129 _ _ _ (lv_sub hl [1, 2, 0] rfl) hP hS hf
def f_X9_release_49 (x1 : Int32) (x2 : Int32) (h : PH) : Option (Int32 × PH) := if (h.1 66 13) = 20 then (some ((-1004), h)) else (bO (asg h 77 20 (h.1 66 13) x1) (fun h71 => bO (asg h71 78 20 (h71.1 66 13) x2) (fun h81 => bO (ag h81 74 4 x1) (fun v95 => bO (asg h81 79 20 (h81.1 66 13) v95) (fun h96 => f_X9_release_99 x1 FU 0 h96)))))
set_option maxHeartbeats 4000000 in
set_option maxRecDepth 100000 in
theorem w_X9_release_49 {l : Launch} {G : GC} (hG : GOK G) {rr : Int32} {hh : PH} {p : Program} {e : Env} {s : State} {m : MethodId} {args : Array Value} {below : List Frame} {meth : Method} {c : Code} (C : MC l G p s m args meth c RX9 cX9_release 4 (some .int)) : ∀ (x1 : Int32) (x2 : Int32) (h : PH) (H : Heap) (locs : List Loc) (ls : Array Slot), lv_has ls 4 [(0, .ref (gB G 66)), (1, .int x1), (2, .int x2)] → WP G h H → SP G s H locs → f_X9_release_49 x1 x2 h = some (rr, hh) → W p l e rmX9_release s m args below meth c H locs 0 0 (MQ below (QI G rr hh) args s 0 0 (gA G)) (F0 m 49 ls []) := by
  obtain ⟨hx, hb, hr, hlocks, hml, hown, hts, hK⟩ := id C
  intro x1 x2 h H locs ls hl hP hS hf
  rw [f_X9_release_49] at hf
  refine lv_aload_n hx hb dX9_release_49 rfl (lv_at hl 0 rfl) ?_
  refine r_get (a := 66) (v := .int (h.1 66 13)) (C := RX9) (T := TX9) (N := 55) hx hb hts hinX9 hown hK hP (ltX9 rfl) (ceX9 rfl) rfl 13 (by decide) wd1048 rfl dX9_release_50 ?_
  refine lv_bipush (v := 20) hx hb dX9_release_53 (by decide) ?_
  refine lv_icmp_ne (tgt := 62) hx hb dX9_release_55 (by decide) (fun c55 => ?_) (fun c55 => ?_)
  · replace hf := if_f c55 hf
    refine lv_aload_n hx hb dX9_release_62 rfl (lv_at hl 0 rfl) ?_
    refine r_get (a := 66) (v := .ref (gB G 77)) (C := RX9) (T := TX9) (N := 55) hx hb hts hinX9 hown hK hP (ltX9 rfl) (ceX9 rfl) rfl 14 (by decide) wd1049 rfl dX9_release_63 ?_
    refine lv_aload_n hx hb dX9_release_66 rfl (lv_at hl 0 rfl) ?_
    refine r_get (a := 66) (v := .int (h.1 66 13)) (C := RX9) (T := TX9) (N := 55) hx hb hts hinX9 hown hK hP (ltX9 rfl) (ceX9 rfl) rfl 13 (by decide) wd1048 rfl dX9_release_67 ?_
    refine lv_iload_n hx hb dX9_release_70 rfl (lv_at hl 1 rfl) ?_
    obtain ⟨h71, eh71, hf⟩ := bO_s hf
    refine r_iast hG hx hb hK hP hS (arX9_14 rfl) eh71 dX9_release_71 (fun H locs hP hS => ?_)
    refine lv_aload_n hx hb dX9_release_72 rfl (lv_at hl 0 rfl) ?_
    refine r_get (a := 66) (v := .ref (gB G 78)) (C := RX9) (T := TX9) (N := 55) hx hb hts hinX9 hown hK hP (ltX9 rfl) (ceX9 rfl) rfl 15 (by decide) wd1050 rfl dX9_release_73 ?_
    refine lv_aload_n hx hb dX9_release_76 rfl (lv_at hl 0 rfl) ?_
    refine r_get (a := 66) (v := .int (h71.1 66 13)) (C := RX9) (T := TX9) (N := 55) hx hb hts hinX9 hown hK hP (ltX9 rfl) (ceX9 rfl) rfl 13 (by decide) wd1048 rfl dX9_release_77 ?_
    refine lv_iload_n hx hb dX9_release_80 rfl (lv_at hl 2 rfl) ?_
    obtain ⟨h81, eh81, hf⟩ := bO_s hf
    refine r_iast hG hx hb hK hP hS (arX9_15 rfl) eh81 dX9_release_81 (fun H locs hP hS => ?_)
    refine lv_aload_n hx hb dX9_release_82 rfl (lv_at hl 0 rfl) ?_
    refine r_get (a := 66) (v := .ref (gB G 79)) (C := RX9) (T := TX9) (N := 55) hx hb hts hinX9 hown hK hP (ltX9 rfl) (ceX9 rfl) rfl 16 (by decide) wd1051 rfl dX9_release_83 ?_
    refine lv_aload_n hx hb dX9_release_86 rfl (lv_at hl 0 rfl) ?_
    refine r_get (a := 66) (v := .int (h81.1 66 13)) (C := RX9) (T := TX9) (N := 55) hx hb hts hinX9 hown hK hP (ltX9 rfl) (ceX9 rfl) rfl 13 (by decide) wd1048 rfl dX9_release_87 ?_
    refine lv_aload_n hx hb dX9_release_90 rfl (lv_at hl 0 rfl) ?_
    refine r_get (a := 66) (v := .ref (gB G 74)) (C := RX9) (T := TX9) (N := 55) hx hb hts hinX9 hown hK hP (ltX9 rfl) (ceX9 rfl) rfl 10 (by decide) wd1045 rfl dX9_release_91 ?_
    refine lv_iload_n hx hb dX9_release_94 rfl (lv_at hl 1 rfl) ?_
    obtain ⟨v95, ev95, hf⟩ := bO_s hf
    refine r_iald hx hb hK hP (arX9_10 rfl) ev95 dX9_release_95 ?_
    obtain ⟨h96, eh96, hf⟩ := bO_s hf
    refine r_iast hG hx hb hK hP hS (arX9_16 rfl) eh96 dX9_release_96 (fun H locs hP hS => ?_)
    refine lv_iconst (v := 0) hx hb dX9_release_97 (by decide) ?_
    refine lv_istore_n (lv' := [(3, .int 0), (0, .ref (gB G 66)), (1, .int x1), (2, .int x2)]) hx hb dX9_release_98 rfl hl (by decide) rfl (fun ls hl => ?_)
    exact w_X9_release_99 hG C x1 FU 0 h96 _ _ _ (lv_sub hl [1, 2, 0] rfl) hP hS hf
  · replace hf := if_t c55 hf
    refine lv_sipush (v := (-1004)) hx hb dX9_release_58 (by decide) ?_
    exact r_iret hx hb hr hlocks hP hS (re2 (Option.some.inj hf)) dX9_release_61
def f_X9_release (x1 : Int32) (x2 : Int32) (h : PH) : Option (Int32 × PH) := bP (f_X9_isLine x1 h) (fun r2 h2 => if r2 = 0 then (some ((-1001), h2)) else (bO (f_X9_isDay x2) (fun r13 => if r13 = 0 then (some ((-1002), h2)) else (if (h2.1 66 13) ≤ 0 then (f_X9_release_49 x1 x2 h2) else (bO (ag h2 78 20 ((h2.1 66 13) - 1)) (fun v41 => if v41 ≤ x2 then (f_X9_release_49 x1 x2 h2) else (some ((-1003), h2))))))))
set_option maxHeartbeats 4000000 in
set_option maxRecDepth 100000 in
theorem k_X9_release (l : Launch) {G : GC} (hG : GOK G) {x1 : Int32} {x2 : Int32} {rr : Int32} {h hh : PH} (hf : f_X9_release x1 x2 h = some (rr, hh)) : CI l yX9_release vX9_release rmX9_release G [.ref (gB G 66), .int x1, .int x2] h rr hh := by
  refine Met.ofW (cc := cX9_release) (maxL := 4) (ret := (some .int)) (by decide +kernel) rfl ?_
  intro p e s m args below meth c s₁ B hml hv
  obtain ⟨rfl, hP, hK⟩ := hv
  have C : MC l G p s m _ meth c RX9 cX9_release 4 (some .int) := ⟨B.exec, B.bytes, B.returns, B.notSynchronized, hml, findClass_of_methodNamed B.named, fun w hw => atoms_spec (ws := vX9_release) B.pre w (List.mem_cons_of_mem _ hw), hK⟩
  obtain ⟨hx, hb, hr, hlocks, -, hown, hts, -⟩ := id C
  have hl := lv_entry ([.ref (gB G 66), .int x1, .int x2]) (n := 4) (Nat.le_of_ble_eq_true rfl)
  rw [lg_entry_eq]
  generalize (lg_sl ([.ref (gB G 66), .int x1, .int x2]) ++ List.replicate (4 - (lg_sl ([.ref (gB G 66), .int x1, .int x2])).length) Slot.unset).toArray = ls at hl ⊢
  have hl : lv_has ls 4 [(0, .ref (gB G 66)), (1, .int x1), (2, .int x2)] := hl
  have hS : SP G s s.heap [] := va_S.rf
  replace hP : WP G h s.heap := hP
  rw [f_X9_release] at hf
  refine lv_aload_n hx hb dX9_release_0 rfl (lv_at hl 0 rfl) ?_
  refine lv_iload_n hx hb dX9_release_1 rfl (lv_at hl 1 rfl) ?_
  obtain ⟨r2, h2, er2, hf⟩ := bP_s hf
  refine r_callI (va_runV (As := [.int x1]) (rest := []) ⟨hx, hb, hml, hown, hts⟩ (k_X9_isLine l hG er2) (cwV 1 hts (gV wd1347 wd1349 wd47 wd82 wd1350) rfl rfl rfl (by decide +kernel) ⟨Nat.le_of_ble_eq_true rfl, Nat.le_of_ble_eq_true rfl⟩) (r_pv hK hP hS (ltX9 rfl) (ceX9 rfl) rfl) rfl rfl hl.1 rfl (lv_room (Nat.le_of_ble_eq_true rfl)) dX9_release_2 ⟨Nat.le_of_ble_eq_true rfl, Nat.le_of_ble_eq_true rfl⟩) hS (fun H locs hP hS => ?_)
  refine lv_if_ne (tgt := 12) hx hb dX9_release_5 (by decide) (fun c5 => ?_) (fun c5 => ?_)
  · replace hf := if_f c5 hf
    refine lv_iload_n hx hb dX9_release_12 rfl (lv_at hl 2 rfl) ?_
    obtain ⟨r13, er13, hf⟩ := bO_s hf
    refine r_callI (va_runS (As := [.int x2]) (rest := []) ⟨hx, hb, hml, hown, hts⟩ (k_X9_isDay l hG (h := h2) er13) (va_cwS 1 hts (gS wd1449 wd1450 wd82 wd1451) rfl rfl rfl (by decide +kernel) ⟨Nat.le_of_ble_eq_true rfl, Nat.le_of_ble_eq_true rfl⟩) (r_ps hK hP hS) rfl rfl hl.1 rfl (lv_room (Nat.le_of_ble_eq_true rfl)) dX9_release_13 ⟨Nat.le_of_ble_eq_true rfl, Nat.le_of_ble_eq_true rfl⟩) hS (fun H locs hP hS => ?_)
    refine lv_if_ne (tgt := 23) hx hb dX9_release_16 (by decide) (fun c16 => ?_) (fun c16 => ?_)
    · replace hf := if_f c16 hf
      refine lv_aload_n hx hb dX9_release_23 rfl (lv_at hl 0 rfl) ?_
      refine r_get (a := 66) (v := .int (h2.1 66 13)) (C := RX9) (T := TX9) (N := 55) hx hb hts hinX9 hown hK hP (ltX9 rfl) (ceX9 rfl) rfl 13 (by decide) wd1048 rfl dX9_release_24 ?_
      refine lv_if_le (tgt := 49) hx hb dX9_release_27 (by decide) (fun c27 => ?_) (fun c27 => ?_)
      · replace hf := if_t c27 hf
        exact w_X9_release_49 hG C x1 x2 h2 _ _ _ (lv_sub hl [0, 1, 2] rfl) hP hS hf
      · replace hf := if_f c27 hf
        refine lv_iload_n hx hb dX9_release_30 rfl (lv_at hl 2 rfl) ?_
        refine lv_aload_n hx hb dX9_release_31 rfl (lv_at hl 0 rfl) ?_
        refine r_get (a := 66) (v := .ref (gB G 78)) (C := RX9) (T := TX9) (N := 55) hx hb hts hinX9 hown hK hP (ltX9 rfl) (ceX9 rfl) rfl 15 (by decide) wd1050 rfl dX9_release_32 ?_
        refine lv_aload_n hx hb dX9_release_35 rfl (lv_at hl 0 rfl) ?_
        refine r_get (a := 66) (v := .int (h2.1 66 13)) (C := RX9) (T := TX9) (N := 55) hx hb hts hinX9 hown hK hP (ltX9 rfl) (ceX9 rfl) rfl 13 (by decide) wd1048 rfl dX9_release_36 ?_
        refine lv_iconst (v := 1) hx hb dX9_release_39 (by decide) ?_
        refine lv_isub hx hb dX9_release_40 ?_
        obtain ⟨v41, ev41, hf⟩ := bO_s hf
        refine r_iald hx hb hK hP (arX9_15 rfl) ev41 dX9_release_41 ?_
        refine lv_icmp_ge (tgt := 49) hx hb dX9_release_42 (by decide) (fun c42 => ?_) (fun c42 => ?_)
        · replace hf := if_t c42 hf
          exact w_X9_release_49 hG C x1 x2 h2 _ _ _ (lv_sub hl [0, 1, 2] rfl) hP hS hf
        · replace hf := if_f c42 hf
          refine lv_sipush (v := (-1003)) hx hb dX9_release_45 (by decide) ?_
          exact r_iret hx hb hr hlocks hP hS (re2 (Option.some.inj hf)) dX9_release_48
    · replace hf := if_t c16 hf
      refine lv_sipush (v := (-1002)) hx hb dX9_release_19 (by decide) ?_
      exact r_iret hx hb hr hlocks hP hS (re2 (Option.some.inj hf)) dX9_release_22
  · replace hf := if_t c5 hf
    refine lv_sipush (v := (-1001)) hx hb dX9_release_8 (by decide) ?_
    exact r_iret hx hb hr hlocks hP hS (re2 (Option.some.inj hf)) dX9_release_11
/-! CarriedBackModel.released(II)I -/
abbrev rmX9_released : Room := { frames := 2, cells := 0, slots := 0, locals := 46 }
abbrev vX9_released : List Cond := Cond.code yX9_released cX9_released 3 (some .int) :: GW
def f_X9_released (x1 : Int32) (x2 : Int32) (h : PH) : Option (Int32 × PH) := bP (f_X9_isRelease x1 h) (fun r2 h2 => if r2 = 0 then (some ((-1001), h2)) else (if x2 = 0 then (bO (ag h2 77 20 x1) (fun v49 => some (v49, h2))) else (if x2 = 1 then (bO (ag h2 78 20 x1) (fun v56 => some (v56, h2))) else (if x2 = 2 then (bO (ag h2 79 20 x1) (fun v63 => some (v63, h2))) else (if x2 = 3 then (bO (ag h2 79 20 x1) (fun v71 => bP (f_X9_faultsIn v71 h2) (fun r72 h72 => some (r72, h72)))) else (some ((-1002), h2)))))))
set_option maxHeartbeats 4000000 in
set_option maxRecDepth 100000 in
theorem k_X9_released (l : Launch) {G : GC} (hG : GOK G) {x1 : Int32} {x2 : Int32} {rr : Int32} {h hh : PH} (hf : f_X9_released x1 x2 h = some (rr, hh)) : CI l yX9_released vX9_released rmX9_released G [.ref (gB G 66), .int x1, .int x2] h rr hh := by
  refine Met.ofW (cc := cX9_released) (maxL := 3) (ret := (some .int)) (by decide +kernel) rfl ?_
  intro p e s m args below meth c s₁ B hml hv
  obtain ⟨rfl, hP, hK⟩ := hv
  have C : MC l G p s m _ meth c RX9 cX9_released 3 (some .int) := ⟨B.exec, B.bytes, B.returns, B.notSynchronized, hml, findClass_of_methodNamed B.named, fun w hw => atoms_spec (ws := vX9_released) B.pre w (List.mem_cons_of_mem _ hw), hK⟩
  obtain ⟨hx, hb, hr, hlocks, -, hown, hts, -⟩ := id C
  have hl := lv_entry ([.ref (gB G 66), .int x1, .int x2]) (n := 3) (Nat.le_of_ble_eq_true rfl)
  rw [lg_entry_eq]
  generalize (lg_sl ([.ref (gB G 66), .int x1, .int x2]) ++ List.replicate (3 - (lg_sl ([.ref (gB G 66), .int x1, .int x2])).length) Slot.unset).toArray = ls at hl ⊢
  have hl : lv_has ls 3 [(0, .ref (gB G 66)), (1, .int x1), (2, .int x2)] := hl
  have hS : SP G s s.heap [] := va_S.rf
  replace hP : WP G h s.heap := hP
  rw [f_X9_released] at hf
  refine lv_aload_n hx hb dX9_released_0 rfl (lv_at hl 0 rfl) ?_
  refine lv_iload_n hx hb dX9_released_1 rfl (lv_at hl 1 rfl) ?_
  obtain ⟨r2, h2, er2, hf⟩ := bP_s hf
  refine r_callI (va_runV (As := [.int x1]) (rest := []) ⟨hx, hb, hml, hown, hts⟩ (k_X9_isRelease l hG er2) (cwV 1 hts (gV wd1457 wd1459 wd60 wd82 wd1460) rfl rfl rfl (by decide +kernel) ⟨Nat.le_of_ble_eq_true rfl, Nat.le_of_ble_eq_true rfl⟩) (r_pv hK hP hS (ltX9 rfl) (ceX9 rfl) rfl) rfl rfl hl.1 rfl (lv_room (Nat.le_of_ble_eq_true rfl)) dX9_released_2 ⟨Nat.le_of_ble_eq_true rfl, Nat.le_of_ble_eq_true rfl⟩) hS (fun H locs hP hS => ?_)
  refine lv_if_ne (tgt := 12) hx hb dX9_released_5 (by decide) (fun c5 => ?_) (fun c5 => ?_)
  · replace hf := if_f c5 hf
    refine lv_iload_n hx hb dX9_released_12 rfl (lv_at hl 2 rfl) ?_
    by_cases s13_0 : x2 = 0
    · replace hf := if_t s13_0 hf
      refine lv_tableIn (tgt := 44) hx hb dX9_released_13 (by rw [s13_0]; decide) (by rw [s13_0]; decide) (by rw [s13_0]; rfl) (by decide) ?_
      refine lv_aload_n hx hb dX9_released_44 rfl (lv_at hl 0 rfl) ?_
      refine r_get (a := 66) (v := .ref (gB G 77)) (C := RX9) (T := TX9) (N := 55) hx hb hts hinX9 hown hK hP (ltX9 rfl) (ceX9 rfl) rfl 14 (by decide) wd1049 rfl dX9_released_45 ?_
      refine lv_iload_n hx hb dX9_released_48 rfl (lv_at hl 1 rfl) ?_
      obtain ⟨v49, ev49, hf⟩ := bO_s hf
      refine r_iald hx hb hK hP (arX9_14 rfl) ev49 dX9_released_49 ?_
      exact r_iret hx hb hr hlocks hP hS (re2 (Option.some.inj hf)) dX9_released_50
    replace hf := if_f s13_0 hf
    by_cases s13_1 : x2 = 1
    · replace hf := if_t s13_1 hf
      refine lv_tableIn (tgt := 51) hx hb dX9_released_13 (by rw [s13_1]; decide) (by rw [s13_1]; decide) (by rw [s13_1]; rfl) (by decide) ?_
      refine lv_aload_n hx hb dX9_released_51 rfl (lv_at hl 0 rfl) ?_
      refine r_get (a := 66) (v := .ref (gB G 78)) (C := RX9) (T := TX9) (N := 55) hx hb hts hinX9 hown hK hP (ltX9 rfl) (ceX9 rfl) rfl 15 (by decide) wd1050 rfl dX9_released_52 ?_
      refine lv_iload_n hx hb dX9_released_55 rfl (lv_at hl 1 rfl) ?_
      obtain ⟨v56, ev56, hf⟩ := bO_s hf
      refine r_iald hx hb hK hP (arX9_15 rfl) ev56 dX9_released_56 ?_
      exact r_iret hx hb hr hlocks hP hS (re2 (Option.some.inj hf)) dX9_released_57
    replace hf := if_f s13_1 hf
    by_cases s13_2 : x2 = 2
    · replace hf := if_t s13_2 hf
      refine lv_tableIn (tgt := 58) hx hb dX9_released_13 (by rw [s13_2]; decide) (by rw [s13_2]; decide) (by rw [s13_2]; rfl) (by decide) ?_
      refine lv_aload_n hx hb dX9_released_58 rfl (lv_at hl 0 rfl) ?_
      refine r_get (a := 66) (v := .ref (gB G 79)) (C := RX9) (T := TX9) (N := 55) hx hb hts hinX9 hown hK hP (ltX9 rfl) (ceX9 rfl) rfl 16 (by decide) wd1051 rfl dX9_released_59 ?_
      refine lv_iload_n hx hb dX9_released_62 rfl (lv_at hl 1 rfl) ?_
      obtain ⟨v63, ev63, hf⟩ := bO_s hf
      refine r_iald hx hb hK hP (arX9_16 rfl) ev63 dX9_released_63 ?_
      exact r_iret hx hb hr hlocks hP hS (re2 (Option.some.inj hf)) dX9_released_64
    replace hf := if_f s13_2 hf
    by_cases s13_3 : x2 = 3
    · replace hf := if_t s13_3 hf
      refine lv_tableIn (tgt := 65) hx hb dX9_released_13 (by rw [s13_3]; decide) (by rw [s13_3]; decide) (by rw [s13_3]; rfl) (by decide) ?_
      refine lv_aload_n hx hb dX9_released_65 rfl (lv_at hl 0 rfl) ?_
      refine lv_aload_n hx hb dX9_released_66 rfl (lv_at hl 0 rfl) ?_
      refine r_get (a := 66) (v := .ref (gB G 79)) (C := RX9) (T := TX9) (N := 55) hx hb hts hinX9 hown hK hP (ltX9 rfl) (ceX9 rfl) rfl 16 (by decide) wd1051 rfl dX9_released_67 ?_
      refine lv_iload_n hx hb dX9_released_70 rfl (lv_at hl 1 rfl) ?_
      obtain ⟨v71, ev71, hf⟩ := bO_s hf
      refine r_iald hx hb hK hP (arX9_16 rfl) ev71 dX9_released_71 ?_
      obtain ⟨r72, h72, er72, hf⟩ := bP_s hf
      refine r_callI (va_runV (As := [.int v71]) (rest := []) ⟨hx, hb, hml, hown, hts⟩ (k_X9_faultsIn l hG er72) (cwV 1 hts (gV wd1351 wd1353 wd48 wd82 wd1354) rfl rfl rfl (by decide +kernel) ⟨Nat.le_of_ble_eq_true rfl, Nat.le_of_ble_eq_true rfl⟩) (r_pv hK hP hS (ltX9 rfl) (ceX9 rfl) rfl) rfl rfl hl.1 rfl (lv_room (Nat.le_of_ble_eq_true rfl)) dX9_released_72 ⟨Nat.le_of_ble_eq_true rfl, Nat.le_of_ble_eq_true rfl⟩) hS (fun H locs hP hS => ?_)
      exact r_iret hx hb hr hlocks hP hS (re2 (Option.some.inj hf)) dX9_released_75
    replace hf := if_f s13_3 hf
    refine lv_tableOut (tgt := 76) hx hb dX9_released_13 (sw_out (x := x2) 3 (by decide) (fun k hk => by
      rcases (show k = 0 ∨ k = 1 ∨ k = 2 ∨ k = 3 by omega) with rfl | rfl | rfl | rfl
      · exact s13_0
      · exact s13_1
      · exact s13_2
      · exact s13_3
      )) (by decide) ?_
    refine lv_sipush (v := (-1002)) hx hb dX9_released_76 (by decide) ?_
    exact r_iret hx hb hr hlocks hP hS (re2 (Option.some.inj hf)) dX9_released_79
  · replace hf := if_t c5 hf
    refine lv_sipush (v := (-1001)) hx hb dX9_released_8 (by decide) ?_
    exact r_iret hx hb hr hlocks hP hS (re2 (Option.some.inj hf)) dX9_released_11
/-! CarriedBackModel.notes(III)I -/
abbrev rmX9_notes : Room := { frames := 2, cells := 0, slots := 0, locals := 46 }
abbrev vX9_notes : List Cond := Cond.code yX9_notes cX9_notes 6 (some .int) :: GW
def f_X9_notes (x1 : Int32) (x2 : Int32) (x3 : Int32) (h : PH) : Option (Int32 × PH) := bP (f_X9_isRelease x1 h) (fun r2 h2 => if r2 = 0 then (some ((-1001), h2)) else (bP (f_X9_isRelease x2 h2) (fun r10 h10 => if r10 = 0 then (some ((-1001), h10)) else (bO (ag h10 79 20 x1) (fun v26 => bP (f_X9_faultsIn v26 h10) (fun r27 h27 => bO (ag h27 79 20 x2) (fun v38 => bP (f_X9_faultsIn v38 h27) (fun r39 h39 => if x3 = 0 then (bO (ag h39 79 20 x2) (fun v81 => bO (ag h39 79 20 x1) (fun v87 => some ((v81 &&& (v87 ^^^ (-1))), h39)))) else (if x3 = 1 then (bO (ag h39 79 20 x1) (fun v97 => bO (ag h39 79 20 x2) (fun v103 => some ((v97 &&& (v103 ^^^ (-1))), h39)))) else (if x3 = 2 then (some ((r27 &&& (r39 ^^^ (-1))), h39)) else (if x3 = 3 then (some ((r39 &&& (r27 ^^^ (-1))), h39)) else (some ((-1002), h39)))))))))))))
set_option maxHeartbeats 4000000 in
set_option maxRecDepth 100000 in
theorem k_X9_notes (l : Launch) {G : GC} (hG : GOK G) {x1 : Int32} {x2 : Int32} {x3 : Int32} {rr : Int32} {h hh : PH} (hf : f_X9_notes x1 x2 x3 h = some (rr, hh)) : CI l yX9_notes vX9_notes rmX9_notes G [.ref (gB G 66), .int x1, .int x2, .int x3] h rr hh := by
  refine Met.ofW (cc := cX9_notes) (maxL := 6) (ret := (some .int)) (by decide +kernel) rfl ?_
  intro p e s m args below meth c s₁ B hml hv
  obtain ⟨rfl, hP, hK⟩ := hv
  have C : MC l G p s m _ meth c RX9 cX9_notes 6 (some .int) := ⟨B.exec, B.bytes, B.returns, B.notSynchronized, hml, findClass_of_methodNamed B.named, fun w hw => atoms_spec (ws := vX9_notes) B.pre w (List.mem_cons_of_mem _ hw), hK⟩
  obtain ⟨hx, hb, hr, hlocks, -, hown, hts, -⟩ := id C
  have hl := lv_entry ([.ref (gB G 66), .int x1, .int x2, .int x3]) (n := 6) (Nat.le_of_ble_eq_true rfl)
  rw [lg_entry_eq]
  generalize (lg_sl ([.ref (gB G 66), .int x1, .int x2, .int x3]) ++ List.replicate (6 - (lg_sl ([.ref (gB G 66), .int x1, .int x2, .int x3])).length) Slot.unset).toArray = ls at hl ⊢
  have hl : lv_has ls 6 [(0, .ref (gB G 66)), (1, .int x1), (2, .int x2), (3, .int x3)] := hl
  have hS : SP G s s.heap [] := va_S.rf
  replace hP : WP G h s.heap := hP
  rw [f_X9_notes] at hf
  refine lv_aload_n hx hb dX9_notes_0 rfl (lv_at hl 0 rfl) ?_
  refine lv_iload_n hx hb dX9_notes_1 rfl (lv_at hl 1 rfl) ?_
  obtain ⟨r2, h2, er2, hf⟩ := bP_s hf
  refine r_callI (va_runV (As := [.int x1]) (rest := []) ⟨hx, hb, hml, hown, hts⟩ (k_X9_isRelease l hG er2) (cwV 1 hts (gV wd1457 wd1459 wd60 wd82 wd1460) rfl rfl rfl (by decide +kernel) ⟨Nat.le_of_ble_eq_true rfl, Nat.le_of_ble_eq_true rfl⟩) (r_pv hK hP hS (ltX9 rfl) (ceX9 rfl) rfl) rfl rfl hl.1 rfl (lv_room (Nat.le_of_ble_eq_true rfl)) dX9_notes_2 ⟨Nat.le_of_ble_eq_true rfl, Nat.le_of_ble_eq_true rfl⟩) hS (fun H locs hP hS => ?_)
  refine lv_if_eq (tgt := 16) hx hb dX9_notes_5 (by decide) (fun c5 => ?_) (fun c5 => ?_)
  · replace hf := if_t c5 hf
    refine lv_sipush (v := (-1001)) hx hb dX9_notes_16 (by decide) ?_
    exact r_iret hx hb hr hlocks hP hS (re2 (Option.some.inj hf)) dX9_notes_19
  · replace hf := if_f c5 hf
    refine lv_aload_n hx hb dX9_notes_8 rfl (lv_at hl 0 rfl) ?_
    refine lv_iload_n hx hb dX9_notes_9 rfl (lv_at hl 2 rfl) ?_
    obtain ⟨r10, h10, er10, hf⟩ := bP_s hf
    refine r_callI (va_runV (As := [.int x2]) (rest := []) ⟨hx, hb, hml, hown, hts⟩ (k_X9_isRelease l hG er10) (cwV 1 hts (gV wd1457 wd1459 wd60 wd82 wd1460) rfl rfl rfl (by decide +kernel) ⟨Nat.le_of_ble_eq_true rfl, Nat.le_of_ble_eq_true rfl⟩) (r_pv hK hP hS (ltX9 rfl) (ceX9 rfl) rfl) rfl rfl hl.1 rfl (lv_room (Nat.le_of_ble_eq_true rfl)) dX9_notes_10 ⟨Nat.le_of_ble_eq_true rfl, Nat.le_of_ble_eq_true rfl⟩) hS (fun H locs hP hS => ?_)
    refine lv_if_ne (tgt := 20) hx hb dX9_notes_13 (by decide) (fun c13 => ?_) (fun c13 => ?_)
    · replace hf := if_f c13 hf
      refine lv_aload_n hx hb dX9_notes_20 rfl (lv_at hl 0 rfl) ?_
      refine lv_aload_n hx hb dX9_notes_21 rfl (lv_at hl 0 rfl) ?_
      refine r_get (a := 66) (v := .ref (gB G 79)) (C := RX9) (T := TX9) (N := 55) hx hb hts hinX9 hown hK hP (ltX9 rfl) (ceX9 rfl) rfl 16 (by decide) wd1051 rfl dX9_notes_22 ?_
      refine lv_iload_n hx hb dX9_notes_25 rfl (lv_at hl 1 rfl) ?_
      obtain ⟨v26, ev26, hf⟩ := bO_s hf
      refine r_iald hx hb hK hP (arX9_16 rfl) ev26 dX9_notes_26 ?_
      obtain ⟨r27, h27, er27, hf⟩ := bP_s hf
      refine r_callI (va_runV (As := [.int v26]) (rest := []) ⟨hx, hb, hml, hown, hts⟩ (k_X9_faultsIn l hG er27) (cwV 1 hts (gV wd1351 wd1353 wd48 wd82 wd1354) rfl rfl rfl (by decide +kernel) ⟨Nat.le_of_ble_eq_true rfl, Nat.le_of_ble_eq_true rfl⟩) (r_pv hK hP hS (ltX9 rfl) (ceX9 rfl) rfl) rfl rfl hl.1 rfl (lv_room (Nat.le_of_ble_eq_true rfl)) dX9_notes_27 ⟨Nat.le_of_ble_eq_true rfl, Nat.le_of_ble_eq_true rfl⟩) hS (fun H locs hP hS => ?_)
      refine lv_istore (lv' := [(4, .int r27), (0, .ref (gB G 66)), (1, .int x1), (2, .int x2), (3, .int x3)]) hx hb dX9_notes_30 hl (by decide) rfl (fun ls hl => ?_)
      refine lv_aload_n hx hb dX9_notes_32 rfl (lv_at hl 1 rfl) ?_
      refine lv_aload_n hx hb dX9_notes_33 rfl (lv_at hl 1 rfl) ?_
      refine r_get (a := 66) (v := .ref (gB G 79)) (C := RX9) (T := TX9) (N := 55) hx hb hts hinX9 hown hK hP (ltX9 rfl) (ceX9 rfl) rfl 16 (by decide) wd1051 rfl dX9_notes_34 ?_
      refine lv_iload_n hx hb dX9_notes_37 rfl (lv_at hl 3 rfl) ?_
      obtain ⟨v38, ev38, hf⟩ := bO_s hf
      refine r_iald hx hb hK hP (arX9_16 rfl) ev38 dX9_notes_38 ?_
      obtain ⟨r39, h39, er39, hf⟩ := bP_s hf
      refine r_callI (va_runV (As := [.int v38]) (rest := []) ⟨hx, hb, hml, hown, hts⟩ (k_X9_faultsIn l hG er39) (cwV 1 hts (gV wd1351 wd1353 wd48 wd82 wd1354) rfl rfl rfl (by decide +kernel) ⟨Nat.le_of_ble_eq_true rfl, Nat.le_of_ble_eq_true rfl⟩) (r_pv hK hP hS (ltX9 rfl) (ceX9 rfl) rfl) rfl rfl hl.1 rfl (lv_room (Nat.le_of_ble_eq_true rfl)) dX9_notes_39 ⟨Nat.le_of_ble_eq_true rfl, Nat.le_of_ble_eq_true rfl⟩) hS (fun H locs hP hS => ?_)
      refine lv_istore (lv' := [(5, .int r39), (4, .int r27), (0, .ref (gB G 66)), (1, .int x1), (2, .int x2), (3, .int x3)]) hx hb dX9_notes_42 hl (by decide) rfl (fun ls hl => ?_)
      refine lv_iload_n hx hb dX9_notes_44 rfl (lv_at hl 5 rfl) ?_
      by_cases s45_0 : x3 = 0
      · replace hf := if_t s45_0 hf
        refine lv_tableIn (tgt := 76) hx hb dX9_notes_45 (by rw [s45_0]; decide) (by rw [s45_0]; decide) (by rw [s45_0]; rfl) (by decide) ?_
        refine lv_aload_n hx hb dX9_notes_76 rfl (lv_at hl 2 rfl) ?_
        refine r_get (a := 66) (v := .ref (gB G 79)) (C := RX9) (T := TX9) (N := 55) hx hb hts hinX9 hown hK hP (ltX9 rfl) (ceX9 rfl) rfl 16 (by decide) wd1051 rfl dX9_notes_77 ?_
        refine lv_iload_n hx hb dX9_notes_80 rfl (lv_at hl 4 rfl) ?_
        obtain ⟨v81, ev81, hf⟩ := bO_s hf
        refine r_iald hx hb hK hP (arX9_16 rfl) ev81 dX9_notes_81 ?_
        refine lv_aload_n hx hb dX9_notes_82 rfl (lv_at hl 2 rfl) ?_
        refine r_get (a := 66) (v := .ref (gB G 79)) (C := RX9) (T := TX9) (N := 55) hx hb hts hinX9 hown hK hP (ltX9 rfl) (ceX9 rfl) rfl 16 (by decide) wd1051 rfl dX9_notes_83 ?_
        refine lv_iload_n hx hb dX9_notes_86 rfl (lv_at hl 3 rfl) ?_
        obtain ⟨v87, ev87, hf⟩ := bO_s hf
        refine r_iald hx hb hK hP (arX9_16 rfl) ev87 dX9_notes_87 ?_
        refine lv_iconst (v := (-1)) hx hb dX9_notes_88 (by decide) ?_
        refine lv_ixor hx hb dX9_notes_89 ?_
        refine lv_iand hx hb dX9_notes_90 ?_
        exact r_iret hx hb hr hlocks hP hS (re2 (Option.some.inj hf)) dX9_notes_91
      replace hf := if_f s45_0 hf
      by_cases s45_1 : x3 = 1
      · replace hf := if_t s45_1 hf
        refine lv_tableIn (tgt := 92) hx hb dX9_notes_45 (by rw [s45_1]; decide) (by rw [s45_1]; decide) (by rw [s45_1]; rfl) (by decide) ?_
        refine lv_aload_n hx hb dX9_notes_92 rfl (lv_at hl 2 rfl) ?_
        refine r_get (a := 66) (v := .ref (gB G 79)) (C := RX9) (T := TX9) (N := 55) hx hb hts hinX9 hown hK hP (ltX9 rfl) (ceX9 rfl) rfl 16 (by decide) wd1051 rfl dX9_notes_93 ?_
        refine lv_iload_n hx hb dX9_notes_96 rfl (lv_at hl 3 rfl) ?_
        obtain ⟨v97, ev97, hf⟩ := bO_s hf
        refine r_iald hx hb hK hP (arX9_16 rfl) ev97 dX9_notes_97 ?_
        refine lv_aload_n hx hb dX9_notes_98 rfl (lv_at hl 2 rfl) ?_
        refine r_get (a := 66) (v := .ref (gB G 79)) (C := RX9) (T := TX9) (N := 55) hx hb hts hinX9 hown hK hP (ltX9 rfl) (ceX9 rfl) rfl 16 (by decide) wd1051 rfl dX9_notes_99 ?_
        refine lv_iload_n hx hb dX9_notes_102 rfl (lv_at hl 4 rfl) ?_
        obtain ⟨v103, ev103, hf⟩ := bO_s hf
        refine r_iald hx hb hK hP (arX9_16 rfl) ev103 dX9_notes_103 ?_
        refine lv_iconst (v := (-1)) hx hb dX9_notes_104 (by decide) ?_
        refine lv_ixor hx hb dX9_notes_105 ?_
        refine lv_iand hx hb dX9_notes_106 ?_
        exact r_iret hx hb hr hlocks hP hS (re2 (Option.some.inj hf)) dX9_notes_107
      replace hf := if_f s45_1 hf
      by_cases s45_2 : x3 = 2
      · replace hf := if_t s45_2 hf
        refine lv_tableIn (tgt := 108) hx hb dX9_notes_45 (by rw [s45_2]; decide) (by rw [s45_2]; decide) (by rw [s45_2]; rfl) (by decide) ?_
        refine lv_iload hx hb dX9_notes_108 (lv_at hl 1 rfl) ?_
        refine lv_iload hx hb dX9_notes_110 (lv_at hl 0 rfl) ?_
        refine lv_iconst (v := (-1)) hx hb dX9_notes_112 (by decide) ?_
        refine lv_ixor hx hb dX9_notes_113 ?_
        refine lv_iand hx hb dX9_notes_114 ?_
        exact r_iret hx hb hr hlocks hP hS (re2 (Option.some.inj hf)) dX9_notes_115
      replace hf := if_f s45_2 hf
      by_cases s45_3 : x3 = 3
      · replace hf := if_t s45_3 hf
        refine lv_tableIn (tgt := 116) hx hb dX9_notes_45 (by rw [s45_3]; decide) (by rw [s45_3]; decide) (by rw [s45_3]; rfl) (by decide) ?_
        refine lv_iload hx hb dX9_notes_116 (lv_at hl 0 rfl) ?_
        refine lv_iload hx hb dX9_notes_118 (lv_at hl 1 rfl) ?_
        refine lv_iconst (v := (-1)) hx hb dX9_notes_120 (by decide) ?_
        refine lv_ixor hx hb dX9_notes_121 ?_
        refine lv_iand hx hb dX9_notes_122 ?_
        exact r_iret hx hb hr hlocks hP hS (re2 (Option.some.inj hf)) dX9_notes_123
      replace hf := if_f s45_3 hf
      refine lv_tableOut (tgt := 124) hx hb dX9_notes_45 (sw_out (x := x3) 3 (by decide) (fun k hk => by
        rcases (show k = 0 ∨ k = 1 ∨ k = 2 ∨ k = 3 by omega) with rfl | rfl | rfl | rfl
        · exact s45_0
        · exact s45_1
        · exact s45_2
        · exact s45_3
        )) (by decide) ?_
      refine lv_sipush (v := (-1002)) hx hb dX9_notes_124 (by decide) ?_
      exact r_iret hx hb hr hlocks hP hS (re2 (Option.some.inj hf)) dX9_notes_127
    · replace hf := if_t c13 hf
      refine lv_sipush (v := (-1001)) hx hb dX9_notes_16 (by decide) ?_
      exact r_iret hx hb hr hlocks hP hS (re2 (Option.some.inj hf)) dX9_notes_19
/-! CarriedBackModel.differs(II)I -/
abbrev rmX9_differs : Room := { frames := 2, cells := 0, slots := 0, locals := 46 }
abbrev vX9_differs : List Cond := Cond.code yX9_differs cX9_differs 5 (some .int) :: GW
def f_X9_differs_25 (x1 : Int32) (x2 : Int32) : Nat → Int32 → Int32 → PH → Option (Int32 × PH)
  | 0, _, _, _ => none
  | n + 1, x3, x4, h => if (16 : Int32) ≤ x4 then (some (x3, h)) else (bO (ag h 80 320 ((16 * x1) + x4)) (fun v44 => bO (ag h 80 320 ((16 * x2) + x4)) (fun v56 => if v44 = v56 then (lt' ((x3 ||| 0)) (fun x3_69 => (f_X9_differs_25 x1 x2 n) x3_69 (x4 + 1) h)) else (lt' ((x3 ||| (1 <<< (x4 &&& 31)))) (fun x3_69 => (f_X9_differs_25 x1 x2 n) x3_69 (x4 + 1) h)))))
set_option maxHeartbeats 4000000 in
set_option maxRecDepth 100000 in
theorem w_X9_differs_25 {l : Launch} {G : GC} (hG : GOK G) {rr : Int32} {hh : PH} {p : Program} {e : Env} {s : State} {m : MethodId} {args : Array Value} {below : List Frame} {meth : Method} {c : Code} (C : MC l G p s m args meth c RX9 cX9_differs 5 (some .int)) (x1 : Int32) (x2 : Int32) : ∀ (n : Nat) (x3 : Int32) (x4 : Int32) (h : PH) (H : Heap) (locs : List Loc) (ls : Array Slot), lv_has ls 5 [(0, .ref (gB G 66)), (1, .int x1), (2, .int x2), (3, .int x3), (4, .int x4)] → WP G h H → SP G s H locs → f_X9_differs_25 x1 x2 n x3 x4 h = some (rr, hh) → W p l e rmX9_differs s m args below meth c H locs 0 0 (MQ below (QI G rr hh) args s 0 0 (gA G)) (F0 m 25 ls []) := by
  obtain ⟨hx, hb, hr, hlocks, hml, hown, hts, hK⟩ := id C
  intro n
  induction n with
  | zero => intro x3 x4 h H locs ls hl hP hS hf; rw [f_X9_differs_25] at hf; cases hf
  | succ n ih =>
    intro x3 x4 h H locs ls hl hP hS hf
    rw [f_X9_differs_25] at hf
    refine lv_iload hx hb dX9_differs_25 (lv_at hl 4 rfl) ?_
    refine lv_bipush (v := 16) hx hb dX9_differs_27 (by decide) ?_
    refine lv_icmp_ge (tgt := 76) hx hb dX9_differs_29 (by decide) (fun c29 => ?_) (fun c29 => ?_)
    · replace hf := if_t c29 hf
      refine lv_iload_n hx hb dX9_differs_76 rfl (lv_at hl 3 rfl) ?_
      exact r_iret hx hb hr hlocks hP hS (re2 (Option.some.inj hf)) dX9_differs_77
    · replace hf := if_f c29 hf
      refine lv_iload_n hx hb dX9_differs_32 rfl (lv_at hl 3 rfl) ?_
      refine lv_aload_n hx hb dX9_differs_33 rfl (lv_at hl 0 rfl) ?_
      refine r_get (a := 66) (v := .ref (gB G 80)) (C := RX9) (T := TX9) (N := 55) hx hb hts hinX9 hown hK hP (ltX9 rfl) (ceX9 rfl) rfl 17 (by decide) wd1052 rfl dX9_differs_34 ?_
      refine lv_bipush (v := 16) hx hb dX9_differs_37 (by decide) ?_
      refine lv_iload_n hx hb dX9_differs_39 rfl (lv_at hl 1 rfl) ?_
      refine lv_imul hx hb dX9_differs_40 ?_
      refine lv_iload hx hb dX9_differs_41 (lv_at hl 4 rfl) ?_
      refine lv_iadd hx hb dX9_differs_43 ?_
      obtain ⟨v44, ev44, hf⟩ := bO_s hf
      refine r_iald hx hb hK hP (arX9_17 rfl) ev44 dX9_differs_44 ?_
      refine lv_aload_n hx hb dX9_differs_45 rfl (lv_at hl 0 rfl) ?_
      refine r_get (a := 66) (v := .ref (gB G 80)) (C := RX9) (T := TX9) (N := 55) hx hb hts hinX9 hown hK hP (ltX9 rfl) (ceX9 rfl) rfl 17 (by decide) wd1052 rfl dX9_differs_46 ?_
      refine lv_bipush (v := 16) hx hb dX9_differs_49 (by decide) ?_
      refine lv_iload_n hx hb dX9_differs_51 rfl (lv_at hl 2 rfl) ?_
      refine lv_imul hx hb dX9_differs_52 ?_
      refine lv_iload hx hb dX9_differs_53 (lv_at hl 4 rfl) ?_
      refine lv_iadd hx hb dX9_differs_55 ?_
      obtain ⟨v56, ev56, hf⟩ := bO_s hf
      refine r_iald hx hb hK hP (arX9_17 rfl) ev56 dX9_differs_56 ?_
      refine lv_icmp_eq (tgt := 67) hx hb dX9_differs_57 (by decide) (fun c57 => ?_) (fun c57 => ?_)
      · replace hf := if_t c57 hf
        refine lv_iconst (v := 0) hx hb dX9_differs_67 (by decide) ?_
        refine lv_ior hx hb dX9_differs_68 ?_
        refine lv_topi (fun x3_69 ex3_69 => ?_)
        replace hf := lt_at ex3_69 hf
        refine lv_istore_n (lv' := [(3, .int x3_69), (0, .ref (gB G 66)), (1, .int x1), (2, .int x2), (4, .int x4)]) hx hb dX9_differs_69 rfl hl (by decide) rfl (fun ls hl => ?_)
        refine lv_iinc (v := (x4 + 1)) (lv' := [(4, .int (x4 + 1)), (3, .int x3_69), (0, .ref (gB G 66)), (1, .int x1), (2, .int x2)]) hx hb dX9_differs_70 hl (k := 4) rfl rfl (by decide) rfl (fun ls hl => ?_)
        refine lv_goto (tgt := 25) hx hb dX9_differs_73 (by decide) ?_
        exact ih x3_69 (x4 + 1) h _ _ _ (lv_sub hl [2, 3, 4, 1, 0] rfl) hP hS hf
      · replace hf := if_f c57 hf
        refine lv_iconst (v := 1) hx hb dX9_differs_60 (by decide) ?_
        refine lv_iload hx hb dX9_differs_61 (lv_at hl 4 rfl) ?_
        refine lv_ishl hx hb dX9_differs_63 ?_
        refine lv_goto (tgt := 68) hx hb dX9_differs_64 (by decide) ?_
        refine lv_ior hx hb dX9_differs_68 ?_
        refine lv_topi (fun x3_69 ex3_69 => ?_)
        replace hf := lt_at ex3_69 hf
        refine lv_istore_n (lv' := [(3, .int x3_69), (0, .ref (gB G 66)), (1, .int x1), (2, .int x2), (4, .int x4)]) hx hb dX9_differs_69 rfl hl (by decide) rfl (fun ls hl => ?_)
        refine lv_iinc (v := (x4 + 1)) (lv' := [(4, .int (x4 + 1)), (3, .int x3_69), (0, .ref (gB G 66)), (1, .int x1), (2, .int x2)]) hx hb dX9_differs_70 hl (k := 4) rfl rfl (by decide) rfl (fun ls hl => ?_)
        refine lv_goto (tgt := 25) hx hb dX9_differs_73 (by decide) ?_
        exact ih x3_69 (x4 + 1) h _ _ _ (lv_sub hl [2, 3, 4, 1, 0] rfl) hP hS hf
def f_X9_differs (x1 : Int32) (x2 : Int32) (h : PH) : Option (Int32 × PH) := bP (f_X9_isRelease x1 h) (fun r2 h2 => if r2 = 0 then (some ((-1001), h2)) else (bP (f_X9_isRelease x2 h2) (fun r10 h10 => if r10 = 0 then (some ((-1001), h10)) else (f_X9_differs_25 x1 x2 FU 0 0 h10))))
set_option maxHeartbeats 4000000 in
set_option maxRecDepth 100000 in
theorem k_X9_differs (l : Launch) {G : GC} (hG : GOK G) {x1 : Int32} {x2 : Int32} {rr : Int32} {h hh : PH} (hf : f_X9_differs x1 x2 h = some (rr, hh)) : CI l yX9_differs vX9_differs rmX9_differs G [.ref (gB G 66), .int x1, .int x2] h rr hh := by
  refine Met.ofW (cc := cX9_differs) (maxL := 5) (ret := (some .int)) (by decide +kernel) rfl ?_
  intro p e s m args below meth c s₁ B hml hv
  obtain ⟨rfl, hP, hK⟩ := hv
  have C : MC l G p s m _ meth c RX9 cX9_differs 5 (some .int) := ⟨B.exec, B.bytes, B.returns, B.notSynchronized, hml, findClass_of_methodNamed B.named, fun w hw => atoms_spec (ws := vX9_differs) B.pre w (List.mem_cons_of_mem _ hw), hK⟩
  obtain ⟨hx, hb, hr, hlocks, -, hown, hts, -⟩ := id C
  have hl := lv_entry ([.ref (gB G 66), .int x1, .int x2]) (n := 5) (Nat.le_of_ble_eq_true rfl)
  rw [lg_entry_eq]
  generalize (lg_sl ([.ref (gB G 66), .int x1, .int x2]) ++ List.replicate (5 - (lg_sl ([.ref (gB G 66), .int x1, .int x2])).length) Slot.unset).toArray = ls at hl ⊢
  have hl : lv_has ls 5 [(0, .ref (gB G 66)), (1, .int x1), (2, .int x2)] := hl
  have hS : SP G s s.heap [] := va_S.rf
  replace hP : WP G h s.heap := hP
  rw [f_X9_differs] at hf
  refine lv_aload_n hx hb dX9_differs_0 rfl (lv_at hl 0 rfl) ?_
  refine lv_iload_n hx hb dX9_differs_1 rfl (lv_at hl 1 rfl) ?_
  obtain ⟨r2, h2, er2, hf⟩ := bP_s hf
  refine r_callI (va_runV (As := [.int x1]) (rest := []) ⟨hx, hb, hml, hown, hts⟩ (k_X9_isRelease l hG er2) (cwV 1 hts (gV wd1457 wd1459 wd60 wd82 wd1460) rfl rfl rfl (by decide +kernel) ⟨Nat.le_of_ble_eq_true rfl, Nat.le_of_ble_eq_true rfl⟩) (r_pv hK hP hS (ltX9 rfl) (ceX9 rfl) rfl) rfl rfl hl.1 rfl (lv_room (Nat.le_of_ble_eq_true rfl)) dX9_differs_2 ⟨Nat.le_of_ble_eq_true rfl, Nat.le_of_ble_eq_true rfl⟩) hS (fun H locs hP hS => ?_)
  refine lv_if_eq (tgt := 16) hx hb dX9_differs_5 (by decide) (fun c5 => ?_) (fun c5 => ?_)
  · replace hf := if_t c5 hf
    refine lv_sipush (v := (-1001)) hx hb dX9_differs_16 (by decide) ?_
    exact r_iret hx hb hr hlocks hP hS (re2 (Option.some.inj hf)) dX9_differs_19
  · replace hf := if_f c5 hf
    refine lv_aload_n hx hb dX9_differs_8 rfl (lv_at hl 0 rfl) ?_
    refine lv_iload_n hx hb dX9_differs_9 rfl (lv_at hl 2 rfl) ?_
    obtain ⟨r10, h10, er10, hf⟩ := bP_s hf
    refine r_callI (va_runV (As := [.int x2]) (rest := []) ⟨hx, hb, hml, hown, hts⟩ (k_X9_isRelease l hG er10) (cwV 1 hts (gV wd1457 wd1459 wd60 wd82 wd1460) rfl rfl rfl (by decide +kernel) ⟨Nat.le_of_ble_eq_true rfl, Nat.le_of_ble_eq_true rfl⟩) (r_pv hK hP hS (ltX9 rfl) (ceX9 rfl) rfl) rfl rfl hl.1 rfl (lv_room (Nat.le_of_ble_eq_true rfl)) dX9_differs_10 ⟨Nat.le_of_ble_eq_true rfl, Nat.le_of_ble_eq_true rfl⟩) hS (fun H locs hP hS => ?_)
    refine lv_if_ne (tgt := 20) hx hb dX9_differs_13 (by decide) (fun c13 => ?_) (fun c13 => ?_)
    · replace hf := if_f c13 hf
      refine lv_iconst (v := 0) hx hb dX9_differs_20 (by decide) ?_
      refine lv_istore_n (lv' := [(3, .int 0), (0, .ref (gB G 66)), (1, .int x1), (2, .int x2)]) hx hb dX9_differs_21 rfl hl (by decide) rfl (fun ls hl => ?_)
      refine lv_iconst (v := 0) hx hb dX9_differs_22 (by decide) ?_
      refine lv_istore (lv' := [(4, .int 0), (3, .int 0), (0, .ref (gB G 66)), (1, .int x1), (2, .int x2)]) hx hb dX9_differs_23 hl (by decide) rfl (fun ls hl => ?_)
      exact w_X9_differs_25 hG C x1 x2 FU 0 0 h10 _ _ _ (lv_sub hl [2, 3, 4, 1, 0] rfl) hP hS hf
    · replace hf := if_t c13 hf
      refine lv_sipush (v := (-1001)) hx hb dX9_differs_16 (by decide) ?_
      exact r_iret hx hb hr hlocks hP hS (re2 (Option.some.inj hf)) dX9_differs_19
/-! CarriedBackModel.isFree(II)Z -/
abbrev rmX9_isFree : Room := { frames := 2, cells := 0, slots := 0, locals := 45 }
abbrev vX9_isFree : List Cond := Cond.code yX9_isFree cX9_isFree 3 (some .boolean) :: GW
def f_X9_isFree (x1 : Int32) (x2 : Int32) (h : PH) : Option (Int32 × PH) := bO (ag h 79 20 x1) (fun v6 => bP (f_X9_faultsIn v6 h) (fun r7 h7 => bO (f_X9_has r7 x2) (fun r11 => if r11 = 0 then (some (1, h7)) else (some (0, h7)))))
set_option maxHeartbeats 4000000 in
set_option maxRecDepth 100000 in
theorem k_X9_isFree (l : Launch) {G : GC} (hG : GOK G) {x1 : Int32} {x2 : Int32} {rr : Int32} {h hh : PH} (hf : f_X9_isFree x1 x2 h = some (rr, hh)) : CI l yX9_isFree vX9_isFree rmX9_isFree G [.ref (gB G 66), .int x1, .int x2] h rr hh := by
  refine Met.ofW (cc := cX9_isFree) (maxL := 3) (ret := (some .boolean)) (by decide +kernel) rfl ?_
  intro p e s m args below meth c s₁ B hml hv
  obtain ⟨rfl, hP, hK⟩ := hv
  have C : MC l G p s m _ meth c RX9 cX9_isFree 3 (some .boolean) := ⟨B.exec, B.bytes, B.returns, B.notSynchronized, hml, findClass_of_methodNamed B.named, fun w hw => atoms_spec (ws := vX9_isFree) B.pre w (List.mem_cons_of_mem _ hw), hK⟩
  obtain ⟨hx, hb, hr, hlocks, -, hown, hts, -⟩ := id C
  have hl := lv_entry ([.ref (gB G 66), .int x1, .int x2]) (n := 3) (Nat.le_of_ble_eq_true rfl)
  rw [lg_entry_eq]
  generalize (lg_sl ([.ref (gB G 66), .int x1, .int x2]) ++ List.replicate (3 - (lg_sl ([.ref (gB G 66), .int x1, .int x2])).length) Slot.unset).toArray = ls at hl ⊢
  have hl : lv_has ls 3 [(0, .ref (gB G 66)), (1, .int x1), (2, .int x2)] := hl
  have hS : SP G s s.heap [] := va_S.rf
  replace hP : WP G h s.heap := hP
  rw [f_X9_isFree] at hf
  refine lv_aload_n hx hb dX9_isFree_0 rfl (lv_at hl 0 rfl) ?_
  refine lv_aload_n hx hb dX9_isFree_1 rfl (lv_at hl 0 rfl) ?_
  refine r_get (a := 66) (v := .ref (gB G 79)) (C := RX9) (T := TX9) (N := 55) hx hb hts hinX9 hown hK hP (ltX9 rfl) (ceX9 rfl) rfl 16 (by decide) wd1051 rfl dX9_isFree_2 ?_
  refine lv_iload_n hx hb dX9_isFree_5 rfl (lv_at hl 1 rfl) ?_
  obtain ⟨v6, ev6, hf⟩ := bO_s hf
  refine r_iald hx hb hK hP (arX9_16 rfl) ev6 dX9_isFree_6 ?_
  obtain ⟨r7, h7, er7, hf⟩ := bP_s hf
  refine r_callI (va_runV (As := [.int v6]) (rest := []) ⟨hx, hb, hml, hown, hts⟩ (k_X9_faultsIn l hG er7) (cwV 1 hts (gV wd1351 wd1353 wd48 wd82 wd1354) rfl rfl rfl (by decide +kernel) ⟨Nat.le_of_ble_eq_true rfl, Nat.le_of_ble_eq_true rfl⟩) (r_pv hK hP hS (ltX9 rfl) (ceX9 rfl) rfl) rfl rfl hl.1 rfl (lv_room (Nat.le_of_ble_eq_true rfl)) dX9_isFree_7 ⟨Nat.le_of_ble_eq_true rfl, Nat.le_of_ble_eq_true rfl⟩) hS (fun H locs hP hS => ?_)
  refine lv_iload_n hx hb dX9_isFree_10 rfl (lv_at hl 2 rfl) ?_
  obtain ⟨r11, er11, hf⟩ := bO_s hf
  refine r_callI (va_runS (As := [.int r7, .int x2]) (rest := []) ⟨hx, hb, hml, hown, hts⟩ (k_X9_has l hG (h := h7) er11) (va_cwS 2 hts (gS wd1260 wd1261 wd82 wd1262) rfl rfl rfl (by decide +kernel) ⟨Nat.le_of_ble_eq_true rfl, Nat.le_of_ble_eq_true rfl⟩) (r_ps hK hP hS) rfl rfl hl.1 rfl (lv_room (Nat.le_of_ble_eq_true rfl)) dX9_isFree_11 ⟨Nat.le_of_ble_eq_true rfl, Nat.le_of_ble_eq_true rfl⟩) hS (fun H locs hP hS => ?_)
  refine lv_if_ne (tgt := 21) hx hb dX9_isFree_14 (by decide) (fun c14 => ?_) (fun c14 => ?_)
  · replace hf := if_f c14 hf
    refine lv_iconst (v := 0) hx hb dX9_isFree_21 (by decide) ?_
    exact r_zret hx hb hr rfl hlocks hP hS (re2 (Option.some.inj hf)) dX9_isFree_22
  · replace hf := if_t c14 hf
    refine lv_iconst (v := 1) hx hb dX9_isFree_17 (by decide) ?_
    refine lv_goto (tgt := 22) hx hb dX9_isFree_18 (by decide) ?_
    exact r_zret hx hb hr rfl hlocks hP hS (re2 (Option.some.inj hf)) dX9_isFree_22
/-! CarriedBackModel.freed(II)I -/
abbrev rmX9_freed : Room := { frames := 3, cells := 0, slots := 0, locals := 67 }
abbrev vX9_freed : List Cond := Cond.code yX9_freed cX9_freed 7 (some .int) :: GW
def f_X9_freed_72 (x1 : Int32) (x2 : Int32) (k28 : Int32 → Int32 → Int32 → PH → Option (Int32 × PH)) (x3 : Int32) (x5 : Int32) (x6 : Int32) (t0 : Int32) (h : PH) : Option (Int32 × PH) := if x6 = 0 then (k28 (-1) t0 (x5 + 1) h) else (if t0 = 0 then (k28 x3 t0 (x5 + 1) h) else (if (0 : Int32) ≤ x3 then (k28 x3 t0 (x5 + 1) h) else (k28 x5 t0 (x5 + 1) h)))
set_option maxHeartbeats 4000000 in
set_option maxRecDepth 100000 in
theorem w_X9_freed_72 {l : Launch} {G : GC} (hG : GOK G) {rr : Int32} {hh : PH} {p : Program} {e : Env} {s : State} {m : MethodId} {args : Array Value} {below : List Frame} {meth : Method} {c : Code} (C : MC l G p s m args meth c RX9 cX9_freed 7 (some .int)) (x1 : Int32) (x2 : Int32) (k28 : Int32 → Int32 → Int32 → PH → Option (Int32 × PH)) (hk28 : ∀ (x3 : Int32) (x4 : Int32) (x5 : Int32) (h : PH) (H : Heap) (locs : List Loc) (ls : Array Slot), lv_has ls 7 [(0, .ref (gB G 66)), (1, .int x1), (2, .int x2), (3, .int x3), (4, .int x4), (5, .int x5)] → WP G h H → SP G s H locs → k28 x3 x4 x5 h = some (rr, hh) → W p l e rmX9_freed s m args below meth c H locs 0 0 (MQ below (QI G rr hh) args s 0 0 (gA G)) (F0 m 28 ls [])) : ∀ (x3 : Int32) (x5 : Int32) (x6 : Int32) (t0 : Int32) (h : PH) (H : Heap) (locs : List Loc) (ls : Array Slot), lv_has ls 7 [(0, .ref (gB G 66)), (1, .int x1), (2, .int x2), (3, .int x3), (5, .int x5), (6, .int x6)] → WP G h H → SP G s H locs → f_X9_freed_72 x1 x2 k28 x3 x5 x6 t0 h = some (rr, hh) → W p l e rmX9_freed s m args below meth c H locs 0 0 (MQ below (QI G rr hh) args s 0 0 (gA G)) (F0 m 72 ls [.int t0]) := by
  obtain ⟨hx, hb, hr, hlocks, hml, hown, hts, hK⟩ := id C
  intro x3 x5 x6 t0 h H locs ls hl hP hS hf
  rw [f_X9_freed_72] at hf
  refine lv_istore (lv' := [(4, .int t0), (0, .ref (gB G 66)), (1, .int x1), (2, .int x2), (3, .int x3), (5, .int x5), (6, .int x6)]) hx hb dX9_freed_72 hl (by decide) rfl (fun ls hl => ?_)
  refine lv_iload hx hb dX9_freed_74 (lv_at hl 6 rfl) ?_
  refine lv_if_ne (tgt := 83) hx hb dX9_freed_76 (by decide) (fun c76 => ?_) (fun c76 => ?_)
  · replace hf := if_f c76 hf
    refine lv_iload hx hb dX9_freed_83 (lv_at hl 0 rfl) ?_
    refine lv_if_eq (tgt := 97) hx hb dX9_freed_85 (by decide) (fun c85 => ?_) (fun c85 => ?_)
    · replace hf := if_t c85 hf
      refine lv_iload_n hx hb dX9_freed_97 rfl (lv_at hl 4 rfl) ?_
      refine lv_istore_n (lv' := [(3, .int x3), (4, .int t0), (0, .ref (gB G 66)), (1, .int x1), (2, .int x2), (5, .int x5), (6, .int x6)]) hx hb dX9_freed_98 rfl hl (by decide) rfl (fun ls hl => ?_)
      refine lv_iinc (v := (x5 + 1)) (lv' := [(5, .int (x5 + 1)), (3, .int x3), (4, .int t0), (0, .ref (gB G 66)), (1, .int x1), (2, .int x2), (6, .int x6)]) hx hb dX9_freed_99 hl (k := 5) rfl rfl (by decide) rfl (fun ls hl => ?_)
      refine lv_goto (tgt := 28) hx hb dX9_freed_102 (by decide) ?_
      exact hk28 x3 t0 (x5 + 1) h _ _ _ (lv_sub hl [3, 4, 5, 1, 2, 0] rfl) hP hS hf
    · replace hf := if_f c85 hf
      refine lv_iload_n hx hb dX9_freed_88 rfl (lv_at hl 4 rfl) ?_
      refine lv_if_ge (tgt := 97) hx hb dX9_freed_89 (by decide) (fun c89 => ?_) (fun c89 => ?_)
      · replace hf := if_t c89 hf
        refine lv_iload_n hx hb dX9_freed_97 rfl (lv_at hl 4 rfl) ?_
        refine lv_istore_n (lv' := [(3, .int x3), (4, .int t0), (0, .ref (gB G 66)), (1, .int x1), (2, .int x2), (5, .int x5), (6, .int x6)]) hx hb dX9_freed_98 rfl hl (by decide) rfl (fun ls hl => ?_)
        refine lv_iinc (v := (x5 + 1)) (lv' := [(5, .int (x5 + 1)), (3, .int x3), (4, .int t0), (0, .ref (gB G 66)), (1, .int x1), (2, .int x2), (6, .int x6)]) hx hb dX9_freed_99 hl (k := 5) rfl rfl (by decide) rfl (fun ls hl => ?_)
        refine lv_goto (tgt := 28) hx hb dX9_freed_102 (by decide) ?_
        exact hk28 x3 t0 (x5 + 1) h _ _ _ (lv_sub hl [3, 4, 5, 1, 2, 0] rfl) hP hS hf
      · replace hf := if_f c89 hf
        refine lv_iload hx hb dX9_freed_92 (lv_at hl 5 rfl) ?_
        refine lv_goto (tgt := 98) hx hb dX9_freed_94 (by decide) ?_
        refine lv_istore_n (lv' := [(3, .int x5), (4, .int t0), (0, .ref (gB G 66)), (1, .int x1), (2, .int x2), (5, .int x5), (6, .int x6)]) hx hb dX9_freed_98 rfl hl (by decide) rfl (fun ls hl => ?_)
        refine lv_iinc (v := (x5 + 1)) (lv' := [(5, .int (x5 + 1)), (3, .int x5), (4, .int t0), (0, .ref (gB G 66)), (1, .int x1), (2, .int x2), (6, .int x6)]) hx hb dX9_freed_99 hl (k := 5) rfl rfl (by decide) rfl (fun ls hl => ?_)
        refine lv_goto (tgt := 28) hx hb dX9_freed_102 (by decide) ?_
        exact hk28 x5 t0 (x5 + 1) h _ _ _ (lv_sub hl [3, 4, 5, 1, 2, 0] rfl) hP hS hf
  · replace hf := if_t c76 hf
    refine lv_iconst (v := (-1)) hx hb dX9_freed_79 (by decide) ?_
    refine lv_goto (tgt := 98) hx hb dX9_freed_80 (by decide) ?_
    refine lv_istore_n (lv' := [(3, .int (-1)), (4, .int t0), (0, .ref (gB G 66)), (1, .int x1), (2, .int x2), (5, .int x5), (6, .int x6)]) hx hb dX9_freed_98 rfl hl (by decide) rfl (fun ls hl => ?_)
    refine lv_iinc (v := (x5 + 1)) (lv' := [(5, .int (x5 + 1)), (3, .int (-1)), (4, .int t0), (0, .ref (gB G 66)), (1, .int x1), (2, .int x2), (6, .int x6)]) hx hb dX9_freed_99 hl (k := 5) rfl rfl (by decide) rfl (fun ls hl => ?_)
    refine lv_goto (tgt := 28) hx hb dX9_freed_102 (by decide) ?_
    exact hk28 (-1) t0 (x5 + 1) h _ _ _ (lv_sub hl [3, 4, 5, 1, 2, 0] rfl) hP hS hf
def f_X9_freed_67 (x1 : Int32) (x2 : Int32) (k28 : Int32 → Int32 → Int32 → PH → Option (Int32 × PH)) (x3 : Int32) (x5 : Int32) (x6 : Int32) (h : PH) : Option (Int32 × PH) := f_X9_freed_72 x1 x2 k28 x3 x5 x6 1 h
set_option maxHeartbeats 4000000 in
set_option maxRecDepth 100000 in
theorem w_X9_freed_67 {l : Launch} {G : GC} (hG : GOK G) {rr : Int32} {hh : PH} {p : Program} {e : Env} {s : State} {m : MethodId} {args : Array Value} {below : List Frame} {meth : Method} {c : Code} (C : MC l G p s m args meth c RX9 cX9_freed 7 (some .int)) (x1 : Int32) (x2 : Int32) (k28 : Int32 → Int32 → Int32 → PH → Option (Int32 × PH)) (hk28 : ∀ (x3 : Int32) (x4 : Int32) (x5 : Int32) (h : PH) (H : Heap) (locs : List Loc) (ls : Array Slot), lv_has ls 7 [(0, .ref (gB G 66)), (1, .int x1), (2, .int x2), (3, .int x3), (4, .int x4), (5, .int x5)] → WP G h H → SP G s H locs → k28 x3 x4 x5 h = some (rr, hh) → W p l e rmX9_freed s m args below meth c H locs 0 0 (MQ below (QI G rr hh) args s 0 0 (gA G)) (F0 m 28 ls [])) : ∀ (x3 : Int32) (x5 : Int32) (x6 : Int32) (h : PH) (H : Heap) (locs : List Loc) (ls : Array Slot), lv_has ls 7 [(0, .ref (gB G 66)), (1, .int x1), (2, .int x2), (3, .int x3), (5, .int x5), (6, .int x6)] → WP G h H → SP G s H locs → f_X9_freed_67 x1 x2 k28 x3 x5 x6 h = some (rr, hh) → W p l e rmX9_freed s m args below meth c H locs 0 0 (MQ below (QI G rr hh) args s 0 0 (gA G)) (F0 m 67 ls []) := by
  obtain ⟨hx, hb, hr, hlocks, hml, hown, hts, hK⟩ := id C
  intro x3 x5 x6 h H locs ls hl hP hS hf
  rw [f_X9_freed_67] at hf
  refine lv_iconst (v := 1) hx hb dX9_freed_67 (by decide) ?_
  refine lv_goto (tgt := 72) hx hb dX9_freed_68 (by decide) ?_
  exact w_X9_freed_72 hG C x1 x2 k28 hk28 x3 x5 x6 1 h _ _ _ (lv_sub hl [0, 1, 2, 3, 4, 5] rfl) hP hS hf
def f_X9_freed_28 (x1 : Int32) (x2 : Int32) : Nat → Int32 → Int32 → Int32 → PH → Option (Int32 × PH)
  | 0, _, _, _, _ => none
  | n + 1, x3, x4, x5, h => if (h.1 66 13) ≤ x5 then (some (x3, h)) else (bO (ag h 77 20 x5) (fun v43 => if v43 = x2 then (bP (f_X9_isFree x5 x1 h) (fun r52 h52 => if x4 = 0 then (if r52 = 0 then (f_X9_freed_67 x1 x2 (f_X9_freed_28 x1 x2 n) x3 x5 r52 h52) else (f_X9_freed_72 x1 x2 (f_X9_freed_28 x1 x2 n) x3 x5 r52 0 h52)) else (f_X9_freed_67 x1 x2 (f_X9_freed_28 x1 x2 n) x3 x5 r52 h52))) else ((f_X9_freed_28 x1 x2 n) x3 x4 (x5 + 1) h)))
set_option maxHeartbeats 4000000 in
set_option maxRecDepth 100000 in
theorem w_X9_freed_28 {l : Launch} {G : GC} (hG : GOK G) {rr : Int32} {hh : PH} {p : Program} {e : Env} {s : State} {m : MethodId} {args : Array Value} {below : List Frame} {meth : Method} {c : Code} (C : MC l G p s m args meth c RX9 cX9_freed 7 (some .int)) (x1 : Int32) (x2 : Int32) : ∀ (n : Nat) (x3 : Int32) (x4 : Int32) (x5 : Int32) (h : PH) (H : Heap) (locs : List Loc) (ls : Array Slot), lv_has ls 7 [(0, .ref (gB G 66)), (1, .int x1), (2, .int x2), (3, .int x3), (4, .int x4), (5, .int x5)] → WP G h H → SP G s H locs → f_X9_freed_28 x1 x2 n x3 x4 x5 h = some (rr, hh) → W p l e rmX9_freed s m args below meth c H locs 0 0 (MQ below (QI G rr hh) args s 0 0 (gA G)) (F0 m 28 ls []) := by
  obtain ⟨hx, hb, hr, hlocks, hml, hown, hts, hK⟩ := id C
  intro n
  induction n with
  | zero => intro x3 x4 x5 h H locs ls hl hP hS hf; rw [f_X9_freed_28] at hf; cases hf
  | succ n ih =>
    intro x3 x4 x5 h H locs ls hl hP hS hf
    rw [f_X9_freed_28] at hf
    refine lv_iload hx hb dX9_freed_28 (lv_at hl 5 rfl) ?_
    refine lv_aload_n hx hb dX9_freed_30 rfl (lv_at hl 0 rfl) ?_
    refine r_get (a := 66) (v := .int (h.1 66 13)) (C := RX9) (T := TX9) (N := 55) hx hb hts hinX9 hown hK hP (ltX9 rfl) (ceX9 rfl) rfl 13 (by decide) wd1048 rfl dX9_freed_31 ?_
    refine lv_icmp_ge (tgt := 105) hx hb dX9_freed_34 (by decide) (fun c34 => ?_) (fun c34 => ?_)
    · replace hf := if_t c34 hf
      refine lv_iload_n hx hb dX9_freed_105 rfl (lv_at hl 3 rfl) ?_
      exact r_iret hx hb hr hlocks hP hS (re2 (Option.some.inj hf)) dX9_freed_106
    · replace hf := if_f c34 hf
      refine lv_aload_n hx hb dX9_freed_37 rfl (lv_at hl 0 rfl) ?_
      refine r_get (a := 66) (v := .ref (gB G 77)) (C := RX9) (T := TX9) (N := 55) hx hb hts hinX9 hown hK hP (ltX9 rfl) (ceX9 rfl) rfl 14 (by decide) wd1049 rfl dX9_freed_38 ?_
      refine lv_iload hx hb dX9_freed_41 (lv_at hl 5 rfl) ?_
      obtain ⟨v43, ev43, hf⟩ := bO_s hf
      refine r_iald hx hb hK hP (arX9_14 rfl) ev43 dX9_freed_43 ?_
      refine lv_iload_n hx hb dX9_freed_44 rfl (lv_at hl 2 rfl) ?_
      refine lv_icmp_ne (tgt := 99) hx hb dX9_freed_45 (by decide) (fun c45 => ?_) (fun c45 => ?_)
      · replace hf := if_f c45 hf
        refine lv_iinc (v := (x5 + 1)) (lv' := [(5, .int (x5 + 1)), (0, .ref (gB G 66)), (1, .int x1), (2, .int x2), (3, .int x3), (4, .int x4)]) hx hb dX9_freed_99 hl (k := 5) rfl rfl (by decide) rfl (fun ls hl => ?_)
        refine lv_goto (tgt := 28) hx hb dX9_freed_102 (by decide) ?_
        exact ih x3 x4 (x5 + 1) h _ _ _ (lv_sub hl [1, 2, 3, 4, 5, 0] rfl) hP hS hf
      · replace hf := if_t c45 hf
        refine lv_aload_n hx hb dX9_freed_48 rfl (lv_at hl 0 rfl) ?_
        refine lv_iload hx hb dX9_freed_49 (lv_at hl 5 rfl) ?_
        refine lv_iload_n hx hb dX9_freed_51 rfl (lv_at hl 1 rfl) ?_
        obtain ⟨r52, h52, er52, hf⟩ := bP_s hf
        refine r_callI (va_runV (As := [.int x5, .int x1]) (rest := []) ⟨hx, hb, hml, hown, hts⟩ (k_X9_isFree l hG er52) (cwV 2 hts (gV wd1473 wd1475 wd61 wd82 wd1476) rfl rfl rfl (by decide +kernel) ⟨Nat.le_of_ble_eq_true rfl, Nat.le_of_ble_eq_true rfl⟩) (r_pv hK hP hS (ltX9 rfl) (ceX9 rfl) rfl) rfl rfl hl.1 rfl (lv_room (Nat.le_of_ble_eq_true rfl)) dX9_freed_52 ⟨Nat.le_of_ble_eq_true rfl, Nat.le_of_ble_eq_true rfl⟩) hS (fun H locs hP hS => ?_)
        refine lv_istore (lv' := [(6, .int r52), (0, .ref (gB G 66)), (1, .int x1), (2, .int x2), (3, .int x3), (4, .int x4), (5, .int x5)]) hx hb dX9_freed_55 hl (by decide) rfl (fun ls hl => ?_)
        refine lv_iload hx hb dX9_freed_57 (lv_at hl 5 rfl) ?_
        refine lv_if_ne (tgt := 67) hx hb dX9_freed_59 (by decide) (fun c59 => ?_) (fun c59 => ?_)
        · replace hf := if_f c59 hf
          exact w_X9_freed_67 hG C x1 x2 (f_X9_freed_28 x1 x2 n) ih x3 x5 r52 h52 _ _ _ (lv_sub hl [1, 2, 3, 4, 6, 0] rfl) hP hS hf
        · replace hf := if_t c59 hf
          refine lv_iload hx hb dX9_freed_62 (lv_at hl 0 rfl) ?_
          refine lv_if_ne (tgt := 71) hx hb dX9_freed_64 (by decide) (fun c64 => ?_) (fun c64 => ?_)
          · replace hf := if_f c64 hf
            refine lv_iconst (v := 0) hx hb dX9_freed_71 (by decide) ?_
            exact w_X9_freed_72 hG C x1 x2 (f_X9_freed_28 x1 x2 n) ih x3 x5 r52 0 h52 _ _ _ (lv_sub hl [1, 2, 3, 4, 6, 0] rfl) hP hS hf
          · replace hf := if_t c64 hf
            exact w_X9_freed_67 hG C x1 x2 (f_X9_freed_28 x1 x2 n) ih x3 x5 r52 h52 _ _ _ (lv_sub hl [1, 2, 3, 4, 6, 0] rfl) hP hS hf
def f_X9_freed (x1 : Int32) (x2 : Int32) (h : PH) : Option (Int32 × PH) := bP (f_X9_isFault x1 h) (fun r2 h2 => if r2 = 0 then (some ((-1001), h2)) else (bP (f_X9_isLine x2 h2) (fun r10 h10 => if r10 = 0 then (some ((-1001), h10)) else (f_X9_freed_28 x1 x2 FU (-1) 0 0 h10))))
set_option maxHeartbeats 4000000 in
set_option maxRecDepth 100000 in
theorem k_X9_freed (l : Launch) {G : GC} (hG : GOK G) {x1 : Int32} {x2 : Int32} {rr : Int32} {h hh : PH} (hf : f_X9_freed x1 x2 h = some (rr, hh)) : CI l yX9_freed vX9_freed rmX9_freed G [.ref (gB G 66), .int x1, .int x2] h rr hh := by
  refine Met.ofW (cc := cX9_freed) (maxL := 7) (ret := (some .int)) (by decide +kernel) rfl ?_
  intro p e s m args below meth c s₁ B hml hv
  obtain ⟨rfl, hP, hK⟩ := hv
  have C : MC l G p s m _ meth c RX9 cX9_freed 7 (some .int) := ⟨B.exec, B.bytes, B.returns, B.notSynchronized, hml, findClass_of_methodNamed B.named, fun w hw => atoms_spec (ws := vX9_freed) B.pre w (List.mem_cons_of_mem _ hw), hK⟩
  obtain ⟨hx, hb, hr, hlocks, -, hown, hts, -⟩ := id C
  have hl := lv_entry ([.ref (gB G 66), .int x1, .int x2]) (n := 7) (Nat.le_of_ble_eq_true rfl)
  rw [lg_entry_eq]
  generalize (lg_sl ([.ref (gB G 66), .int x1, .int x2]) ++ List.replicate (7 - (lg_sl ([.ref (gB G 66), .int x1, .int x2])).length) Slot.unset).toArray = ls at hl ⊢
  have hl : lv_has ls 7 [(0, .ref (gB G 66)), (1, .int x1), (2, .int x2)] := hl
  have hS : SP G s s.heap [] := va_S.rf
  replace hP : WP G h s.heap := hP
  rw [f_X9_freed] at hf
  refine lv_aload_n hx hb dX9_freed_0 rfl (lv_at hl 0 rfl) ?_
  refine lv_iload_n hx hb dX9_freed_1 rfl (lv_at hl 1 rfl) ?_
  obtain ⟨r2, h2, er2, hf⟩ := bP_s hf
  refine r_callI (va_runV (As := [.int x1]) (rest := []) ⟨hx, hb, hml, hown, hts⟩ (k_X9_isFault l hG er2) (cwV 1 hts (gV wd1331 wd1333 wd46 wd82 wd1334) rfl rfl rfl (by decide +kernel) ⟨Nat.le_of_ble_eq_true rfl, Nat.le_of_ble_eq_true rfl⟩) (r_pv hK hP hS (ltX9 rfl) (ceX9 rfl) rfl) rfl rfl hl.1 rfl (lv_room (Nat.le_of_ble_eq_true rfl)) dX9_freed_2 ⟨Nat.le_of_ble_eq_true rfl, Nat.le_of_ble_eq_true rfl⟩) hS (fun H locs hP hS => ?_)
  refine lv_if_eq (tgt := 16) hx hb dX9_freed_5 (by decide) (fun c5 => ?_) (fun c5 => ?_)
  · replace hf := if_t c5 hf
    refine lv_sipush (v := (-1001)) hx hb dX9_freed_16 (by decide) ?_
    exact r_iret hx hb hr hlocks hP hS (re2 (Option.some.inj hf)) dX9_freed_19
  · replace hf := if_f c5 hf
    refine lv_aload_n hx hb dX9_freed_8 rfl (lv_at hl 0 rfl) ?_
    refine lv_iload_n hx hb dX9_freed_9 rfl (lv_at hl 2 rfl) ?_
    obtain ⟨r10, h10, er10, hf⟩ := bP_s hf
    refine r_callI (va_runV (As := [.int x2]) (rest := []) ⟨hx, hb, hml, hown, hts⟩ (k_X9_isLine l hG er10) (cwV 1 hts (gV wd1347 wd1349 wd47 wd82 wd1350) rfl rfl rfl (by decide +kernel) ⟨Nat.le_of_ble_eq_true rfl, Nat.le_of_ble_eq_true rfl⟩) (r_pv hK hP hS (ltX9 rfl) (ceX9 rfl) rfl) rfl rfl hl.1 rfl (lv_room (Nat.le_of_ble_eq_true rfl)) dX9_freed_10 ⟨Nat.le_of_ble_eq_true rfl, Nat.le_of_ble_eq_true rfl⟩) hS (fun H locs hP hS => ?_)
    refine lv_if_ne (tgt := 20) hx hb dX9_freed_13 (by decide) (fun c13 => ?_) (fun c13 => ?_)
    · replace hf := if_f c13 hf
      refine lv_iconst (v := (-1)) hx hb dX9_freed_20 (by decide) ?_
      refine lv_istore_n (lv' := [(3, .int (-1)), (0, .ref (gB G 66)), (1, .int x1), (2, .int x2)]) hx hb dX9_freed_21 rfl hl (by decide) rfl (fun ls hl => ?_)
      refine lv_iconst (v := 0) hx hb dX9_freed_22 (by decide) ?_
      refine lv_istore (lv' := [(4, .int 0), (3, .int (-1)), (0, .ref (gB G 66)), (1, .int x1), (2, .int x2)]) hx hb dX9_freed_23 hl (by decide) rfl (fun ls hl => ?_)
      refine lv_iconst (v := 0) hx hb dX9_freed_25 (by decide) ?_
      refine lv_istore (lv' := [(5, .int 0), (4, .int 0), (3, .int (-1)), (0, .ref (gB G 66)), (1, .int x1), (2, .int x2)]) hx hb dX9_freed_26 hl (by decide) rfl (fun ls hl => ?_)
      exact w_X9_freed_28 hG C x1 x2 FU (-1) 0 0 h10 _ _ _ (lv_sub hl [3, 4, 5, 2, 1, 0] rfl) hP hS hf
    · replace hf := if_t c13 hf
      refine lv_sipush (v := (-1001)) hx hb dX9_freed_16 (by decide) ?_
      exact r_iret hx hb hr hlocks hP hS (re2 (Option.some.inj hf)) dX9_freed_19
/-! CarriedBackModel.danger(III)I -/
abbrev rmX9_danger : Room := { frames := 3, cells := 0, slots := 0, locals := 67 }
abbrev vX9_danger : List Cond := Cond.code yX9_danger cX9_danger 9 (some .int) :: GW
def f_X9_danger_65 (x1 : Int32) (x2 : Int32) (x3 : Int32) (x4 : Int32) (x5 : Int32) (x6 : Int32) (k41 : Int32 → Int32 → PH → Option (Int32 × PH)) (k53 : Int32 → Int32 → PH → Option (Int32 × PH)) : Nat → Int32 → Int32 → PH → Option (Int32 × PH)
  | 0, _, _, _ => none
  | n + 1, x7, x8, h => if (h.1 66 13) ≤ x8 then (if x7 < 0 then (lt' ((x4 + 0)) (fun x4_136 => k53 x4_136 (x6 + 1) h)) else (bP (f_X9_isFree x7 x1 h) (fun r124 h124 => if r124 = 0 then (lt' ((x4 + 1)) (fun x4_136 => k53 x4_136 (x6 + 1) h124)) else (lt' ((x4 + 0)) (fun x4_136 => k53 x4_136 (x6 + 1) h124))))) else (bO (ag h 77 20 x8) (fun v80 => if v80 = x5 then (bO (ag h 78 20 x8) (fun v92 => if x6 < v92 then ((f_X9_danger_65 x1 x2 x3 x4 x5 x6 k41 k53 n) x7 (x8 + 1) h) else ((f_X9_danger_65 x1 x2 x3 x4 x5 x6 k41 k53 n) x8 (x8 + 1) h))) else ((f_X9_danger_65 x1 x2 x3 x4 x5 x6 k41 k53 n) x7 (x8 + 1) h)))
set_option maxHeartbeats 4000000 in
set_option maxRecDepth 100000 in
theorem w_X9_danger_65 {l : Launch} {G : GC} (hG : GOK G) {rr : Int32} {hh : PH} {p : Program} {e : Env} {s : State} {m : MethodId} {args : Array Value} {below : List Frame} {meth : Method} {c : Code} (C : MC l G p s m args meth c RX9 cX9_danger 9 (some .int)) (x1 : Int32) (x2 : Int32) (x3 : Int32) (x4 : Int32) (x5 : Int32) (x6 : Int32) (k41 : Int32 → Int32 → PH → Option (Int32 × PH)) (hk41 : ∀ (x4 : Int32) (x5 : Int32) (h : PH) (H : Heap) (locs : List Loc) (ls : Array Slot), lv_has ls 9 [(0, .ref (gB G 66)), (1, .int x1), (2, .int x2), (3, .int x3), (4, .int x4), (5, .int x5)] → WP G h H → SP G s H locs → k41 x4 x5 h = some (rr, hh) → W p l e rmX9_danger s m args below meth c H locs 0 0 (MQ below (QI G rr hh) args s 0 0 (gA G)) (F0 m 41 ls [])) (k53 : Int32 → Int32 → PH → Option (Int32 × PH)) (hk53 : ∀ (x4 : Int32) (x6 : Int32) (h : PH) (H : Heap) (locs : List Loc) (ls : Array Slot), lv_has ls 9 [(0, .ref (gB G 66)), (1, .int x1), (2, .int x2), (3, .int x3), (4, .int x4), (5, .int x5), (6, .int x6)] → WP G h H → SP G s H locs → k53 x4 x6 h = some (rr, hh) → W p l e rmX9_danger s m args below meth c H locs 0 0 (MQ below (QI G rr hh) args s 0 0 (gA G)) (F0 m 53 ls [])) : ∀ (n : Nat) (x7 : Int32) (x8 : Int32) (h : PH) (H : Heap) (locs : List Loc) (ls : Array Slot), lv_has ls 9 [(0, .ref (gB G 66)), (1, .int x1), (2, .int x2), (3, .int x3), (4, .int x4), (5, .int x5), (6, .int x6), (7, .int x7), (8, .int x8)] → WP G h H → SP G s H locs → f_X9_danger_65 x1 x2 x3 x4 x5 x6 k41 k53 n x7 x8 h = some (rr, hh) → W p l e rmX9_danger s m args below meth c H locs 0 0 (MQ below (QI G rr hh) args s 0 0 (gA G)) (F0 m 65 ls []) := by
  obtain ⟨hx, hb, hr, hlocks, hml, hown, hts, hK⟩ := id C
  intro n
  induction n with
  | zero => intro x7 x8 h H locs ls hl hP hS hf; rw [f_X9_danger_65] at hf; cases hf
  | succ n ih =>
    intro x7 x8 h H locs ls hl hP hS hf
    rw [f_X9_danger_65] at hf
    refine lv_iload hx hb dX9_danger_65 (lv_at hl 8 rfl) ?_
    refine lv_aload_n hx hb dX9_danger_67 rfl (lv_at hl 0 rfl) ?_
    refine r_get (a := 66) (v := .int (h.1 66 13)) (C := RX9) (T := TX9) (N := 55) hx hb hts hinX9 hown hK hP (ltX9 rfl) (ceX9 rfl) rfl 13 (by decide) wd1048 rfl dX9_danger_68 ?_
    refine lv_icmp_ge (tgt := 113) hx hb dX9_danger_71 (by decide) (fun c71 => ?_) (fun c71 => ?_)
    · replace hf := if_t c71 hf
      refine lv_iload hx hb dX9_danger_113 (lv_at hl 4 rfl) ?_
      refine lv_iload hx hb dX9_danger_115 (lv_at hl 7 rfl) ?_
      refine lv_if_lt (tgt := 134) hx hb dX9_danger_117 (by decide) (fun c117 => ?_) (fun c117 => ?_)
      · replace hf := if_t c117 hf
        refine lv_iconst (v := 0) hx hb dX9_danger_134 (by decide) ?_
        refine lv_iadd hx hb dX9_danger_135 ?_
        refine lv_topi (fun x4_136 ex4_136 => ?_)
        replace hf := lt_at ex4_136 hf
        refine lv_istore (lv' := [(4, .int x4_136), (0, .ref (gB G 66)), (1, .int x1), (2, .int x2), (3, .int x3), (5, .int x5), (6, .int x6), (7, .int x7), (8, .int x8)]) hx hb dX9_danger_136 hl (by decide) rfl (fun ls hl => ?_)
        refine lv_iinc (v := (x6 + 1)) (lv' := [(6, .int (x6 + 1)), (4, .int x4_136), (0, .ref (gB G 66)), (1, .int x1), (2, .int x2), (3, .int x3), (5, .int x5), (7, .int x7), (8, .int x8)]) hx hb dX9_danger_138 hl (k := 6) rfl rfl (by decide) rfl (fun ls hl => ?_)
        refine lv_goto (tgt := 53) hx hb dX9_danger_141 (by decide) ?_
        exact hk53 x4_136 (x6 + 1) h _ _ _ (lv_sub hl [2, 3, 4, 5, 1, 6, 0] rfl) hP hS hf
      · replace hf := if_f c117 hf
        refine lv_aload_n hx hb dX9_danger_120 rfl (lv_at hl 0 rfl) ?_
        refine lv_iload hx hb dX9_danger_121 (lv_at hl 7 rfl) ?_
        refine lv_iload_n hx hb dX9_danger_123 rfl (lv_at hl 1 rfl) ?_
        obtain ⟨r124, h124, er124, hf⟩ := bP_s hf
        refine r_callI (va_runV (As := [.int x7, .int x1]) (rest := [.int x4]) ⟨hx, hb, hml, hown, hts⟩ (k_X9_isFree l hG er124) (cwV 2 hts (gV wd1473 wd1475 wd61 wd82 wd1476) rfl rfl rfl (by decide +kernel) ⟨Nat.le_of_ble_eq_true rfl, Nat.le_of_ble_eq_true rfl⟩) (r_pv hK hP hS (ltX9 rfl) (ceX9 rfl) rfl) rfl rfl hl.1 rfl (lv_room (Nat.le_of_ble_eq_true rfl)) dX9_danger_124 ⟨Nat.le_of_ble_eq_true rfl, Nat.le_of_ble_eq_true rfl⟩) hS (fun H locs hP hS => ?_)
        refine lv_if_ne (tgt := 134) hx hb dX9_danger_127 (by decide) (fun c127 => ?_) (fun c127 => ?_)
        · replace hf := if_f c127 hf
          refine lv_iconst (v := 0) hx hb dX9_danger_134 (by decide) ?_
          refine lv_iadd hx hb dX9_danger_135 ?_
          refine lv_topi (fun x4_136 ex4_136 => ?_)
          replace hf := lt_at ex4_136 hf
          refine lv_istore (lv' := [(4, .int x4_136), (0, .ref (gB G 66)), (1, .int x1), (2, .int x2), (3, .int x3), (5, .int x5), (6, .int x6), (7, .int x7), (8, .int x8)]) hx hb dX9_danger_136 hl (by decide) rfl (fun ls hl => ?_)
          refine lv_iinc (v := (x6 + 1)) (lv' := [(6, .int (x6 + 1)), (4, .int x4_136), (0, .ref (gB G 66)), (1, .int x1), (2, .int x2), (3, .int x3), (5, .int x5), (7, .int x7), (8, .int x8)]) hx hb dX9_danger_138 hl (k := 6) rfl rfl (by decide) rfl (fun ls hl => ?_)
          refine lv_goto (tgt := 53) hx hb dX9_danger_141 (by decide) ?_
          exact hk53 x4_136 (x6 + 1) h124 _ _ _ (lv_sub hl [2, 3, 4, 5, 1, 6, 0] rfl) hP hS hf
        · replace hf := if_t c127 hf
          refine lv_iconst (v := 1) hx hb dX9_danger_130 (by decide) ?_
          refine lv_goto (tgt := 135) hx hb dX9_danger_131 (by decide) ?_
          refine lv_iadd hx hb dX9_danger_135 ?_
          refine lv_topi (fun x4_136 ex4_136 => ?_)
          replace hf := lt_at ex4_136 hf
          refine lv_istore (lv' := [(4, .int x4_136), (0, .ref (gB G 66)), (1, .int x1), (2, .int x2), (3, .int x3), (5, .int x5), (6, .int x6), (7, .int x7), (8, .int x8)]) hx hb dX9_danger_136 hl (by decide) rfl (fun ls hl => ?_)
          refine lv_iinc (v := (x6 + 1)) (lv' := [(6, .int (x6 + 1)), (4, .int x4_136), (0, .ref (gB G 66)), (1, .int x1), (2, .int x2), (3, .int x3), (5, .int x5), (7, .int x7), (8, .int x8)]) hx hb dX9_danger_138 hl (k := 6) rfl rfl (by decide) rfl (fun ls hl => ?_)
          refine lv_goto (tgt := 53) hx hb dX9_danger_141 (by decide) ?_
          exact hk53 x4_136 (x6 + 1) h124 _ _ _ (lv_sub hl [2, 3, 4, 5, 1, 6, 0] rfl) hP hS hf
    · replace hf := if_f c71 hf
      refine lv_aload_n hx hb dX9_danger_74 rfl (lv_at hl 0 rfl) ?_
      refine r_get (a := 66) (v := .ref (gB G 77)) (C := RX9) (T := TX9) (N := 55) hx hb hts hinX9 hown hK hP (ltX9 rfl) (ceX9 rfl) rfl 14 (by decide) wd1049 rfl dX9_danger_75 ?_
      refine lv_iload hx hb dX9_danger_78 (lv_at hl 8 rfl) ?_
      obtain ⟨v80, ev80, hf⟩ := bO_s hf
      refine r_iald hx hb hK hP (arX9_14 rfl) ev80 dX9_danger_80 ?_
      refine lv_iload hx hb dX9_danger_81 (lv_at hl 5 rfl) ?_
      refine lv_icmp_ne (tgt := 103) hx hb dX9_danger_83 (by decide) (fun c83 => ?_) (fun c83 => ?_)
      · replace hf := if_f c83 hf
        refine lv_iload hx hb dX9_danger_103 (lv_at hl 7 rfl) ?_
        refine lv_istore (lv' := [(7, .int x7), (0, .ref (gB G 66)), (1, .int x1), (2, .int x2), (3, .int x3), (4, .int x4), (5, .int x5), (6, .int x6), (8, .int x8)]) hx hb dX9_danger_105 hl (by decide) rfl (fun ls hl => ?_)
        refine lv_iinc (v := (x8 + 1)) (lv' := [(8, .int (x8 + 1)), (7, .int x7), (0, .ref (gB G 66)), (1, .int x1), (2, .int x2), (3, .int x3), (4, .int x4), (5, .int x5), (6, .int x6)]) hx hb dX9_danger_107 hl (k := 8) rfl rfl (by decide) rfl (fun ls hl => ?_)
        refine lv_goto (tgt := 65) hx hb dX9_danger_110 (by decide) ?_
        exact ih x7 (x8 + 1) h _ _ _ (lv_sub hl [2, 3, 4, 5, 6, 7, 8, 1, 0] rfl) hP hS hf
      · replace hf := if_t c83 hf
        refine lv_aload_n hx hb dX9_danger_86 rfl (lv_at hl 0 rfl) ?_
        refine r_get (a := 66) (v := .ref (gB G 78)) (C := RX9) (T := TX9) (N := 55) hx hb hts hinX9 hown hK hP (ltX9 rfl) (ceX9 rfl) rfl 15 (by decide) wd1050 rfl dX9_danger_87 ?_
        refine lv_iload hx hb dX9_danger_90 (lv_at hl 8 rfl) ?_
        obtain ⟨v92, ev92, hf⟩ := bO_s hf
        refine r_iald hx hb hK hP (arX9_15 rfl) ev92 dX9_danger_92 ?_
        refine lv_iload hx hb dX9_danger_93 (lv_at hl 6 rfl) ?_
        refine lv_icmp_gt (tgt := 103) hx hb dX9_danger_95 (by decide) (fun c95 => ?_) (fun c95 => ?_)
        · replace hf := if_t c95 hf
          refine lv_iload hx hb dX9_danger_103 (lv_at hl 7 rfl) ?_
          refine lv_istore (lv' := [(7, .int x7), (0, .ref (gB G 66)), (1, .int x1), (2, .int x2), (3, .int x3), (4, .int x4), (5, .int x5), (6, .int x6), (8, .int x8)]) hx hb dX9_danger_105 hl (by decide) rfl (fun ls hl => ?_)
          refine lv_iinc (v := (x8 + 1)) (lv' := [(8, .int (x8 + 1)), (7, .int x7), (0, .ref (gB G 66)), (1, .int x1), (2, .int x2), (3, .int x3), (4, .int x4), (5, .int x5), (6, .int x6)]) hx hb dX9_danger_107 hl (k := 8) rfl rfl (by decide) rfl (fun ls hl => ?_)
          refine lv_goto (tgt := 65) hx hb dX9_danger_110 (by decide) ?_
          exact ih x7 (x8 + 1) h _ _ _ (lv_sub hl [2, 3, 4, 5, 6, 7, 8, 1, 0] rfl) hP hS hf
        · replace hf := if_f c95 hf
          refine lv_iload hx hb dX9_danger_98 (lv_at hl 8 rfl) ?_
          refine lv_goto (tgt := 105) hx hb dX9_danger_100 (by decide) ?_
          refine lv_istore (lv' := [(7, .int x8), (0, .ref (gB G 66)), (1, .int x1), (2, .int x2), (3, .int x3), (4, .int x4), (5, .int x5), (6, .int x6), (8, .int x8)]) hx hb dX9_danger_105 hl (by decide) rfl (fun ls hl => ?_)
          refine lv_iinc (v := (x8 + 1)) (lv' := [(8, .int (x8 + 1)), (7, .int x8), (0, .ref (gB G 66)), (1, .int x1), (2, .int x2), (3, .int x3), (4, .int x4), (5, .int x5), (6, .int x6)]) hx hb dX9_danger_107 hl (k := 8) rfl rfl (by decide) rfl (fun ls hl => ?_)
          refine lv_goto (tgt := 65) hx hb dX9_danger_110 (by decide) ?_
          exact ih x8 (x8 + 1) h _ _ _ (lv_sub hl [2, 3, 4, 5, 6, 7, 8, 1, 0] rfl) hP hS hf
def f_X9_danger_53 (x1 : Int32) (x2 : Int32) (x3 : Int32) (x5 : Int32) (k41 : Int32 → Int32 → PH → Option (Int32 × PH)) : Nat → Int32 → Int32 → PH → Option (Int32 × PH)
  | 0, _, _, _ => none
  | n + 1, x4, x6, h => if x3 < x6 then (k41 x4 (x5 + 1) h) else (f_X9_danger_65 x1 x2 x3 x4 x5 x6 k41 (f_X9_danger_53 x1 x2 x3 x5 k41 n) FU (-1) 0 h)
set_option maxHeartbeats 4000000 in
set_option maxRecDepth 100000 in
theorem w_X9_danger_53 {l : Launch} {G : GC} (hG : GOK G) {rr : Int32} {hh : PH} {p : Program} {e : Env} {s : State} {m : MethodId} {args : Array Value} {below : List Frame} {meth : Method} {c : Code} (C : MC l G p s m args meth c RX9 cX9_danger 9 (some .int)) (x1 : Int32) (x2 : Int32) (x3 : Int32) (x5 : Int32) (k41 : Int32 → Int32 → PH → Option (Int32 × PH)) (hk41 : ∀ (x4 : Int32) (x5 : Int32) (h : PH) (H : Heap) (locs : List Loc) (ls : Array Slot), lv_has ls 9 [(0, .ref (gB G 66)), (1, .int x1), (2, .int x2), (3, .int x3), (4, .int x4), (5, .int x5)] → WP G h H → SP G s H locs → k41 x4 x5 h = some (rr, hh) → W p l e rmX9_danger s m args below meth c H locs 0 0 (MQ below (QI G rr hh) args s 0 0 (gA G)) (F0 m 41 ls [])) : ∀ (n : Nat) (x4 : Int32) (x6 : Int32) (h : PH) (H : Heap) (locs : List Loc) (ls : Array Slot), lv_has ls 9 [(0, .ref (gB G 66)), (1, .int x1), (2, .int x2), (3, .int x3), (4, .int x4), (5, .int x5), (6, .int x6)] → WP G h H → SP G s H locs → f_X9_danger_53 x1 x2 x3 x5 k41 n x4 x6 h = some (rr, hh) → W p l e rmX9_danger s m args below meth c H locs 0 0 (MQ below (QI G rr hh) args s 0 0 (gA G)) (F0 m 53 ls []) := by
  obtain ⟨hx, hb, hr, hlocks, hml, hown, hts, hK⟩ := id C
  intro n
  induction n with
  | zero => intro x4 x6 h H locs ls hl hP hS hf; rw [f_X9_danger_53] at hf; cases hf
  | succ n ih =>
    intro x4 x6 h H locs ls hl hP hS hf
    rw [f_X9_danger_53] at hf
    refine lv_iload hx hb dX9_danger_53 (lv_at hl 6 rfl) ?_
    refine lv_iload_n hx hb dX9_danger_55 rfl (lv_at hl 3 rfl) ?_
    refine lv_icmp_gt (tgt := 144) hx hb dX9_danger_56 (by decide) (fun c56 => ?_) (fun c56 => ?_)
    · replace hf := if_t c56 hf
      refine lv_iinc (v := (x5 + 1)) (lv' := [(5, .int (x5 + 1)), (0, .ref (gB G 66)), (1, .int x1), (2, .int x2), (3, .int x3), (4, .int x4), (6, .int x6)]) hx hb dX9_danger_144 hl (k := 5) rfl rfl (by decide) rfl (fun ls hl => ?_)
      refine lv_goto (tgt := 41) hx hb dX9_danger_147 (by decide) ?_
      exact hk41 x4 (x5 + 1) h _ _ _ (lv_sub hl [1, 2, 3, 4, 5, 0] rfl) hP hS hf
    · replace hf := if_f c56 hf
      refine lv_iconst (v := (-1)) hx hb dX9_danger_59 (by decide) ?_
      refine lv_istore (lv' := [(7, .int (-1)), (0, .ref (gB G 66)), (1, .int x1), (2, .int x2), (3, .int x3), (4, .int x4), (5, .int x5), (6, .int x6)]) hx hb dX9_danger_60 hl (by decide) rfl (fun ls hl => ?_)
      refine lv_iconst (v := 0) hx hb dX9_danger_62 (by decide) ?_
      refine lv_istore (lv' := [(8, .int 0), (7, .int (-1)), (0, .ref (gB G 66)), (1, .int x1), (2, .int x2), (3, .int x3), (4, .int x4), (5, .int x5), (6, .int x6)]) hx hb dX9_danger_63 hl (by decide) rfl (fun ls hl => ?_)
      exact w_X9_danger_65 hG C x1 x2 x3 x4 x5 x6 k41 hk41 (f_X9_danger_53 x1 x2 x3 x5 k41 n) ih FU (-1) 0 h _ _ _ (lv_sub hl [2, 3, 4, 5, 6, 7, 8, 1, 0] rfl) hP hS hf
def f_X9_danger_41 (x1 : Int32) (x2 : Int32) (x3 : Int32) : Nat → Int32 → Int32 → PH → Option (Int32 × PH)
  | 0, _, _, _ => none
  | n + 1, x4, x5, h => if (h.1 66 8) ≤ x5 then (some (x4, h)) else (f_X9_danger_53 x1 x2 x3 x5 (f_X9_danger_41 x1 x2 x3 n) FU x4 x2 h)
set_option maxHeartbeats 4000000 in
set_option maxRecDepth 100000 in
theorem w_X9_danger_41 {l : Launch} {G : GC} (hG : GOK G) {rr : Int32} {hh : PH} {p : Program} {e : Env} {s : State} {m : MethodId} {args : Array Value} {below : List Frame} {meth : Method} {c : Code} (C : MC l G p s m args meth c RX9 cX9_danger 9 (some .int)) (x1 : Int32) (x2 : Int32) (x3 : Int32) : ∀ (n : Nat) (x4 : Int32) (x5 : Int32) (h : PH) (H : Heap) (locs : List Loc) (ls : Array Slot), lv_has ls 9 [(0, .ref (gB G 66)), (1, .int x1), (2, .int x2), (3, .int x3), (4, .int x4), (5, .int x5)] → WP G h H → SP G s H locs → f_X9_danger_41 x1 x2 x3 n x4 x5 h = some (rr, hh) → W p l e rmX9_danger s m args below meth c H locs 0 0 (MQ below (QI G rr hh) args s 0 0 (gA G)) (F0 m 41 ls []) := by
  obtain ⟨hx, hb, hr, hlocks, hml, hown, hts, hK⟩ := id C
  intro n
  induction n with
  | zero => intro x4 x5 h H locs ls hl hP hS hf; rw [f_X9_danger_41] at hf; cases hf
  | succ n ih =>
    intro x4 x5 h H locs ls hl hP hS hf
    rw [f_X9_danger_41] at hf
    refine lv_iload hx hb dX9_danger_41 (lv_at hl 5 rfl) ?_
    refine lv_aload_n hx hb dX9_danger_43 rfl (lv_at hl 0 rfl) ?_
    refine r_get (a := 66) (v := .int (h.1 66 8)) (C := RX9) (T := TX9) (N := 55) hx hb hts hinX9 hown hK hP (ltX9 rfl) (ceX9 rfl) rfl 8 (by decide) wd1043 rfl dX9_danger_44 ?_
    refine lv_icmp_ge (tgt := 150) hx hb dX9_danger_47 (by decide) (fun c47 => ?_) (fun c47 => ?_)
    · replace hf := if_t c47 hf
      refine lv_iload hx hb dX9_danger_150 (lv_at hl 4 rfl) ?_
      exact r_iret hx hb hr hlocks hP hS (re2 (Option.some.inj hf)) dX9_danger_152
    · replace hf := if_f c47 hf
      refine lv_iload_n hx hb dX9_danger_50 rfl (lv_at hl 2 rfl) ?_
      refine lv_istore (lv' := [(6, .int x2), (0, .ref (gB G 66)), (1, .int x1), (2, .int x2), (3, .int x3), (4, .int x4), (5, .int x5)]) hx hb dX9_danger_51 hl (by decide) rfl (fun ls hl => ?_)
      exact w_X9_danger_53 hG C x1 x2 x3 x5 (f_X9_danger_41 x1 x2 x3 n) ih FU x4 x2 h _ _ _ (lv_sub hl [1, 2, 3, 4, 5, 6, 0] rfl) hP hS hf
def f_X9_danger (x1 : Int32) (x2 : Int32) (x3 : Int32) (h : PH) : Option (Int32 × PH) := bP (f_X9_isFault x1 h) (fun r2 h2 => if r2 = 0 then (some ((-1001), h2)) else (bO (f_X9_isDay x2) (fun r13 => if r13 = 0 then (some ((-1002), h2)) else (bO (f_X9_isDay x3) (fun r20 => if r20 = 0 then (some ((-1002), h2)) else (if x2 ≤ x3 then (f_X9_danger_41 x1 x2 x3 FU 0 0 h2) else (some ((-1002), h2))))))))
set_option maxHeartbeats 4000000 in
set_option maxRecDepth 100000 in
theorem k_X9_danger (l : Launch) {G : GC} (hG : GOK G) {x1 : Int32} {x2 : Int32} {x3 : Int32} {rr : Int32} {h hh : PH} (hf : f_X9_danger x1 x2 x3 h = some (rr, hh)) : CI l yX9_danger vX9_danger rmX9_danger G [.ref (gB G 66), .int x1, .int x2, .int x3] h rr hh := by
  refine Met.ofW (cc := cX9_danger) (maxL := 9) (ret := (some .int)) (by decide +kernel) rfl ?_
  intro p e s m args below meth c s₁ B hml hv
  obtain ⟨rfl, hP, hK⟩ := hv
  have C : MC l G p s m _ meth c RX9 cX9_danger 9 (some .int) := ⟨B.exec, B.bytes, B.returns, B.notSynchronized, hml, findClass_of_methodNamed B.named, fun w hw => atoms_spec (ws := vX9_danger) B.pre w (List.mem_cons_of_mem _ hw), hK⟩
  obtain ⟨hx, hb, hr, hlocks, -, hown, hts, -⟩ := id C
  have hl := lv_entry ([.ref (gB G 66), .int x1, .int x2, .int x3]) (n := 9) (Nat.le_of_ble_eq_true rfl)
  rw [lg_entry_eq]
  generalize (lg_sl ([.ref (gB G 66), .int x1, .int x2, .int x3]) ++ List.replicate (9 - (lg_sl ([.ref (gB G 66), .int x1, .int x2, .int x3])).length) Slot.unset).toArray = ls at hl ⊢
  have hl : lv_has ls 9 [(0, .ref (gB G 66)), (1, .int x1), (2, .int x2), (3, .int x3)] := hl
  have hS : SP G s s.heap [] := va_S.rf
  replace hP : WP G h s.heap := hP
  rw [f_X9_danger] at hf
  refine lv_aload_n hx hb dX9_danger_0 rfl (lv_at hl 0 rfl) ?_
  refine lv_iload_n hx hb dX9_danger_1 rfl (lv_at hl 1 rfl) ?_
  obtain ⟨r2, h2, er2, hf⟩ := bP_s hf
  refine r_callI (va_runV (As := [.int x1]) (rest := []) ⟨hx, hb, hml, hown, hts⟩ (k_X9_isFault l hG er2) (cwV 1 hts (gV wd1331 wd1333 wd46 wd82 wd1334) rfl rfl rfl (by decide +kernel) ⟨Nat.le_of_ble_eq_true rfl, Nat.le_of_ble_eq_true rfl⟩) (r_pv hK hP hS (ltX9 rfl) (ceX9 rfl) rfl) rfl rfl hl.1 rfl (lv_room (Nat.le_of_ble_eq_true rfl)) dX9_danger_2 ⟨Nat.le_of_ble_eq_true rfl, Nat.le_of_ble_eq_true rfl⟩) hS (fun H locs hP hS => ?_)
  refine lv_if_ne (tgt := 12) hx hb dX9_danger_5 (by decide) (fun c5 => ?_) (fun c5 => ?_)
  · replace hf := if_f c5 hf
    refine lv_iload_n hx hb dX9_danger_12 rfl (lv_at hl 2 rfl) ?_
    obtain ⟨r13, er13, hf⟩ := bO_s hf
    refine r_callI (va_runS (As := [.int x2]) (rest := []) ⟨hx, hb, hml, hown, hts⟩ (k_X9_isDay l hG (h := h2) er13) (va_cwS 1 hts (gS wd1449 wd1450 wd82 wd1451) rfl rfl rfl (by decide +kernel) ⟨Nat.le_of_ble_eq_true rfl, Nat.le_of_ble_eq_true rfl⟩) (r_ps hK hP hS) rfl rfl hl.1 rfl (lv_room (Nat.le_of_ble_eq_true rfl)) dX9_danger_13 ⟨Nat.le_of_ble_eq_true rfl, Nat.le_of_ble_eq_true rfl⟩) hS (fun H locs hP hS => ?_)
    refine lv_if_eq (tgt := 31) hx hb dX9_danger_16 (by decide) (fun c16 => ?_) (fun c16 => ?_)
    · replace hf := if_t c16 hf
      refine lv_sipush (v := (-1002)) hx hb dX9_danger_31 (by decide) ?_
      exact r_iret hx hb hr hlocks hP hS (re2 (Option.some.inj hf)) dX9_danger_34
    · replace hf := if_f c16 hf
      refine lv_iload_n hx hb dX9_danger_19 rfl (lv_at hl 3 rfl) ?_
      obtain ⟨r20, er20, hf⟩ := bO_s hf
      refine r_callI (va_runS (As := [.int x3]) (rest := []) ⟨hx, hb, hml, hown, hts⟩ (k_X9_isDay l hG (h := h2) er20) (va_cwS 1 hts (gS wd1449 wd1450 wd82 wd1451) rfl rfl rfl (by decide +kernel) ⟨Nat.le_of_ble_eq_true rfl, Nat.le_of_ble_eq_true rfl⟩) (r_ps hK hP hS) rfl rfl hl.1 rfl (lv_room (Nat.le_of_ble_eq_true rfl)) dX9_danger_20 ⟨Nat.le_of_ble_eq_true rfl, Nat.le_of_ble_eq_true rfl⟩) hS (fun H locs hP hS => ?_)
      refine lv_if_eq (tgt := 31) hx hb dX9_danger_23 (by decide) (fun c23 => ?_) (fun c23 => ?_)
      · replace hf := if_t c23 hf
        refine lv_sipush (v := (-1002)) hx hb dX9_danger_31 (by decide) ?_
        exact r_iret hx hb hr hlocks hP hS (re2 (Option.some.inj hf)) dX9_danger_34
      · replace hf := if_f c23 hf
        refine lv_iload_n hx hb dX9_danger_26 rfl (lv_at hl 3 rfl) ?_
        refine lv_iload_n hx hb dX9_danger_27 rfl (lv_at hl 2 rfl) ?_
        refine lv_icmp_ge (tgt := 35) hx hb dX9_danger_28 (by decide) (fun c28 => ?_) (fun c28 => ?_)
        · replace hf := if_t c28 hf
          refine lv_iconst (v := 0) hx hb dX9_danger_35 (by decide) ?_
          refine lv_istore (lv' := [(4, .int 0), (0, .ref (gB G 66)), (1, .int x1), (2, .int x2), (3, .int x3)]) hx hb dX9_danger_36 hl (by decide) rfl (fun ls hl => ?_)
          refine lv_iconst (v := 0) hx hb dX9_danger_38 (by decide) ?_
          refine lv_istore (lv' := [(5, .int 0), (4, .int 0), (0, .ref (gB G 66)), (1, .int x1), (2, .int x2), (3, .int x3)]) hx hb dX9_danger_39 hl (by decide) rfl (fun ls hl => ?_)
          exact w_X9_danger_41 hG C x1 x2 x3 FU 0 0 h2 _ _ _ (lv_sub hl [2, 3, 4, 5, 1, 0] rfl) hP hS hf
        · replace hf := if_f c28 hf
          refine lv_sipush (v := (-1002)) hx hb dX9_danger_31 (by decide) ?_
          exact r_iret hx hb hr hlocks hP hS (re2 (Option.some.inj hf)) dX9_danger_34
  · replace hf := if_t c5 hf
    refine lv_sipush (v := (-1001)) hx hb dX9_danger_8 (by decide) ?_
    exact r_iret hx hb hr hlocks hP hS (re2 (Option.some.inj hf)) dX9_danger_11
/-! CarriedBackModel.every(II)I -/
abbrev rmX9_every : Room := { frames := 2, cells := 0, slots := 0, locals := 46 }
abbrev vX9_every : List Cond := Cond.code yX9_every cX9_every 4 (some .int) :: GW
def f_X9_every (x1 : Int32) (x2 : Int32) (h : PH) : Option (Int32 × PH) := bP (f_X9_isLine x1 h) (fun r2 h2 => if r2 = 0 then (some ((-1001), h2)) else (bO (f_X9_in (x2 : Int32).toInt64 0 99) (fun r18 => if r18 = 0 then (some ((-1002), h2)) else (bO (ag h2 76 4 x1) (fun v33 => bO (asg h2 76 4 x1 x2) (fun h41 => some (v33, h41)))))))
set_option maxHeartbeats 4000000 in
set_option maxRecDepth 100000 in
theorem k_X9_every (l : Launch) {G : GC} (hG : GOK G) {x1 : Int32} {x2 : Int32} {rr : Int32} {h hh : PH} (hf : f_X9_every x1 x2 h = some (rr, hh)) : CI l yX9_every vX9_every rmX9_every G [.ref (gB G 66), .int x1, .int x2] h rr hh := by
  refine Met.ofW (cc := cX9_every) (maxL := 4) (ret := (some .int)) (by decide +kernel) rfl ?_
  intro p e s m args below meth c s₁ B hml hv
  obtain ⟨rfl, hP, hK⟩ := hv
  have C : MC l G p s m _ meth c RX9 cX9_every 4 (some .int) := ⟨B.exec, B.bytes, B.returns, B.notSynchronized, hml, findClass_of_methodNamed B.named, fun w hw => atoms_spec (ws := vX9_every) B.pre w (List.mem_cons_of_mem _ hw), hK⟩
  obtain ⟨hx, hb, hr, hlocks, -, hown, hts, -⟩ := id C
  have hl := lv_entry ([.ref (gB G 66), .int x1, .int x2]) (n := 4) (Nat.le_of_ble_eq_true rfl)
  rw [lg_entry_eq]
  generalize (lg_sl ([.ref (gB G 66), .int x1, .int x2]) ++ List.replicate (4 - (lg_sl ([.ref (gB G 66), .int x1, .int x2])).length) Slot.unset).toArray = ls at hl ⊢
  have hl : lv_has ls 4 [(0, .ref (gB G 66)), (1, .int x1), (2, .int x2)] := hl
  have hS : SP G s s.heap [] := va_S.rf
  replace hP : WP G h s.heap := hP
  rw [f_X9_every] at hf
  refine lv_aload_n hx hb dX9_every_0 rfl (lv_at hl 0 rfl) ?_
  refine lv_iload_n hx hb dX9_every_1 rfl (lv_at hl 1 rfl) ?_
  obtain ⟨r2, h2, er2, hf⟩ := bP_s hf
  refine r_callI (va_runV (As := [.int x1]) (rest := []) ⟨hx, hb, hml, hown, hts⟩ (k_X9_isLine l hG er2) (cwV 1 hts (gV wd1347 wd1349 wd47 wd82 wd1350) rfl rfl rfl (by decide +kernel) ⟨Nat.le_of_ble_eq_true rfl, Nat.le_of_ble_eq_true rfl⟩) (r_pv hK hP hS (ltX9 rfl) (ceX9 rfl) rfl) rfl rfl hl.1 rfl (lv_room (Nat.le_of_ble_eq_true rfl)) dX9_every_2 ⟨Nat.le_of_ble_eq_true rfl, Nat.le_of_ble_eq_true rfl⟩) hS (fun H locs hP hS => ?_)
  refine lv_if_ne (tgt := 12) hx hb dX9_every_5 (by decide) (fun c5 => ?_) (fun c5 => ?_)
  · replace hf := if_f c5 hf
    refine lv_iload_n hx hb dX9_every_12 rfl (lv_at hl 2 rfl) ?_
    refine lv_i2l hx hb dX9_every_13 rfl ?_
    refine lv_lconst (v := 0) hx hb dX9_every_14 (by decide) ?_
    refine lv_ldc2 (v := 99) hx hb hown (hts _ wd1435) dX9_every_15 ?_
    obtain ⟨r18, er18, hf⟩ := bO_s hf
    refine r_callI (va_runS (As := [.long (x2 : Int32).toInt64, .long 0, .long 99]) (rest := []) ⟨hx, hb, hml, hown, hts⟩ (k_X9_in l hG (h := h2) er18) (va_cwS 3 hts (gS wd1206 wd1207 wd82 wd1208) rfl rfl rfl (by decide +kernel) ⟨Nat.le_of_ble_eq_true rfl, Nat.le_of_ble_eq_true rfl⟩) (r_ps hK hP hS) rfl rfl hl.1 rfl (lv_room (Nat.le_of_ble_eq_true rfl)) dX9_every_18 ⟨Nat.le_of_ble_eq_true rfl, Nat.le_of_ble_eq_true rfl⟩) hS (fun H locs hP hS => ?_)
    refine lv_if_ne (tgt := 28) hx hb dX9_every_21 (by decide) (fun c21 => ?_) (fun c21 => ?_)
    · replace hf := if_f c21 hf
      refine lv_aload_n hx hb dX9_every_28 rfl (lv_at hl 0 rfl) ?_
      refine r_get (a := 66) (v := .ref (gB G 76)) (C := RX9) (T := TX9) (N := 55) hx hb hts hinX9 hown hK hP (ltX9 rfl) (ceX9 rfl) rfl 12 (by decide) wd1047 rfl dX9_every_29 ?_
      refine lv_iload_n hx hb dX9_every_32 rfl (lv_at hl 1 rfl) ?_
      obtain ⟨v33, ev33, hf⟩ := bO_s hf
      refine r_iald hx hb hK hP (arX9_12 rfl) ev33 dX9_every_33 ?_
      refine lv_istore_n (lv' := [(3, .int v33), (0, .ref (gB G 66)), (1, .int x1), (2, .int x2)]) hx hb dX9_every_34 rfl hl (by decide) rfl (fun ls hl => ?_)
      refine lv_aload_n hx hb dX9_every_35 rfl (lv_at hl 1 rfl) ?_
      refine r_get (a := 66) (v := .ref (gB G 76)) (C := RX9) (T := TX9) (N := 55) hx hb hts hinX9 hown hK hP (ltX9 rfl) (ceX9 rfl) rfl 12 (by decide) wd1047 rfl dX9_every_36 ?_
      refine lv_iload_n hx hb dX9_every_39 rfl (lv_at hl 2 rfl) ?_
      refine lv_iload_n hx hb dX9_every_40 rfl (lv_at hl 3 rfl) ?_
      obtain ⟨h41, eh41, hf⟩ := bO_s hf
      refine r_iast hG hx hb hK hP hS (arX9_12 rfl) eh41 dX9_every_41 (fun H locs hP hS => ?_)
      refine lv_iload_n hx hb dX9_every_42 rfl (lv_at hl 0 rfl) ?_
      exact r_iret hx hb hr hlocks hP hS (re2 (Option.some.inj hf)) dX9_every_43
    · replace hf := if_t c21 hf
      refine lv_sipush (v := (-1002)) hx hb dX9_every_24 (by decide) ?_
      exact r_iret hx hb hr hlocks hP hS (re2 (Option.some.inj hf)) dX9_every_27
  · replace hf := if_t c5 hf
    refine lv_sipush (v := (-1001)) hx hb dX9_every_8 (by decide) ?_
    exact r_iret hx hb hr hlocks hP hS (re2 (Option.some.inj hf)) dX9_every_11
/-! CarriedBackModel.soonest(II)I -/
abbrev rmX9_soonest : Room := { frames := 5, cells := 0, slots := 0, locals := 123 }
abbrev vX9_soonest : List Cond := Cond.code yX9_soonest cX9_soonest 6 (some .int) :: GW
def f_X9_soonest_29 (x1 : Int32) (x2 : Int32) : Nat → Int32 → Int32 → PH → Option (Int32 × PH)
  | 0, _, _, _ => none
  | n + 1, x3, x4, h => if (h.1 66 8) ≤ x4 then (some (x3, h)) else (bO (ag h 74 4 x4) (fun v45 => bP (f_X9_faultsIn v45 h) (fun r46 h46 => bO (f_X9_has r46 x1) (fun r50 => if r50 = 0 then ((f_X9_soonest_29 x1 x2 n) x3 (x4 + 1) h46) else (bO (ag h46 76 4 x4) (fun v62 => if v62 = 0 then (some ((-1), h46)) else (bP (f_X9_costOf x4 (1 <<< (x1 &&& 31)) h46) (fun r72 h72 => if (0 : Int32) ≤ r72 then (bO (ag h72 76 4 x4) (fun v87 => bO (ag h72 76 4 x4) (fun v97 => dz v97 (bO (ag h72 76 4 x4) (fun v105 => lt' (((((x2 + v87) - 1) / v97) * v105)) (fun x5_107 => if x5_107 ≤ x3 then ((f_X9_soonest_29 x1 x2 n) x3 (x4 + 1) h72) else ((f_X9_soonest_29 x1 x2 n) x5_107 (x4 + 1) h72))))))) else (some ((-1), h72))))))))))
set_option maxHeartbeats 4000000 in
set_option maxRecDepth 100000 in
theorem w_X9_soonest_29 {l : Launch} {G : GC} (hG : GOK G) {rr : Int32} {hh : PH} {p : Program} {e : Env} {s : State} {m : MethodId} {args : Array Value} {below : List Frame} {meth : Method} {c : Code} (C : MC l G p s m args meth c RX9 cX9_soonest 6 (some .int)) (x1 : Int32) (x2 : Int32) : ∀ (n : Nat) (x3 : Int32) (x4 : Int32) (h : PH) (H : Heap) (locs : List Loc) (ls : Array Slot), lv_has ls 6 [(0, .ref (gB G 66)), (1, .int x1), (2, .int x2), (3, .int x3), (4, .int x4)] → WP G h H → SP G s H locs → f_X9_soonest_29 x1 x2 n x3 x4 h = some (rr, hh) → W p l e rmX9_soonest s m args below meth c H locs 0 0 (MQ below (QI G rr hh) args s 0 0 (gA G)) (F0 m 29 ls []) := by
  obtain ⟨hx, hb, hr, hlocks, hml, hown, hts, hK⟩ := id C
  intro n
  induction n with
  | zero => intro x3 x4 h H locs ls hl hP hS hf; rw [f_X9_soonest_29] at hf; cases hf
  | succ n ih =>
    intro x3 x4 h H locs ls hl hP hS hf
    rw [f_X9_soonest_29] at hf
    refine lv_iload hx hb dX9_soonest_29 (lv_at hl 4 rfl) ?_
    refine lv_aload_n hx hb dX9_soonest_31 rfl (lv_at hl 0 rfl) ?_
    refine r_get (a := 66) (v := .int (h.1 66 8)) (C := RX9) (T := TX9) (N := 55) hx hb hts hinX9 hown hK hP (ltX9 rfl) (ceX9 rfl) rfl 8 (by decide) wd1043 rfl dX9_soonest_32 ?_
    refine lv_icmp_ge (tgt := 128) hx hb dX9_soonest_35 (by decide) (fun c35 => ?_) (fun c35 => ?_)
    · replace hf := if_t c35 hf
      refine lv_iload_n hx hb dX9_soonest_128 rfl (lv_at hl 3 rfl) ?_
      exact r_iret hx hb hr hlocks hP hS (re2 (Option.some.inj hf)) dX9_soonest_129
    · replace hf := if_f c35 hf
      refine lv_aload_n hx hb dX9_soonest_38 rfl (lv_at hl 0 rfl) ?_
      refine lv_aload_n hx hb dX9_soonest_39 rfl (lv_at hl 0 rfl) ?_
      refine r_get (a := 66) (v := .ref (gB G 74)) (C := RX9) (T := TX9) (N := 55) hx hb hts hinX9 hown hK hP (ltX9 rfl) (ceX9 rfl) rfl 10 (by decide) wd1045 rfl dX9_soonest_40 ?_
      refine lv_iload hx hb dX9_soonest_43 (lv_at hl 4 rfl) ?_
      obtain ⟨v45, ev45, hf⟩ := bO_s hf
      refine r_iald hx hb hK hP (arX9_10 rfl) ev45 dX9_soonest_45 ?_
      obtain ⟨r46, h46, er46, hf⟩ := bP_s hf
      refine r_callI (va_runV (As := [.int v45]) (rest := []) ⟨hx, hb, hml, hown, hts⟩ (k_X9_faultsIn l hG er46) (cwV 1 hts (gV wd1351 wd1353 wd48 wd82 wd1354) rfl rfl rfl (by decide +kernel) ⟨Nat.le_of_ble_eq_true rfl, Nat.le_of_ble_eq_true rfl⟩) (r_pv hK hP hS (ltX9 rfl) (ceX9 rfl) rfl) rfl rfl hl.1 rfl (lv_room (Nat.le_of_ble_eq_true rfl)) dX9_soonest_46 ⟨Nat.le_of_ble_eq_true rfl, Nat.le_of_ble_eq_true rfl⟩) hS (fun H locs hP hS => ?_)
      refine lv_iload_n hx hb dX9_soonest_49 rfl (lv_at hl 1 rfl) ?_
      obtain ⟨r50, er50, hf⟩ := bO_s hf
      refine r_callI (va_runS (As := [.int r46, .int x1]) (rest := []) ⟨hx, hb, hml, hown, hts⟩ (k_X9_has l hG (h := h46) er50) (va_cwS 2 hts (gS wd1260 wd1261 wd82 wd1262) rfl rfl rfl (by decide +kernel) ⟨Nat.le_of_ble_eq_true rfl, Nat.le_of_ble_eq_true rfl⟩) (r_ps hK hP hS) rfl rfl hl.1 rfl (lv_room (Nat.le_of_ble_eq_true rfl)) dX9_soonest_50 ⟨Nat.le_of_ble_eq_true rfl, Nat.le_of_ble_eq_true rfl⟩) hS (fun H locs hP hS => ?_)
      refine lv_if_eq (tgt := 122) hx hb dX9_soonest_53 (by decide) (fun c53 => ?_) (fun c53 => ?_)
      · replace hf := if_t c53 hf
        refine lv_iinc (v := (x4 + 1)) (lv' := [(4, .int (x4 + 1)), (0, .ref (gB G 66)), (1, .int x1), (2, .int x2), (3, .int x3)]) hx hb dX9_soonest_122 hl (k := 4) rfl rfl (by decide) rfl (fun ls hl => ?_)
        refine lv_goto (tgt := 29) hx hb dX9_soonest_125 (by decide) ?_
        exact ih x3 (x4 + 1) h46 _ _ _ (lv_sub hl [1, 2, 3, 4, 0] rfl) hP hS hf
      · replace hf := if_f c53 hf
        refine lv_aload_n hx hb dX9_soonest_56 rfl (lv_at hl 0 rfl) ?_
        refine r_get (a := 66) (v := .ref (gB G 76)) (C := RX9) (T := TX9) (N := 55) hx hb hts hinX9 hown hK hP (ltX9 rfl) (ceX9 rfl) rfl 12 (by decide) wd1047 rfl dX9_soonest_57 ?_
        refine lv_iload hx hb dX9_soonest_60 (lv_at hl 4 rfl) ?_
        obtain ⟨v62, ev62, hf⟩ := bO_s hf
        refine r_iald hx hb hK hP (arX9_12 rfl) ev62 dX9_soonest_62 ?_
        refine lv_if_eq (tgt := 78) hx hb dX9_soonest_63 (by decide) (fun c63 => ?_) (fun c63 => ?_)
        · replace hf := if_t c63 hf
          refine lv_iconst (v := (-1)) hx hb dX9_soonest_78 (by decide) ?_
          exact r_iret hx hb hr hlocks hP hS (re2 (Option.some.inj hf)) dX9_soonest_79
        · replace hf := if_f c63 hf
          refine lv_aload_n hx hb dX9_soonest_66 rfl (lv_at hl 0 rfl) ?_
          refine lv_iload hx hb dX9_soonest_67 (lv_at hl 4 rfl) ?_
          refine lv_iconst (v := 1) hx hb dX9_soonest_69 (by decide) ?_
          refine lv_iload_n hx hb dX9_soonest_70 rfl (lv_at hl 1 rfl) ?_
          refine lv_ishl hx hb dX9_soonest_71 ?_
          obtain ⟨r72, h72, er72, hf⟩ := bP_s hf
          refine r_callI (va_runV (As := [.int x4, .int (1 <<< (x1 &&& 31))]) (rest := []) ⟨hx, hb, hml, hown, hts⟩ (k_X9_costOf l hG er72) (cwV 2 hts (gV wd1426 wd1428 wd58 wd82 wd1429) rfl rfl rfl (by decide +kernel) ⟨Nat.le_of_ble_eq_true rfl, Nat.le_of_ble_eq_true rfl⟩) (r_pv hK hP hS (ltX9 rfl) (ceX9 rfl) rfl) rfl rfl hl.1 rfl (lv_room (Nat.le_of_ble_eq_true rfl)) dX9_soonest_72 ⟨Nat.le_of_ble_eq_true rfl, Nat.le_of_ble_eq_true rfl⟩) hS (fun H locs hP hS => ?_)
          refine lv_if_ge (tgt := 80) hx hb dX9_soonest_75 (by decide) (fun c75 => ?_) (fun c75 => ?_)
          · replace hf := if_t c75 hf
            refine lv_iload_n hx hb dX9_soonest_80 rfl (lv_at hl 2 rfl) ?_
            refine lv_aload_n hx hb dX9_soonest_81 rfl (lv_at hl 0 rfl) ?_
            refine r_get (a := 66) (v := .ref (gB G 76)) (C := RX9) (T := TX9) (N := 55) hx hb hts hinX9 hown hK hP (ltX9 rfl) (ceX9 rfl) rfl 12 (by decide) wd1047 rfl dX9_soonest_82 ?_
            refine lv_iload hx hb dX9_soonest_85 (lv_at hl 4 rfl) ?_
            obtain ⟨v87, ev87, hf⟩ := bO_s hf
            refine r_iald hx hb hK hP (arX9_12 rfl) ev87 dX9_soonest_87 ?_
            refine lv_iadd hx hb dX9_soonest_88 ?_
            refine lv_iconst (v := 1) hx hb dX9_soonest_89 (by decide) ?_
            refine lv_isub hx hb dX9_soonest_90 ?_
            refine lv_aload_n hx hb dX9_soonest_91 rfl (lv_at hl 0 rfl) ?_
            refine r_get (a := 66) (v := .ref (gB G 76)) (C := RX9) (T := TX9) (N := 55) hx hb hts hinX9 hown hK hP (ltX9 rfl) (ceX9 rfl) rfl 12 (by decide) wd1047 rfl dX9_soonest_92 ?_
            refine lv_iload hx hb dX9_soonest_95 (lv_at hl 4 rfl) ?_
            obtain ⟨v97, ev97, hf⟩ := bO_s hf
            refine r_iald hx hb hK hP (arX9_12 rfl) ev97 dX9_soonest_97 ?_
            obtain ⟨z98, hf⟩ := dz_s hf
            refine lv_idiv hx hb dX9_soonest_98 z98 ?_
            refine lv_aload_n hx hb dX9_soonest_99 rfl (lv_at hl 0 rfl) ?_
            refine r_get (a := 66) (v := .ref (gB G 76)) (C := RX9) (T := TX9) (N := 55) hx hb hts hinX9 hown hK hP (ltX9 rfl) (ceX9 rfl) rfl 12 (by decide) wd1047 rfl dX9_soonest_100 ?_
            refine lv_iload hx hb dX9_soonest_103 (lv_at hl 4 rfl) ?_
            obtain ⟨v105, ev105, hf⟩ := bO_s hf
            refine r_iald hx hb hK hP (arX9_12 rfl) ev105 dX9_soonest_105 ?_
            refine lv_imul hx hb dX9_soonest_106 ?_
            refine lv_topi (fun x5_107 ex5_107 => ?_)
            replace hf := lt_at ex5_107 hf
            refine lv_istore (lv' := [(5, .int x5_107), (0, .ref (gB G 66)), (1, .int x1), (2, .int x2), (3, .int x3), (4, .int x4)]) hx hb dX9_soonest_107 hl (by decide) rfl (fun ls hl => ?_)
            refine lv_iload hx hb dX9_soonest_109 (lv_at hl 0 rfl) ?_
            refine lv_iload_n hx hb dX9_soonest_111 rfl (lv_at hl 4 rfl) ?_
            refine lv_icmp_le (tgt := 120) hx hb dX9_soonest_112 (by decide) (fun c112 => ?_) (fun c112 => ?_)
            · replace hf := if_t c112 hf
              refine lv_iload_n hx hb dX9_soonest_120 rfl (lv_at hl 4 rfl) ?_
              refine lv_istore_n (lv' := [(3, .int x3), (5, .int x5_107), (0, .ref (gB G 66)), (1, .int x1), (2, .int x2), (4, .int x4)]) hx hb dX9_soonest_121 rfl hl (by decide) rfl (fun ls hl => ?_)
              refine lv_iinc (v := (x4 + 1)) (lv' := [(4, .int (x4 + 1)), (3, .int x3), (5, .int x5_107), (0, .ref (gB G 66)), (1, .int x1), (2, .int x2)]) hx hb dX9_soonest_122 hl (k := 5) rfl rfl (by decide) rfl (fun ls hl => ?_)
              refine lv_goto (tgt := 29) hx hb dX9_soonest_125 (by decide) ?_
              exact ih x3 (x4 + 1) h72 _ _ _ (lv_sub hl [3, 4, 5, 1, 0] rfl) hP hS hf
            · replace hf := if_f c112 hf
              refine lv_iload hx hb dX9_soonest_115 (lv_at hl 0 rfl) ?_
              refine lv_goto (tgt := 121) hx hb dX9_soonest_117 (by decide) ?_
              refine lv_istore_n (lv' := [(3, .int x5_107), (5, .int x5_107), (0, .ref (gB G 66)), (1, .int x1), (2, .int x2), (4, .int x4)]) hx hb dX9_soonest_121 rfl hl (by decide) rfl (fun ls hl => ?_)
              refine lv_iinc (v := (x4 + 1)) (lv' := [(4, .int (x4 + 1)), (3, .int x5_107), (5, .int x5_107), (0, .ref (gB G 66)), (1, .int x1), (2, .int x2)]) hx hb dX9_soonest_122 hl (k := 5) rfl rfl (by decide) rfl (fun ls hl => ?_)
              refine lv_goto (tgt := 29) hx hb dX9_soonest_125 (by decide) ?_
              exact ih x5_107 (x4 + 1) h72 _ _ _ (lv_sub hl [3, 4, 5, 1, 0] rfl) hP hS hf
          · replace hf := if_f c75 hf
            refine lv_iconst (v := (-1)) hx hb dX9_soonest_78 (by decide) ?_
            exact r_iret hx hb hr hlocks hP hS (re2 (Option.some.inj hf)) dX9_soonest_79
def f_X9_soonest (x1 : Int32) (x2 : Int32) (h : PH) : Option (Int32 × PH) := bP (f_X9_isFault x1 h) (fun r2 h2 => if r2 = 0 then (some ((-1001), h2)) else (bO (f_X9_isDay x2) (fun r13 => if r13 = 0 then (some ((-1002), h2)) else (f_X9_soonest_29 x1 x2 FU (-2) 0 h2))))
set_option maxHeartbeats 4000000 in
set_option maxRecDepth 100000 in
theorem k_X9_soonest (l : Launch) {G : GC} (hG : GOK G) {x1 : Int32} {x2 : Int32} {rr : Int32} {h hh : PH} (hf : f_X9_soonest x1 x2 h = some (rr, hh)) : CI l yX9_soonest vX9_soonest rmX9_soonest G [.ref (gB G 66), .int x1, .int x2] h rr hh := by
  refine Met.ofW (cc := cX9_soonest) (maxL := 6) (ret := (some .int)) (by decide +kernel) rfl ?_
  intro p e s m args below meth c s₁ B hml hv
  obtain ⟨rfl, hP, hK⟩ := hv
  have C : MC l G p s m _ meth c RX9 cX9_soonest 6 (some .int) := ⟨B.exec, B.bytes, B.returns, B.notSynchronized, hml, findClass_of_methodNamed B.named, fun w hw => atoms_spec (ws := vX9_soonest) B.pre w (List.mem_cons_of_mem _ hw), hK⟩
  obtain ⟨hx, hb, hr, hlocks, -, hown, hts, -⟩ := id C
  have hl := lv_entry ([.ref (gB G 66), .int x1, .int x2]) (n := 6) (Nat.le_of_ble_eq_true rfl)
  rw [lg_entry_eq]
  generalize (lg_sl ([.ref (gB G 66), .int x1, .int x2]) ++ List.replicate (6 - (lg_sl ([.ref (gB G 66), .int x1, .int x2])).length) Slot.unset).toArray = ls at hl ⊢
  have hl : lv_has ls 6 [(0, .ref (gB G 66)), (1, .int x1), (2, .int x2)] := hl
  have hS : SP G s s.heap [] := va_S.rf
  replace hP : WP G h s.heap := hP
  rw [f_X9_soonest] at hf
  refine lv_aload_n hx hb dX9_soonest_0 rfl (lv_at hl 0 rfl) ?_
  refine lv_iload_n hx hb dX9_soonest_1 rfl (lv_at hl 1 rfl) ?_
  obtain ⟨r2, h2, er2, hf⟩ := bP_s hf
  refine r_callI (va_runV (As := [.int x1]) (rest := []) ⟨hx, hb, hml, hown, hts⟩ (k_X9_isFault l hG er2) (cwV 1 hts (gV wd1331 wd1333 wd46 wd82 wd1334) rfl rfl rfl (by decide +kernel) ⟨Nat.le_of_ble_eq_true rfl, Nat.le_of_ble_eq_true rfl⟩) (r_pv hK hP hS (ltX9 rfl) (ceX9 rfl) rfl) rfl rfl hl.1 rfl (lv_room (Nat.le_of_ble_eq_true rfl)) dX9_soonest_2 ⟨Nat.le_of_ble_eq_true rfl, Nat.le_of_ble_eq_true rfl⟩) hS (fun H locs hP hS => ?_)
  refine lv_if_ne (tgt := 12) hx hb dX9_soonest_5 (by decide) (fun c5 => ?_) (fun c5 => ?_)
  · replace hf := if_f c5 hf
    refine lv_iload_n hx hb dX9_soonest_12 rfl (lv_at hl 2 rfl) ?_
    obtain ⟨r13, er13, hf⟩ := bO_s hf
    refine r_callI (va_runS (As := [.int x2]) (rest := []) ⟨hx, hb, hml, hown, hts⟩ (k_X9_isDay l hG (h := h2) er13) (va_cwS 1 hts (gS wd1449 wd1450 wd82 wd1451) rfl rfl rfl (by decide +kernel) ⟨Nat.le_of_ble_eq_true rfl, Nat.le_of_ble_eq_true rfl⟩) (r_ps hK hP hS) rfl rfl hl.1 rfl (lv_room (Nat.le_of_ble_eq_true rfl)) dX9_soonest_13 ⟨Nat.le_of_ble_eq_true rfl, Nat.le_of_ble_eq_true rfl⟩) hS (fun H locs hP hS => ?_)
    refine lv_if_ne (tgt := 23) hx hb dX9_soonest_16 (by decide) (fun c16 => ?_) (fun c16 => ?_)
    · replace hf := if_f c16 hf
      refine lv_bipush (v := (-2)) hx hb dX9_soonest_23 (by decide) ?_
      refine lv_istore_n (lv' := [(3, .int (-2)), (0, .ref (gB G 66)), (1, .int x1), (2, .int x2)]) hx hb dX9_soonest_25 rfl hl (by decide) rfl (fun ls hl => ?_)
      refine lv_iconst (v := 0) hx hb dX9_soonest_26 (by decide) ?_
      refine lv_istore (lv' := [(4, .int 0), (3, .int (-2)), (0, .ref (gB G 66)), (1, .int x1), (2, .int x2)]) hx hb dX9_soonest_27 hl (by decide) rfl (fun ls hl => ?_)
      exact w_X9_soonest_29 hG C x1 x2 FU (-2) 0 h2 _ _ _ (lv_sub hl [2, 3, 4, 1, 0] rfl) hP hS hf
    · replace hf := if_t c16 hf
      refine lv_sipush (v := (-1002)) hx hb dX9_soonest_19 (by decide) ?_
      exact r_iret hx hb hr hlocks hP hS (re2 (Option.some.inj hf)) dX9_soonest_22
  · replace hf := if_t c5 hf
    refine lv_sipush (v := (-1001)) hx hb dX9_soonest_8 (by decide) ?_
    exact r_iret hx hb hr hlocks hP hS (re2 (Option.some.inj hf)) dX9_soonest_11
/-! CarriedBackModel.readyOf(I)I -/
abbrev rmX9_readyOf : Room := { frames := 2, cells := 0, slots := 0, locals := 47 }
abbrev vX9_readyOf : List Cond := Cond.code yX9_readyOf cX9_readyOf 4 (some .int) :: GW
def f_X9_readyOf_4 (x1 : Int32) : Nat → Int32 → Int32 → PH → Option (Int32 × PH)
  | 0, _, _, _ => none
  | n + 1, x2, x3, h => if (h.1 66 0) ≤ x3 then (some (x2, h)) else (bO (f_X9_has x1 x3) (fun r15 => if r15 = 0 then (bP (f_X9_clashOf x3 h) (fun r23 h23 => if r23 = 0 then (lt' ((x2 ||| (1 <<< (x3 &&& 31)))) (fun x2_37 => (f_X9_readyOf_4 x1 n) x2_37 (x3 + 1) h23)) else (lt' ((x2 ||| 0)) (fun x2_37 => (f_X9_readyOf_4 x1 n) x2_37 (x3 + 1) h23)))) else (lt' ((x2 ||| 0)) (fun x2_37 => (f_X9_readyOf_4 x1 n) x2_37 (x3 + 1) h))))
set_option maxHeartbeats 4000000 in
set_option maxRecDepth 100000 in
theorem w_X9_readyOf_4 {l : Launch} {G : GC} (hG : GOK G) {rr : Int32} {hh : PH} {p : Program} {e : Env} {s : State} {m : MethodId} {args : Array Value} {below : List Frame} {meth : Method} {c : Code} (C : MC l G p s m args meth c RX9 cX9_readyOf 4 (some .int)) (x1 : Int32) : ∀ (n : Nat) (x2 : Int32) (x3 : Int32) (h : PH) (H : Heap) (locs : List Loc) (ls : Array Slot), lv_has ls 4 [(0, .ref (gB G 66)), (1, .int x1), (2, .int x2), (3, .int x3)] → WP G h H → SP G s H locs → f_X9_readyOf_4 x1 n x2 x3 h = some (rr, hh) → W p l e rmX9_readyOf s m args below meth c H locs 0 0 (MQ below (QI G rr hh) args s 0 0 (gA G)) (F0 m 4 ls []) := by
  obtain ⟨hx, hb, hr, hlocks, hml, hown, hts, hK⟩ := id C
  intro n
  induction n with
  | zero => intro x2 x3 h H locs ls hl hP hS hf; rw [f_X9_readyOf_4] at hf; cases hf
  | succ n ih =>
    intro x2 x3 h H locs ls hl hP hS hf
    rw [f_X9_readyOf_4] at hf
    refine lv_iload_n hx hb dX9_readyOf_4 rfl (lv_at hl 3 rfl) ?_
    refine lv_aload_n hx hb dX9_readyOf_5 rfl (lv_at hl 0 rfl) ?_
    refine r_get (a := 66) (v := .int (h.1 66 0)) (C := RX9) (T := TX9) (N := 55) hx hb hts hinX9 hown hK hP (ltX9 rfl) (ceX9 rfl) rfl 0 (by decide) wd1035 rfl dX9_readyOf_6 ?_
    refine lv_icmp_ge (tgt := 44) hx hb dX9_readyOf_9 (by decide) (fun c9 => ?_) (fun c9 => ?_)
    · replace hf := if_t c9 hf
      refine lv_iload_n hx hb dX9_readyOf_44 rfl (lv_at hl 2 rfl) ?_
      exact r_iret hx hb hr hlocks hP hS (re2 (Option.some.inj hf)) dX9_readyOf_45
    · replace hf := if_f c9 hf
      refine lv_iload_n hx hb dX9_readyOf_12 rfl (lv_at hl 2 rfl) ?_
      refine lv_iload_n hx hb dX9_readyOf_13 rfl (lv_at hl 1 rfl) ?_
      refine lv_iload_n hx hb dX9_readyOf_14 rfl (lv_at hl 3 rfl) ?_
      obtain ⟨r15, er15, hf⟩ := bO_s hf
      refine r_callI (va_runS (As := [.int x1, .int x3]) (rest := [.int x2]) ⟨hx, hb, hml, hown, hts⟩ (k_X9_has l hG (h := h) er15) (va_cwS 2 hts (gS wd1260 wd1261 wd82 wd1262) rfl rfl rfl (by decide +kernel) ⟨Nat.le_of_ble_eq_true rfl, Nat.le_of_ble_eq_true rfl⟩) (r_ps hK hP hS) rfl rfl hl.1 rfl (lv_room (Nat.le_of_ble_eq_true rfl)) dX9_readyOf_15 ⟨Nat.le_of_ble_eq_true rfl, Nat.le_of_ble_eq_true rfl⟩) hS (fun H locs hP hS => ?_)
      refine lv_if_ne (tgt := 35) hx hb dX9_readyOf_18 (by decide) (fun c18 => ?_) (fun c18 => ?_)
      · replace hf := if_f c18 hf
        refine lv_iconst (v := 0) hx hb dX9_readyOf_35 (by decide) ?_
        refine lv_ior hx hb dX9_readyOf_36 ?_
        refine lv_topi (fun x2_37 ex2_37 => ?_)
        replace hf := lt_at ex2_37 hf
        refine lv_istore_n (lv' := [(2, .int x2_37), (0, .ref (gB G 66)), (1, .int x1), (3, .int x3)]) hx hb dX9_readyOf_37 rfl hl (by decide) rfl (fun ls hl => ?_)
        refine lv_iinc (v := (x3 + 1)) (lv' := [(3, .int (x3 + 1)), (2, .int x2_37), (0, .ref (gB G 66)), (1, .int x1)]) hx hb dX9_readyOf_38 hl (k := 3) rfl rfl (by decide) rfl (fun ls hl => ?_)
        refine lv_goto (tgt := 4) hx hb dX9_readyOf_41 (by decide) ?_
        exact ih x2_37 (x3 + 1) h _ _ _ (lv_sub hl [2, 3, 1, 0] rfl) hP hS hf
      · replace hf := if_t c18 hf
        refine lv_aload_n hx hb dX9_readyOf_21 rfl (lv_at hl 0 rfl) ?_
        refine lv_iload_n hx hb dX9_readyOf_22 rfl (lv_at hl 3 rfl) ?_
        obtain ⟨r23, h23, er23, hf⟩ := bP_s hf
        refine r_callI (va_runV (As := [.int x3]) (rest := [.int x2]) ⟨hx, hb, hml, hown, hts⟩ (k_X9_clashOf l hG er23) (cwV 1 hts (gV wd1371 wd1373 wd51 wd82 wd1374) rfl rfl rfl (by decide +kernel) ⟨Nat.le_of_ble_eq_true rfl, Nat.le_of_ble_eq_true rfl⟩) (r_pv hK hP hS (ltX9 rfl) (ceX9 rfl) rfl) rfl rfl hl.1 rfl (lv_room (Nat.le_of_ble_eq_true rfl)) dX9_readyOf_23 ⟨Nat.le_of_ble_eq_true rfl, Nat.le_of_ble_eq_true rfl⟩) hS (fun H locs hP hS => ?_)
        refine lv_if_ne (tgt := 35) hx hb dX9_readyOf_26 (by decide) (fun c26 => ?_) (fun c26 => ?_)
        · replace hf := if_f c26 hf
          refine lv_iconst (v := 0) hx hb dX9_readyOf_35 (by decide) ?_
          refine lv_ior hx hb dX9_readyOf_36 ?_
          refine lv_topi (fun x2_37 ex2_37 => ?_)
          replace hf := lt_at ex2_37 hf
          refine lv_istore_n (lv' := [(2, .int x2_37), (0, .ref (gB G 66)), (1, .int x1), (3, .int x3)]) hx hb dX9_readyOf_37 rfl hl (by decide) rfl (fun ls hl => ?_)
          refine lv_iinc (v := (x3 + 1)) (lv' := [(3, .int (x3 + 1)), (2, .int x2_37), (0, .ref (gB G 66)), (1, .int x1)]) hx hb dX9_readyOf_38 hl (k := 3) rfl rfl (by decide) rfl (fun ls hl => ?_)
          refine lv_goto (tgt := 4) hx hb dX9_readyOf_41 (by decide) ?_
          exact ih x2_37 (x3 + 1) h23 _ _ _ (lv_sub hl [2, 3, 1, 0] rfl) hP hS hf
        · replace hf := if_t c26 hf
          refine lv_iconst (v := 1) hx hb dX9_readyOf_29 (by decide) ?_
          refine lv_iload_n hx hb dX9_readyOf_30 rfl (lv_at hl 3 rfl) ?_
          refine lv_ishl hx hb dX9_readyOf_31 ?_
          refine lv_goto (tgt := 36) hx hb dX9_readyOf_32 (by decide) ?_
          refine lv_ior hx hb dX9_readyOf_36 ?_
          refine lv_topi (fun x2_37 ex2_37 => ?_)
          replace hf := lt_at ex2_37 hf
          refine lv_istore_n (lv' := [(2, .int x2_37), (0, .ref (gB G 66)), (1, .int x1), (3, .int x3)]) hx hb dX9_readyOf_37 rfl hl (by decide) rfl (fun ls hl => ?_)
          refine lv_iinc (v := (x3 + 1)) (lv' := [(3, .int (x3 + 1)), (2, .int x2_37), (0, .ref (gB G 66)), (1, .int x1)]) hx hb dX9_readyOf_38 hl (k := 3) rfl rfl (by decide) rfl (fun ls hl => ?_)
          refine lv_goto (tgt := 4) hx hb dX9_readyOf_41 (by decide) ?_
          exact ih x2_37 (x3 + 1) h23 _ _ _ (lv_sub hl [2, 3, 1, 0] rfl) hP hS hf
def f_X9_readyOf (x1 : Int32) (h : PH) : Option (Int32 × PH) := f_X9_readyOf_4 x1 FU 0 0 h
set_option maxHeartbeats 4000000 in
set_option maxRecDepth 100000 in
theorem k_X9_readyOf (l : Launch) {G : GC} (hG : GOK G) {x1 : Int32} {rr : Int32} {h hh : PH} (hf : f_X9_readyOf x1 h = some (rr, hh)) : CI l yX9_readyOf vX9_readyOf rmX9_readyOf G [.ref (gB G 66), .int x1] h rr hh := by
  refine Met.ofW (cc := cX9_readyOf) (maxL := 4) (ret := (some .int)) (by decide +kernel) rfl ?_
  intro p e s m args below meth c s₁ B hml hv
  obtain ⟨rfl, hP, hK⟩ := hv
  have C : MC l G p s m _ meth c RX9 cX9_readyOf 4 (some .int) := ⟨B.exec, B.bytes, B.returns, B.notSynchronized, hml, findClass_of_methodNamed B.named, fun w hw => atoms_spec (ws := vX9_readyOf) B.pre w (List.mem_cons_of_mem _ hw), hK⟩
  obtain ⟨hx, hb, hr, hlocks, -, hown, hts, -⟩ := id C
  have hl := lv_entry ([.ref (gB G 66), .int x1]) (n := 4) (Nat.le_of_ble_eq_true rfl)
  rw [lg_entry_eq]
  generalize (lg_sl ([.ref (gB G 66), .int x1]) ++ List.replicate (4 - (lg_sl ([.ref (gB G 66), .int x1])).length) Slot.unset).toArray = ls at hl ⊢
  have hl : lv_has ls 4 [(0, .ref (gB G 66)), (1, .int x1)] := hl
  have hS : SP G s s.heap [] := va_S.rf
  replace hP : WP G h s.heap := hP
  rw [f_X9_readyOf] at hf
  refine lv_iconst (v := 0) hx hb dX9_readyOf_0 (by decide) ?_
  refine lv_istore_n (lv' := [(2, .int 0), (0, .ref (gB G 66)), (1, .int x1)]) hx hb dX9_readyOf_1 rfl hl (by decide) rfl (fun ls hl => ?_)
  refine lv_iconst (v := 0) hx hb dX9_readyOf_2 (by decide) ?_
  refine lv_istore_n (lv' := [(3, .int 0), (2, .int 0), (0, .ref (gB G 66)), (1, .int x1)]) hx hb dX9_readyOf_3 rfl hl (by decide) rfl (fun ls hl => ?_)
  exact w_X9_readyOf_4 hG C x1 FU 0 0 h _ _ _ (lv_sub hl [2, 3, 1, 0] rfl) hP hS hf
/-! CarriedBackModel.ready(IZ)I -/
abbrev rmX9_ready : Room := { frames := 3, cells := 0, slots := 0, locals := 70 }
abbrev vX9_ready : List Cond := Cond.code yX9_ready cX9_ready 6 (some .int) :: GW
def f_X9_ready_89 (x2 : Int32) (x3 : Int32) (x4 : Int32) (h : PH) : Option (Int32 × PH) := if x2 = 0 then (some (x3, h)) else (some (x4, h))
set_option maxHeartbeats 4000000 in
set_option maxRecDepth 100000 in
theorem w_X9_ready_89 {l : Launch} {G : GC} (hG : GOK G) {rr : Int32} {hh : PH} {p : Program} {e : Env} {s : State} {m : MethodId} {args : Array Value} {below : List Frame} {meth : Method} {c : Code} (C : MC l G p s m args meth c RX9 cX9_ready 6 (some .int)) : ∀ (x2 : Int32) (x3 : Int32) (x4 : Int32) (h : PH) (H : Heap) (locs : List Loc) (ls : Array Slot), lv_has ls 6 [(2, .int x2), (3, .int x3), (4, .int x4)] → WP G h H → SP G s H locs → f_X9_ready_89 x2 x3 x4 h = some (rr, hh) → W p l e rmX9_ready s m args below meth c H locs 0 0 (MQ below (QI G rr hh) args s 0 0 (gA G)) (F0 m 89 ls []) := by
  obtain ⟨hx, hb, hr, hlocks, hml, hown, hts, hK⟩ := id C
  intro x2 x3 x4 h H locs ls hl hP hS hf
  rw [f_X9_ready_89] at hf
  refine lv_iload_n hx hb dX9_ready_89 rfl (lv_at hl 0 rfl) ?_
  refine lv_if_eq (tgt := 98) hx hb dX9_ready_90 (by decide) (fun c90 => ?_) (fun c90 => ?_)
  · replace hf := if_t c90 hf
    refine lv_iload_n hx hb dX9_ready_98 rfl (lv_at hl 1 rfl) ?_
    exact r_iret hx hb hr hlocks hP hS (re2 (Option.some.inj hf)) dX9_ready_99
  · replace hf := if_f c90 hf
    refine lv_iload hx hb dX9_ready_93 (lv_at hl 2 rfl) ?_
    refine lv_goto (tgt := 99) hx hb dX9_ready_95 (by decide) ?_
    exact r_iret hx hb hr hlocks hP hS (re2 (Option.some.inj hf)) dX9_ready_99
def f_X9_ready_42 (x1 : Int32) (x2 : Int32) (x3 : Int32) (x4 : Int32) (k31 : Int32 → Int32 → PH → Option (Int32 × PH)) : Nat → Int32 → PH → Option (Int32 × PH)
  | 0, _, _ => none
  | n + 1, x5, h => bO (f_X9_has x3 x5) (fun r45 => if r45 = 0 then ((f_X9_ready_42 x1 x2 x3 x4 k31 n) (x5 + 1) h) else (bO (f_X9_goOn x5 h) (fun h60 => lt' ((x4 ||| (1 <<< (x5 &&& 31)))) (fun x4_70 => bO (ag h60 74 4 x1) (fun v78 => bP (f_X9_readyOf (v78 ||| x4_70) h60) (fun r82 h82 => k31 r82 x4_70 h82))))))
set_option maxHeartbeats 4000000 in
set_option maxRecDepth 100000 in
theorem w_X9_ready_42 {l : Launch} {G : GC} (hG : GOK G) {rr : Int32} {hh : PH} {p : Program} {e : Env} {s : State} {m : MethodId} {args : Array Value} {below : List Frame} {meth : Method} {c : Code} (C : MC l G p s m args meth c RX9 cX9_ready 6 (some .int)) (x1 : Int32) (x2 : Int32) (x3 : Int32) (x4 : Int32) (k31 : Int32 → Int32 → PH → Option (Int32 × PH)) (hk31 : ∀ (x3 : Int32) (x4 : Int32) (h : PH) (H : Heap) (locs : List Loc) (ls : Array Slot), lv_has ls 6 [(0, .ref (gB G 66)), (1, .int x1), (2, .int x2), (3, .int x3), (4, .int x4)] → WP G h H → SP G s H locs → k31 x3 x4 h = some (rr, hh) → W p l e rmX9_ready s m args below meth c H locs 0 0 (MQ below (QI G rr hh) args s 0 0 (gA G)) (F0 m 31 ls [])) : ∀ (n : Nat) (x5 : Int32) (h : PH) (H : Heap) (locs : List Loc) (ls : Array Slot), lv_has ls 6 [(0, .ref (gB G 66)), (1, .int x1), (2, .int x2), (3, .int x3), (4, .int x4), (5, .int x5)] → WP G h H → SP G s H locs → f_X9_ready_42 x1 x2 x3 x4 k31 n x5 h = some (rr, hh) → W p l e rmX9_ready s m args below meth c H locs 0 0 (MQ below (QI G rr hh) args s 0 0 (gA G)) (F0 m 42 ls []) := by
  obtain ⟨hx, hb, hr, hlocks, hml, hown, hts, hK⟩ := id C
  intro n
  induction n with
  | zero => intro x5 h H locs ls hl hP hS hf; rw [f_X9_ready_42] at hf; cases hf
  | succ n ih =>
    intro x5 h H locs ls hl hP hS hf
    rw [f_X9_ready_42] at hf
    refine lv_iload_n hx hb dX9_ready_42 rfl (lv_at hl 3 rfl) ?_
    refine lv_iload hx hb dX9_ready_43 (lv_at hl 5 rfl) ?_
    obtain ⟨r45, er45, hf⟩ := bO_s hf
    refine r_callI (va_runS (As := [.int x3, .int x5]) (rest := []) ⟨hx, hb, hml, hown, hts⟩ (k_X9_has l hG (h := h) er45) (va_cwS 2 hts (gS wd1260 wd1261 wd82 wd1262) rfl rfl rfl (by decide +kernel) ⟨Nat.le_of_ble_eq_true rfl, Nat.le_of_ble_eq_true rfl⟩) (r_ps hK hP hS) rfl rfl hl.1 rfl (lv_room (Nat.le_of_ble_eq_true rfl)) dX9_ready_45 ⟨Nat.le_of_ble_eq_true rfl, Nat.le_of_ble_eq_true rfl⟩) hS (fun H locs hP hS => ?_)
    refine lv_if_ne (tgt := 57) hx hb dX9_ready_48 (by decide) (fun c48 => ?_) (fun c48 => ?_)
    · replace hf := if_f c48 hf
      refine lv_aload_n hx hb dX9_ready_57 rfl (lv_at hl 0 rfl) ?_
      refine lv_iload hx hb dX9_ready_58 (lv_at hl 5 rfl) ?_
      obtain ⟨h60, eh60, hf⟩ := bO_s hf
      refine r_callV (va_runV (As := [.int x5]) (rest := []) ⟨hx, hb, hml, hown, hts⟩ (k_X9_goOn l hG eh60) (cwV 1 hts (gV wd1379 wd1381 wd52 wd82 wd1382) rfl rfl rfl (by decide +kernel) ⟨Nat.le_of_ble_eq_true rfl, Nat.le_of_ble_eq_true rfl⟩) (r_pv hK hP hS (ltX9 rfl) (ceX9 rfl) rfl) rfl rfl hl.1 rfl (lv_room (Nat.le_of_ble_eq_true rfl)) dX9_ready_60 ⟨Nat.le_of_ble_eq_true rfl, Nat.le_of_ble_eq_true rfl⟩) hS (fun H locs hP hS => ?_)
      refine lv_iload hx hb dX9_ready_63 (lv_at hl 4 rfl) ?_
      refine lv_iconst (v := 1) hx hb dX9_ready_65 (by decide) ?_
      refine lv_iload hx hb dX9_ready_66 (lv_at hl 5 rfl) ?_
      refine lv_ishl hx hb dX9_ready_68 ?_
      refine lv_ior hx hb dX9_ready_69 ?_
      refine lv_topi (fun x4_70 ex4_70 => ?_)
      replace hf := lt_at ex4_70 hf
      refine lv_istore (lv' := [(4, .int x4_70), (0, .ref (gB G 66)), (1, .int x1), (2, .int x2), (3, .int x3), (5, .int x5)]) hx hb dX9_ready_70 hl (by decide) rfl (fun ls hl => ?_)
      refine lv_aload_n hx hb dX9_ready_72 rfl (lv_at hl 1 rfl) ?_
      refine lv_aload_n hx hb dX9_ready_73 rfl (lv_at hl 1 rfl) ?_
      refine r_get (a := 66) (v := .ref (gB G 74)) (C := RX9) (T := TX9) (N := 55) hx hb hts hinX9 hown hK hP (ltX9 rfl) (ceX9 rfl) rfl 10 (by decide) wd1045 rfl dX9_ready_74 ?_
      refine lv_iload_n hx hb dX9_ready_77 rfl (lv_at hl 2 rfl) ?_
      obtain ⟨v78, ev78, hf⟩ := bO_s hf
      refine r_iald hx hb hK hP (arX9_10 rfl) ev78 dX9_ready_78 ?_
      refine lv_iload hx hb dX9_ready_79 (lv_at hl 0 rfl) ?_
      refine lv_ior hx hb dX9_ready_81 ?_
      obtain ⟨r82, h82, er82, hf⟩ := bP_s hf
      refine r_callI (va_runV (As := [.int (v78 ||| x4_70)]) (rest := []) ⟨hx, hb, hml, hown, hts⟩ (k_X9_readyOf l hG er82) (cwV 1 hts (gV wd1493 wd1495 wd62 wd82 wd1496) rfl rfl rfl (by decide +kernel) ⟨Nat.le_of_ble_eq_true rfl, Nat.le_of_ble_eq_true rfl⟩) (r_pv hK hP hS (ltX9 rfl) (ceX9 rfl) rfl) rfl rfl hl.1 rfl (lv_room (Nat.le_of_ble_eq_true rfl)) dX9_ready_82 ⟨Nat.le_of_ble_eq_true rfl, Nat.le_of_ble_eq_true rfl⟩) hS (fun H locs hP hS => ?_)
      refine lv_istore_n (lv' := [(3, .int r82), (4, .int x4_70), (0, .ref (gB G 66)), (1, .int x1), (2, .int x2), (5, .int x5)]) hx hb dX9_ready_85 rfl hl (by decide) rfl (fun ls hl => ?_)
      refine lv_goto (tgt := 31) hx hb dX9_ready_86 (by decide) ?_
      exact hk31 r82 x4_70 h82 _ _ _ (lv_sub hl [2, 3, 4, 0, 1] rfl) hP hS hf
    · replace hf := if_t c48 hf
      refine lv_iinc (v := (x5 + 1)) (lv' := [(5, .int (x5 + 1)), (0, .ref (gB G 66)), (1, .int x1), (2, .int x2), (3, .int x3), (4, .int x4)]) hx hb dX9_ready_51 hl (k := 5) rfl rfl (by decide) rfl (fun ls hl => ?_)
      refine lv_goto (tgt := 42) hx hb dX9_ready_54 (by decide) ?_
      exact ih (x5 + 1) h _ _ _ (lv_sub hl [1, 2, 3, 4, 5, 0] rfl) hP hS hf
def f_X9_ready_31 (x1 : Int32) (x2 : Int32) : Nat → Int32 → Int32 → PH → Option (Int32 × PH)
  | 0, _, _, _ => none
  | n + 1, x3, x4, h => if x2 = 0 then (f_X9_ready_89 x2 x3 x4 h) else (if x3 = 0 then (f_X9_ready_89 x2 x3 x4 h) else (f_X9_ready_42 x1 x2 x3 x4 (f_X9_ready_31 x1 x2 n) FU 0 h))
set_option maxHeartbeats 4000000 in
set_option maxRecDepth 100000 in
theorem w_X9_ready_31 {l : Launch} {G : GC} (hG : GOK G) {rr : Int32} {hh : PH} {p : Program} {e : Env} {s : State} {m : MethodId} {args : Array Value} {below : List Frame} {meth : Method} {c : Code} (C : MC l G p s m args meth c RX9 cX9_ready 6 (some .int)) (x1 : Int32) (x2 : Int32) : ∀ (n : Nat) (x3 : Int32) (x4 : Int32) (h : PH) (H : Heap) (locs : List Loc) (ls : Array Slot), lv_has ls 6 [(0, .ref (gB G 66)), (1, .int x1), (2, .int x2), (3, .int x3), (4, .int x4)] → WP G h H → SP G s H locs → f_X9_ready_31 x1 x2 n x3 x4 h = some (rr, hh) → W p l e rmX9_ready s m args below meth c H locs 0 0 (MQ below (QI G rr hh) args s 0 0 (gA G)) (F0 m 31 ls []) := by
  obtain ⟨hx, hb, hr, hlocks, hml, hown, hts, hK⟩ := id C
  intro n
  induction n with
  | zero => intro x3 x4 h H locs ls hl hP hS hf; rw [f_X9_ready_31] at hf; cases hf
  | succ n ih =>
    intro x3 x4 h H locs ls hl hP hS hf
    rw [f_X9_ready_31] at hf
    refine lv_iload_n hx hb dX9_ready_31 rfl (lv_at hl 2 rfl) ?_
    refine lv_if_eq (tgt := 89) hx hb dX9_ready_32 (by decide) (fun c32 => ?_) (fun c32 => ?_)
    · replace hf := if_t c32 hf
      exact w_X9_ready_89 hG C x2 x3 x4 h _ _ _ (lv_sub hl [2, 3, 4] rfl) hP hS hf
    · replace hf := if_f c32 hf
      refine lv_iload_n hx hb dX9_ready_35 rfl (lv_at hl 3 rfl) ?_
      refine lv_if_eq (tgt := 89) hx hb dX9_ready_36 (by decide) (fun c36 => ?_) (fun c36 => ?_)
      · replace hf := if_t c36 hf
        exact w_X9_ready_89 hG C x2 x3 x4 h _ _ _ (lv_sub hl [2, 3, 4] rfl) hP hS hf
      · replace hf := if_f c36 hf
        refine lv_iconst (v := 0) hx hb dX9_ready_39 (by decide) ?_
        refine lv_istore (lv' := [(5, .int 0), (0, .ref (gB G 66)), (1, .int x1), (2, .int x2), (3, .int x3), (4, .int x4)]) hx hb dX9_ready_40 hl (by decide) rfl (fun ls hl => ?_)
        exact w_X9_ready_42 hG C x1 x2 x3 x4 (f_X9_ready_31 x1 x2 n) ih FU 0 h _ _ _ (lv_sub hl [1, 2, 3, 4, 5, 0] rfl) hP hS hf
def f_X9_ready (x1 : Int32) (x2 : Int32) (h : PH) : Option (Int32 × PH) := bP (f_X9_isLine x1 h) (fun r2 h2 => if r2 = 0 then (some ((-1001), h2)) else (bO (f_X9_tryLine x1 h2) (fun h14 => bO (ag h14 74 4 x1) (fun v23 => bP (f_X9_readyOf v23 h14) (fun r24 h24 => f_X9_ready_31 x1 x2 FU r24 0 h24)))))
set_option maxHeartbeats 4000000 in
set_option maxRecDepth 100000 in
theorem k_X9_ready (l : Launch) {G : GC} (hG : GOK G) {x1 : Int32} {x2 : Int32} {rr : Int32} {h hh : PH} (hf : f_X9_ready x1 x2 h = some (rr, hh)) : CI l yX9_ready vX9_ready rmX9_ready G [.ref (gB G 66), .int x1, .int x2] h rr hh := by
  refine Met.ofW (cc := cX9_ready) (maxL := 6) (ret := (some .int)) (by decide +kernel) rfl ?_
  intro p e s m args below meth c s₁ B hml hv
  obtain ⟨rfl, hP, hK⟩ := hv
  have C : MC l G p s m _ meth c RX9 cX9_ready 6 (some .int) := ⟨B.exec, B.bytes, B.returns, B.notSynchronized, hml, findClass_of_methodNamed B.named, fun w hw => atoms_spec (ws := vX9_ready) B.pre w (List.mem_cons_of_mem _ hw), hK⟩
  obtain ⟨hx, hb, hr, hlocks, -, hown, hts, -⟩ := id C
  have hl := lv_entry ([.ref (gB G 66), .int x1, .int x2]) (n := 6) (Nat.le_of_ble_eq_true rfl)
  rw [lg_entry_eq]
  generalize (lg_sl ([.ref (gB G 66), .int x1, .int x2]) ++ List.replicate (6 - (lg_sl ([.ref (gB G 66), .int x1, .int x2])).length) Slot.unset).toArray = ls at hl ⊢
  have hl : lv_has ls 6 [(0, .ref (gB G 66)), (1, .int x1), (2, .int x2)] := hl
  have hS : SP G s s.heap [] := va_S.rf
  replace hP : WP G h s.heap := hP
  rw [f_X9_ready] at hf
  refine lv_aload_n hx hb dX9_ready_0 rfl (lv_at hl 0 rfl) ?_
  refine lv_iload_n hx hb dX9_ready_1 rfl (lv_at hl 1 rfl) ?_
  obtain ⟨r2, h2, er2, hf⟩ := bP_s hf
  refine r_callI (va_runV (As := [.int x1]) (rest := []) ⟨hx, hb, hml, hown, hts⟩ (k_X9_isLine l hG er2) (cwV 1 hts (gV wd1347 wd1349 wd47 wd82 wd1350) rfl rfl rfl (by decide +kernel) ⟨Nat.le_of_ble_eq_true rfl, Nat.le_of_ble_eq_true rfl⟩) (r_pv hK hP hS (ltX9 rfl) (ceX9 rfl) rfl) rfl rfl hl.1 rfl (lv_room (Nat.le_of_ble_eq_true rfl)) dX9_ready_2 ⟨Nat.le_of_ble_eq_true rfl, Nat.le_of_ble_eq_true rfl⟩) hS (fun H locs hP hS => ?_)
  refine lv_if_ne (tgt := 12) hx hb dX9_ready_5 (by decide) (fun c5 => ?_) (fun c5 => ?_)
  · replace hf := if_f c5 hf
    refine lv_aload_n hx hb dX9_ready_12 rfl (lv_at hl 0 rfl) ?_
    refine lv_iload_n hx hb dX9_ready_13 rfl (lv_at hl 1 rfl) ?_
    obtain ⟨h14, eh14, hf⟩ := bO_s hf
    refine r_callV (va_runV (As := [.int x1]) (rest := []) ⟨hx, hb, hml, hown, hts⟩ (k_X9_tryLine l hG eh14) (cwV 1 hts (gV wd1367 wd1369 wd50 wd82 wd1370) rfl rfl rfl (by decide +kernel) ⟨Nat.le_of_ble_eq_true rfl, Nat.le_of_ble_eq_true rfl⟩) (r_pv hK hP hS (ltX9 rfl) (ceX9 rfl) rfl) rfl rfl hl.1 rfl (lv_room (Nat.le_of_ble_eq_true rfl)) dX9_ready_14 ⟨Nat.le_of_ble_eq_true rfl, Nat.le_of_ble_eq_true rfl⟩) hS (fun H locs hP hS => ?_)
    refine lv_aload_n hx hb dX9_ready_17 rfl (lv_at hl 0 rfl) ?_
    refine lv_aload_n hx hb dX9_ready_18 rfl (lv_at hl 0 rfl) ?_
    refine r_get (a := 66) (v := .ref (gB G 74)) (C := RX9) (T := TX9) (N := 55) hx hb hts hinX9 hown hK hP (ltX9 rfl) (ceX9 rfl) rfl 10 (by decide) wd1045 rfl dX9_ready_19 ?_
    refine lv_iload_n hx hb dX9_ready_22 rfl (lv_at hl 1 rfl) ?_
    obtain ⟨v23, ev23, hf⟩ := bO_s hf
    refine r_iald hx hb hK hP (arX9_10 rfl) ev23 dX9_ready_23 ?_
    obtain ⟨r24, h24, er24, hf⟩ := bP_s hf
    refine r_callI (va_runV (As := [.int v23]) (rest := []) ⟨hx, hb, hml, hown, hts⟩ (k_X9_readyOf l hG er24) (cwV 1 hts (gV wd1493 wd1495 wd62 wd82 wd1496) rfl rfl rfl (by decide +kernel) ⟨Nat.le_of_ble_eq_true rfl, Nat.le_of_ble_eq_true rfl⟩) (r_pv hK hP hS (ltX9 rfl) (ceX9 rfl) rfl) rfl rfl hl.1 rfl (lv_room (Nat.le_of_ble_eq_true rfl)) dX9_ready_24 ⟨Nat.le_of_ble_eq_true rfl, Nat.le_of_ble_eq_true rfl⟩) hS (fun H locs hP hS => ?_)
    refine lv_istore_n (lv' := [(3, .int r24), (0, .ref (gB G 66)), (1, .int x1), (2, .int x2)]) hx hb dX9_ready_27 rfl hl (by decide) rfl (fun ls hl => ?_)
    refine lv_iconst (v := 0) hx hb dX9_ready_28 (by decide) ?_
    refine lv_istore (lv' := [(4, .int 0), (3, .int r24), (0, .ref (gB G 66)), (1, .int x1), (2, .int x2)]) hx hb dX9_ready_29 hl (by decide) rfl (fun ls hl => ?_)
    exact w_X9_ready_31 hG C x1 x2 FU r24 0 h24 _ _ _ (lv_sub hl [2, 3, 4, 1, 0] rfl) hP hS hf
  · replace hf := if_t c5 hf
    refine lv_sipush (v := (-1001)) hx hb dX9_ready_8 (by decide) ?_
    exact r_iret hx hb hr hlocks hP hS (re2 (Option.some.inj hf)) dX9_ready_11
/-! CarriedBackModel.areChanges(I)Z -/
abbrev rmX9_areChanges : Room := { frames := 1, cells := 0, slots := 0, locals := 25 }
abbrev vX9_areChanges : List Cond := Cond.code yX9_areChanges cX9_areChanges 2 (some .boolean) :: GW
def f_X9_areChanges (x1 : Int32) (h : PH) : Option (Int32 × PH) := bO (f_X9_in (x1 : Int32).toInt64 0 (((1 <<< ((h.1 66 0) &&& 31)) - 1) : Int32).toInt64) (fun r12 => zr r12 (r12, h))
set_option maxHeartbeats 4000000 in
set_option maxRecDepth 100000 in
theorem k_X9_areChanges (l : Launch) {G : GC} (hG : GOK G) {x1 : Int32} {rr : Int32} {h hh : PH} (hf : f_X9_areChanges x1 h = some (rr, hh)) : CI l yX9_areChanges vX9_areChanges rmX9_areChanges G [.ref (gB G 66), .int x1] h rr hh := by
  refine Met.ofW (cc := cX9_areChanges) (maxL := 2) (ret := (some .boolean)) (by decide +kernel) rfl ?_
  intro p e s m args below meth c s₁ B hml hv
  obtain ⟨rfl, hP, hK⟩ := hv
  have C : MC l G p s m _ meth c RX9 cX9_areChanges 2 (some .boolean) := ⟨B.exec, B.bytes, B.returns, B.notSynchronized, hml, findClass_of_methodNamed B.named, fun w hw => atoms_spec (ws := vX9_areChanges) B.pre w (List.mem_cons_of_mem _ hw), hK⟩
  obtain ⟨hx, hb, hr, hlocks, -, hown, hts, -⟩ := id C
  have hl := lv_entry ([.ref (gB G 66), .int x1]) (n := 2) (Nat.le_of_ble_eq_true rfl)
  rw [lg_entry_eq]
  generalize (lg_sl ([.ref (gB G 66), .int x1]) ++ List.replicate (2 - (lg_sl ([.ref (gB G 66), .int x1])).length) Slot.unset).toArray = ls at hl ⊢
  have hl : lv_has ls 2 [(0, .ref (gB G 66)), (1, .int x1)] := hl
  have hS : SP G s s.heap [] := va_S.rf
  replace hP : WP G h s.heap := hP
  rw [f_X9_areChanges] at hf
  refine lv_iload_n hx hb dX9_areChanges_0 rfl (lv_at hl 1 rfl) ?_
  refine lv_i2l hx hb dX9_areChanges_1 rfl ?_
  refine lv_lconst (v := 0) hx hb dX9_areChanges_2 (by decide) ?_
  refine lv_iconst (v := 1) hx hb dX9_areChanges_3 (by decide) ?_
  refine lv_aload_n hx hb dX9_areChanges_4 rfl (lv_at hl 0 rfl) ?_
  refine r_get (a := 66) (v := .int (h.1 66 0)) (C := RX9) (T := TX9) (N := 55) hx hb hts hinX9 hown hK hP (ltX9 rfl) (ceX9 rfl) rfl 0 (by decide) wd1035 rfl dX9_areChanges_5 ?_
  refine lv_ishl hx hb dX9_areChanges_8 ?_
  refine lv_iconst (v := 1) hx hb dX9_areChanges_9 (by decide) ?_
  refine lv_isub hx hb dX9_areChanges_10 ?_
  refine lv_i2l hx hb dX9_areChanges_11 rfl ?_
  obtain ⟨r12, er12, hf⟩ := bO_s hf
  refine r_callI (va_runS (As := [.long (x1 : Int32).toInt64, .long 0, .long (((1 <<< ((h.1 66 0) &&& 31)) - 1) : Int32).toInt64]) (rest := []) ⟨hx, hb, hml, hown, hts⟩ (k_X9_in l hG (h := h) er12) (va_cwS 3 hts (gS wd1206 wd1207 wd82 wd1208) rfl rfl rfl (by decide +kernel) ⟨Nat.le_of_ble_eq_true rfl, Nat.le_of_ble_eq_true rfl⟩) (r_ps hK hP hS) rfl rfl hl.1 rfl (lv_room (Nat.le_of_ble_eq_true rfl)) dX9_areChanges_12 ⟨Nat.le_of_ble_eq_true rfl, Nat.le_of_ble_eq_true rfl⟩) hS (fun H locs hP hS => ?_)
  obtain ⟨hz, hf⟩ := zr_s hf
  exact r_zret hx hb hr hz hlocks hP hS (re2 hf) dX9_areChanges_15
/-! CarriedBackModel.fillRow(I)V -/
abbrev rmX9_fillRow : Room := { frames := 1, cells := 0, slots := 0, locals := 21 }
abbrev vX9_fillRow : List Cond := Cond.code yX9_fillRow cX9_fillRow 3 none :: GW
def f_X9_fillRow_7 (x1 : Int32) : Nat → Int32 → PH → Option PH
  | 0, _, _ => none
  | n + 1, x2, h => if (h.1 66 0) ≤ x2 then (some h) else (bO (f_X9_has x1 x2) (fun r17 => if r17 = 0 then ((f_X9_fillRow_7 x1 n) (x2 + 1) h) else (bO (asg h 91 8 (h.1 66 40) x2) (fun h32 => lt' (hU h32 66 40 ((h32.1 66 40) + 1)) (fun h40 => (f_X9_fillRow_7 x1 n) (x2 + 1) h40)))))
set_option maxHeartbeats 4000000 in
set_option maxRecDepth 100000 in
theorem w_X9_fillRow_7 {l : Launch} {G : GC} (hG : GOK G) {hh : PH} {p : Program} {e : Env} {s : State} {m : MethodId} {args : Array Value} {below : List Frame} {meth : Method} {c : Code} (C : MC l G p s m args meth c RX9 cX9_fillRow 3 none) (x1 : Int32) : ∀ (n : Nat) (x2 : Int32) (h : PH) (H : Heap) (locs : List Loc) (ls : Array Slot), lv_has ls 3 [(0, .ref (gB G 66)), (1, .int x1), (2, .int x2)] → WP G h H → SP G s H locs → f_X9_fillRow_7 x1 n x2 h = some hh → W p l e rmX9_fillRow s m args below meth c H locs 0 0 (MQ below (QV G hh) args s 0 0 (gA G)) (F0 m 7 ls []) := by
  obtain ⟨hx, hb, hr, hlocks, hml, hown, hts, hK⟩ := id C
  intro n
  induction n with
  | zero => intro x2 h H locs ls hl hP hS hf; rw [f_X9_fillRow_7] at hf; cases hf
  | succ n ih =>
    intro x2 h H locs ls hl hP hS hf
    rw [f_X9_fillRow_7] at hf
    refine lv_iload_n hx hb dX9_fillRow_7 rfl (lv_at hl 2 rfl) ?_
    refine lv_aload_n hx hb dX9_fillRow_8 rfl (lv_at hl 0 rfl) ?_
    refine r_get (a := 66) (v := .int (h.1 66 0)) (C := RX9) (T := TX9) (N := 55) hx hb hts hinX9 hown hK hP (ltX9 rfl) (ceX9 rfl) rfl 0 (by decide) wd1035 rfl dX9_fillRow_9 ?_
    refine lv_icmp_ge (tgt := 49) hx hb dX9_fillRow_12 (by decide) (fun c12 => ?_) (fun c12 => ?_)
    · replace hf := if_t c12 hf
      exact r_vret hx hb hr hlocks hP hS (Option.some.inj hf) dX9_fillRow_49
    · replace hf := if_f c12 hf
      refine lv_iload_n hx hb dX9_fillRow_15 rfl (lv_at hl 1 rfl) ?_
      refine lv_iload_n hx hb dX9_fillRow_16 rfl (lv_at hl 2 rfl) ?_
      obtain ⟨r17, er17, hf⟩ := bO_s hf
      refine r_callI (va_runS (As := [.int x1, .int x2]) (rest := []) ⟨hx, hb, hml, hown, hts⟩ (k_X9_has l hG (h := h) er17) (va_cwS 2 hts (gS wd1260 wd1261 wd82 wd1262) rfl rfl rfl (by decide +kernel) ⟨Nat.le_of_ble_eq_true rfl, Nat.le_of_ble_eq_true rfl⟩) (r_ps hK hP hS) rfl rfl hl.1 rfl (lv_room (Nat.le_of_ble_eq_true rfl)) dX9_fillRow_17 ⟨Nat.le_of_ble_eq_true rfl, Nat.le_of_ble_eq_true rfl⟩) hS (fun H locs hP hS => ?_)
      refine lv_if_eq (tgt := 43) hx hb dX9_fillRow_20 (by decide) (fun c20 => ?_) (fun c20 => ?_)
      · replace hf := if_t c20 hf
        refine lv_iinc (v := (x2 + 1)) (lv' := [(2, .int (x2 + 1)), (0, .ref (gB G 66)), (1, .int x1)]) hx hb dX9_fillRow_43 hl (k := 2) rfl rfl (by decide) rfl (fun ls hl => ?_)
        refine lv_goto (tgt := 7) hx hb dX9_fillRow_46 (by decide) ?_
        exact ih (x2 + 1) h _ _ _ (lv_sub hl [1, 2, 0] rfl) hP hS hf
      · replace hf := if_f c20 hf
        refine lv_aload_n hx hb dX9_fillRow_23 rfl (lv_at hl 0 rfl) ?_
        refine r_get (a := 66) (v := .ref (gB G 91)) (C := RX9) (T := TX9) (N := 55) hx hb hts hinX9 hown hK hP (ltX9 rfl) (ceX9 rfl) rfl 39 (by decide) wd1074 rfl dX9_fillRow_24 ?_
        refine lv_aload_n hx hb dX9_fillRow_27 rfl (lv_at hl 0 rfl) ?_
        refine r_get (a := 66) (v := .int (h.1 66 40)) (C := RX9) (T := TX9) (N := 55) hx hb hts hinX9 hown hK hP (ltX9 rfl) (ceX9 rfl) rfl 40 (by decide) wd1075 rfl dX9_fillRow_28 ?_
        refine lv_iload_n hx hb dX9_fillRow_31 rfl (lv_at hl 2 rfl) ?_
        obtain ⟨h32, eh32, hf⟩ := bO_s hf
        refine r_iast hG hx hb hK hP hS (arX9_39 rfl) eh32 dX9_fillRow_32 (fun H locs hP hS => ?_)
        refine lv_aload_n hx hb dX9_fillRow_33 rfl (lv_at hl 0 rfl) ?_
        refine lv_dup hx hb dX9_fillRow_34 rfl ?_
        refine r_get (a := 66) (v := .int (h32.1 66 40)) (C := RX9) (T := TX9) (N := 55) hx hb hts hinX9 hown hK hP (ltX9 rfl) (ceX9 rfl) rfl 40 (by decide) wd1075 rfl dX9_fillRow_35 ?_
        refine lv_iconst (v := 1) hx hb dX9_fillRow_38 (by decide) ?_
        refine lv_iadd hx hb dX9_fillRow_39 ?_
        obtain ⟨h40, eh40⟩ : ∃ y, y = hU h32 66 40 ((h32.1 66 40) + 1) := ⟨_, rfl⟩
        replace hf := lt_at eh40 hf
        refine r_put (a := 66) (v := .int ((h32.1 66 40) + 1)) (ty := .int) (h' := h40) (C := RX9) (T := TX9) (N := 55) hG hx hb hts hinX9 tyX9 tyX9_ok nmX9 hown hK hP hS (ltX9 rfl) (ceX9 rfl) rfl 40 (by decide) wd1075 rfl (by decide +kernel) rfl rfl (Nat.le_of_ble_eq_true rfl) (by rw [eh40]; exact fun j hj => cE_U hj) (by rw [eh40]; exact puX9_40 rfl _) dX9_fillRow_40 (fun H locs hP hS => ?_)
        refine lv_iinc (v := (x2 + 1)) (lv' := [(2, .int (x2 + 1)), (0, .ref (gB G 66)), (1, .int x1)]) hx hb dX9_fillRow_43 hl (k := 2) rfl rfl (by decide) rfl (fun ls hl => ?_)
        refine lv_goto (tgt := 7) hx hb dX9_fillRow_46 (by decide) ?_
        exact ih (x2 + 1) h40 _ _ _ (lv_sub hl [1, 2, 0] rfl) hP hS hf
def f_X9_fillRow (x1 : Int32) (h : PH) : Option PH := lt' (hU h 66 40 0) (fun h2 => f_X9_fillRow_7 x1 FU 0 h2)
set_option maxHeartbeats 4000000 in
set_option maxRecDepth 100000 in
theorem k_X9_fillRow (l : Launch) {G : GC} (hG : GOK G) {x1 : Int32} {h hh : PH} (hf : f_X9_fillRow x1 h = some hh) : CV l yX9_fillRow vX9_fillRow rmX9_fillRow G [.ref (gB G 66), .int x1] h hh := by
  refine Met.ofW (cc := cX9_fillRow) (maxL := 3) (ret := none) (by decide +kernel) rfl ?_
  intro p e s m args below meth c s₁ B hml hv
  obtain ⟨rfl, hP, hK⟩ := hv
  have C : MC l G p s m _ meth c RX9 cX9_fillRow 3 none := ⟨B.exec, B.bytes, B.returns, B.notSynchronized, hml, findClass_of_methodNamed B.named, fun w hw => atoms_spec (ws := vX9_fillRow) B.pre w (List.mem_cons_of_mem _ hw), hK⟩
  obtain ⟨hx, hb, hr, hlocks, -, hown, hts, -⟩ := id C
  have hl := lv_entry ([.ref (gB G 66), .int x1]) (n := 3) (Nat.le_of_ble_eq_true rfl)
  rw [lg_entry_eq]
  generalize (lg_sl ([.ref (gB G 66), .int x1]) ++ List.replicate (3 - (lg_sl ([.ref (gB G 66), .int x1])).length) Slot.unset).toArray = ls at hl ⊢
  have hl : lv_has ls 3 [(0, .ref (gB G 66)), (1, .int x1)] := hl
  have hS : SP G s s.heap [] := va_S.rf
  replace hP : WP G h s.heap := hP
  rw [f_X9_fillRow] at hf
  refine lv_aload_n hx hb dX9_fillRow_0 rfl (lv_at hl 0 rfl) ?_
  refine lv_iconst (v := 0) hx hb dX9_fillRow_1 (by decide) ?_
  obtain ⟨h2, eh2⟩ : ∃ y, y = hU h 66 40 0 := ⟨_, rfl⟩
  replace hf := lt_at eh2 hf
  refine r_put (a := 66) (v := .int 0) (ty := .int) (h' := h2) (C := RX9) (T := TX9) (N := 55) hG hx hb hts hinX9 tyX9 tyX9_ok nmX9 hown hK hP hS (ltX9 rfl) (ceX9 rfl) rfl 40 (by decide) wd1075 rfl (by decide +kernel) rfl rfl (Nat.le_of_ble_eq_true rfl) (by rw [eh2]; exact fun j hj => cE_U hj) (by rw [eh2]; exact puX9_40 rfl _) dX9_fillRow_2 (fun H locs hP hS => ?_)
  refine lv_iconst (v := 0) hx hb dX9_fillRow_5 (by decide) ?_
  refine lv_istore_n (lv' := [(2, .int 0), (0, .ref (gB G 66)), (1, .int x1)]) hx hb dX9_fillRow_6 rfl hl (by decide) rfl (fun ls hl => ?_)
  exact w_X9_fillRow_7 hG C x1 FU 0 h2 _ _ _ (lv_sub hl [1, 2, 0] rfl) hP hS hf
/-! CarriedBackModel.nextRow()Z -/
abbrev rmX9_nextRow : Room := { frames := 0, cells := 0, slots := 0, locals := 0 }
abbrev vX9_nextRow : List Cond := Cond.code yX9_nextRow cX9_nextRow 7 (some .boolean) :: GW
def f_X9_nextRow_107 : Nat → Int32 → Int32 → PH → Option (Int32 × PH)
  | 0, _, _, _ => none
  | n + 1, x4, x5, h => if x5 ≤ x4 then (some (1, h)) else (bO (ag h 91 8 x4) (fun v120 => bO (ag h 91 8 x5) (fun v135 => bO (asg h 91 8 x4 v135) (fun h136 => bO (asg h136 91 8 x5 v120) (fun h145 => (f_X9_nextRow_107 n) (x4 + 1) (x5 + (-1)) h145)))))
set_option maxHeartbeats 4000000 in
set_option maxRecDepth 100000 in
theorem w_X9_nextRow_107 {l : Launch} {G : GC} (hG : GOK G) {rr : Int32} {hh : PH} {p : Program} {e : Env} {s : State} {m : MethodId} {args : Array Value} {below : List Frame} {meth : Method} {c : Code} (C : MC l G p s m args meth c RX9 cX9_nextRow 7 (some .boolean)) : ∀ (n : Nat) (x4 : Int32) (x5 : Int32) (h : PH) (H : Heap) (locs : List Loc) (ls : Array Slot), lv_has ls 7 [(0, .ref (gB G 66)), (4, .int x4), (5, .int x5)] → WP G h H → SP G s H locs → f_X9_nextRow_107 n x4 x5 h = some (rr, hh) → W p l e rmX9_nextRow s m args below meth c H locs 0 0 (MQ below (QI G rr hh) args s 0 0 (gA G)) (F0 m 107 ls []) := by
  obtain ⟨hx, hb, hr, hlocks, hml, hown, hts, hK⟩ := id C
  intro n
  induction n with
  | zero => intro x4 x5 h H locs ls hl hP hS hf; rw [f_X9_nextRow_107] at hf; cases hf
  | succ n ih =>
    intro x4 x5 h H locs ls hl hP hS hf
    rw [f_X9_nextRow_107] at hf
    refine lv_iload hx hb dX9_nextRow_107 (lv_at hl 1 rfl) ?_
    refine lv_iload hx hb dX9_nextRow_109 (lv_at hl 2 rfl) ?_
    refine lv_icmp_ge (tgt := 155) hx hb dX9_nextRow_111 (by decide) (fun c111 => ?_) (fun c111 => ?_)
    · replace hf := if_t c111 hf
      refine lv_iconst (v := 1) hx hb dX9_nextRow_155 (by decide) ?_
      exact r_zret hx hb hr rfl hlocks hP hS (re2 (Option.some.inj hf)) dX9_nextRow_156
    · replace hf := if_f c111 hf
      refine lv_aload_n hx hb dX9_nextRow_114 rfl (lv_at hl 0 rfl) ?_
      refine r_get (a := 66) (v := .ref (gB G 91)) (C := RX9) (T := TX9) (N := 55) hx hb hts hinX9 hown hK hP (ltX9 rfl) (ceX9 rfl) rfl 39 (by decide) wd1074 rfl dX9_nextRow_115 ?_
      refine lv_iload hx hb dX9_nextRow_118 (lv_at hl 1 rfl) ?_
      obtain ⟨v120, ev120, hf⟩ := bO_s hf
      refine r_iald hx hb hK hP (arX9_39 rfl) ev120 dX9_nextRow_120 ?_
      refine lv_istore (lv' := [(6, .int v120), (0, .ref (gB G 66)), (4, .int x4), (5, .int x5)]) hx hb dX9_nextRow_121 hl (by decide) rfl (fun ls hl => ?_)
      refine lv_aload_n hx hb dX9_nextRow_123 rfl (lv_at hl 1 rfl) ?_
      refine r_get (a := 66) (v := .ref (gB G 91)) (C := RX9) (T := TX9) (N := 55) hx hb hts hinX9 hown hK hP (ltX9 rfl) (ceX9 rfl) rfl 39 (by decide) wd1074 rfl dX9_nextRow_124 ?_
      refine lv_iload hx hb dX9_nextRow_127 (lv_at hl 2 rfl) ?_
      refine lv_aload_n hx hb dX9_nextRow_129 rfl (lv_at hl 1 rfl) ?_
      refine r_get (a := 66) (v := .ref (gB G 91)) (C := RX9) (T := TX9) (N := 55) hx hb hts hinX9 hown hK hP (ltX9 rfl) (ceX9 rfl) rfl 39 (by decide) wd1074 rfl dX9_nextRow_130 ?_
      refine lv_iload hx hb dX9_nextRow_133 (lv_at hl 3 rfl) ?_
      obtain ⟨v135, ev135, hf⟩ := bO_s hf
      refine r_iald hx hb hK hP (arX9_39 rfl) ev135 dX9_nextRow_135 ?_
      obtain ⟨h136, eh136, hf⟩ := bO_s hf
      refine r_iast hG hx hb hK hP hS (arX9_39 rfl) eh136 dX9_nextRow_136 (fun H locs hP hS => ?_)
      refine lv_aload_n hx hb dX9_nextRow_137 rfl (lv_at hl 1 rfl) ?_
      refine r_get (a := 66) (v := .ref (gB G 91)) (C := RX9) (T := TX9) (N := 55) hx hb hts hinX9 hown hK hP (ltX9 rfl) (ceX9 rfl) rfl 39 (by decide) wd1074 rfl dX9_nextRow_138 ?_
      refine lv_iload hx hb dX9_nextRow_141 (lv_at hl 3 rfl) ?_
      refine lv_iload hx hb dX9_nextRow_143 (lv_at hl 0 rfl) ?_
      obtain ⟨h145, eh145, hf⟩ := bO_s hf
      refine r_iast hG hx hb hK hP hS (arX9_39 rfl) eh145 dX9_nextRow_145 (fun H locs hP hS => ?_)
      refine lv_iinc (v := (x4 + 1)) (lv' := [(4, .int (x4 + 1)), (6, .int v120), (0, .ref (gB G 66)), (5, .int x5)]) hx hb dX9_nextRow_146 hl (k := 2) rfl rfl (by decide) rfl (fun ls hl => ?_)
      refine lv_iinc (v := (x5 + (-1))) (lv' := [(5, .int (x5 + (-1))), (4, .int (x4 + 1)), (6, .int v120), (0, .ref (gB G 66))]) hx hb dX9_nextRow_149 hl (k := 3) rfl rfl (by decide) rfl (fun ls hl => ?_)
      refine lv_goto (tgt := 107) hx hb dX9_nextRow_152 (by decide) ?_
      exact ih (x4 + 1) (x5 + (-1)) h145 _ _ _ (lv_sub hl [3, 1, 0] rfl) hP hS hf
def f_X9_nextRow_47 (x1 : Int32) : Nat → Int32 → PH → Option (Int32 × PH)
  | 0, _, _ => none
  | n + 1, x2, h => bO (ag h 91 8 x2) (fun v52 => bO (ag h 91 8 x1) (fun v58 => if v58 ≤ v52 then (bO (ag h 91 8 x1) (fun v73 => bO (ag h 91 8 x2) (fun v85 => bO (asg h 91 8 x1 v85) (fun h86 => bO (asg h86 91 8 x2 v73) (fun h93 => lt' ((x1 + 1)) (fun x4_97 => lt' (((h93.1 66 40) - 1)) (fun x5_105 => f_X9_nextRow_107 FU x4_97 x5_105 h93))))))) else ((f_X9_nextRow_47 x1 n) (x2 + (-1)) h)))
set_option maxHeartbeats 4000000 in
set_option maxRecDepth 100000 in
theorem w_X9_nextRow_47 {l : Launch} {G : GC} (hG : GOK G) {rr : Int32} {hh : PH} {p : Program} {e : Env} {s : State} {m : MethodId} {args : Array Value} {below : List Frame} {meth : Method} {c : Code} (C : MC l G p s m args meth c RX9 cX9_nextRow 7 (some .boolean)) (x1 : Int32) : ∀ (n : Nat) (x2 : Int32) (h : PH) (H : Heap) (locs : List Loc) (ls : Array Slot), lv_has ls 7 [(0, .ref (gB G 66)), (1, .int x1), (2, .int x2)] → WP G h H → SP G s H locs → f_X9_nextRow_47 x1 n x2 h = some (rr, hh) → W p l e rmX9_nextRow s m args below meth c H locs 0 0 (MQ below (QI G rr hh) args s 0 0 (gA G)) (F0 m 47 ls []) := by
  obtain ⟨hx, hb, hr, hlocks, hml, hown, hts, hK⟩ := id C
  intro n
  induction n with
  | zero => intro x2 h H locs ls hl hP hS hf; rw [f_X9_nextRow_47] at hf; cases hf
  | succ n ih =>
    intro x2 h H locs ls hl hP hS hf
    rw [f_X9_nextRow_47] at hf
    refine lv_aload_n hx hb dX9_nextRow_47 rfl (lv_at hl 0 rfl) ?_
    refine r_get (a := 66) (v := .ref (gB G 91)) (C := RX9) (T := TX9) (N := 55) hx hb hts hinX9 hown hK hP (ltX9 rfl) (ceX9 rfl) rfl 39 (by decide) wd1074 rfl dX9_nextRow_48 ?_
    refine lv_iload_n hx hb dX9_nextRow_51 rfl (lv_at hl 2 rfl) ?_
    obtain ⟨v52, ev52, hf⟩ := bO_s hf
    refine r_iald hx hb hK hP (arX9_39 rfl) ev52 dX9_nextRow_52 ?_
    refine lv_aload_n hx hb dX9_nextRow_53 rfl (lv_at hl 0 rfl) ?_
    refine r_get (a := 66) (v := .ref (gB G 91)) (C := RX9) (T := TX9) (N := 55) hx hb hts hinX9 hown hK hP (ltX9 rfl) (ceX9 rfl) rfl 39 (by decide) wd1074 rfl dX9_nextRow_54 ?_
    refine lv_iload_n hx hb dX9_nextRow_57 rfl (lv_at hl 1 rfl) ?_
    obtain ⟨v58, ev58, hf⟩ := bO_s hf
    refine r_iald hx hb hK hP (arX9_39 rfl) ev58 dX9_nextRow_58 ?_
    refine lv_icmp_ge (tgt := 68) hx hb dX9_nextRow_59 (by decide) (fun c59 => ?_) (fun c59 => ?_)
    · replace hf := if_t c59 hf
      refine lv_aload_n hx hb dX9_nextRow_68 rfl (lv_at hl 0 rfl) ?_
      refine r_get (a := 66) (v := .ref (gB G 91)) (C := RX9) (T := TX9) (N := 55) hx hb hts hinX9 hown hK hP (ltX9 rfl) (ceX9 rfl) rfl 39 (by decide) wd1074 rfl dX9_nextRow_69 ?_
      refine lv_iload_n hx hb dX9_nextRow_72 rfl (lv_at hl 1 rfl) ?_
      obtain ⟨v73, ev73, hf⟩ := bO_s hf
      refine r_iald hx hb hK hP (arX9_39 rfl) ev73 dX9_nextRow_73 ?_
      refine lv_istore_n (lv' := [(3, .int v73), (0, .ref (gB G 66)), (1, .int x1), (2, .int x2)]) hx hb dX9_nextRow_74 rfl hl (by decide) rfl (fun ls hl => ?_)
      refine lv_aload_n hx hb dX9_nextRow_75 rfl (lv_at hl 1 rfl) ?_
      refine r_get (a := 66) (v := .ref (gB G 91)) (C := RX9) (T := TX9) (N := 55) hx hb hts hinX9 hown hK hP (ltX9 rfl) (ceX9 rfl) rfl 39 (by decide) wd1074 rfl dX9_nextRow_76 ?_
      refine lv_iload_n hx hb dX9_nextRow_79 rfl (lv_at hl 2 rfl) ?_
      refine lv_aload_n hx hb dX9_nextRow_80 rfl (lv_at hl 1 rfl) ?_
      refine r_get (a := 66) (v := .ref (gB G 91)) (C := RX9) (T := TX9) (N := 55) hx hb hts hinX9 hown hK hP (ltX9 rfl) (ceX9 rfl) rfl 39 (by decide) wd1074 rfl dX9_nextRow_81 ?_
      refine lv_iload_n hx hb dX9_nextRow_84 rfl (lv_at hl 3 rfl) ?_
      obtain ⟨v85, ev85, hf⟩ := bO_s hf
      refine r_iald hx hb hK hP (arX9_39 rfl) ev85 dX9_nextRow_85 ?_
      obtain ⟨h86, eh86, hf⟩ := bO_s hf
      refine r_iast hG hx hb hK hP hS (arX9_39 rfl) eh86 dX9_nextRow_86 (fun H locs hP hS => ?_)
      refine lv_aload_n hx hb dX9_nextRow_87 rfl (lv_at hl 1 rfl) ?_
      refine r_get (a := 66) (v := .ref (gB G 91)) (C := RX9) (T := TX9) (N := 55) hx hb hts hinX9 hown hK hP (ltX9 rfl) (ceX9 rfl) rfl 39 (by decide) wd1074 rfl dX9_nextRow_88 ?_
      refine lv_iload_n hx hb dX9_nextRow_91 rfl (lv_at hl 3 rfl) ?_
      refine lv_iload_n hx hb dX9_nextRow_92 rfl (lv_at hl 0 rfl) ?_
      obtain ⟨h93, eh93, hf⟩ := bO_s hf
      refine r_iast hG hx hb hK hP hS (arX9_39 rfl) eh93 dX9_nextRow_93 (fun H locs hP hS => ?_)
      refine lv_iload_n hx hb dX9_nextRow_94 rfl (lv_at hl 2 rfl) ?_
      refine lv_iconst (v := 1) hx hb dX9_nextRow_95 (by decide) ?_
      refine lv_iadd hx hb dX9_nextRow_96 ?_
      refine lv_topi (fun x4_97 ex4_97 => ?_)
      replace hf := lt_at ex4_97 hf
      refine lv_istore (lv' := [(4, .int x4_97), (3, .int v73), (0, .ref (gB G 66)), (1, .int x1), (2, .int x2)]) hx hb dX9_nextRow_97 hl (by decide) rfl (fun ls hl => ?_)
      refine lv_aload_n hx hb dX9_nextRow_99 rfl (lv_at hl 2 rfl) ?_
      refine r_get (a := 66) (v := .int (h93.1 66 40)) (C := RX9) (T := TX9) (N := 55) hx hb hts hinX9 hown hK hP (ltX9 rfl) (ceX9 rfl) rfl 40 (by decide) wd1075 rfl dX9_nextRow_100 ?_
      refine lv_iconst (v := 1) hx hb dX9_nextRow_103 (by decide) ?_
      refine lv_isub hx hb dX9_nextRow_104 ?_
      refine lv_topi (fun x5_105 ex5_105 => ?_)
      replace hf := lt_at ex5_105 hf
      refine lv_istore (lv' := [(5, .int x5_105), (4, .int x4_97), (3, .int v73), (0, .ref (gB G 66)), (1, .int x1), (2, .int x2)]) hx hb dX9_nextRow_105 hl (by decide) rfl (fun ls hl => ?_)
      exact w_X9_nextRow_107 hG C FU x4_97 x5_105 h93 _ _ _ (lv_sub hl [3, 1, 0] rfl) hP hS hf
    · replace hf := if_f c59 hf
      refine lv_iinc (v := (x2 + (-1))) (lv' := [(2, .int (x2 + (-1))), (0, .ref (gB G 66)), (1, .int x1)]) hx hb dX9_nextRow_62 hl (k := 2) rfl rfl (by decide) rfl (fun ls hl => ?_)
      refine lv_goto (tgt := 47) hx hb dX9_nextRow_65 (by decide) ?_
      exact ih (x2 + (-1)) h _ _ _ (lv_sub hl [1, 2, 0] rfl) hP hS hf
def f_X9_nextRow_34 (x1 : Int32) (h : PH) : Option (Int32 × PH) := if (0 : Int32) ≤ x1 then (lt' (((h.1 66 40) - 1)) (fun x2_46 => f_X9_nextRow_47 x1 FU x2_46 h)) else (some (0, h))
set_option maxHeartbeats 4000000 in
set_option maxRecDepth 100000 in
theorem w_X9_nextRow_34 {l : Launch} {G : GC} (hG : GOK G) {rr : Int32} {hh : PH} {p : Program} {e : Env} {s : State} {m : MethodId} {args : Array Value} {below : List Frame} {meth : Method} {c : Code} (C : MC l G p s m args meth c RX9 cX9_nextRow 7 (some .boolean)) : ∀ (x1 : Int32) (h : PH) (H : Heap) (locs : List Loc) (ls : Array Slot), lv_has ls 7 [(0, .ref (gB G 66)), (1, .int x1)] → WP G h H → SP G s H locs → f_X9_nextRow_34 x1 h = some (rr, hh) → W p l e rmX9_nextRow s m args below meth c H locs 0 0 (MQ below (QI G rr hh) args s 0 0 (gA G)) (F0 m 34 ls []) := by
  obtain ⟨hx, hb, hr, hlocks, hml, hown, hts, hK⟩ := id C
  intro x1 h H locs ls hl hP hS hf
  rw [f_X9_nextRow_34] at hf
  refine lv_iload_n hx hb dX9_nextRow_34 rfl (lv_at hl 1 rfl) ?_
  refine lv_if_ge (tgt := 40) hx hb dX9_nextRow_35 (by decide) (fun c35 => ?_) (fun c35 => ?_)
  · replace hf := if_t c35 hf
    refine lv_aload_n hx hb dX9_nextRow_40 rfl (lv_at hl 0 rfl) ?_
    refine r_get (a := 66) (v := .int (h.1 66 40)) (C := RX9) (T := TX9) (N := 55) hx hb hts hinX9 hown hK hP (ltX9 rfl) (ceX9 rfl) rfl 40 (by decide) wd1075 rfl dX9_nextRow_41 ?_
    refine lv_iconst (v := 1) hx hb dX9_nextRow_44 (by decide) ?_
    refine lv_isub hx hb dX9_nextRow_45 ?_
    refine lv_topi (fun x2_46 ex2_46 => ?_)
    replace hf := lt_at ex2_46 hf
    refine lv_istore_n (lv' := [(2, .int x2_46), (0, .ref (gB G 66)), (1, .int x1)]) hx hb dX9_nextRow_46 rfl hl (by decide) rfl (fun ls hl => ?_)
    exact w_X9_nextRow_47 hG C x1 FU x2_46 h _ _ _ (lv_sub hl [1, 2, 0] rfl) hP hS hf
  · replace hf := if_f c35 hf
    refine lv_iconst (v := 0) hx hb dX9_nextRow_38 (by decide) ?_
    exact r_zret hx hb hr rfl hlocks hP hS (re2 (Option.some.inj hf)) dX9_nextRow_39
def f_X9_nextRow_7 : Nat → Int32 → PH → Option (Int32 × PH)
  | 0, _, _ => none
  | n + 1, x1, h => if x1 < 0 then (f_X9_nextRow_34 x1 h) else (bO (ag h 91 8 x1) (fun v16 => bO (ag h 91 8 (x1 + 1)) (fun v24 => if v16 ≤ v24 then (f_X9_nextRow_34 x1 h) else ((f_X9_nextRow_7 n) (x1 + (-1)) h))))
set_option maxHeartbeats 4000000 in
set_option maxRecDepth 100000 in
theorem w_X9_nextRow_7 {l : Launch} {G : GC} (hG : GOK G) {rr : Int32} {hh : PH} {p : Program} {e : Env} {s : State} {m : MethodId} {args : Array Value} {below : List Frame} {meth : Method} {c : Code} (C : MC l G p s m args meth c RX9 cX9_nextRow 7 (some .boolean)) : ∀ (n : Nat) (x1 : Int32) (h : PH) (H : Heap) (locs : List Loc) (ls : Array Slot), lv_has ls 7 [(0, .ref (gB G 66)), (1, .int x1)] → WP G h H → SP G s H locs → f_X9_nextRow_7 n x1 h = some (rr, hh) → W p l e rmX9_nextRow s m args below meth c H locs 0 0 (MQ below (QI G rr hh) args s 0 0 (gA G)) (F0 m 7 ls []) := by
  obtain ⟨hx, hb, hr, hlocks, hml, hown, hts, hK⟩ := id C
  intro n
  induction n with
  | zero => intro x1 h H locs ls hl hP hS hf; rw [f_X9_nextRow_7] at hf; cases hf
  | succ n ih =>
    intro x1 h H locs ls hl hP hS hf
    rw [f_X9_nextRow_7] at hf
    refine lv_iload_n hx hb dX9_nextRow_7 rfl (lv_at hl 1 rfl) ?_
    refine lv_if_lt (tgt := 34) hx hb dX9_nextRow_8 (by decide) (fun c8 => ?_) (fun c8 => ?_)
    · replace hf := if_t c8 hf
      exact w_X9_nextRow_34 hG C x1 h _ _ _ (lv_sub hl [0, 1] rfl) hP hS hf
    · replace hf := if_f c8 hf
      refine lv_aload_n hx hb dX9_nextRow_11 rfl (lv_at hl 0 rfl) ?_
      refine r_get (a := 66) (v := .ref (gB G 91)) (C := RX9) (T := TX9) (N := 55) hx hb hts hinX9 hown hK hP (ltX9 rfl) (ceX9 rfl) rfl 39 (by decide) wd1074 rfl dX9_nextRow_12 ?_
      refine lv_iload_n hx hb dX9_nextRow_15 rfl (lv_at hl 1 rfl) ?_
      obtain ⟨v16, ev16, hf⟩ := bO_s hf
      refine r_iald hx hb hK hP (arX9_39 rfl) ev16 dX9_nextRow_16 ?_
      refine lv_aload_n hx hb dX9_nextRow_17 rfl (lv_at hl 0 rfl) ?_
      refine r_get (a := 66) (v := .ref (gB G 91)) (C := RX9) (T := TX9) (N := 55) hx hb hts hinX9 hown hK hP (ltX9 rfl) (ceX9 rfl) rfl 39 (by decide) wd1074 rfl dX9_nextRow_18 ?_
      refine lv_iload_n hx hb dX9_nextRow_21 rfl (lv_at hl 1 rfl) ?_
      refine lv_iconst (v := 1) hx hb dX9_nextRow_22 (by decide) ?_
      refine lv_iadd hx hb dX9_nextRow_23 ?_
      obtain ⟨v24, ev24, hf⟩ := bO_s hf
      refine r_iald hx hb hK hP (arX9_39 rfl) ev24 dX9_nextRow_24 ?_
      refine lv_icmp_le (tgt := 34) hx hb dX9_nextRow_25 (by decide) (fun c25 => ?_) (fun c25 => ?_)
      · replace hf := if_t c25 hf
        exact w_X9_nextRow_34 hG C x1 h _ _ _ (lv_sub hl [0, 1] rfl) hP hS hf
      · replace hf := if_f c25 hf
        refine lv_iinc (v := (x1 + (-1))) (lv' := [(1, .int (x1 + (-1))), (0, .ref (gB G 66))]) hx hb dX9_nextRow_28 hl (k := 1) rfl rfl (by decide) rfl (fun ls hl => ?_)
        refine lv_goto (tgt := 7) hx hb dX9_nextRow_31 (by decide) ?_
        exact ih (x1 + (-1)) h _ _ _ (lv_sub hl [1, 0] rfl) hP hS hf
def f_X9_nextRow (h : PH) : Option (Int32 × PH) := lt' (((h.1 66 40) - 2)) (fun x1_6 => f_X9_nextRow_7 FU x1_6 h)
set_option maxHeartbeats 4000000 in
set_option maxRecDepth 100000 in
theorem k_X9_nextRow (l : Launch) {G : GC} (hG : GOK G) {rr : Int32} {h hh : PH} (hf : f_X9_nextRow h = some (rr, hh)) : CI l yX9_nextRow vX9_nextRow rmX9_nextRow G [.ref (gB G 66)] h rr hh := by
  refine Met.ofW (cc := cX9_nextRow) (maxL := 7) (ret := (some .boolean)) (by decide +kernel) rfl ?_
  intro p e s m args below meth c s₁ B hml hv
  obtain ⟨rfl, hP, hK⟩ := hv
  have C : MC l G p s m _ meth c RX9 cX9_nextRow 7 (some .boolean) := ⟨B.exec, B.bytes, B.returns, B.notSynchronized, hml, findClass_of_methodNamed B.named, fun w hw => atoms_spec (ws := vX9_nextRow) B.pre w (List.mem_cons_of_mem _ hw), hK⟩
  obtain ⟨hx, hb, hr, hlocks, -, hown, hts, -⟩ := id C
  have hl := lv_entry ([.ref (gB G 66)]) (n := 7) (Nat.le_of_ble_eq_true rfl)
  rw [lg_entry_eq]
  generalize (lg_sl ([.ref (gB G 66)]) ++ List.replicate (7 - (lg_sl ([.ref (gB G 66)])).length) Slot.unset).toArray = ls at hl ⊢
  have hl : lv_has ls 7 [(0, .ref (gB G 66))] := hl
  have hS : SP G s s.heap [] := va_S.rf
  replace hP : WP G h s.heap := hP
  rw [f_X9_nextRow] at hf
  refine lv_aload_n hx hb dX9_nextRow_0 rfl (lv_at hl 0 rfl) ?_
  refine r_get (a := 66) (v := .int (h.1 66 40)) (C := RX9) (T := TX9) (N := 55) hx hb hts hinX9 hown hK hP (ltX9 rfl) (ceX9 rfl) rfl 40 (by decide) wd1075 rfl dX9_nextRow_1 ?_
  refine lv_iconst (v := 2) hx hb dX9_nextRow_4 (by decide) ?_
  refine lv_isub hx hb dX9_nextRow_5 ?_
  refine lv_topi (fun x1_6 ex1_6 => ?_)
  replace hf := lt_at ex1_6 hf
  refine lv_istore_n (lv' := [(1, .int x1_6), (0, .ref (gB G 66))]) hx hb dX9_nextRow_6 rfl hl (by decide) rfl (fun ls hl => ?_)
  exact w_X9_nextRow_7 hG C FU x1_6 h _ _ _ (lv_sub hl [1, 0] rfl) hP hS hf
/-! CarriedBackModel.isClean(I)Z -/
abbrev rmX9_isClean : Room := { frames := 2, cells := 0, slots := 0, locals := 47 }
abbrev vX9_isClean : List Cond := Cond.code yX9_isClean cX9_isClean 4 (some .boolean) :: GW
def f_X9_isClean_39 (k9 : Int32 → Int32 → PH → Option (Int32 × PH)) (x3 : Int32) (t0 : Int32) (h : PH) : Option (Int32 × PH) := bO (ag h 91 8 x3) (fun v46 => bO (f_X9_goOn v46 h) (fun h47 => k9 t0 (x3 + 1) h47))
set_option maxHeartbeats 4000000 in
set_option maxRecDepth 100000 in
theorem w_X9_isClean_39 {l : Launch} {G : GC} (hG : GOK G) {rr : Int32} {hh : PH} {p : Program} {e : Env} {s : State} {m : MethodId} {args : Array Value} {below : List Frame} {meth : Method} {c : Code} (C : MC l G p s m args meth c RX9 cX9_isClean 4 (some .boolean)) (k9 : Int32 → Int32 → PH → Option (Int32 × PH)) (hk9 : ∀ (x2 : Int32) (x3 : Int32) (h : PH) (H : Heap) (locs : List Loc) (ls : Array Slot), lv_has ls 4 [(0, .ref (gB G 66)), (2, .int x2), (3, .int x3)] → WP G h H → SP G s H locs → k9 x2 x3 h = some (rr, hh) → W p l e rmX9_isClean s m args below meth c H locs 0 0 (MQ below (QI G rr hh) args s 0 0 (gA G)) (F0 m 9 ls [])) : ∀ (x3 : Int32) (t0 : Int32) (h : PH) (H : Heap) (locs : List Loc) (ls : Array Slot), lv_has ls 4 [(0, .ref (gB G 66)), (3, .int x3)] → WP G h H → SP G s H locs → f_X9_isClean_39 k9 x3 t0 h = some (rr, hh) → W p l e rmX9_isClean s m args below meth c H locs 0 0 (MQ below (QI G rr hh) args s 0 0 (gA G)) (F0 m 39 ls [.int t0]) := by
  obtain ⟨hx, hb, hr, hlocks, hml, hown, hts, hK⟩ := id C
  intro x3 t0 h H locs ls hl hP hS hf
  rw [f_X9_isClean_39] at hf
  refine lv_istore_n (lv' := [(2, .int t0), (0, .ref (gB G 66)), (3, .int x3)]) hx hb dX9_isClean_39 rfl hl (by decide) rfl (fun ls hl => ?_)
  refine lv_aload_n hx hb dX9_isClean_40 rfl (lv_at hl 1 rfl) ?_
  refine lv_aload_n hx hb dX9_isClean_41 rfl (lv_at hl 1 rfl) ?_
  refine r_get (a := 66) (v := .ref (gB G 91)) (C := RX9) (T := TX9) (N := 55) hx hb hts hinX9 hown hK hP (ltX9 rfl) (ceX9 rfl) rfl 39 (by decide) wd1074 rfl dX9_isClean_42 ?_
  refine lv_iload_n hx hb dX9_isClean_45 rfl (lv_at hl 2 rfl) ?_
  obtain ⟨v46, ev46, hf⟩ := bO_s hf
  refine r_iald hx hb hK hP (arX9_39 rfl) ev46 dX9_isClean_46 ?_
  obtain ⟨h47, eh47, hf⟩ := bO_s hf
  refine r_callV (va_runV (As := [.int v46]) (rest := []) ⟨hx, hb, hml, hown, hts⟩ (k_X9_goOn l hG eh47) (cwV 1 hts (gV wd1379 wd1381 wd52 wd82 wd1382) rfl rfl rfl (by decide +kernel) ⟨Nat.le_of_ble_eq_true rfl, Nat.le_of_ble_eq_true rfl⟩) (r_pv hK hP hS (ltX9 rfl) (ceX9 rfl) rfl) rfl rfl hl.1 rfl (lv_room (Nat.le_of_ble_eq_true rfl)) dX9_isClean_47 ⟨Nat.le_of_ble_eq_true rfl, Nat.le_of_ble_eq_true rfl⟩) hS (fun H locs hP hS => ?_)
  refine lv_iinc (v := (x3 + 1)) (lv' := [(3, .int (x3 + 1)), (2, .int t0), (0, .ref (gB G 66))]) hx hb dX9_isClean_50 hl (k := 2) rfl rfl (by decide) rfl (fun ls hl => ?_)
  refine lv_goto (tgt := 9) hx hb dX9_isClean_53 (by decide) ?_
  exact hk9 t0 (x3 + 1) h47 _ _ _ (lv_sub hl [2, 1, 0] rfl) hP hS hf
def f_X9_isClean_9 : Nat → Int32 → Int32 → PH → Option (Int32 × PH)
  | 0, _, _, _ => none
  | n + 1, x2, x3, h => if (h.1 66 40) ≤ x3 then (zr x2 (x2, h)) else (if x2 = 0 then (zr x2 (x2, h)) else (bO (ag h 91 8 x3) (fun v27 => bP (f_X9_clashOf v27 h) (fun r28 h28 => if r28 = 0 then (f_X9_isClean_39 (f_X9_isClean_9 n) x3 1 h28) else (f_X9_isClean_39 (f_X9_isClean_9 n) x3 0 h28)))))
set_option maxHeartbeats 4000000 in
set_option maxRecDepth 100000 in
theorem w_X9_isClean_9 {l : Launch} {G : GC} (hG : GOK G) {rr : Int32} {hh : PH} {p : Program} {e : Env} {s : State} {m : MethodId} {args : Array Value} {below : List Frame} {meth : Method} {c : Code} (C : MC l G p s m args meth c RX9 cX9_isClean 4 (some .boolean)) : ∀ (n : Nat) (x2 : Int32) (x3 : Int32) (h : PH) (H : Heap) (locs : List Loc) (ls : Array Slot), lv_has ls 4 [(0, .ref (gB G 66)), (2, .int x2), (3, .int x3)] → WP G h H → SP G s H locs → f_X9_isClean_9 n x2 x3 h = some (rr, hh) → W p l e rmX9_isClean s m args below meth c H locs 0 0 (MQ below (QI G rr hh) args s 0 0 (gA G)) (F0 m 9 ls []) := by
  obtain ⟨hx, hb, hr, hlocks, hml, hown, hts, hK⟩ := id C
  intro n
  induction n with
  | zero => intro x2 x3 h H locs ls hl hP hS hf; rw [f_X9_isClean_9] at hf; cases hf
  | succ n ih =>
    intro x2 x3 h H locs ls hl hP hS hf
    rw [f_X9_isClean_9] at hf
    refine lv_iload_n hx hb dX9_isClean_9 rfl (lv_at hl 2 rfl) ?_
    refine lv_aload_n hx hb dX9_isClean_10 rfl (lv_at hl 0 rfl) ?_
    refine r_get (a := 66) (v := .int (h.1 66 40)) (C := RX9) (T := TX9) (N := 55) hx hb hts hinX9 hown hK hP (ltX9 rfl) (ceX9 rfl) rfl 40 (by decide) wd1075 rfl dX9_isClean_11 ?_
    refine lv_icmp_ge (tgt := 56) hx hb dX9_isClean_14 (by decide) (fun c14 => ?_) (fun c14 => ?_)
    · replace hf := if_t c14 hf
      refine lv_iload_n hx hb dX9_isClean_56 rfl (lv_at hl 1 rfl) ?_
      obtain ⟨hz, hf⟩ := zr_s hf
      exact r_zret hx hb hr hz hlocks hP hS (re2 hf) dX9_isClean_57
    · replace hf := if_f c14 hf
      refine lv_iload_n hx hb dX9_isClean_17 rfl (lv_at hl 1 rfl) ?_
      refine lv_if_eq (tgt := 56) hx hb dX9_isClean_18 (by decide) (fun c18 => ?_) (fun c18 => ?_)
      · replace hf := if_t c18 hf
        refine lv_iload_n hx hb dX9_isClean_56 rfl (lv_at hl 1 rfl) ?_
        obtain ⟨hz, hf⟩ := zr_s hf
        exact r_zret hx hb hr hz hlocks hP hS (re2 hf) dX9_isClean_57
      · replace hf := if_f c18 hf
        refine lv_aload_n hx hb dX9_isClean_21 rfl (lv_at hl 0 rfl) ?_
        refine lv_aload_n hx hb dX9_isClean_22 rfl (lv_at hl 0 rfl) ?_
        refine r_get (a := 66) (v := .ref (gB G 91)) (C := RX9) (T := TX9) (N := 55) hx hb hts hinX9 hown hK hP (ltX9 rfl) (ceX9 rfl) rfl 39 (by decide) wd1074 rfl dX9_isClean_23 ?_
        refine lv_iload_n hx hb dX9_isClean_26 rfl (lv_at hl 2 rfl) ?_
        obtain ⟨v27, ev27, hf⟩ := bO_s hf
        refine r_iald hx hb hK hP (arX9_39 rfl) ev27 dX9_isClean_27 ?_
        obtain ⟨r28, h28, er28, hf⟩ := bP_s hf
        refine r_callI (va_runV (As := [.int v27]) (rest := []) ⟨hx, hb, hml, hown, hts⟩ (k_X9_clashOf l hG er28) (cwV 1 hts (gV wd1371 wd1373 wd51 wd82 wd1374) rfl rfl rfl (by decide +kernel) ⟨Nat.le_of_ble_eq_true rfl, Nat.le_of_ble_eq_true rfl⟩) (r_pv hK hP hS (ltX9 rfl) (ceX9 rfl) rfl) rfl rfl hl.1 rfl (lv_room (Nat.le_of_ble_eq_true rfl)) dX9_isClean_28 ⟨Nat.le_of_ble_eq_true rfl, Nat.le_of_ble_eq_true rfl⟩) hS (fun H locs hP hS => ?_)
        refine lv_if_ne (tgt := 38) hx hb dX9_isClean_31 (by decide) (fun c31 => ?_) (fun c31 => ?_)
        · replace hf := if_f c31 hf
          refine lv_iconst (v := 0) hx hb dX9_isClean_38 (by decide) ?_
          exact w_X9_isClean_39 hG C (f_X9_isClean_9 n) ih x3 0 h28 _ _ _ (lv_sub hl [0, 2] rfl) hP hS hf
        · replace hf := if_t c31 hf
          refine lv_iconst (v := 1) hx hb dX9_isClean_34 (by decide) ?_
          refine lv_goto (tgt := 39) hx hb dX9_isClean_35 (by decide) ?_
          exact w_X9_isClean_39 hG C (f_X9_isClean_9 n) ih x3 1 h28 _ _ _ (lv_sub hl [0, 2] rfl) hP hS hf
def f_X9_isClean (x1 : Int32) (h : PH) : Option (Int32 × PH) := bO (f_X9_tryLine x1 h) (fun h2 => f_X9_isClean_9 FU 1 0 h2)
set_option maxHeartbeats 4000000 in
set_option maxRecDepth 100000 in
theorem k_X9_isClean (l : Launch) {G : GC} (hG : GOK G) {x1 : Int32} {rr : Int32} {h hh : PH} (hf : f_X9_isClean x1 h = some (rr, hh)) : CI l yX9_isClean vX9_isClean rmX9_isClean G [.ref (gB G 66), .int x1] h rr hh := by
  refine Met.ofW (cc := cX9_isClean) (maxL := 4) (ret := (some .boolean)) (by decide +kernel) rfl ?_
  intro p e s m args below meth c s₁ B hml hv
  obtain ⟨rfl, hP, hK⟩ := hv
  have C : MC l G p s m _ meth c RX9 cX9_isClean 4 (some .boolean) := ⟨B.exec, B.bytes, B.returns, B.notSynchronized, hml, findClass_of_methodNamed B.named, fun w hw => atoms_spec (ws := vX9_isClean) B.pre w (List.mem_cons_of_mem _ hw), hK⟩
  obtain ⟨hx, hb, hr, hlocks, -, hown, hts, -⟩ := id C
  have hl := lv_entry ([.ref (gB G 66), .int x1]) (n := 4) (Nat.le_of_ble_eq_true rfl)
  rw [lg_entry_eq]
  generalize (lg_sl ([.ref (gB G 66), .int x1]) ++ List.replicate (4 - (lg_sl ([.ref (gB G 66), .int x1])).length) Slot.unset).toArray = ls at hl ⊢
  have hl : lv_has ls 4 [(0, .ref (gB G 66)), (1, .int x1)] := hl
  have hS : SP G s s.heap [] := va_S.rf
  replace hP : WP G h s.heap := hP
  rw [f_X9_isClean] at hf
  refine lv_aload_n hx hb dX9_isClean_0 rfl (lv_at hl 0 rfl) ?_
  refine lv_iload_n hx hb dX9_isClean_1 rfl (lv_at hl 1 rfl) ?_
  obtain ⟨h2, eh2, hf⟩ := bO_s hf
  refine r_callV (va_runV (As := [.int x1]) (rest := []) ⟨hx, hb, hml, hown, hts⟩ (k_X9_tryLine l hG eh2) (cwV 1 hts (gV wd1367 wd1369 wd50 wd82 wd1370) rfl rfl rfl (by decide +kernel) ⟨Nat.le_of_ble_eq_true rfl, Nat.le_of_ble_eq_true rfl⟩) (r_pv hK hP hS (ltX9 rfl) (ceX9 rfl) rfl) rfl rfl hl.1 rfl (lv_room (Nat.le_of_ble_eq_true rfl)) dX9_isClean_2 ⟨Nat.le_of_ble_eq_true rfl, Nat.le_of_ble_eq_true rfl⟩) hS (fun H locs hP hS => ?_)
  refine lv_iconst (v := 1) hx hb dX9_isClean_5 (by decide) ?_
  refine lv_istore_n (lv' := [(2, .int 1), (0, .ref (gB G 66)), (1, .int x1)]) hx hb dX9_isClean_6 rfl hl (by decide) rfl (fun ls hl => ?_)
  refine lv_iconst (v := 0) hx hb dX9_isClean_7 (by decide) ?_
  refine lv_istore_n (lv' := [(3, .int 0), (2, .int 1), (0, .ref (gB G 66)), (1, .int x1)]) hx hb dX9_isClean_8 rfl hl (by decide) rfl (fun ls hl => ?_)
  exact w_X9_isClean_9 hG C FU 1 0 h2 _ _ _ (lv_sub hl [2, 1, 0] rfl) hP hS hf
/-! CarriedBackModel.seek(III)I -/
abbrev rmX9_seek : Room := { frames := 3, cells := 0, slots := 0, locals := 70 }
abbrev vX9_seek : List Cond := Cond.code yX9_seek cX9_seek 6 (some .int) :: GW
def f_X9_seek_36 (x1 : Int32) (x3 : Int32) (k11 : Int32 → Int32 → PH → Option (Int32 × PH)) (x4 : Int32) (h : PH) : Option (Int32 × PH) := bP (f_X9_nextRow h) (fun r37 h37 => k11 x4 r37 h37)
set_option maxHeartbeats 4000000 in
set_option maxRecDepth 100000 in
theorem w_X9_seek_36 {l : Launch} {G : GC} (hG : GOK G) {rr : Int32} {hh : PH} {p : Program} {e : Env} {s : State} {m : MethodId} {args : Array Value} {below : List Frame} {meth : Method} {c : Code} (C : MC l G p s m args meth c RX9 cX9_seek 6 (some .int)) (x1 : Int32) (x3 : Int32) (k11 : Int32 → Int32 → PH → Option (Int32 × PH)) (hk11 : ∀ (x4 : Int32) (x5 : Int32) (h : PH) (H : Heap) (locs : List Loc) (ls : Array Slot), lv_has ls 6 [(0, .ref (gB G 66)), (1, .int x1), (3, .int x3), (4, .int x4), (5, .int x5)] → WP G h H → SP G s H locs → k11 x4 x5 h = some (rr, hh) → W p l e rmX9_seek s m args below meth c H locs 0 0 (MQ below (QI G rr hh) args s 0 0 (gA G)) (F0 m 11 ls [])) : ∀ (x4 : Int32) (h : PH) (H : Heap) (locs : List Loc) (ls : Array Slot), lv_has ls 6 [(0, .ref (gB G 66)), (1, .int x1), (3, .int x3), (4, .int x4)] → WP G h H → SP G s H locs → f_X9_seek_36 x1 x3 k11 x4 h = some (rr, hh) → W p l e rmX9_seek s m args below meth c H locs 0 0 (MQ below (QI G rr hh) args s 0 0 (gA G)) (F0 m 36 ls []) := by
  obtain ⟨hx, hb, hr, hlocks, hml, hown, hts, hK⟩ := id C
  intro x4 h H locs ls hl hP hS hf
  rw [f_X9_seek_36] at hf
  refine lv_aload_n hx hb dX9_seek_36 rfl (lv_at hl 0 rfl) ?_
  obtain ⟨r37, h37, er37, hf⟩ := bP_s hf
  refine r_callI (va_runV (As := []) (rest := []) ⟨hx, hb, hml, hown, hts⟩ (k_X9_nextRow l hG er37) (cwV 0 hts (gV wd1521 wd1523 wd68 wd82 wd1524) rfl rfl rfl (by decide +kernel) ⟨Nat.le_of_ble_eq_true rfl, Nat.le_of_ble_eq_true rfl⟩) (r_pv hK hP hS (ltX9 rfl) (ceX9 rfl) rfl) rfl rfl hl.1 rfl (lv_room (Nat.le_of_ble_eq_true rfl)) dX9_seek_37 ⟨Nat.le_of_ble_eq_true rfl, Nat.le_of_ble_eq_true rfl⟩) hS (fun H locs hP hS => ?_)
  refine lv_istore (lv' := [(5, .int r37), (0, .ref (gB G 66)), (1, .int x1), (3, .int x3), (4, .int x4)]) hx hb dX9_seek_40 hl (by decide) rfl (fun ls hl => ?_)
  refine lv_goto (tgt := 11) hx hb dX9_seek_42 (by decide) ?_
  exact hk11 x4 r37 h37 _ _ _ (lv_sub hl [1, 2, 3, 4, 0] rfl) hP hS hf
def f_X9_seek_11 (x1 : Int32) (x3 : Int32) : Nat → Int32 → Int32 → PH → Option (Int32 × PH)
  | 0, _, _, _ => none
  | n + 1, x4, x5, h => if x5 = 0 then (some (x4, h)) else (bP (f_X9_isClean x1 h) (fun r18 h18 => if r18 = 0 then (f_X9_seek_36 x1 x3 (f_X9_seek_11 x1 x3 n) x4 h18) else (if x4 = x3 then (some (x4, h18)) else (f_X9_seek_36 x1 x3 (f_X9_seek_11 x1 x3 n) (x4 + 1) h18))))
set_option maxHeartbeats 4000000 in
set_option maxRecDepth 100000 in
theorem w_X9_seek_11 {l : Launch} {G : GC} (hG : GOK G) {rr : Int32} {hh : PH} {p : Program} {e : Env} {s : State} {m : MethodId} {args : Array Value} {below : List Frame} {meth : Method} {c : Code} (C : MC l G p s m args meth c RX9 cX9_seek 6 (some .int)) (x1 : Int32) (x3 : Int32) : ∀ (n : Nat) (x4 : Int32) (x5 : Int32) (h : PH) (H : Heap) (locs : List Loc) (ls : Array Slot), lv_has ls 6 [(0, .ref (gB G 66)), (1, .int x1), (3, .int x3), (4, .int x4), (5, .int x5)] → WP G h H → SP G s H locs → f_X9_seek_11 x1 x3 n x4 x5 h = some (rr, hh) → W p l e rmX9_seek s m args below meth c H locs 0 0 (MQ below (QI G rr hh) args s 0 0 (gA G)) (F0 m 11 ls []) := by
  obtain ⟨hx, hb, hr, hlocks, hml, hown, hts, hK⟩ := id C
  intro n
  induction n with
  | zero => intro x4 x5 h H locs ls hl hP hS hf; rw [f_X9_seek_11] at hf; cases hf
  | succ n ih =>
    intro x4 x5 h H locs ls hl hP hS hf
    rw [f_X9_seek_11] at hf
    refine lv_iload hx hb dX9_seek_11 (lv_at hl 4 rfl) ?_
    refine lv_if_eq (tgt := 45) hx hb dX9_seek_13 (by decide) (fun c13 => ?_) (fun c13 => ?_)
    · replace hf := if_t c13 hf
      refine lv_iload hx hb dX9_seek_45 (lv_at hl 3 rfl) ?_
      exact r_iret hx hb hr hlocks hP hS (re2 (Option.some.inj hf)) dX9_seek_47
    · replace hf := if_f c13 hf
      refine lv_aload_n hx hb dX9_seek_16 rfl (lv_at hl 0 rfl) ?_
      refine lv_iload_n hx hb dX9_seek_17 rfl (lv_at hl 1 rfl) ?_
      obtain ⟨r18, h18, er18, hf⟩ := bP_s hf
      refine r_callI (va_runV (As := [.int x1]) (rest := []) ⟨hx, hb, hml, hown, hts⟩ (k_X9_isClean l hG er18) (cwV 1 hts (gV wd1517 wd1519 wd67 wd82 wd1520) rfl rfl rfl (by decide +kernel) ⟨Nat.le_of_ble_eq_true rfl, Nat.le_of_ble_eq_true rfl⟩) (r_pv hK hP hS (ltX9 rfl) (ceX9 rfl) rfl) rfl rfl hl.1 rfl (lv_room (Nat.le_of_ble_eq_true rfl)) dX9_seek_18 ⟨Nat.le_of_ble_eq_true rfl, Nat.le_of_ble_eq_true rfl⟩) hS (fun H locs hP hS => ?_)
      refine lv_if_eq (tgt := 36) hx hb dX9_seek_21 (by decide) (fun c21 => ?_) (fun c21 => ?_)
      · replace hf := if_t c21 hf
        exact w_X9_seek_36 hG C x1 x3 (f_X9_seek_11 x1 x3 n) ih x4 h18 _ _ _ (lv_sub hl [0, 1, 2, 3] rfl) hP hS hf
      · replace hf := if_f c21 hf
        refine lv_iload hx hb dX9_seek_24 (lv_at hl 3 rfl) ?_
        refine lv_iload_n hx hb dX9_seek_26 rfl (lv_at hl 2 rfl) ?_
        refine lv_icmp_ne (tgt := 33) hx hb dX9_seek_27 (by decide) (fun c27 => ?_) (fun c27 => ?_)
        · replace hf := if_f c27 hf
          refine lv_iinc (v := (x4 + 1)) (lv' := [(4, .int (x4 + 1)), (0, .ref (gB G 66)), (1, .int x1), (3, .int x3), (5, .int x5)]) hx hb dX9_seek_33 hl (k := 3) rfl rfl (by decide) rfl (fun ls hl => ?_)
          exact w_X9_seek_36 hG C x1 x3 (f_X9_seek_11 x1 x3 n) ih (x4 + 1) h18 _ _ _ (lv_sub hl [1, 2, 3, 0] rfl) hP hS hf
        · replace hf := if_t c27 hf
          refine lv_iload hx hb dX9_seek_30 (lv_at hl 3 rfl) ?_
          exact r_iret hx hb hr hlocks hP hS (re2 (Option.some.inj hf)) dX9_seek_32
def f_X9_seek (x1 : Int32) (x2 : Int32) (x3 : Int32) (h : PH) : Option (Int32 × PH) := bO (f_X9_fillRow x2 h) (fun h2 => f_X9_seek_11 x1 x3 FU 0 1 h2)
set_option maxHeartbeats 4000000 in
set_option maxRecDepth 100000 in
theorem k_X9_seek (l : Launch) {G : GC} (hG : GOK G) {x1 : Int32} {x2 : Int32} {x3 : Int32} {rr : Int32} {h hh : PH} (hf : f_X9_seek x1 x2 x3 h = some (rr, hh)) : CI l yX9_seek vX9_seek rmX9_seek G [.ref (gB G 66), .int x1, .int x2, .int x3] h rr hh := by
  refine Met.ofW (cc := cX9_seek) (maxL := 6) (ret := (some .int)) (by decide +kernel) rfl ?_
  intro p e s m args below meth c s₁ B hml hv
  obtain ⟨rfl, hP, hK⟩ := hv
  have C : MC l G p s m _ meth c RX9 cX9_seek 6 (some .int) := ⟨B.exec, B.bytes, B.returns, B.notSynchronized, hml, findClass_of_methodNamed B.named, fun w hw => atoms_spec (ws := vX9_seek) B.pre w (List.mem_cons_of_mem _ hw), hK⟩
  obtain ⟨hx, hb, hr, hlocks, -, hown, hts, -⟩ := id C
  have hl := lv_entry ([.ref (gB G 66), .int x1, .int x2, .int x3]) (n := 6) (Nat.le_of_ble_eq_true rfl)
  rw [lg_entry_eq]
  generalize (lg_sl ([.ref (gB G 66), .int x1, .int x2, .int x3]) ++ List.replicate (6 - (lg_sl ([.ref (gB G 66), .int x1, .int x2, .int x3])).length) Slot.unset).toArray = ls at hl ⊢
  have hl : lv_has ls 6 [(0, .ref (gB G 66)), (1, .int x1), (2, .int x2), (3, .int x3)] := hl
  have hS : SP G s s.heap [] := va_S.rf
  replace hP : WP G h s.heap := hP
  rw [f_X9_seek] at hf
  refine lv_aload_n hx hb dX9_seek_0 rfl (lv_at hl 0 rfl) ?_
  refine lv_iload_n hx hb dX9_seek_1 rfl (lv_at hl 2 rfl) ?_
  obtain ⟨h2, eh2, hf⟩ := bO_s hf
  refine r_callV (va_runV (As := [.int x2]) (rest := []) ⟨hx, hb, hml, hown, hts⟩ (k_X9_fillRow l hG eh2) (cwV 1 hts (gV wd1513 wd1515 wd66 wd82 wd1516) rfl rfl rfl (by decide +kernel) ⟨Nat.le_of_ble_eq_true rfl, Nat.le_of_ble_eq_true rfl⟩) (r_pv hK hP hS (ltX9 rfl) (ceX9 rfl) rfl) rfl rfl hl.1 rfl (lv_room (Nat.le_of_ble_eq_true rfl)) dX9_seek_2 ⟨Nat.le_of_ble_eq_true rfl, Nat.le_of_ble_eq_true rfl⟩) hS (fun H locs hP hS => ?_)
  refine lv_iconst (v := 0) hx hb dX9_seek_5 (by decide) ?_
  refine lv_istore (lv' := [(4, .int 0), (0, .ref (gB G 66)), (1, .int x1), (2, .int x2), (3, .int x3)]) hx hb dX9_seek_6 hl (by decide) rfl (fun ls hl => ?_)
  refine lv_iconst (v := 1) hx hb dX9_seek_8 (by decide) ?_
  refine lv_istore (lv' := [(5, .int 1), (4, .int 0), (0, .ref (gB G 66)), (1, .int x1), (2, .int x2), (3, .int x3)]) hx hb dX9_seek_9 hl (by decide) rfl (fun ls hl => ?_)
  exact w_X9_seek_11 hG C x1 x3 FU 0 1 h2 _ _ _ (lv_sub hl [2, 3, 5, 1, 0] rfl) hP hS hf
/-! CarriedBackModel.isFew(II)Z -/
abbrev rmX9_isFew : Room := { frames := 1, cells := 0, slots := 0, locals := 22 }
abbrev vX9_isFew : List Cond := Cond.code yX9_isFew cX9_isFew 3 (some .boolean) :: GW
def f_X9_isFew (x1 : Int32) (x2 : Int32) (h : PH) : Option (Int32 × PH) := bO (ag h 74 4 x1) (fun v6 => if (x2 &&& v6) = 0 then (bO (f_X9_bits x2) (fun r12 => if (8 : Int32) < r12 then (some (0, h)) else (some (1, h)))) else (some (0, h)))
set_option maxHeartbeats 4000000 in
set_option maxRecDepth 100000 in
theorem k_X9_isFew (l : Launch) {G : GC} (hG : GOK G) {x1 : Int32} {x2 : Int32} {rr : Int32} {h hh : PH} (hf : f_X9_isFew x1 x2 h = some (rr, hh)) : CI l yX9_isFew vX9_isFew rmX9_isFew G [.ref (gB G 66), .int x1, .int x2] h rr hh := by
  refine Met.ofW (cc := cX9_isFew) (maxL := 3) (ret := (some .boolean)) (by decide +kernel) rfl ?_
  intro p e s m args below meth c s₁ B hml hv
  obtain ⟨rfl, hP, hK⟩ := hv
  have C : MC l G p s m _ meth c RX9 cX9_isFew 3 (some .boolean) := ⟨B.exec, B.bytes, B.returns, B.notSynchronized, hml, findClass_of_methodNamed B.named, fun w hw => atoms_spec (ws := vX9_isFew) B.pre w (List.mem_cons_of_mem _ hw), hK⟩
  obtain ⟨hx, hb, hr, hlocks, -, hown, hts, -⟩ := id C
  have hl := lv_entry ([.ref (gB G 66), .int x1, .int x2]) (n := 3) (Nat.le_of_ble_eq_true rfl)
  rw [lg_entry_eq]
  generalize (lg_sl ([.ref (gB G 66), .int x1, .int x2]) ++ List.replicate (3 - (lg_sl ([.ref (gB G 66), .int x1, .int x2])).length) Slot.unset).toArray = ls at hl ⊢
  have hl : lv_has ls 3 [(0, .ref (gB G 66)), (1, .int x1), (2, .int x2)] := hl
  have hS : SP G s s.heap [] := va_S.rf
  replace hP : WP G h s.heap := hP
  rw [f_X9_isFew] at hf
  refine lv_iload_n hx hb dX9_isFew_0 rfl (lv_at hl 2 rfl) ?_
  refine lv_aload_n hx hb dX9_isFew_1 rfl (lv_at hl 0 rfl) ?_
  refine r_get (a := 66) (v := .ref (gB G 74)) (C := RX9) (T := TX9) (N := 55) hx hb hts hinX9 hown hK hP (ltX9 rfl) (ceX9 rfl) rfl 10 (by decide) wd1045 rfl dX9_isFew_2 ?_
  refine lv_iload_n hx hb dX9_isFew_5 rfl (lv_at hl 1 rfl) ?_
  obtain ⟨v6, ev6, hf⟩ := bO_s hf
  refine r_iald hx hb hK hP (arX9_10 rfl) ev6 dX9_isFew_6 ?_
  refine lv_iand hx hb dX9_isFew_7 ?_
  refine lv_if_ne (tgt := 24) hx hb dX9_isFew_8 (by decide) (fun c8 => ?_) (fun c8 => ?_)
  · replace hf := if_f c8 hf
    refine lv_iconst (v := 0) hx hb dX9_isFew_24 (by decide) ?_
    exact r_zret hx hb hr rfl hlocks hP hS (re2 (Option.some.inj hf)) dX9_isFew_25
  · replace hf := if_t c8 hf
    refine lv_iload_n hx hb dX9_isFew_11 rfl (lv_at hl 2 rfl) ?_
    obtain ⟨r12, er12, hf⟩ := bO_s hf
    refine r_callI (va_runS (As := [.int x2]) (rest := []) ⟨hx, hb, hml, hown, hts⟩ (k_X9_bits l hG (h := h) er12) (va_cwS 1 hts (gS wd1387 wd1388 wd82 wd1389) rfl rfl rfl (by decide +kernel) ⟨Nat.le_of_ble_eq_true rfl, Nat.le_of_ble_eq_true rfl⟩) (r_ps hK hP hS) rfl rfl hl.1 rfl (lv_room (Nat.le_of_ble_eq_true rfl)) dX9_isFew_12 ⟨Nat.le_of_ble_eq_true rfl, Nat.le_of_ble_eq_true rfl⟩) hS (fun H locs hP hS => ?_)
    refine lv_bipush (v := 8) hx hb dX9_isFew_15 (by decide) ?_
    refine lv_icmp_gt (tgt := 24) hx hb dX9_isFew_17 (by decide) (fun c17 => ?_) (fun c17 => ?_)
    · replace hf := if_t c17 hf
      refine lv_iconst (v := 0) hx hb dX9_isFew_24 (by decide) ?_
      exact r_zret hx hb hr rfl hlocks hP hS (re2 (Option.some.inj hf)) dX9_isFew_25
    · replace hf := if_f c17 hf
      refine lv_iconst (v := 1) hx hb dX9_isFew_20 (by decide) ?_
      refine lv_goto (tgt := 25) hx hb dX9_isFew_21 (by decide) ?_
      exact r_zret hx hb hr rfl hlocks hP hS (re2 (Option.some.inj hf)) dX9_isFew_25
/-! CarriedBackModel.orders(II)I -/
abbrev rmX9_orders : Room := { frames := 4, cells := 0, slots := 0, locals := 95 }
abbrev vX9_orders : List Cond := Cond.code yX9_orders cX9_orders 3 (some .int) :: GW
def f_X9_orders (x1 : Int32) (x2 : Int32) (h : PH) : Option (Int32 × PH) := bP (f_X9_isLine x1 h) (fun r2 h2 => if r2 = 0 then (some ((-1001), h2)) else (bP (f_X9_areChanges x2 h2) (fun r10 h10 => if r10 = 0 then (some ((-1001), h10)) else (bP (f_X9_isFew x1 x2 h10) (fun r23 h23 => if r23 = 0 then (some ((-1003), h23)) else (bP (f_X9_seek x1 x2 (-1) h23) (fun r33 h33 => some (r33, h33))))))))
set_option maxHeartbeats 4000000 in
set_option maxRecDepth 100000 in
theorem k_X9_orders (l : Launch) {G : GC} (hG : GOK G) {x1 : Int32} {x2 : Int32} {rr : Int32} {h hh : PH} (hf : f_X9_orders x1 x2 h = some (rr, hh)) : CI l yX9_orders vX9_orders rmX9_orders G [.ref (gB G 66), .int x1, .int x2] h rr hh := by
  refine Met.ofW (cc := cX9_orders) (maxL := 3) (ret := (some .int)) (by decide +kernel) rfl ?_
  intro p e s m args below meth c s₁ B hml hv
  obtain ⟨rfl, hP, hK⟩ := hv
  have C : MC l G p s m _ meth c RX9 cX9_orders 3 (some .int) := ⟨B.exec, B.bytes, B.returns, B.notSynchronized, hml, findClass_of_methodNamed B.named, fun w hw => atoms_spec (ws := vX9_orders) B.pre w (List.mem_cons_of_mem _ hw), hK⟩
  obtain ⟨hx, hb, hr, hlocks, -, hown, hts, -⟩ := id C
  have hl := lv_entry ([.ref (gB G 66), .int x1, .int x2]) (n := 3) (Nat.le_of_ble_eq_true rfl)
  rw [lg_entry_eq]
  generalize (lg_sl ([.ref (gB G 66), .int x1, .int x2]) ++ List.replicate (3 - (lg_sl ([.ref (gB G 66), .int x1, .int x2])).length) Slot.unset).toArray = ls at hl ⊢
  have hl : lv_has ls 3 [(0, .ref (gB G 66)), (1, .int x1), (2, .int x2)] := hl
  have hS : SP G s s.heap [] := va_S.rf
  replace hP : WP G h s.heap := hP
  rw [f_X9_orders] at hf
  refine lv_aload_n hx hb dX9_orders_0 rfl (lv_at hl 0 rfl) ?_
  refine lv_iload_n hx hb dX9_orders_1 rfl (lv_at hl 1 rfl) ?_
  obtain ⟨r2, h2, er2, hf⟩ := bP_s hf
  refine r_callI (va_runV (As := [.int x1]) (rest := []) ⟨hx, hb, hml, hown, hts⟩ (k_X9_isLine l hG er2) (cwV 1 hts (gV wd1347 wd1349 wd47 wd82 wd1350) rfl rfl rfl (by decide +kernel) ⟨Nat.le_of_ble_eq_true rfl, Nat.le_of_ble_eq_true rfl⟩) (r_pv hK hP hS (ltX9 rfl) (ceX9 rfl) rfl) rfl rfl hl.1 rfl (lv_room (Nat.le_of_ble_eq_true rfl)) dX9_orders_2 ⟨Nat.le_of_ble_eq_true rfl, Nat.le_of_ble_eq_true rfl⟩) hS (fun H locs hP hS => ?_)
  refine lv_if_eq (tgt := 16) hx hb dX9_orders_5 (by decide) (fun c5 => ?_) (fun c5 => ?_)
  · replace hf := if_t c5 hf
    refine lv_sipush (v := (-1001)) hx hb dX9_orders_16 (by decide) ?_
    exact r_iret hx hb hr hlocks hP hS (re2 (Option.some.inj hf)) dX9_orders_19
  · replace hf := if_f c5 hf
    refine lv_aload_n hx hb dX9_orders_8 rfl (lv_at hl 0 rfl) ?_
    refine lv_iload_n hx hb dX9_orders_9 rfl (lv_at hl 2 rfl) ?_
    obtain ⟨r10, h10, er10, hf⟩ := bP_s hf
    refine r_callI (va_runV (As := [.int x2]) (rest := []) ⟨hx, hb, hml, hown, hts⟩ (k_X9_areChanges l hG er10) (cwV 1 hts (gV wd1501 wd1503 wd63 wd82 wd1504) rfl rfl rfl (by decide +kernel) ⟨Nat.le_of_ble_eq_true rfl, Nat.le_of_ble_eq_true rfl⟩) (r_pv hK hP hS (ltX9 rfl) (ceX9 rfl) rfl) rfl rfl hl.1 rfl (lv_room (Nat.le_of_ble_eq_true rfl)) dX9_orders_10 ⟨Nat.le_of_ble_eq_true rfl, Nat.le_of_ble_eq_true rfl⟩) hS (fun H locs hP hS => ?_)
    refine lv_if_ne (tgt := 20) hx hb dX9_orders_13 (by decide) (fun c13 => ?_) (fun c13 => ?_)
    · replace hf := if_f c13 hf
      refine lv_aload_n hx hb dX9_orders_20 rfl (lv_at hl 0 rfl) ?_
      refine lv_iload_n hx hb dX9_orders_21 rfl (lv_at hl 1 rfl) ?_
      refine lv_iload_n hx hb dX9_orders_22 rfl (lv_at hl 2 rfl) ?_
      obtain ⟨r23, h23, er23, hf⟩ := bP_s hf
      refine r_callI (va_runV (As := [.int x1, .int x2]) (rest := []) ⟨hx, hb, hml, hown, hts⟩ (k_X9_isFew l hG er23) (cwV 2 hts (gV wd1505 wd1507 wd64 wd82 wd1508) rfl rfl rfl (by decide +kernel) ⟨Nat.le_of_ble_eq_true rfl, Nat.le_of_ble_eq_true rfl⟩) (r_pv hK hP hS (ltX9 rfl) (ceX9 rfl) rfl) rfl rfl hl.1 rfl (lv_room (Nat.le_of_ble_eq_true rfl)) dX9_orders_23 ⟨Nat.le_of_ble_eq_true rfl, Nat.le_of_ble_eq_true rfl⟩) hS (fun H locs hP hS => ?_)
      refine lv_if_eq (tgt := 39) hx hb dX9_orders_26 (by decide) (fun c26 => ?_) (fun c26 => ?_)
      · replace hf := if_t c26 hf
        refine lv_sipush (v := (-1003)) hx hb dX9_orders_39 (by decide) ?_
        exact r_iret hx hb hr hlocks hP hS (re2 (Option.some.inj hf)) dX9_orders_42
      · replace hf := if_f c26 hf
        refine lv_aload_n hx hb dX9_orders_29 rfl (lv_at hl 0 rfl) ?_
        refine lv_iload_n hx hb dX9_orders_30 rfl (lv_at hl 1 rfl) ?_
        refine lv_iload_n hx hb dX9_orders_31 rfl (lv_at hl 2 rfl) ?_
        refine lv_iconst (v := (-1)) hx hb dX9_orders_32 (by decide) ?_
        obtain ⟨r33, h33, er33, hf⟩ := bP_s hf
        refine r_callI (va_runV (As := [.int x1, .int x2, .int (-1)]) (rest := []) ⟨hx, hb, hml, hown, hts⟩ (k_X9_seek l hG er33) (cwV 3 hts (gV wd1509 wd1511 wd65 wd82 wd1512) rfl rfl rfl (by decide +kernel) ⟨Nat.le_of_ble_eq_true rfl, Nat.le_of_ble_eq_true rfl⟩) (r_pv hK hP hS (ltX9 rfl) (ceX9 rfl) rfl) rfl rfl hl.1 rfl (lv_room (Nat.le_of_ble_eq_true rfl)) dX9_orders_33 ⟨Nat.le_of_ble_eq_true rfl, Nat.le_of_ble_eq_true rfl⟩) hS (fun H locs hP hS => ?_)
        refine lv_goto (tgt := 42) hx hb dX9_orders_36 (by decide) ?_
        exact r_iret hx hb hr hlocks hP hS (re2 (Option.some.inj hf)) dX9_orders_42
    · replace hf := if_t c13 hf
      refine lv_sipush (v := (-1001)) hx hb dX9_orders_16 (by decide) ?_
      exact r_iret hx hb hr hlocks hP hS (re2 (Option.some.inj hf)) dX9_orders_19
/-! CarriedBackModel.order(IIII)I -/
abbrev rmX9_order : Room := { frames := 4, cells := 0, slots := 0, locals := 95 }
abbrev vX9_order : List Cond := Cond.code yX9_order cX9_order 5 (some .int) :: GW
def f_X9_order (x1 : Int32) (x2 : Int32) (x3 : Int32) (x4 : Int32) (h : PH) : Option (Int32 × PH) := bP (f_X9_isLine x1 h) (fun r2 h2 => if r2 = 0 then (some ((-1001), h2)) else (bP (f_X9_areChanges x2 h2) (fun r10 h10 => if r10 = 0 then (some ((-1001), h10)) else (if (0 : Int32) ≤ x3 then (bP (f_X9_isFew x1 x2 h10) (fun r31 h31 => if r31 = 0 then (some ((-1003), h31)) else (bP (f_X9_seek x1 x2 (-1) h31) (fun r46 h46 => if r46 ≤ x3 then (some ((-1), h46)) else (bO (f_X9_bits x2) (fun r57 => bO (f_X9_in (x4 : Int32).toInt64 0 ((r57 - 1) : Int32).toInt64) (fun r63 => if r63 = 0 then (some ((-1), h46)) else (bP (f_X9_seek x1 x2 x3 h46) (fun r75 h75 => if r75 = x3 then (bO (ag h75 91 8 x4) (fun v88 => some (v88, h75))) else (some ((-1), h75))))))))))) else (some ((-1002), h10))))))
set_option maxHeartbeats 4000000 in
set_option maxRecDepth 100000 in
theorem k_X9_order (l : Launch) {G : GC} (hG : GOK G) {x1 : Int32} {x2 : Int32} {x3 : Int32} {x4 : Int32} {rr : Int32} {h hh : PH} (hf : f_X9_order x1 x2 x3 x4 h = some (rr, hh)) : CI l yX9_order vX9_order rmX9_order G [.ref (gB G 66), .int x1, .int x2, .int x3, .int x4] h rr hh := by
  refine Met.ofW (cc := cX9_order) (maxL := 5) (ret := (some .int)) (by decide +kernel) rfl ?_
  intro p e s m args below meth c s₁ B hml hv
  obtain ⟨rfl, hP, hK⟩ := hv
  have C : MC l G p s m _ meth c RX9 cX9_order 5 (some .int) := ⟨B.exec, B.bytes, B.returns, B.notSynchronized, hml, findClass_of_methodNamed B.named, fun w hw => atoms_spec (ws := vX9_order) B.pre w (List.mem_cons_of_mem _ hw), hK⟩
  obtain ⟨hx, hb, hr, hlocks, -, hown, hts, -⟩ := id C
  have hl := lv_entry ([.ref (gB G 66), .int x1, .int x2, .int x3, .int x4]) (n := 5) (Nat.le_of_ble_eq_true rfl)
  rw [lg_entry_eq]
  generalize (lg_sl ([.ref (gB G 66), .int x1, .int x2, .int x3, .int x4]) ++ List.replicate (5 - (lg_sl ([.ref (gB G 66), .int x1, .int x2, .int x3, .int x4])).length) Slot.unset).toArray = ls at hl ⊢
  have hl : lv_has ls 5 [(0, .ref (gB G 66)), (1, .int x1), (2, .int x2), (3, .int x3), (4, .int x4)] := hl
  have hS : SP G s s.heap [] := va_S.rf
  replace hP : WP G h s.heap := hP
  rw [f_X9_order] at hf
  refine lv_aload_n hx hb dX9_order_0 rfl (lv_at hl 0 rfl) ?_
  refine lv_iload_n hx hb dX9_order_1 rfl (lv_at hl 1 rfl) ?_
  obtain ⟨r2, h2, er2, hf⟩ := bP_s hf
  refine r_callI (va_runV (As := [.int x1]) (rest := []) ⟨hx, hb, hml, hown, hts⟩ (k_X9_isLine l hG er2) (cwV 1 hts (gV wd1347 wd1349 wd47 wd82 wd1350) rfl rfl rfl (by decide +kernel) ⟨Nat.le_of_ble_eq_true rfl, Nat.le_of_ble_eq_true rfl⟩) (r_pv hK hP hS (ltX9 rfl) (ceX9 rfl) rfl) rfl rfl hl.1 rfl (lv_room (Nat.le_of_ble_eq_true rfl)) dX9_order_2 ⟨Nat.le_of_ble_eq_true rfl, Nat.le_of_ble_eq_true rfl⟩) hS (fun H locs hP hS => ?_)
  refine lv_if_eq (tgt := 16) hx hb dX9_order_5 (by decide) (fun c5 => ?_) (fun c5 => ?_)
  · replace hf := if_t c5 hf
    refine lv_sipush (v := (-1001)) hx hb dX9_order_16 (by decide) ?_
    exact r_iret hx hb hr hlocks hP hS (re2 (Option.some.inj hf)) dX9_order_19
  · replace hf := if_f c5 hf
    refine lv_aload_n hx hb dX9_order_8 rfl (lv_at hl 0 rfl) ?_
    refine lv_iload_n hx hb dX9_order_9 rfl (lv_at hl 2 rfl) ?_
    obtain ⟨r10, h10, er10, hf⟩ := bP_s hf
    refine r_callI (va_runV (As := [.int x2]) (rest := []) ⟨hx, hb, hml, hown, hts⟩ (k_X9_areChanges l hG er10) (cwV 1 hts (gV wd1501 wd1503 wd63 wd82 wd1504) rfl rfl rfl (by decide +kernel) ⟨Nat.le_of_ble_eq_true rfl, Nat.le_of_ble_eq_true rfl⟩) (r_pv hK hP hS (ltX9 rfl) (ceX9 rfl) rfl) rfl rfl hl.1 rfl (lv_room (Nat.le_of_ble_eq_true rfl)) dX9_order_10 ⟨Nat.le_of_ble_eq_true rfl, Nat.le_of_ble_eq_true rfl⟩) hS (fun H locs hP hS => ?_)
    refine lv_if_ne (tgt := 20) hx hb dX9_order_13 (by decide) (fun c13 => ?_) (fun c13 => ?_)
    · replace hf := if_f c13 hf
      refine lv_iload_n hx hb dX9_order_20 rfl (lv_at hl 3 rfl) ?_
      refine lv_if_ge (tgt := 28) hx hb dX9_order_21 (by decide) (fun c21 => ?_) (fun c21 => ?_)
      · replace hf := if_t c21 hf
        refine lv_aload_n hx hb dX9_order_28 rfl (lv_at hl 0 rfl) ?_
        refine lv_iload_n hx hb dX9_order_29 rfl (lv_at hl 1 rfl) ?_
        refine lv_iload_n hx hb dX9_order_30 rfl (lv_at hl 2 rfl) ?_
        obtain ⟨r31, h31, er31, hf⟩ := bP_s hf
        refine r_callI (va_runV (As := [.int x1, .int x2]) (rest := []) ⟨hx, hb, hml, hown, hts⟩ (k_X9_isFew l hG er31) (cwV 2 hts (gV wd1505 wd1507 wd64 wd82 wd1508) rfl rfl rfl (by decide +kernel) ⟨Nat.le_of_ble_eq_true rfl, Nat.le_of_ble_eq_true rfl⟩) (r_pv hK hP hS (ltX9 rfl) (ceX9 rfl) rfl) rfl rfl hl.1 rfl (lv_room (Nat.le_of_ble_eq_true rfl)) dX9_order_31 ⟨Nat.le_of_ble_eq_true rfl, Nat.le_of_ble_eq_true rfl⟩) hS (fun H locs hP hS => ?_)
        refine lv_if_ne (tgt := 41) hx hb dX9_order_34 (by decide) (fun c34 => ?_) (fun c34 => ?_)
        · replace hf := if_f c34 hf
          refine lv_iload_n hx hb dX9_order_41 rfl (lv_at hl 3 rfl) ?_
          refine lv_aload_n hx hb dX9_order_42 rfl (lv_at hl 0 rfl) ?_
          refine lv_iload_n hx hb dX9_order_43 rfl (lv_at hl 1 rfl) ?_
          refine lv_iload_n hx hb dX9_order_44 rfl (lv_at hl 2 rfl) ?_
          refine lv_iconst (v := (-1)) hx hb dX9_order_45 (by decide) ?_
          obtain ⟨r46, h46, er46, hf⟩ := bP_s hf
          refine r_callI (va_runV (As := [.int x1, .int x2, .int (-1)]) (rest := [.int x3]) ⟨hx, hb, hml, hown, hts⟩ (k_X9_seek l hG er46) (cwV 3 hts (gV wd1509 wd1511 wd65 wd82 wd1512) rfl rfl rfl (by decide +kernel) ⟨Nat.le_of_ble_eq_true rfl, Nat.le_of_ble_eq_true rfl⟩) (r_pv hK hP hS (ltX9 rfl) (ceX9 rfl) rfl) rfl rfl hl.1 rfl (lv_room (Nat.le_of_ble_eq_true rfl)) dX9_order_46 ⟨Nat.le_of_ble_eq_true rfl, Nat.le_of_ble_eq_true rfl⟩) hS (fun H locs hP hS => ?_)
          refine lv_icmp_ge (tgt := 69) hx hb dX9_order_49 (by decide) (fun c49 => ?_) (fun c49 => ?_)
          · replace hf := if_t c49 hf
            refine lv_iconst (v := (-1)) hx hb dX9_order_69 (by decide) ?_
            exact r_iret hx hb hr hlocks hP hS (re2 (Option.some.inj hf)) dX9_order_70
          · replace hf := if_f c49 hf
            refine lv_iload hx hb dX9_order_52 (lv_at hl 4 rfl) ?_
            refine lv_i2l hx hb dX9_order_54 rfl ?_
            refine lv_lconst (v := 0) hx hb dX9_order_55 (by decide) ?_
            refine lv_iload_n hx hb dX9_order_56 rfl (lv_at hl 2 rfl) ?_
            obtain ⟨r57, er57, hf⟩ := bO_s hf
            refine r_callI (va_runS (As := [.int x2]) (rest := [.long 0, .long (x4 : Int32).toInt64]) ⟨hx, hb, hml, hown, hts⟩ (k_X9_bits l hG (h := h46) er57) (va_cwS 1 hts (gS wd1387 wd1388 wd82 wd1389) rfl rfl rfl (by decide +kernel) ⟨Nat.le_of_ble_eq_true rfl, Nat.le_of_ble_eq_true rfl⟩) (r_ps hK hP hS) rfl rfl hl.1 rfl (lv_room (Nat.le_of_ble_eq_true rfl)) dX9_order_57 ⟨Nat.le_of_ble_eq_true rfl, Nat.le_of_ble_eq_true rfl⟩) hS (fun H locs hP hS => ?_)
            refine lv_iconst (v := 1) hx hb dX9_order_60 (by decide) ?_
            refine lv_isub hx hb dX9_order_61 ?_
            refine lv_i2l hx hb dX9_order_62 rfl ?_
            obtain ⟨r63, er63, hf⟩ := bO_s hf
            refine r_callI (va_runS (As := [.long (x4 : Int32).toInt64, .long 0, .long ((r57 - 1) : Int32).toInt64]) (rest := []) ⟨hx, hb, hml, hown, hts⟩ (k_X9_in l hG (h := h46) er63) (va_cwS 3 hts (gS wd1206 wd1207 wd82 wd1208) rfl rfl rfl (by decide +kernel) ⟨Nat.le_of_ble_eq_true rfl, Nat.le_of_ble_eq_true rfl⟩) (r_ps hK hP hS) rfl rfl hl.1 rfl (lv_room (Nat.le_of_ble_eq_true rfl)) dX9_order_63 ⟨Nat.le_of_ble_eq_true rfl, Nat.le_of_ble_eq_true rfl⟩) hS (fun H locs hP hS => ?_)
            refine lv_if_ne (tgt := 71) hx hb dX9_order_66 (by decide) (fun c66 => ?_) (fun c66 => ?_)
            · replace hf := if_f c66 hf
              refine lv_aload_n hx hb dX9_order_71 rfl (lv_at hl 0 rfl) ?_
              refine lv_iload_n hx hb dX9_order_72 rfl (lv_at hl 1 rfl) ?_
              refine lv_iload_n hx hb dX9_order_73 rfl (lv_at hl 2 rfl) ?_
              refine lv_iload_n hx hb dX9_order_74 rfl (lv_at hl 3 rfl) ?_
              obtain ⟨r75, h75, er75, hf⟩ := bP_s hf
              refine r_callI (va_runV (As := [.int x1, .int x2, .int x3]) (rest := []) ⟨hx, hb, hml, hown, hts⟩ (k_X9_seek l hG er75) (cwV 3 hts (gV wd1509 wd1511 wd65 wd82 wd1512) rfl rfl rfl (by decide +kernel) ⟨Nat.le_of_ble_eq_true rfl, Nat.le_of_ble_eq_true rfl⟩) (r_pv hK hP hS (ltX9 rfl) (ceX9 rfl) rfl) rfl rfl hl.1 rfl (lv_room (Nat.le_of_ble_eq_true rfl)) dX9_order_75 ⟨Nat.le_of_ble_eq_true rfl, Nat.le_of_ble_eq_true rfl⟩) hS (fun H locs hP hS => ?_)
              refine lv_iload_n hx hb dX9_order_78 rfl (lv_at hl 3 rfl) ?_
              refine lv_icmp_ne (tgt := 92) hx hb dX9_order_79 (by decide) (fun c79 => ?_) (fun c79 => ?_)
              · replace hf := if_f c79 hf
                refine lv_iconst (v := (-1)) hx hb dX9_order_92 (by decide) ?_
                exact r_iret hx hb hr hlocks hP hS (re2 (Option.some.inj hf)) dX9_order_93
              · replace hf := if_t c79 hf
                refine lv_aload_n hx hb dX9_order_82 rfl (lv_at hl 0 rfl) ?_
                refine r_get (a := 66) (v := .ref (gB G 91)) (C := RX9) (T := TX9) (N := 55) hx hb hts hinX9 hown hK hP (ltX9 rfl) (ceX9 rfl) rfl 39 (by decide) wd1074 rfl dX9_order_83 ?_
                refine lv_iload hx hb dX9_order_86 (lv_at hl 4 rfl) ?_
                obtain ⟨v88, ev88, hf⟩ := bO_s hf
                refine r_iald hx hb hK hP (arX9_39 rfl) ev88 dX9_order_88 ?_
                refine lv_goto (tgt := 93) hx hb dX9_order_89 (by decide) ?_
                exact r_iret hx hb hr hlocks hP hS (re2 (Option.some.inj hf)) dX9_order_93
            · replace hf := if_t c66 hf
              refine lv_iconst (v := (-1)) hx hb dX9_order_69 (by decide) ?_
              exact r_iret hx hb hr hlocks hP hS (re2 (Option.some.inj hf)) dX9_order_70
        · replace hf := if_t c34 hf
          refine lv_sipush (v := (-1003)) hx hb dX9_order_37 (by decide) ?_
          exact r_iret hx hb hr hlocks hP hS (re2 (Option.some.inj hf)) dX9_order_40
      · replace hf := if_f c21 hf
        refine lv_sipush (v := (-1002)) hx hb dX9_order_24 (by decide) ?_
        exact r_iret hx hb hr hlocks hP hS (re2 (Option.some.inj hf)) dX9_order_27
    · replace hf := if_t c13 hf
      refine lv_sipush (v := (-1001)) hx hb dX9_order_16 (by decide) ?_
      exact r_iret hx hb hr hlocks hP hS (re2 (Option.some.inj hf)) dX9_order_19
/-! CarriedBackModel.whence(II)I -/
abbrev rmX9_whence : Room := { frames := 2, cells := 0, slots := 0, locals := 46 }
abbrev vX9_whence : List Cond := Cond.code yX9_whence cX9_whence 6 (some .int) :: GW
def f_X9_whence_93 (x1 : Int32) (x2 : Int32) (k24 : Int32 → Int32 → PH → Option (Int32 × PH)) (x3 : Int32) (x4 : Int32) (t0 : Int32) (h : PH) : Option (Int32 × PH) := if t0 = 0 then (k24 x3 (x4 + 1) h) else (k24 x4 (x4 + 1) h)
set_option maxHeartbeats 4000000 in
set_option maxRecDepth 100000 in
theorem w_X9_whence_93 {l : Launch} {G : GC} (hG : GOK G) {rr : Int32} {hh : PH} {p : Program} {e : Env} {s : State} {m : MethodId} {args : Array Value} {below : List Frame} {meth : Method} {c : Code} (C : MC l G p s m args meth c RX9 cX9_whence 6 (some .int)) (x1 : Int32) (x2 : Int32) (k24 : Int32 → Int32 → PH → Option (Int32 × PH)) (hk24 : ∀ (x3 : Int32) (x4 : Int32) (h : PH) (H : Heap) (locs : List Loc) (ls : Array Slot), lv_has ls 6 [(0, .ref (gB G 66)), (1, .int x1), (2, .int x2), (3, .int x3), (4, .int x4)] → WP G h H → SP G s H locs → k24 x3 x4 h = some (rr, hh) → W p l e rmX9_whence s m args below meth c H locs 0 0 (MQ below (QI G rr hh) args s 0 0 (gA G)) (F0 m 24 ls [])) : ∀ (x3 : Int32) (x4 : Int32) (t0 : Int32) (h : PH) (H : Heap) (locs : List Loc) (ls : Array Slot), lv_has ls 6 [(0, .ref (gB G 66)), (1, .int x1), (2, .int x2), (3, .int x3), (4, .int x4)] → WP G h H → SP G s H locs → f_X9_whence_93 x1 x2 k24 x3 x4 t0 h = some (rr, hh) → W p l e rmX9_whence s m args below meth c H locs 0 0 (MQ below (QI G rr hh) args s 0 0 (gA G)) (F0 m 93 ls [.int t0]) := by
  obtain ⟨hx, hb, hr, hlocks, hml, hown, hts, hK⟩ := id C
  intro x3 x4 t0 h H locs ls hl hP hS hf
  rw [f_X9_whence_93] at hf
  refine lv_istore (lv' := [(5, .int t0), (0, .ref (gB G 66)), (1, .int x1), (2, .int x2), (3, .int x3), (4, .int x4)]) hx hb dX9_whence_93 hl (by decide) rfl (fun ls hl => ?_)
  refine lv_iload hx hb dX9_whence_95 (lv_at hl 0 rfl) ?_
  refine lv_if_eq (tgt := 105) hx hb dX9_whence_97 (by decide) (fun c97 => ?_) (fun c97 => ?_)
  · replace hf := if_t c97 hf
    refine lv_iload_n hx hb dX9_whence_105 rfl (lv_at hl 4 rfl) ?_
    refine lv_istore_n (lv' := [(3, .int x3), (5, .int t0), (0, .ref (gB G 66)), (1, .int x1), (2, .int x2), (4, .int x4)]) hx hb dX9_whence_106 rfl hl (by decide) rfl (fun ls hl => ?_)
    refine lv_iinc (v := (x4 + 1)) (lv' := [(4, .int (x4 + 1)), (3, .int x3), (5, .int t0), (0, .ref (gB G 66)), (1, .int x1), (2, .int x2)]) hx hb dX9_whence_107 hl (k := 5) rfl rfl (by decide) rfl (fun ls hl => ?_)
    refine lv_goto (tgt := 24) hx hb dX9_whence_110 (by decide) ?_
    exact hk24 x3 (x4 + 1) h _ _ _ (lv_sub hl [3, 4, 5, 1, 0] rfl) hP hS hf
  · replace hf := if_f c97 hf
    refine lv_iload hx hb dX9_whence_100 (lv_at hl 5 rfl) ?_
    refine lv_goto (tgt := 106) hx hb dX9_whence_102 (by decide) ?_
    refine lv_istore_n (lv' := [(3, .int x4), (5, .int t0), (0, .ref (gB G 66)), (1, .int x1), (2, .int x2), (4, .int x4)]) hx hb dX9_whence_106 rfl hl (by decide) rfl (fun ls hl => ?_)
    refine lv_iinc (v := (x4 + 1)) (lv' := [(4, .int (x4 + 1)), (3, .int x4), (5, .int t0), (0, .ref (gB G 66)), (1, .int x1), (2, .int x2)]) hx hb dX9_whence_107 hl (k := 5) rfl rfl (by decide) rfl (fun ls hl => ?_)
    refine lv_goto (tgt := 24) hx hb dX9_whence_110 (by decide) ?_
    exact hk24 x4 (x4 + 1) h _ _ _ (lv_sub hl [3, 4, 5, 1, 0] rfl) hP hS hf
def f_X9_whence_92 (x1 : Int32) (x2 : Int32) (k24 : Int32 → Int32 → PH → Option (Int32 × PH)) (x3 : Int32) (x4 : Int32) (h : PH) : Option (Int32 × PH) := f_X9_whence_93 x1 x2 k24 x3 x4 0 h
set_option maxHeartbeats 4000000 in
set_option maxRecDepth 100000 in
theorem w_X9_whence_92 {l : Launch} {G : GC} (hG : GOK G) {rr : Int32} {hh : PH} {p : Program} {e : Env} {s : State} {m : MethodId} {args : Array Value} {below : List Frame} {meth : Method} {c : Code} (C : MC l G p s m args meth c RX9 cX9_whence 6 (some .int)) (x1 : Int32) (x2 : Int32) (k24 : Int32 → Int32 → PH → Option (Int32 × PH)) (hk24 : ∀ (x3 : Int32) (x4 : Int32) (h : PH) (H : Heap) (locs : List Loc) (ls : Array Slot), lv_has ls 6 [(0, .ref (gB G 66)), (1, .int x1), (2, .int x2), (3, .int x3), (4, .int x4)] → WP G h H → SP G s H locs → k24 x3 x4 h = some (rr, hh) → W p l e rmX9_whence s m args below meth c H locs 0 0 (MQ below (QI G rr hh) args s 0 0 (gA G)) (F0 m 24 ls [])) : ∀ (x3 : Int32) (x4 : Int32) (h : PH) (H : Heap) (locs : List Loc) (ls : Array Slot), lv_has ls 6 [(0, .ref (gB G 66)), (1, .int x1), (2, .int x2), (3, .int x3), (4, .int x4)] → WP G h H → SP G s H locs → f_X9_whence_92 x1 x2 k24 x3 x4 h = some (rr, hh) → W p l e rmX9_whence s m args below meth c H locs 0 0 (MQ below (QI G rr hh) args s 0 0 (gA G)) (F0 m 92 ls []) := by
  obtain ⟨hx, hb, hr, hlocks, hml, hown, hts, hK⟩ := id C
  intro x3 x4 h H locs ls hl hP hS hf
  rw [f_X9_whence_92] at hf
  refine lv_iconst (v := 0) hx hb dX9_whence_92 (by decide) ?_
  exact w_X9_whence_93 hG C x1 x2 k24 hk24 x3 x4 0 h _ _ _ (lv_sub hl [0, 1, 2, 3, 4] rfl) hP hS hf
def f_X9_whence_24 (x1 : Int32) (x2 : Int32) : Nat → Int32 → Int32 → PH → Option (Int32 × PH)
  | 0, _, _, _ => none
  | n + 1, x3, x4, h => if (h.1 66 0) ≤ x4 then (some (x3, h)) else (bO (ag h 74 4 x1) (fun v38 => bO (f_X9_has v38 x4) (fun r41 => if r41 = 0 then (f_X9_whence_92 x1 x2 (f_X9_whence_24 x1 x2 n) x3 x4 h) else (bO (ag h 67 384 ((16 * x4) + x2)) (fun v58 => if v58 ≤ 0 then (f_X9_whence_92 x1 x2 (f_X9_whence_24 x1 x2 n) x3 x4 h) else (bO (ag h 67 384 ((16 * x4) + x2)) (fun v73 => bO (ag h 75 64 ((16 * x1) + x2)) (fun v84 => if v73 = v84 then (f_X9_whence_93 x1 x2 (f_X9_whence_24 x1 x2 n) x3 x4 1 h) else (f_X9_whence_92 x1 x2 (f_X9_whence_24 x1 x2 n) x3 x4 h)))))))))
set_option maxHeartbeats 4000000 in
set_option maxRecDepth 100000 in
theorem w_X9_whence_24 {l : Launch} {G : GC} (hG : GOK G) {rr : Int32} {hh : PH} {p : Program} {e : Env} {s : State} {m : MethodId} {args : Array Value} {below : List Frame} {meth : Method} {c : Code} (C : MC l G p s m args meth c RX9 cX9_whence 6 (some .int)) (x1 : Int32) (x2 : Int32) : ∀ (n : Nat) (x3 : Int32) (x4 : Int32) (h : PH) (H : Heap) (locs : List Loc) (ls : Array Slot), lv_has ls 6 [(0, .ref (gB G 66)), (1, .int x1), (2, .int x2), (3, .int x3), (4, .int x4)] → WP G h H → SP G s H locs → f_X9_whence_24 x1 x2 n x3 x4 h = some (rr, hh) → W p l e rmX9_whence s m args below meth c H locs 0 0 (MQ below (QI G rr hh) args s 0 0 (gA G)) (F0 m 24 ls []) := by
  obtain ⟨hx, hb, hr, hlocks, hml, hown, hts, hK⟩ := id C
  intro n
  induction n with
  | zero => intro x3 x4 h H locs ls hl hP hS hf; rw [f_X9_whence_24] at hf; cases hf
  | succ n ih =>
    intro x3 x4 h H locs ls hl hP hS hf
    rw [f_X9_whence_24] at hf
    refine lv_iload hx hb dX9_whence_24 (lv_at hl 4 rfl) ?_
    refine lv_aload_n hx hb dX9_whence_26 rfl (lv_at hl 0 rfl) ?_
    refine r_get (a := 66) (v := .int (h.1 66 0)) (C := RX9) (T := TX9) (N := 55) hx hb hts hinX9 hown hK hP (ltX9 rfl) (ceX9 rfl) rfl 0 (by decide) wd1035 rfl dX9_whence_27 ?_
    refine lv_icmp_ge (tgt := 113) hx hb dX9_whence_30 (by decide) (fun c30 => ?_) (fun c30 => ?_)
    · replace hf := if_t c30 hf
      refine lv_iload_n hx hb dX9_whence_113 rfl (lv_at hl 3 rfl) ?_
      exact r_iret hx hb hr hlocks hP hS (re2 (Option.some.inj hf)) dX9_whence_114
    · replace hf := if_f c30 hf
      refine lv_aload_n hx hb dX9_whence_33 rfl (lv_at hl 0 rfl) ?_
      refine r_get (a := 66) (v := .ref (gB G 74)) (C := RX9) (T := TX9) (N := 55) hx hb hts hinX9 hown hK hP (ltX9 rfl) (ceX9 rfl) rfl 10 (by decide) wd1045 rfl dX9_whence_34 ?_
      refine lv_iload_n hx hb dX9_whence_37 rfl (lv_at hl 1 rfl) ?_
      obtain ⟨v38, ev38, hf⟩ := bO_s hf
      refine r_iald hx hb hK hP (arX9_10 rfl) ev38 dX9_whence_38 ?_
      refine lv_iload hx hb dX9_whence_39 (lv_at hl 4 rfl) ?_
      obtain ⟨r41, er41, hf⟩ := bO_s hf
      refine r_callI (va_runS (As := [.int v38, .int x4]) (rest := []) ⟨hx, hb, hml, hown, hts⟩ (k_X9_has l hG (h := h) er41) (va_cwS 2 hts (gS wd1260 wd1261 wd82 wd1262) rfl rfl rfl (by decide +kernel) ⟨Nat.le_of_ble_eq_true rfl, Nat.le_of_ble_eq_true rfl⟩) (r_ps hK hP hS) rfl rfl hl.1 rfl (lv_room (Nat.le_of_ble_eq_true rfl)) dX9_whence_41 ⟨Nat.le_of_ble_eq_true rfl, Nat.le_of_ble_eq_true rfl⟩) hS (fun H locs hP hS => ?_)
      refine lv_if_eq (tgt := 92) hx hb dX9_whence_44 (by decide) (fun c44 => ?_) (fun c44 => ?_)
      · replace hf := if_t c44 hf
        exact w_X9_whence_92 hG C x1 x2 (f_X9_whence_24 x1 x2 n) ih x3 x4 h _ _ _ (lv_sub hl [0, 1, 2, 3, 4] rfl) hP hS hf
      · replace hf := if_f c44 hf
        refine lv_aload_n hx hb dX9_whence_47 rfl (lv_at hl 0 rfl) ?_
        refine r_get (a := 66) (v := .ref (gB G 67)) (C := RX9) (T := TX9) (N := 55) hx hb hts hinX9 hown hK hP (ltX9 rfl) (ceX9 rfl) rfl 1 (by decide) wd1036 rfl dX9_whence_48 ?_
        refine lv_bipush (v := 16) hx hb dX9_whence_51 (by decide) ?_
        refine lv_iload hx hb dX9_whence_53 (lv_at hl 4 rfl) ?_
        refine lv_imul hx hb dX9_whence_55 ?_
        refine lv_iload_n hx hb dX9_whence_56 rfl (lv_at hl 2 rfl) ?_
        refine lv_iadd hx hb dX9_whence_57 ?_
        obtain ⟨v58, ev58, hf⟩ := bO_s hf
        refine r_iald hx hb hK hP (arX9_1 rfl) ev58 dX9_whence_58 ?_
        refine lv_if_le (tgt := 92) hx hb dX9_whence_59 (by decide) (fun c59 => ?_) (fun c59 => ?_)
        · replace hf := if_t c59 hf
          exact w_X9_whence_92 hG C x1 x2 (f_X9_whence_24 x1 x2 n) ih x3 x4 h _ _ _ (lv_sub hl [0, 1, 2, 3, 4] rfl) hP hS hf
        · replace hf := if_f c59 hf
          refine lv_aload_n hx hb dX9_whence_62 rfl (lv_at hl 0 rfl) ?_
          refine r_get (a := 66) (v := .ref (gB G 67)) (C := RX9) (T := TX9) (N := 55) hx hb hts hinX9 hown hK hP (ltX9 rfl) (ceX9 rfl) rfl 1 (by decide) wd1036 rfl dX9_whence_63 ?_
          refine lv_bipush (v := 16) hx hb dX9_whence_66 (by decide) ?_
          refine lv_iload hx hb dX9_whence_68 (lv_at hl 4 rfl) ?_
          refine lv_imul hx hb dX9_whence_70 ?_
          refine lv_iload_n hx hb dX9_whence_71 rfl (lv_at hl 2 rfl) ?_
          refine lv_iadd hx hb dX9_whence_72 ?_
          obtain ⟨v73, ev73, hf⟩ := bO_s hf
          refine r_iald hx hb hK hP (arX9_1 rfl) ev73 dX9_whence_73 ?_
          refine lv_aload_n hx hb dX9_whence_74 rfl (lv_at hl 0 rfl) ?_
          refine r_get (a := 66) (v := .ref (gB G 75)) (C := RX9) (T := TX9) (N := 55) hx hb hts hinX9 hown hK hP (ltX9 rfl) (ceX9 rfl) rfl 11 (by decide) wd1046 rfl dX9_whence_75 ?_
          refine lv_bipush (v := 16) hx hb dX9_whence_78 (by decide) ?_
          refine lv_iload_n hx hb dX9_whence_80 rfl (lv_at hl 1 rfl) ?_
          refine lv_imul hx hb dX9_whence_81 ?_
          refine lv_iload_n hx hb dX9_whence_82 rfl (lv_at hl 2 rfl) ?_
          refine lv_iadd hx hb dX9_whence_83 ?_
          obtain ⟨v84, ev84, hf⟩ := bO_s hf
          refine r_iald hx hb hK hP (arX9_11 rfl) ev84 dX9_whence_84 ?_
          refine lv_icmp_ne (tgt := 92) hx hb dX9_whence_85 (by decide) (fun c85 => ?_) (fun c85 => ?_)
          · replace hf := if_f c85 hf
            exact w_X9_whence_92 hG C x1 x2 (f_X9_whence_24 x1 x2 n) ih x3 x4 h _ _ _ (lv_sub hl [0, 1, 2, 3, 4] rfl) hP hS hf
          · replace hf := if_t c85 hf
            refine lv_iconst (v := 1) hx hb dX9_whence_88 (by decide) ?_
            refine lv_goto (tgt := 93) hx hb dX9_whence_89 (by decide) ?_
            exact w_X9_whence_93 hG C x1 x2 (f_X9_whence_24 x1 x2 n) ih x3 x4 1 h _ _ _ (lv_sub hl [0, 1, 2, 3, 4] rfl) hP hS hf
def f_X9_whence (x1 : Int32) (x2 : Int32) (h : PH) : Option (Int32 × PH) := bP (f_X9_isLine x1 h) (fun r2 h2 => if r2 = 0 then (some ((-1001), h2)) else (bO (f_X9_isSlot x2) (fun r9 => if r9 = 0 then (some ((-1001), h2)) else (f_X9_whence_24 x1 x2 FU (-1) 0 h2))))
set_option maxHeartbeats 4000000 in
set_option maxRecDepth 100000 in
theorem k_X9_whence (l : Launch) {G : GC} (hG : GOK G) {x1 : Int32} {x2 : Int32} {rr : Int32} {h hh : PH} (hf : f_X9_whence x1 x2 h = some (rr, hh)) : CI l yX9_whence vX9_whence rmX9_whence G [.ref (gB G 66), .int x1, .int x2] h rr hh := by
  refine Met.ofW (cc := cX9_whence) (maxL := 6) (ret := (some .int)) (by decide +kernel) rfl ?_
  intro p e s m args below meth c s₁ B hml hv
  obtain ⟨rfl, hP, hK⟩ := hv
  have C : MC l G p s m _ meth c RX9 cX9_whence 6 (some .int) := ⟨B.exec, B.bytes, B.returns, B.notSynchronized, hml, findClass_of_methodNamed B.named, fun w hw => atoms_spec (ws := vX9_whence) B.pre w (List.mem_cons_of_mem _ hw), hK⟩
  obtain ⟨hx, hb, hr, hlocks, -, hown, hts, -⟩ := id C
  have hl := lv_entry ([.ref (gB G 66), .int x1, .int x2]) (n := 6) (Nat.le_of_ble_eq_true rfl)
  rw [lg_entry_eq]
  generalize (lg_sl ([.ref (gB G 66), .int x1, .int x2]) ++ List.replicate (6 - (lg_sl ([.ref (gB G 66), .int x1, .int x2])).length) Slot.unset).toArray = ls at hl ⊢
  have hl : lv_has ls 6 [(0, .ref (gB G 66)), (1, .int x1), (2, .int x2)] := hl
  have hS : SP G s s.heap [] := va_S.rf
  replace hP : WP G h s.heap := hP
  rw [f_X9_whence] at hf
  refine lv_aload_n hx hb dX9_whence_0 rfl (lv_at hl 0 rfl) ?_
  refine lv_iload_n hx hb dX9_whence_1 rfl (lv_at hl 1 rfl) ?_
  obtain ⟨r2, h2, er2, hf⟩ := bP_s hf
  refine r_callI (va_runV (As := [.int x1]) (rest := []) ⟨hx, hb, hml, hown, hts⟩ (k_X9_isLine l hG er2) (cwV 1 hts (gV wd1347 wd1349 wd47 wd82 wd1350) rfl rfl rfl (by decide +kernel) ⟨Nat.le_of_ble_eq_true rfl, Nat.le_of_ble_eq_true rfl⟩) (r_pv hK hP hS (ltX9 rfl) (ceX9 rfl) rfl) rfl rfl hl.1 rfl (lv_room (Nat.le_of_ble_eq_true rfl)) dX9_whence_2 ⟨Nat.le_of_ble_eq_true rfl, Nat.le_of_ble_eq_true rfl⟩) hS (fun H locs hP hS => ?_)
  refine lv_if_eq (tgt := 15) hx hb dX9_whence_5 (by decide) (fun c5 => ?_) (fun c5 => ?_)
  · replace hf := if_t c5 hf
    refine lv_sipush (v := (-1001)) hx hb dX9_whence_15 (by decide) ?_
    exact r_iret hx hb hr hlocks hP hS (re2 (Option.some.inj hf)) dX9_whence_18
  · replace hf := if_f c5 hf
    refine lv_iload_n hx hb dX9_whence_8 rfl (lv_at hl 2 rfl) ?_
    obtain ⟨r9, er9, hf⟩ := bO_s hf
    refine r_callI (va_runS (As := [.int x2]) (rest := []) ⟨hx, hb, hml, hown, hts⟩ (k_X9_isSlot l hG (h := h2) er9) (va_cwS 1 hts (gS wd1315 wd1316 wd82 wd1317) rfl rfl rfl (by decide +kernel) ⟨Nat.le_of_ble_eq_true rfl, Nat.le_of_ble_eq_true rfl⟩) (r_ps hK hP hS) rfl rfl hl.1 rfl (lv_room (Nat.le_of_ble_eq_true rfl)) dX9_whence_9 ⟨Nat.le_of_ble_eq_true rfl, Nat.le_of_ble_eq_true rfl⟩) hS (fun H locs hP hS => ?_)
    refine lv_if_ne (tgt := 19) hx hb dX9_whence_12 (by decide) (fun c12 => ?_) (fun c12 => ?_)
    · replace hf := if_f c12 hf
      refine lv_iconst (v := (-1)) hx hb dX9_whence_19 (by decide) ?_
      refine lv_istore_n (lv' := [(3, .int (-1)), (0, .ref (gB G 66)), (1, .int x1), (2, .int x2)]) hx hb dX9_whence_20 rfl hl (by decide) rfl (fun ls hl => ?_)
      refine lv_iconst (v := 0) hx hb dX9_whence_21 (by decide) ?_
      refine lv_istore (lv' := [(4, .int 0), (3, .int (-1)), (0, .ref (gB G 66)), (1, .int x1), (2, .int x2)]) hx hb dX9_whence_22 hl (by decide) rfl (fun ls hl => ?_)
      exact w_X9_whence_24 hG C x1 x2 FU (-1) 0 h2 _ _ _ (lv_sub hl [2, 3, 4, 1, 0] rfl) hP hS hf
    · replace hf := if_t c12 hf
      refine lv_sipush (v := (-1001)) hx hb dX9_whence_15 (by decide) ?_
      exact r_iret hx hb hr hlocks hP hS (re2 (Option.some.inj hf)) dX9_whence_18
/-! CarriedBackModel.strayed(I)I -/
abbrev rmX9_strayed : Room := { frames := 2, cells := 0, slots := 0, locals := 46 }
abbrev vX9_strayed : List Cond := Cond.code yX9_strayed cX9_strayed 5 (some .int) :: GW
def f_X9_strayed_56 (x1 : Int32) (x2 : Int32) : Nat → Int32 → Int32 → PH → Option (Int32 × PH)
  | 0, _, _, _ => none
  | n + 1, x3, x4, h => if (16 : Int32) ≤ x4 then (some (x3, h)) else (bO (ag h 75 64 ((16 * x1) + x4)) (fun v75 => bP (f_X9_aheadOf x2 x4 h) (fun r80 h80 => if v75 = r80 then (lt' ((x3 ||| 0)) (fun x3_95 => (f_X9_strayed_56 x1 x2 n) x3_95 (x4 + 1) h80)) else (lt' ((x3 ||| (1 <<< (x4 &&& 31)))) (fun x3_95 => (f_X9_strayed_56 x1 x2 n) x3_95 (x4 + 1) h80)))))
set_option maxHeartbeats 4000000 in
set_option maxRecDepth 100000 in
theorem w_X9_strayed_56 {l : Launch} {G : GC} (hG : GOK G) {rr : Int32} {hh : PH} {p : Program} {e : Env} {s : State} {m : MethodId} {args : Array Value} {below : List Frame} {meth : Method} {c : Code} (C : MC l G p s m args meth c RX9 cX9_strayed 5 (some .int)) (x1 : Int32) (x2 : Int32) : ∀ (n : Nat) (x3 : Int32) (x4 : Int32) (h : PH) (H : Heap) (locs : List Loc) (ls : Array Slot), lv_has ls 5 [(0, .ref (gB G 66)), (1, .int x1), (2, .int x2), (3, .int x3), (4, .int x4)] → WP G h H → SP G s H locs → f_X9_strayed_56 x1 x2 n x3 x4 h = some (rr, hh) → W p l e rmX9_strayed s m args below meth c H locs 0 0 (MQ below (QI G rr hh) args s 0 0 (gA G)) (F0 m 56 ls []) := by
  obtain ⟨hx, hb, hr, hlocks, hml, hown, hts, hK⟩ := id C
  intro n
  induction n with
  | zero => intro x3 x4 h H locs ls hl hP hS hf; rw [f_X9_strayed_56] at hf; cases hf
  | succ n ih =>
    intro x3 x4 h H locs ls hl hP hS hf
    rw [f_X9_strayed_56] at hf
    refine lv_iload hx hb dX9_strayed_56 (lv_at hl 4 rfl) ?_
    refine lv_bipush (v := 16) hx hb dX9_strayed_58 (by decide) ?_
    refine lv_icmp_ge (tgt := 102) hx hb dX9_strayed_60 (by decide) (fun c60 => ?_) (fun c60 => ?_)
    · replace hf := if_t c60 hf
      refine lv_iload_n hx hb dX9_strayed_102 rfl (lv_at hl 3 rfl) ?_
      exact r_iret hx hb hr hlocks hP hS (re2 (Option.some.inj hf)) dX9_strayed_103
    · replace hf := if_f c60 hf
      refine lv_iload_n hx hb dX9_strayed_63 rfl (lv_at hl 3 rfl) ?_
      refine lv_aload_n hx hb dX9_strayed_64 rfl (lv_at hl 0 rfl) ?_
      refine r_get (a := 66) (v := .ref (gB G 75)) (C := RX9) (T := TX9) (N := 55) hx hb hts hinX9 hown hK hP (ltX9 rfl) (ceX9 rfl) rfl 11 (by decide) wd1046 rfl dX9_strayed_65 ?_
      refine lv_bipush (v := 16) hx hb dX9_strayed_68 (by decide) ?_
      refine lv_iload_n hx hb dX9_strayed_70 rfl (lv_at hl 1 rfl) ?_
      refine lv_imul hx hb dX9_strayed_71 ?_
      refine lv_iload hx hb dX9_strayed_72 (lv_at hl 4 rfl) ?_
      refine lv_iadd hx hb dX9_strayed_74 ?_
      obtain ⟨v75, ev75, hf⟩ := bO_s hf
      refine r_iald hx hb hK hP (arX9_11 rfl) ev75 dX9_strayed_75 ?_
      refine lv_aload_n hx hb dX9_strayed_76 rfl (lv_at hl 0 rfl) ?_
      refine lv_iload_n hx hb dX9_strayed_77 rfl (lv_at hl 2 rfl) ?_
      refine lv_iload hx hb dX9_strayed_78 (lv_at hl 4 rfl) ?_
      obtain ⟨r80, h80, er80, hf⟩ := bP_s hf
      refine r_callI (va_runV (As := [.int x2, .int x4]) (rest := [.int v75, .int x3]) ⟨hx, hb, hml, hown, hts⟩ (k_X9_aheadOf l hG er80) (cwV 2 hts (gV wd1323 wd1325 wd45 wd82 wd1326) rfl rfl rfl (by decide +kernel) ⟨Nat.le_of_ble_eq_true rfl, Nat.le_of_ble_eq_true rfl⟩) (r_pv hK hP hS (ltX9 rfl) (ceX9 rfl) rfl) rfl rfl hl.1 rfl (lv_room (Nat.le_of_ble_eq_true rfl)) dX9_strayed_80 ⟨Nat.le_of_ble_eq_true rfl, Nat.le_of_ble_eq_true rfl⟩) hS (fun H locs hP hS => ?_)
      refine lv_icmp_eq (tgt := 93) hx hb dX9_strayed_83 (by decide) (fun c83 => ?_) (fun c83 => ?_)
      · replace hf := if_t c83 hf
        refine lv_iconst (v := 0) hx hb dX9_strayed_93 (by decide) ?_
        refine lv_ior hx hb dX9_strayed_94 ?_
        refine lv_topi (fun x3_95 ex3_95 => ?_)
        replace hf := lt_at ex3_95 hf
        refine lv_istore_n (lv' := [(3, .int x3_95), (0, .ref (gB G 66)), (1, .int x1), (2, .int x2), (4, .int x4)]) hx hb dX9_strayed_95 rfl hl (by decide) rfl (fun ls hl => ?_)
        refine lv_iinc (v := (x4 + 1)) (lv' := [(4, .int (x4 + 1)), (3, .int x3_95), (0, .ref (gB G 66)), (1, .int x1), (2, .int x2)]) hx hb dX9_strayed_96 hl (k := 4) rfl rfl (by decide) rfl (fun ls hl => ?_)
        refine lv_goto (tgt := 56) hx hb dX9_strayed_99 (by decide) ?_
        exact ih x3_95 (x4 + 1) h80 _ _ _ (lv_sub hl [2, 3, 4, 1, 0] rfl) hP hS hf
      · replace hf := if_f c83 hf
        refine lv_iconst (v := 1) hx hb dX9_strayed_86 (by decide) ?_
        refine lv_iload hx hb dX9_strayed_87 (lv_at hl 4 rfl) ?_
        refine lv_ishl hx hb dX9_strayed_89 ?_
        refine lv_goto (tgt := 94) hx hb dX9_strayed_90 (by decide) ?_
        refine lv_ior hx hb dX9_strayed_94 ?_
        refine lv_topi (fun x3_95 ex3_95 => ?_)
        replace hf := lt_at ex3_95 hf
        refine lv_istore_n (lv' := [(3, .int x3_95), (0, .ref (gB G 66)), (1, .int x1), (2, .int x2), (4, .int x4)]) hx hb dX9_strayed_95 rfl hl (by decide) rfl (fun ls hl => ?_)
        refine lv_iinc (v := (x4 + 1)) (lv' := [(4, .int (x4 + 1)), (3, .int x3_95), (0, .ref (gB G 66)), (1, .int x1), (2, .int x2)]) hx hb dX9_strayed_96 hl (k := 4) rfl rfl (by decide) rfl (fun ls hl => ?_)
        refine lv_goto (tgt := 56) hx hb dX9_strayed_99 (by decide) ?_
        exact ih x3_95 (x4 + 1) h80 _ _ _ (lv_sub hl [2, 3, 4, 1, 0] rfl) hP hS hf
def f_X9_strayed_16 (x1 : Int32) : Nat → Int32 → Int32 → PH → Option (Int32 × PH)
  | 0, _, _, _ => none
  | n + 1, x2, x3, h => if (h.1 66 0) ≤ x3 then (f_X9_strayed_56 x1 x2 FU 0 0 h) else (bO (ag h 74 4 x1) (fun v29 => bO (f_X9_has v29 x3) (fun r31 => if r31 = 0 then ((f_X9_strayed_16 x1 n) x2 (x3 + 1) h) else (lt' ((x3 + 1)) (fun x2_44 => (f_X9_strayed_16 x1 n) x2_44 (x3 + 1) h)))))
set_option maxHeartbeats 4000000 in
set_option maxRecDepth 100000 in
theorem w_X9_strayed_16 {l : Launch} {G : GC} (hG : GOK G) {rr : Int32} {hh : PH} {p : Program} {e : Env} {s : State} {m : MethodId} {args : Array Value} {below : List Frame} {meth : Method} {c : Code} (C : MC l G p s m args meth c RX9 cX9_strayed 5 (some .int)) (x1 : Int32) : ∀ (n : Nat) (x2 : Int32) (x3 : Int32) (h : PH) (H : Heap) (locs : List Loc) (ls : Array Slot), lv_has ls 5 [(0, .ref (gB G 66)), (1, .int x1), (2, .int x2), (3, .int x3)] → WP G h H → SP G s H locs → f_X9_strayed_16 x1 n x2 x3 h = some (rr, hh) → W p l e rmX9_strayed s m args below meth c H locs 0 0 (MQ below (QI G rr hh) args s 0 0 (gA G)) (F0 m 16 ls []) := by
  obtain ⟨hx, hb, hr, hlocks, hml, hown, hts, hK⟩ := id C
  intro n
  induction n with
  | zero => intro x2 x3 h H locs ls hl hP hS hf; rw [f_X9_strayed_16] at hf; cases hf
  | succ n ih =>
    intro x2 x3 h H locs ls hl hP hS hf
    rw [f_X9_strayed_16] at hf
    refine lv_iload_n hx hb dX9_strayed_16 rfl (lv_at hl 3 rfl) ?_
    refine lv_aload_n hx hb dX9_strayed_17 rfl (lv_at hl 0 rfl) ?_
    refine r_get (a := 66) (v := .int (h.1 66 0)) (C := RX9) (T := TX9) (N := 55) hx hb hts hinX9 hown hK hP (ltX9 rfl) (ceX9 rfl) rfl 0 (by decide) wd1035 rfl dX9_strayed_18 ?_
    refine lv_icmp_ge (tgt := 51) hx hb dX9_strayed_21 (by decide) (fun c21 => ?_) (fun c21 => ?_)
    · replace hf := if_t c21 hf
      refine lv_iconst (v := 0) hx hb dX9_strayed_51 (by decide) ?_
      refine lv_istore_n (lv' := [(3, .int 0), (0, .ref (gB G 66)), (1, .int x1), (2, .int x2)]) hx hb dX9_strayed_52 rfl hl (by decide) rfl (fun ls hl => ?_)
      refine lv_iconst (v := 0) hx hb dX9_strayed_53 (by decide) ?_
      refine lv_istore (lv' := [(4, .int 0), (3, .int 0), (0, .ref (gB G 66)), (1, .int x1), (2, .int x2)]) hx hb dX9_strayed_54 hl (by decide) rfl (fun ls hl => ?_)
      exact w_X9_strayed_56 hG C x1 x2 FU 0 0 h _ _ _ (lv_sub hl [2, 3, 4, 1, 0] rfl) hP hS hf
    · replace hf := if_f c21 hf
      refine lv_aload_n hx hb dX9_strayed_24 rfl (lv_at hl 0 rfl) ?_
      refine r_get (a := 66) (v := .ref (gB G 74)) (C := RX9) (T := TX9) (N := 55) hx hb hts hinX9 hown hK hP (ltX9 rfl) (ceX9 rfl) rfl 10 (by decide) wd1045 rfl dX9_strayed_25 ?_
      refine lv_iload_n hx hb dX9_strayed_28 rfl (lv_at hl 1 rfl) ?_
      obtain ⟨v29, ev29, hf⟩ := bO_s hf
      refine r_iald hx hb hK hP (arX9_10 rfl) ev29 dX9_strayed_29 ?_
      refine lv_iload_n hx hb dX9_strayed_30 rfl (lv_at hl 3 rfl) ?_
      obtain ⟨r31, er31, hf⟩ := bO_s hf
      refine r_callI (va_runS (As := [.int v29, .int x3]) (rest := []) ⟨hx, hb, hml, hown, hts⟩ (k_X9_has l hG (h := h) er31) (va_cwS 2 hts (gS wd1260 wd1261 wd82 wd1262) rfl rfl rfl (by decide +kernel) ⟨Nat.le_of_ble_eq_true rfl, Nat.le_of_ble_eq_true rfl⟩) (r_ps hK hP hS) rfl rfl hl.1 rfl (lv_room (Nat.le_of_ble_eq_true rfl)) dX9_strayed_31 ⟨Nat.le_of_ble_eq_true rfl, Nat.le_of_ble_eq_true rfl⟩) hS (fun H locs hP hS => ?_)
      refine lv_if_eq (tgt := 43) hx hb dX9_strayed_34 (by decide) (fun c34 => ?_) (fun c34 => ?_)
      · replace hf := if_t c34 hf
        refine lv_iload_n hx hb dX9_strayed_43 rfl (lv_at hl 2 rfl) ?_
        refine lv_istore_n (lv' := [(2, .int x2), (0, .ref (gB G 66)), (1, .int x1), (3, .int x3)]) hx hb dX9_strayed_44 rfl hl (by decide) rfl (fun ls hl => ?_)
        refine lv_iinc (v := (x3 + 1)) (lv' := [(3, .int (x3 + 1)), (2, .int x2), (0, .ref (gB G 66)), (1, .int x1)]) hx hb dX9_strayed_45 hl (k := 3) rfl rfl (by decide) rfl (fun ls hl => ?_)
        refine lv_goto (tgt := 16) hx hb dX9_strayed_48 (by decide) ?_
        exact ih x2 (x3 + 1) h _ _ _ (lv_sub hl [2, 3, 1, 0] rfl) hP hS hf
      · replace hf := if_f c34 hf
        refine lv_iload_n hx hb dX9_strayed_37 rfl (lv_at hl 3 rfl) ?_
        refine lv_iconst (v := 1) hx hb dX9_strayed_38 (by decide) ?_
        refine lv_iadd hx hb dX9_strayed_39 ?_
        refine lv_goto (tgt := 44) hx hb dX9_strayed_40 (by decide) ?_
        refine lv_topi (fun x2_44 ex2_44 => ?_)
        replace hf := lt_at ex2_44 hf
        refine lv_istore_n (lv' := [(2, .int x2_44), (0, .ref (gB G 66)), (1, .int x1), (3, .int x3)]) hx hb dX9_strayed_44 rfl hl (by decide) rfl (fun ls hl => ?_)
        refine lv_iinc (v := (x3 + 1)) (lv' := [(3, .int (x3 + 1)), (2, .int x2_44), (0, .ref (gB G 66)), (1, .int x1)]) hx hb dX9_strayed_45 hl (k := 3) rfl rfl (by decide) rfl (fun ls hl => ?_)
        refine lv_goto (tgt := 16) hx hb dX9_strayed_48 (by decide) ?_
        exact ih x2_44 (x3 + 1) h _ _ _ (lv_sub hl [2, 3, 1, 0] rfl) hP hS hf
def f_X9_strayed (x1 : Int32) (h : PH) : Option (Int32 × PH) := bP (f_X9_isLine x1 h) (fun r2 h2 => if r2 = 0 then (some ((-1001), h2)) else (f_X9_strayed_16 x1 FU 0 0 h2))
set_option maxHeartbeats 4000000 in
set_option maxRecDepth 100000 in
theorem k_X9_strayed (l : Launch) {G : GC} (hG : GOK G) {x1 : Int32} {rr : Int32} {h hh : PH} (hf : f_X9_strayed x1 h = some (rr, hh)) : CI l yX9_strayed vX9_strayed rmX9_strayed G [.ref (gB G 66), .int x1] h rr hh := by
  refine Met.ofW (cc := cX9_strayed) (maxL := 5) (ret := (some .int)) (by decide +kernel) rfl ?_
  intro p e s m args below meth c s₁ B hml hv
  obtain ⟨rfl, hP, hK⟩ := hv
  have C : MC l G p s m _ meth c RX9 cX9_strayed 5 (some .int) := ⟨B.exec, B.bytes, B.returns, B.notSynchronized, hml, findClass_of_methodNamed B.named, fun w hw => atoms_spec (ws := vX9_strayed) B.pre w (List.mem_cons_of_mem _ hw), hK⟩
  obtain ⟨hx, hb, hr, hlocks, -, hown, hts, -⟩ := id C
  have hl := lv_entry ([.ref (gB G 66), .int x1]) (n := 5) (Nat.le_of_ble_eq_true rfl)
  rw [lg_entry_eq]
  generalize (lg_sl ([.ref (gB G 66), .int x1]) ++ List.replicate (5 - (lg_sl ([.ref (gB G 66), .int x1])).length) Slot.unset).toArray = ls at hl ⊢
  have hl : lv_has ls 5 [(0, .ref (gB G 66)), (1, .int x1)] := hl
  have hS : SP G s s.heap [] := va_S.rf
  replace hP : WP G h s.heap := hP
  rw [f_X9_strayed] at hf
  refine lv_aload_n hx hb dX9_strayed_0 rfl (lv_at hl 0 rfl) ?_
  refine lv_iload_n hx hb dX9_strayed_1 rfl (lv_at hl 1 rfl) ?_
  obtain ⟨r2, h2, er2, hf⟩ := bP_s hf
  refine r_callI (va_runV (As := [.int x1]) (rest := []) ⟨hx, hb, hml, hown, hts⟩ (k_X9_isLine l hG er2) (cwV 1 hts (gV wd1347 wd1349 wd47 wd82 wd1350) rfl rfl rfl (by decide +kernel) ⟨Nat.le_of_ble_eq_true rfl, Nat.le_of_ble_eq_true rfl⟩) (r_pv hK hP hS (ltX9 rfl) (ceX9 rfl) rfl) rfl rfl hl.1 rfl (lv_room (Nat.le_of_ble_eq_true rfl)) dX9_strayed_2 ⟨Nat.le_of_ble_eq_true rfl, Nat.le_of_ble_eq_true rfl⟩) hS (fun H locs hP hS => ?_)
  refine lv_if_ne (tgt := 12) hx hb dX9_strayed_5 (by decide) (fun c5 => ?_) (fun c5 => ?_)
  · replace hf := if_f c5 hf
    refine lv_iconst (v := 0) hx hb dX9_strayed_12 (by decide) ?_
    refine lv_istore_n (lv' := [(2, .int 0), (0, .ref (gB G 66)), (1, .int x1)]) hx hb dX9_strayed_13 rfl hl (by decide) rfl (fun ls hl => ?_)
    refine lv_iconst (v := 0) hx hb dX9_strayed_14 (by decide) ?_
    refine lv_istore_n (lv' := [(3, .int 0), (2, .int 0), (0, .ref (gB G 66)), (1, .int x1)]) hx hb dX9_strayed_15 rfl hl (by decide) rfl (fun ls hl => ?_)
    exact w_X9_strayed_16 hG C x1 FU 0 0 h2 _ _ _ (lv_sub hl [2, 3, 1, 0] rfl) hP hS hf
  · replace hf := if_t c5 hf
    refine lv_sipush (v := (-1001)) hx hb dX9_strayed_8 (by decide) ?_
    exact r_iret hx hb hr hlocks hP hS (re2 (Option.some.inj hf)) dX9_strayed_11
/-! CarriedBackModel.bestCut(III)I -/
abbrev rmX9_bestCut : Room := { frames := 2, cells := 0, slots := 0, locals := 45 }
abbrev vX9_bestCut : List Cond := Cond.code yX9_bestCut cX9_bestCut 8 (some .int) :: GW
def f_X9_bestCut_102 (x2 : Int32) (x3 : Int32) (k66 : Int32 → Int32 → Int32 → PH → Option (Int32 × PH)) (x5 : Int32) (x6 : Int32) (x7 : Int32) (t0 : Int32) (h : PH) : Option (Int32 × PH) := if x5 < x7 then (k66 t0 x5 (x6 + 1) h) else (k66 t0 x7 (x6 + 1) h)
set_option maxHeartbeats 4000000 in
set_option maxRecDepth 100000 in
theorem w_X9_bestCut_102 {l : Launch} {G : GC} (hG : GOK G) {rr : Int32} {hh : PH} {p : Program} {e : Env} {s : State} {m : MethodId} {args : Array Value} {below : List Frame} {meth : Method} {c : Code} (C : MC l G p s m args meth c RX9 cX9_bestCut 8 (some .int)) (x2 : Int32) (x3 : Int32) (k66 : Int32 → Int32 → Int32 → PH → Option (Int32 × PH)) (hk66 : ∀ (x4 : Int32) (x5 : Int32) (x6 : Int32) (h : PH) (H : Heap) (locs : List Loc) (ls : Array Slot), lv_has ls 8 [(0, .ref (gB G 66)), (2, .int x2), (3, .int x3), (4, .int x4), (5, .int x5), (6, .int x6)] → WP G h H → SP G s H locs → k66 x4 x5 x6 h = some (rr, hh) → W p l e rmX9_bestCut s m args below meth c H locs 0 0 (MQ below (QI G rr hh) args s 0 0 (gA G)) (F0 m 66 ls [])) : ∀ (x5 : Int32) (x6 : Int32) (x7 : Int32) (t0 : Int32) (h : PH) (H : Heap) (locs : List Loc) (ls : Array Slot), lv_has ls 8 [(0, .ref (gB G 66)), (2, .int x2), (3, .int x3), (5, .int x5), (6, .int x6), (7, .int x7)] → WP G h H → SP G s H locs → f_X9_bestCut_102 x2 x3 k66 x5 x6 x7 t0 h = some (rr, hh) → W p l e rmX9_bestCut s m args below meth c H locs 0 0 (MQ below (QI G rr hh) args s 0 0 (gA G)) (F0 m 102 ls [.int t0]) := by
  obtain ⟨hx, hb, hr, hlocks, hml, hown, hts, hK⟩ := id C
  intro x5 x6 x7 t0 h H locs ls hl hP hS hf
  rw [f_X9_bestCut_102] at hf
  refine lv_istore (lv' := [(4, .int t0), (0, .ref (gB G 66)), (2, .int x2), (3, .int x3), (5, .int x5), (6, .int x6), (7, .int x7)]) hx hb dX9_bestCut_102 hl (by decide) rfl (fun ls hl => ?_)
  refine lv_iload hx hb dX9_bestCut_104 (lv_at hl 6 rfl) ?_
  refine lv_iload hx hb dX9_bestCut_106 (lv_at hl 4 rfl) ?_
  refine lv_icmp_gt (tgt := 116) hx hb dX9_bestCut_108 (by decide) (fun c108 => ?_) (fun c108 => ?_)
  · replace hf := if_t c108 hf
    refine lv_iload hx hb dX9_bestCut_116 (lv_at hl 4 rfl) ?_
    refine lv_istore (lv' := [(5, .int x5), (4, .int t0), (0, .ref (gB G 66)), (2, .int x2), (3, .int x3), (6, .int x6), (7, .int x7)]) hx hb dX9_bestCut_118 hl (by decide) rfl (fun ls hl => ?_)
    refine lv_iinc (v := (x6 + 1)) (lv' := [(6, .int (x6 + 1)), (5, .int x5), (4, .int t0), (0, .ref (gB G 66)), (2, .int x2), (3, .int x3), (7, .int x7)]) hx hb dX9_bestCut_120 hl (k := 5) rfl rfl (by decide) rfl (fun ls hl => ?_)
    refine lv_goto (tgt := 66) hx hb dX9_bestCut_123 (by decide) ?_
    exact hk66 t0 x5 (x6 + 1) h _ _ _ (lv_sub hl [3, 4, 5, 2, 1, 0] rfl) hP hS hf
  · replace hf := if_f c108 hf
    refine lv_iload hx hb dX9_bestCut_111 (lv_at hl 6 rfl) ?_
    refine lv_goto (tgt := 118) hx hb dX9_bestCut_113 (by decide) ?_
    refine lv_istore (lv' := [(5, .int x7), (4, .int t0), (0, .ref (gB G 66)), (2, .int x2), (3, .int x3), (6, .int x6), (7, .int x7)]) hx hb dX9_bestCut_118 hl (by decide) rfl (fun ls hl => ?_)
    refine lv_iinc (v := (x6 + 1)) (lv' := [(6, .int (x6 + 1)), (5, .int x7), (4, .int t0), (0, .ref (gB G 66)), (2, .int x2), (3, .int x3), (7, .int x7)]) hx hb dX9_bestCut_120 hl (k := 5) rfl rfl (by decide) rfl (fun ls hl => ?_)
    refine lv_goto (tgt := 66) hx hb dX9_bestCut_123 (by decide) ?_
    exact hk66 t0 x7 (x6 + 1) h _ _ _ (lv_sub hl [3, 4, 5, 2, 1, 0] rfl) hP hS hf
def f_X9_bestCut_66 (x2 : Int32) (x3 : Int32) : Nat → Int32 → Int32 → Int32 → PH → Option (Int32 × PH)
  | 0, _, _, _, _ => none
  | n + 1, x4, x5, x6, h => if x2 < x6 then (if x3 = 0 then (some (x4, h)) else (some (x5, h))) else (bP (f_X9_faultsIn ((1 <<< (x6 &&& 31)) - 1) h) (fun r80 h80 => bP (f_X9_weightOf r80 h80) (fun r83 h83 => if x5 < r83 then (f_X9_bestCut_102 x2 x3 (f_X9_bestCut_66 x2 x3 n) x5 x6 r83 x4 h83) else (f_X9_bestCut_102 x2 x3 (f_X9_bestCut_66 x2 x3 n) x5 x6 r83 x6 h83))))
set_option maxHeartbeats 4000000 in
set_option maxRecDepth 100000 in
theorem w_X9_bestCut_66 {l : Launch} {G : GC} (hG : GOK G) {rr : Int32} {hh : PH} {p : Program} {e : Env} {s : State} {m : MethodId} {args : Array Value} {below : List Frame} {meth : Method} {c : Code} (C : MC l G p s m args meth c RX9 cX9_bestCut 8 (some .int)) (x2 : Int32) (x3 : Int32) : ∀ (n : Nat) (x4 : Int32) (x5 : Int32) (x6 : Int32) (h : PH) (H : Heap) (locs : List Loc) (ls : Array Slot), lv_has ls 8 [(0, .ref (gB G 66)), (2, .int x2), (3, .int x3), (4, .int x4), (5, .int x5), (6, .int x6)] → WP G h H → SP G s H locs → f_X9_bestCut_66 x2 x3 n x4 x5 x6 h = some (rr, hh) → W p l e rmX9_bestCut s m args below meth c H locs 0 0 (MQ below (QI G rr hh) args s 0 0 (gA G)) (F0 m 66 ls []) := by
  obtain ⟨hx, hb, hr, hlocks, hml, hown, hts, hK⟩ := id C
  intro n
  induction n with
  | zero => intro x4 x5 x6 h H locs ls hl hP hS hf; rw [f_X9_bestCut_66] at hf; cases hf
  | succ n ih =>
    intro x4 x5 x6 h H locs ls hl hP hS hf
    rw [f_X9_bestCut_66] at hf
    refine lv_iload hx hb dX9_bestCut_66 (lv_at hl 5 rfl) ?_
    refine lv_iload_n hx hb dX9_bestCut_68 rfl (lv_at hl 1 rfl) ?_
    refine lv_icmp_gt (tgt := 126) hx hb dX9_bestCut_69 (by decide) (fun c69 => ?_) (fun c69 => ?_)
    · replace hf := if_t c69 hf
      refine lv_iload_n hx hb dX9_bestCut_126 rfl (lv_at hl 2 rfl) ?_
      refine lv_if_ne (tgt := 135) hx hb dX9_bestCut_127 (by decide) (fun c127 => ?_) (fun c127 => ?_)
      · replace hf := if_f c127 hf
        refine lv_iload hx hb dX9_bestCut_135 (lv_at hl 4 rfl) ?_
        exact r_iret hx hb hr hlocks hP hS (re2 (Option.some.inj hf)) dX9_bestCut_137
      · replace hf := if_t c127 hf
        refine lv_iload hx hb dX9_bestCut_130 (lv_at hl 3 rfl) ?_
        refine lv_goto (tgt := 137) hx hb dX9_bestCut_132 (by decide) ?_
        exact r_iret hx hb hr hlocks hP hS (re2 (Option.some.inj hf)) dX9_bestCut_137
    · replace hf := if_f c69 hf
      refine lv_aload_n hx hb dX9_bestCut_72 rfl (lv_at hl 0 rfl) ?_
      refine lv_aload_n hx hb dX9_bestCut_73 rfl (lv_at hl 0 rfl) ?_
      refine lv_iconst (v := 1) hx hb dX9_bestCut_74 (by decide) ?_
      refine lv_iload hx hb dX9_bestCut_75 (lv_at hl 5 rfl) ?_
      refine lv_ishl hx hb dX9_bestCut_77 ?_
      refine lv_iconst (v := 1) hx hb dX9_bestCut_78 (by decide) ?_
      refine lv_isub hx hb dX9_bestCut_79 ?_
      obtain ⟨r80, h80, er80, hf⟩ := bP_s hf
      refine r_callI (va_runV (As := [.int ((1 <<< (x6 &&& 31)) - 1)]) (rest := [.ref (gB G 66)]) ⟨hx, hb, hml, hown, hts⟩ (k_X9_faultsIn l hG er80) (cwV 1 hts (gV wd1351 wd1353 wd48 wd82 wd1354) rfl rfl rfl (by decide +kernel) ⟨Nat.le_of_ble_eq_true rfl, Nat.le_of_ble_eq_true rfl⟩) (r_pv hK hP hS (ltX9 rfl) (ceX9 rfl) rfl) rfl rfl hl.1 rfl (lv_room (Nat.le_of_ble_eq_true rfl)) dX9_bestCut_80 ⟨Nat.le_of_ble_eq_true rfl, Nat.le_of_ble_eq_true rfl⟩) hS (fun H locs hP hS => ?_)
      obtain ⟨r83, h83, er83, hf⟩ := bP_s hf
      refine r_callI (va_runV (As := [.int r80]) (rest := []) ⟨hx, hb, hml, hown, hts⟩ (k_X9_weightOf l hG er83) (cwV 1 hts (gV wd1437 wd1439 wd59 wd82 wd1440) rfl rfl rfl (by decide +kernel) ⟨Nat.le_of_ble_eq_true rfl, Nat.le_of_ble_eq_true rfl⟩) (r_pv hK hP hS (ltX9 rfl) (ceX9 rfl) rfl) rfl rfl hl.1 rfl (lv_room (Nat.le_of_ble_eq_true rfl)) dX9_bestCut_83 ⟨Nat.le_of_ble_eq_true rfl, Nat.le_of_ble_eq_true rfl⟩) hS (fun H locs hP hS => ?_)
      refine lv_istore (lv' := [(7, .int r83), (0, .ref (gB G 66)), (2, .int x2), (3, .int x3), (4, .int x4), (5, .int x5), (6, .int x6)]) hx hb dX9_bestCut_86 hl (by decide) rfl (fun ls hl => ?_)
      refine lv_iload hx hb dX9_bestCut_88 (lv_at hl 0 rfl) ?_
      refine lv_iload hx hb dX9_bestCut_90 (lv_at hl 5 rfl) ?_
      refine lv_icmp_gt (tgt := 100) hx hb dX9_bestCut_92 (by decide) (fun c92 => ?_) (fun c92 => ?_)
      · replace hf := if_t c92 hf
        refine lv_iload hx hb dX9_bestCut_100 (lv_at hl 4 rfl) ?_
        exact w_X9_bestCut_102 hG C x2 x3 (f_X9_bestCut_66 x2 x3 n) ih x5 x6 r83 x4 h83 _ _ _ (lv_sub hl [1, 2, 3, 5, 6, 0] rfl) hP hS hf
      · replace hf := if_f c92 hf
        refine lv_iload hx hb dX9_bestCut_95 (lv_at hl 6 rfl) ?_
        refine lv_goto (tgt := 102) hx hb dX9_bestCut_97 (by decide) ?_
        exact w_X9_bestCut_102 hG C x2 x3 (f_X9_bestCut_66 x2 x3 n) ih x5 x6 r83 x6 h83 _ _ _ (lv_sub hl [1, 2, 3, 5, 6, 0] rfl) hP hS hf
def f_X9_bestCut (x1 : Int32) (x2 : Int32) (x3 : Int32) (h : PH) : Option (Int32 × PH) := bO (f_X9_in (x1 : Int32).toInt64 0 ((h.1 66 0) : Int32).toInt64) (fun r8 => if r8 = 0 then (some ((-1002), h)) else (bO (f_X9_in (x2 : Int32).toInt64 (x1 : Int32).toInt64 ((h.1 66 0) : Int32).toInt64) (fun r23 => if r23 = 0 then (some ((-1002), h)) else (bO (f_X9_in (x3 : Int32).toInt64 0 1) (fun r33 => if r33 = 0 then (some ((-1002), h)) else (bP (f_X9_faultsIn ((1 <<< (x1 &&& 31)) - 1) h) (fun r53 h53 => bP (f_X9_weightOf r53 h53) (fun r56 h56 => lt' ((x1 + 1)) (fun x6_64 => f_X9_bestCut_66 x2 x3 FU x1 r56 x6_64 h56)))))))))
set_option maxHeartbeats 4000000 in
set_option maxRecDepth 100000 in
theorem k_X9_bestCut (l : Launch) {G : GC} (hG : GOK G) {x1 : Int32} {x2 : Int32} {x3 : Int32} {rr : Int32} {h hh : PH} (hf : f_X9_bestCut x1 x2 x3 h = some (rr, hh)) : CI l yX9_bestCut vX9_bestCut rmX9_bestCut G [.ref (gB G 66), .int x1, .int x2, .int x3] h rr hh := by
  refine Met.ofW (cc := cX9_bestCut) (maxL := 8) (ret := (some .int)) (by decide +kernel) rfl ?_
  intro p e s m args below meth c s₁ B hml hv
  obtain ⟨rfl, hP, hK⟩ := hv
  have C : MC l G p s m _ meth c RX9 cX9_bestCut 8 (some .int) := ⟨B.exec, B.bytes, B.returns, B.notSynchronized, hml, findClass_of_methodNamed B.named, fun w hw => atoms_spec (ws := vX9_bestCut) B.pre w (List.mem_cons_of_mem _ hw), hK⟩
  obtain ⟨hx, hb, hr, hlocks, -, hown, hts, -⟩ := id C
  have hl := lv_entry ([.ref (gB G 66), .int x1, .int x2, .int x3]) (n := 8) (Nat.le_of_ble_eq_true rfl)
  rw [lg_entry_eq]
  generalize (lg_sl ([.ref (gB G 66), .int x1, .int x2, .int x3]) ++ List.replicate (8 - (lg_sl ([.ref (gB G 66), .int x1, .int x2, .int x3])).length) Slot.unset).toArray = ls at hl ⊢
  have hl : lv_has ls 8 [(0, .ref (gB G 66)), (1, .int x1), (2, .int x2), (3, .int x3)] := hl
  have hS : SP G s s.heap [] := va_S.rf
  replace hP : WP G h s.heap := hP
  rw [f_X9_bestCut] at hf
  refine lv_iload_n hx hb dX9_bestCut_0 rfl (lv_at hl 1 rfl) ?_
  refine lv_i2l hx hb dX9_bestCut_1 rfl ?_
  refine lv_lconst (v := 0) hx hb dX9_bestCut_2 (by decide) ?_
  refine lv_aload_n hx hb dX9_bestCut_3 rfl (lv_at hl 0 rfl) ?_
  refine r_get (a := 66) (v := .int (h.1 66 0)) (C := RX9) (T := TX9) (N := 55) hx hb hts hinX9 hown hK hP (ltX9 rfl) (ceX9 rfl) rfl 0 (by decide) wd1035 rfl dX9_bestCut_4 ?_
  refine lv_i2l hx hb dX9_bestCut_7 rfl ?_
  obtain ⟨r8, er8, hf⟩ := bO_s hf
  refine r_callI (va_runS (As := [.long (x1 : Int32).toInt64, .long 0, .long ((h.1 66 0) : Int32).toInt64]) (rest := []) ⟨hx, hb, hml, hown, hts⟩ (k_X9_in l hG (h := h) er8) (va_cwS 3 hts (gS wd1206 wd1207 wd82 wd1208) rfl rfl rfl (by decide +kernel) ⟨Nat.le_of_ble_eq_true rfl, Nat.le_of_ble_eq_true rfl⟩) (r_ps hK hP hS) rfl rfl hl.1 rfl (lv_room (Nat.le_of_ble_eq_true rfl)) dX9_bestCut_8 ⟨Nat.le_of_ble_eq_true rfl, Nat.le_of_ble_eq_true rfl⟩) hS (fun H locs hP hS => ?_)
  refine lv_if_eq (tgt := 39) hx hb dX9_bestCut_11 (by decide) (fun c11 => ?_) (fun c11 => ?_)
  · replace hf := if_t c11 hf
    refine lv_sipush (v := (-1002)) hx hb dX9_bestCut_39 (by decide) ?_
    exact r_iret hx hb hr hlocks hP hS (re2 (Option.some.inj hf)) dX9_bestCut_42
  · replace hf := if_f c11 hf
    refine lv_iload_n hx hb dX9_bestCut_14 rfl (lv_at hl 2 rfl) ?_
    refine lv_i2l hx hb dX9_bestCut_15 rfl ?_
    refine lv_iload_n hx hb dX9_bestCut_16 rfl (lv_at hl 1 rfl) ?_
    refine lv_i2l hx hb dX9_bestCut_17 rfl ?_
    refine lv_aload_n hx hb dX9_bestCut_18 rfl (lv_at hl 0 rfl) ?_
    refine r_get (a := 66) (v := .int (h.1 66 0)) (C := RX9) (T := TX9) (N := 55) hx hb hts hinX9 hown hK hP (ltX9 rfl) (ceX9 rfl) rfl 0 (by decide) wd1035 rfl dX9_bestCut_19 ?_
    refine lv_i2l hx hb dX9_bestCut_22 rfl ?_
    obtain ⟨r23, er23, hf⟩ := bO_s hf
    refine r_callI (va_runS (As := [.long (x2 : Int32).toInt64, .long (x1 : Int32).toInt64, .long ((h.1 66 0) : Int32).toInt64]) (rest := []) ⟨hx, hb, hml, hown, hts⟩ (k_X9_in l hG (h := h) er23) (va_cwS 3 hts (gS wd1206 wd1207 wd82 wd1208) rfl rfl rfl (by decide +kernel) ⟨Nat.le_of_ble_eq_true rfl, Nat.le_of_ble_eq_true rfl⟩) (r_ps hK hP hS) rfl rfl hl.1 rfl (lv_room (Nat.le_of_ble_eq_true rfl)) dX9_bestCut_23 ⟨Nat.le_of_ble_eq_true rfl, Nat.le_of_ble_eq_true rfl⟩) hS (fun H locs hP hS => ?_)
    refine lv_if_eq (tgt := 39) hx hb dX9_bestCut_26 (by decide) (fun c26 => ?_) (fun c26 => ?_)
    · replace hf := if_t c26 hf
      refine lv_sipush (v := (-1002)) hx hb dX9_bestCut_39 (by decide) ?_
      exact r_iret hx hb hr hlocks hP hS (re2 (Option.some.inj hf)) dX9_bestCut_42
    · replace hf := if_f c26 hf
      refine lv_iload_n hx hb dX9_bestCut_29 rfl (lv_at hl 3 rfl) ?_
      refine lv_i2l hx hb dX9_bestCut_30 rfl ?_
      refine lv_lconst (v := 0) hx hb dX9_bestCut_31 (by decide) ?_
      refine lv_lconst (v := 1) hx hb dX9_bestCut_32 (by decide) ?_
      obtain ⟨r33, er33, hf⟩ := bO_s hf
      refine r_callI (va_runS (As := [.long (x3 : Int32).toInt64, .long 0, .long 1]) (rest := []) ⟨hx, hb, hml, hown, hts⟩ (k_X9_in l hG (h := h) er33) (va_cwS 3 hts (gS wd1206 wd1207 wd82 wd1208) rfl rfl rfl (by decide +kernel) ⟨Nat.le_of_ble_eq_true rfl, Nat.le_of_ble_eq_true rfl⟩) (r_ps hK hP hS) rfl rfl hl.1 rfl (lv_room (Nat.le_of_ble_eq_true rfl)) dX9_bestCut_33 ⟨Nat.le_of_ble_eq_true rfl, Nat.le_of_ble_eq_true rfl⟩) hS (fun H locs hP hS => ?_)
      refine lv_if_ne (tgt := 43) hx hb dX9_bestCut_36 (by decide) (fun c36 => ?_) (fun c36 => ?_)
      · replace hf := if_f c36 hf
        refine lv_iload_n hx hb dX9_bestCut_43 rfl (lv_at hl 1 rfl) ?_
        refine lv_istore (lv' := [(4, .int x1), (0, .ref (gB G 66)), (1, .int x1), (2, .int x2), (3, .int x3)]) hx hb dX9_bestCut_44 hl (by decide) rfl (fun ls hl => ?_)
        refine lv_aload_n hx hb dX9_bestCut_46 rfl (lv_at hl 1 rfl) ?_
        refine lv_aload_n hx hb dX9_bestCut_47 rfl (lv_at hl 1 rfl) ?_
        refine lv_iconst (v := 1) hx hb dX9_bestCut_48 (by decide) ?_
        refine lv_iload_n hx hb dX9_bestCut_49 rfl (lv_at hl 2 rfl) ?_
        refine lv_ishl hx hb dX9_bestCut_50 ?_
        refine lv_iconst (v := 1) hx hb dX9_bestCut_51 (by decide) ?_
        refine lv_isub hx hb dX9_bestCut_52 ?_
        obtain ⟨r53, h53, er53, hf⟩ := bP_s hf
        refine r_callI (va_runV (As := [.int ((1 <<< (x1 &&& 31)) - 1)]) (rest := [.ref (gB G 66)]) ⟨hx, hb, hml, hown, hts⟩ (k_X9_faultsIn l hG er53) (cwV 1 hts (gV wd1351 wd1353 wd48 wd82 wd1354) rfl rfl rfl (by decide +kernel) ⟨Nat.le_of_ble_eq_true rfl, Nat.le_of_ble_eq_true rfl⟩) (r_pv hK hP hS (ltX9 rfl) (ceX9 rfl) rfl) rfl rfl hl.1 rfl (lv_room (Nat.le_of_ble_eq_true rfl)) dX9_bestCut_53 ⟨Nat.le_of_ble_eq_true rfl, Nat.le_of_ble_eq_true rfl⟩) hS (fun H locs hP hS => ?_)
        obtain ⟨r56, h56, er56, hf⟩ := bP_s hf
        refine r_callI (va_runV (As := [.int r53]) (rest := []) ⟨hx, hb, hml, hown, hts⟩ (k_X9_weightOf l hG er56) (cwV 1 hts (gV wd1437 wd1439 wd59 wd82 wd1440) rfl rfl rfl (by decide +kernel) ⟨Nat.le_of_ble_eq_true rfl, Nat.le_of_ble_eq_true rfl⟩) (r_pv hK hP hS (ltX9 rfl) (ceX9 rfl) rfl) rfl rfl hl.1 rfl (lv_room (Nat.le_of_ble_eq_true rfl)) dX9_bestCut_56 ⟨Nat.le_of_ble_eq_true rfl, Nat.le_of_ble_eq_true rfl⟩) hS (fun H locs hP hS => ?_)
        refine lv_istore (lv' := [(5, .int r56), (4, .int x1), (0, .ref (gB G 66)), (1, .int x1), (2, .int x2), (3, .int x3)]) hx hb dX9_bestCut_59 hl (by decide) rfl (fun ls hl => ?_)
        refine lv_iload_n hx hb dX9_bestCut_61 rfl (lv_at hl 3 rfl) ?_
        refine lv_iconst (v := 1) hx hb dX9_bestCut_62 (by decide) ?_
        refine lv_iadd hx hb dX9_bestCut_63 ?_
        refine lv_topi (fun x6_64 ex6_64 => ?_)
        replace hf := lt_at ex6_64 hf
        refine lv_istore (lv' := [(6, .int x6_64), (5, .int r56), (4, .int x1), (0, .ref (gB G 66)), (1, .int x1), (2, .int x2), (3, .int x3)]) hx hb dX9_bestCut_64 hl (by decide) rfl (fun ls hl => ?_)
        exact w_X9_bestCut_66 hG C x2 x3 FU x1 r56 x6_64 h56 _ _ _ (lv_sub hl [3, 5, 6, 2, 1, 0] rfl) hP hS hf
      · replace hf := if_t c36 hf
        refine lv_sipush (v := (-1002)) hx hb dX9_bestCut_39 (by decide) ?_
        exact r_iret hx hb hr hlocks hP hS (re2 (Option.some.inj hf)) dX9_bestCut_42
/-! CarriedBackModel.up(III)I -/
abbrev rmX9_up : Room := { frames := 3, cells := 0, slots := 0, locals := 67 }
abbrev vX9_up : List Cond := Cond.code yX9_up cX9_up 10 (some .int) :: GW
def f_X9_up_190 (x1 : Int32) (x2 : Int32) (x3 : Int32) (k58 : Int32 → Int32 → Int32 → PH → Option (Int32 × PH)) (x5 : Int32) (x6 : Int32) (x8 : Int32) (x9 : Int32) (t0 : Int32) (h : PH) : Option (Int32 × PH) := if x9 = 0 then (k58 t0 x5 (x6 + 1) h) else (k58 t0 x8 (x6 + 1) h)
set_option maxHeartbeats 4000000 in
set_option maxRecDepth 100000 in
theorem w_X9_up_190 {l : Launch} {G : GC} (hG : GOK G) {rr : Int32} {hh : PH} {p : Program} {e : Env} {s : State} {m : MethodId} {args : Array Value} {below : List Frame} {meth : Method} {c : Code} (C : MC l G p s m args meth c RX9 cX9_up 10 (some .int)) (x1 : Int32) (x2 : Int32) (x3 : Int32) (k58 : Int32 → Int32 → Int32 → PH → Option (Int32 × PH)) (hk58 : ∀ (x4 : Int32) (x5 : Int32) (x6 : Int32) (h : PH) (H : Heap) (locs : List Loc) (ls : Array Slot), lv_has ls 10 [(0, .ref (gB G 66)), (1, .int x1), (2, .int x2), (3, .int x3), (4, .int x4), (5, .int x5), (6, .int x6)] → WP G h H → SP G s H locs → k58 x4 x5 x6 h = some (rr, hh) → W p l e rmX9_up s m args below meth c H locs 0 0 (MQ below (QI G rr hh) args s 0 0 (gA G)) (F0 m 58 ls [])) : ∀ (x5 : Int32) (x6 : Int32) (x8 : Int32) (x9 : Int32) (t0 : Int32) (h : PH) (H : Heap) (locs : List Loc) (ls : Array Slot), lv_has ls 10 [(0, .ref (gB G 66)), (1, .int x1), (2, .int x2), (3, .int x3), (5, .int x5), (6, .int x6), (8, .int x8), (9, .int x9)] → WP G h H → SP G s H locs → f_X9_up_190 x1 x2 x3 k58 x5 x6 x8 x9 t0 h = some (rr, hh) → W p l e rmX9_up s m args below meth c H locs 0 0 (MQ below (QI G rr hh) args s 0 0 (gA G)) (F0 m 190 ls [.int t0]) := by
  obtain ⟨hx, hb, hr, hlocks, hml, hown, hts, hK⟩ := id C
  intro x5 x6 x8 x9 t0 h H locs ls hl hP hS hf
  rw [f_X9_up_190] at hf
  refine lv_istore (lv' := [(4, .int t0), (0, .ref (gB G 66)), (1, .int x1), (2, .int x2), (3, .int x3), (5, .int x5), (6, .int x6), (8, .int x8), (9, .int x9)]) hx hb dX9_up_190 hl (by decide) rfl (fun ls hl => ?_)
  refine lv_iload hx hb dX9_up_192 (lv_at hl 8 rfl) ?_
  refine lv_if_eq (tgt := 202) hx hb dX9_up_194 (by decide) (fun c194 => ?_) (fun c194 => ?_)
  · replace hf := if_t c194 hf
    refine lv_iload hx hb dX9_up_202 (lv_at hl 5 rfl) ?_
    refine lv_istore (lv' := [(5, .int x5), (4, .int t0), (0, .ref (gB G 66)), (1, .int x1), (2, .int x2), (3, .int x3), (6, .int x6), (8, .int x8), (9, .int x9)]) hx hb dX9_up_204 hl (by decide) rfl (fun ls hl => ?_)
    refine lv_iinc (v := (x6 + 1)) (lv' := [(6, .int (x6 + 1)), (5, .int x5), (4, .int t0), (0, .ref (gB G 66)), (1, .int x1), (2, .int x2), (3, .int x3), (8, .int x8), (9, .int x9)]) hx hb dX9_up_206 hl (k := 6) rfl rfl (by decide) rfl (fun ls hl => ?_)
    refine lv_goto (tgt := 58) hx hb dX9_up_209 (by decide) ?_
    exact hk58 t0 x5 (x6 + 1) h _ _ _ (lv_sub hl [3, 4, 5, 6, 2, 1, 0] rfl) hP hS hf
  · replace hf := if_f c194 hf
    refine lv_iload hx hb dX9_up_197 (lv_at hl 7 rfl) ?_
    refine lv_goto (tgt := 204) hx hb dX9_up_199 (by decide) ?_
    refine lv_istore (lv' := [(5, .int x8), (4, .int t0), (0, .ref (gB G 66)), (1, .int x1), (2, .int x2), (3, .int x3), (6, .int x6), (8, .int x8), (9, .int x9)]) hx hb dX9_up_204 hl (by decide) rfl (fun ls hl => ?_)
    refine lv_iinc (v := (x6 + 1)) (lv' := [(6, .int (x6 + 1)), (5, .int x8), (4, .int t0), (0, .ref (gB G 66)), (1, .int x1), (2, .int x2), (3, .int x3), (8, .int x8), (9, .int x9)]) hx hb dX9_up_206 hl (k := 6) rfl rfl (by decide) rfl (fun ls hl => ?_)
    refine lv_goto (tgt := 58) hx hb dX9_up_209 (by decide) ?_
    exact hk58 t0 x8 (x6 + 1) h _ _ _ (lv_sub hl [3, 4, 5, 6, 2, 1, 0] rfl) hP hS hf
def f_X9_up_176 (x1 : Int32) (x2 : Int32) (x3 : Int32) (k58 : Int32 → Int32 → Int32 → PH → Option (Int32 × PH)) (x4 : Int32) (x5 : Int32) (x6 : Int32) (x8 : Int32) (t0 : Int32) (h : PH) : Option (Int32 × PH) := if t0 = 0 then (f_X9_up_190 x1 x2 x3 k58 x5 x6 x8 t0 x4 h) else (f_X9_up_190 x1 x2 x3 k58 x5 x6 x8 t0 x6 h)
set_option maxHeartbeats 4000000 in
set_option maxRecDepth 100000 in
theorem w_X9_up_176 {l : Launch} {G : GC} (hG : GOK G) {rr : Int32} {hh : PH} {p : Program} {e : Env} {s : State} {m : MethodId} {args : Array Value} {below : List Frame} {meth : Method} {c : Code} (C : MC l G p s m args meth c RX9 cX9_up 10 (some .int)) (x1 : Int32) (x2 : Int32) (x3 : Int32) (k58 : Int32 → Int32 → Int32 → PH → Option (Int32 × PH)) (hk58 : ∀ (x4 : Int32) (x5 : Int32) (x6 : Int32) (h : PH) (H : Heap) (locs : List Loc) (ls : Array Slot), lv_has ls 10 [(0, .ref (gB G 66)), (1, .int x1), (2, .int x2), (3, .int x3), (4, .int x4), (5, .int x5), (6, .int x6)] → WP G h H → SP G s H locs → k58 x4 x5 x6 h = some (rr, hh) → W p l e rmX9_up s m args below meth c H locs 0 0 (MQ below (QI G rr hh) args s 0 0 (gA G)) (F0 m 58 ls [])) : ∀ (x4 : Int32) (x5 : Int32) (x6 : Int32) (x8 : Int32) (t0 : Int32) (h : PH) (H : Heap) (locs : List Loc) (ls : Array Slot), lv_has ls 10 [(0, .ref (gB G 66)), (1, .int x1), (2, .int x2), (3, .int x3), (4, .int x4), (5, .int x5), (6, .int x6), (8, .int x8)] → WP G h H → SP G s H locs → f_X9_up_176 x1 x2 x3 k58 x4 x5 x6 x8 t0 h = some (rr, hh) → W p l e rmX9_up s m args below meth c H locs 0 0 (MQ below (QI G rr hh) args s 0 0 (gA G)) (F0 m 176 ls [.int t0]) := by
  obtain ⟨hx, hb, hr, hlocks, hml, hown, hts, hK⟩ := id C
  intro x4 x5 x6 x8 t0 h H locs ls hl hP hS hf
  rw [f_X9_up_176] at hf
  refine lv_istore (lv' := [(9, .int t0), (0, .ref (gB G 66)), (1, .int x1), (2, .int x2), (3, .int x3), (4, .int x4), (5, .int x5), (6, .int x6), (8, .int x8)]) hx hb dX9_up_176 hl (by decide) rfl (fun ls hl => ?_)
  refine lv_iload hx hb dX9_up_178 (lv_at hl 0 rfl) ?_
  refine lv_if_eq (tgt := 188) hx hb dX9_up_180 (by decide) (fun c180 => ?_) (fun c180 => ?_)
  · replace hf := if_t c180 hf
    refine lv_iload hx hb dX9_up_188 (lv_at hl 5 rfl) ?_
    exact w_X9_up_190 hG C x1 x2 x3 k58 hk58 x5 x6 x8 t0 x4 h _ _ _ (lv_sub hl [1, 2, 3, 4, 6, 7, 8, 0] rfl) hP hS hf
  · replace hf := if_f c180 hf
    refine lv_iload hx hb dX9_up_183 (lv_at hl 7 rfl) ?_
    refine lv_goto (tgt := 190) hx hb dX9_up_185 (by decide) ?_
    exact w_X9_up_190 hG C x1 x2 x3 k58 hk58 x5 x6 x8 t0 x6 h _ _ _ (lv_sub hl [1, 2, 3, 4, 6, 7, 8, 0] rfl) hP hS hf
def f_X9_up_175 (x1 : Int32) (x2 : Int32) (x3 : Int32) (k58 : Int32 → Int32 → Int32 → PH → Option (Int32 × PH)) (x4 : Int32) (x5 : Int32) (x6 : Int32) (x8 : Int32) (h : PH) : Option (Int32 × PH) := f_X9_up_176 x1 x2 x3 k58 x4 x5 x6 x8 0 h
set_option maxHeartbeats 4000000 in
set_option maxRecDepth 100000 in
theorem w_X9_up_175 {l : Launch} {G : GC} (hG : GOK G) {rr : Int32} {hh : PH} {p : Program} {e : Env} {s : State} {m : MethodId} {args : Array Value} {below : List Frame} {meth : Method} {c : Code} (C : MC l G p s m args meth c RX9 cX9_up 10 (some .int)) (x1 : Int32) (x2 : Int32) (x3 : Int32) (k58 : Int32 → Int32 → Int32 → PH → Option (Int32 × PH)) (hk58 : ∀ (x4 : Int32) (x5 : Int32) (x6 : Int32) (h : PH) (H : Heap) (locs : List Loc) (ls : Array Slot), lv_has ls 10 [(0, .ref (gB G 66)), (1, .int x1), (2, .int x2), (3, .int x3), (4, .int x4), (5, .int x5), (6, .int x6)] → WP G h H → SP G s H locs → k58 x4 x5 x6 h = some (rr, hh) → W p l e rmX9_up s m args below meth c H locs 0 0 (MQ below (QI G rr hh) args s 0 0 (gA G)) (F0 m 58 ls [])) : ∀ (x4 : Int32) (x5 : Int32) (x6 : Int32) (x8 : Int32) (h : PH) (H : Heap) (locs : List Loc) (ls : Array Slot), lv_has ls 10 [(0, .ref (gB G 66)), (1, .int x1), (2, .int x2), (3, .int x3), (4, .int x4), (5, .int x5), (6, .int x6), (8, .int x8)] → WP G h H → SP G s H locs → f_X9_up_175 x1 x2 x3 k58 x4 x5 x6 x8 h = some (rr, hh) → W p l e rmX9_up s m args below meth c H locs 0 0 (MQ below (QI G rr hh) args s 0 0 (gA G)) (F0 m 175 ls []) := by
  obtain ⟨hx, hb, hr, hlocks, hml, hown, hts, hK⟩ := id C
  intro x4 x5 x6 x8 h H locs ls hl hP hS hf
  rw [f_X9_up_175] at hf
  refine lv_iconst (v := 0) hx hb dX9_up_175 (by decide) ?_
  exact w_X9_up_176 hG C x1 x2 x3 k58 hk58 x4 x5 x6 x8 0 h _ _ _ (lv_sub hl [0, 1, 2, 3, 4, 5, 6, 7] rfl) hP hS hf
def f_X9_up_171 (x1 : Int32) (x2 : Int32) (x3 : Int32) (k58 : Int32 → Int32 → Int32 → PH → Option (Int32 × PH)) (x4 : Int32) (x5 : Int32) (x6 : Int32) (x8 : Int32) (h : PH) : Option (Int32 × PH) := f_X9_up_176 x1 x2 x3 k58 x4 x5 x6 x8 1 h
set_option maxHeartbeats 4000000 in
set_option maxRecDepth 100000 in
theorem w_X9_up_171 {l : Launch} {G : GC} (hG : GOK G) {rr : Int32} {hh : PH} {p : Program} {e : Env} {s : State} {m : MethodId} {args : Array Value} {below : List Frame} {meth : Method} {c : Code} (C : MC l G p s m args meth c RX9 cX9_up 10 (some .int)) (x1 : Int32) (x2 : Int32) (x3 : Int32) (k58 : Int32 → Int32 → Int32 → PH → Option (Int32 × PH)) (hk58 : ∀ (x4 : Int32) (x5 : Int32) (x6 : Int32) (h : PH) (H : Heap) (locs : List Loc) (ls : Array Slot), lv_has ls 10 [(0, .ref (gB G 66)), (1, .int x1), (2, .int x2), (3, .int x3), (4, .int x4), (5, .int x5), (6, .int x6)] → WP G h H → SP G s H locs → k58 x4 x5 x6 h = some (rr, hh) → W p l e rmX9_up s m args below meth c H locs 0 0 (MQ below (QI G rr hh) args s 0 0 (gA G)) (F0 m 58 ls [])) : ∀ (x4 : Int32) (x5 : Int32) (x6 : Int32) (x8 : Int32) (h : PH) (H : Heap) (locs : List Loc) (ls : Array Slot), lv_has ls 10 [(0, .ref (gB G 66)), (1, .int x1), (2, .int x2), (3, .int x3), (4, .int x4), (5, .int x5), (6, .int x6), (8, .int x8)] → WP G h H → SP G s H locs → f_X9_up_171 x1 x2 x3 k58 x4 x5 x6 x8 h = some (rr, hh) → W p l e rmX9_up s m args below meth c H locs 0 0 (MQ below (QI G rr hh) args s 0 0 (gA G)) (F0 m 171 ls []) := by
  obtain ⟨hx, hb, hr, hlocks, hml, hown, hts, hK⟩ := id C
  intro x4 x5 x6 x8 h H locs ls hl hP hS hf
  rw [f_X9_up_171] at hf
  refine lv_iconst (v := 1) hx hb dX9_up_171 (by decide) ?_
  refine lv_goto (tgt := 176) hx hb dX9_up_172 (by decide) ?_
  exact w_X9_up_176 hG C x1 x2 x3 k58 hk58 x4 x5 x6 x8 1 h _ _ _ (lv_sub hl [0, 1, 2, 3, 4, 5, 6, 7] rfl) hP hS hf
def f_X9_up_109 (x1 : Int32) (x2 : Int32) (x3 : Int32) (k58 : Int32 → Int32 → Int32 → PH → Option (Int32 × PH)) (x4 : Int32) (x5 : Int32) (x6 : Int32) (t0 : Int32) (h : PH) : Option (Int32 × PH) := bO (ag h 79 20 x6) (fun v118 => bO (ag h 79 20 x1) (fun v124 => bP (f_X9_riskOf (v118 &&& (v124 ^^^ (-1))) h) (fun r128 h128 => bO (ag h128 79 20 x1) (fun v137 => bO (ag h128 79 20 x6) (fun v144 => bP (f_X9_riskOf (v137 &&& (v144 ^^^ (-1))) h128) (fun r148 h148 => lt' ((r128 + r148)) (fun x8_152 => if t0 = 0 then (f_X9_up_175 x1 x2 x3 k58 x4 x5 x6 x8_152 h148) else (if x4 < 0 then (f_X9_up_171 x1 x2 x3 k58 x4 x5 x6 x8_152 h148) else (if x5 ≤ x8_152 then (f_X9_up_175 x1 x2 x3 k58 x4 x5 x6 x8_152 h148) else (f_X9_up_171 x1 x2 x3 k58 x4 x5 x6 x8_152 h148))))))))))
set_option maxHeartbeats 4000000 in
set_option maxRecDepth 100000 in
theorem w_X9_up_109 {l : Launch} {G : GC} (hG : GOK G) {rr : Int32} {hh : PH} {p : Program} {e : Env} {s : State} {m : MethodId} {args : Array Value} {below : List Frame} {meth : Method} {c : Code} (C : MC l G p s m args meth c RX9 cX9_up 10 (some .int)) (x1 : Int32) (x2 : Int32) (x3 : Int32) (k58 : Int32 → Int32 → Int32 → PH → Option (Int32 × PH)) (hk58 : ∀ (x4 : Int32) (x5 : Int32) (x6 : Int32) (h : PH) (H : Heap) (locs : List Loc) (ls : Array Slot), lv_has ls 10 [(0, .ref (gB G 66)), (1, .int x1), (2, .int x2), (3, .int x3), (4, .int x4), (5, .int x5), (6, .int x6)] → WP G h H → SP G s H locs → k58 x4 x5 x6 h = some (rr, hh) → W p l e rmX9_up s m args below meth c H locs 0 0 (MQ below (QI G rr hh) args s 0 0 (gA G)) (F0 m 58 ls [])) : ∀ (x4 : Int32) (x5 : Int32) (x6 : Int32) (t0 : Int32) (h : PH) (H : Heap) (locs : List Loc) (ls : Array Slot), lv_has ls 10 [(0, .ref (gB G 66)), (1, .int x1), (2, .int x2), (3, .int x3), (4, .int x4), (5, .int x5), (6, .int x6)] → WP G h H → SP G s H locs → f_X9_up_109 x1 x2 x3 k58 x4 x5 x6 t0 h = some (rr, hh) → W p l e rmX9_up s m args below meth c H locs 0 0 (MQ below (QI G rr hh) args s 0 0 (gA G)) (F0 m 109 ls [.int t0]) := by
  obtain ⟨hx, hb, hr, hlocks, hml, hown, hts, hK⟩ := id C
  intro x4 x5 x6 t0 h H locs ls hl hP hS hf
  rw [f_X9_up_109] at hf
  refine lv_istore (lv' := [(7, .int t0), (0, .ref (gB G 66)), (1, .int x1), (2, .int x2), (3, .int x3), (4, .int x4), (5, .int x5), (6, .int x6)]) hx hb dX9_up_109 hl (by decide) rfl (fun ls hl => ?_)
  refine lv_aload_n hx hb dX9_up_111 rfl (lv_at hl 1 rfl) ?_
  refine lv_aload_n hx hb dX9_up_112 rfl (lv_at hl 1 rfl) ?_
  refine r_get (a := 66) (v := .ref (gB G 79)) (C := RX9) (T := TX9) (N := 55) hx hb hts hinX9 hown hK hP (ltX9 rfl) (ceX9 rfl) rfl 16 (by decide) wd1051 rfl dX9_up_113 ?_
  refine lv_iload hx hb dX9_up_116 (lv_at hl 7 rfl) ?_
  obtain ⟨v118, ev118, hf⟩ := bO_s hf
  refine r_iald hx hb hK hP (arX9_16 rfl) ev118 dX9_up_118 ?_
  refine lv_aload_n hx hb dX9_up_119 rfl (lv_at hl 1 rfl) ?_
  refine r_get (a := 66) (v := .ref (gB G 79)) (C := RX9) (T := TX9) (N := 55) hx hb hts hinX9 hown hK hP (ltX9 rfl) (ceX9 rfl) rfl 16 (by decide) wd1051 rfl dX9_up_120 ?_
  refine lv_iload_n hx hb dX9_up_123 rfl (lv_at hl 2 rfl) ?_
  obtain ⟨v124, ev124, hf⟩ := bO_s hf
  refine r_iald hx hb hK hP (arX9_16 rfl) ev124 dX9_up_124 ?_
  refine lv_iconst (v := (-1)) hx hb dX9_up_125 (by decide) ?_
  refine lv_ixor hx hb dX9_up_126 ?_
  refine lv_iand hx hb dX9_up_127 ?_
  obtain ⟨r128, h128, er128, hf⟩ := bP_s hf
  refine r_callI (va_runV (As := [.int (v118 &&& (v124 ^^^ (-1)))]) (rest := []) ⟨hx, hb, hml, hown, hts⟩ (k_X9_riskOf l hG er128) (cwV 1 hts (gV wd1355 wd1357 wd49 wd82 wd1358) rfl rfl rfl (by decide +kernel) ⟨Nat.le_of_ble_eq_true rfl, Nat.le_of_ble_eq_true rfl⟩) (r_pv hK hP hS (ltX9 rfl) (ceX9 rfl) rfl) rfl rfl hl.1 rfl (lv_room (Nat.le_of_ble_eq_true rfl)) dX9_up_128 ⟨Nat.le_of_ble_eq_true rfl, Nat.le_of_ble_eq_true rfl⟩) hS (fun H locs hP hS => ?_)
  refine lv_aload_n hx hb dX9_up_131 rfl (lv_at hl 1 rfl) ?_
  refine lv_aload_n hx hb dX9_up_132 rfl (lv_at hl 1 rfl) ?_
  refine r_get (a := 66) (v := .ref (gB G 79)) (C := RX9) (T := TX9) (N := 55) hx hb hts hinX9 hown hK hP (ltX9 rfl) (ceX9 rfl) rfl 16 (by decide) wd1051 rfl dX9_up_133 ?_
  refine lv_iload_n hx hb dX9_up_136 rfl (lv_at hl 2 rfl) ?_
  obtain ⟨v137, ev137, hf⟩ := bO_s hf
  refine r_iald hx hb hK hP (arX9_16 rfl) ev137 dX9_up_137 ?_
  refine lv_aload_n hx hb dX9_up_138 rfl (lv_at hl 1 rfl) ?_
  refine r_get (a := 66) (v := .ref (gB G 79)) (C := RX9) (T := TX9) (N := 55) hx hb hts hinX9 hown hK hP (ltX9 rfl) (ceX9 rfl) rfl 16 (by decide) wd1051 rfl dX9_up_139 ?_
  refine lv_iload hx hb dX9_up_142 (lv_at hl 7 rfl) ?_
  obtain ⟨v144, ev144, hf⟩ := bO_s hf
  refine r_iald hx hb hK hP (arX9_16 rfl) ev144 dX9_up_144 ?_
  refine lv_iconst (v := (-1)) hx hb dX9_up_145 (by decide) ?_
  refine lv_ixor hx hb dX9_up_146 ?_
  refine lv_iand hx hb dX9_up_147 ?_
  obtain ⟨r148, h148, er148, hf⟩ := bP_s hf
  refine r_callI (va_runV (As := [.int (v137 &&& (v144 ^^^ (-1)))]) (rest := [.int r128]) ⟨hx, hb, hml, hown, hts⟩ (k_X9_riskOf l hG er148) (cwV 1 hts (gV wd1355 wd1357 wd49 wd82 wd1358) rfl rfl rfl (by decide +kernel) ⟨Nat.le_of_ble_eq_true rfl, Nat.le_of_ble_eq_true rfl⟩) (r_pv hK hP hS (ltX9 rfl) (ceX9 rfl) rfl) rfl rfl hl.1 rfl (lv_room (Nat.le_of_ble_eq_true rfl)) dX9_up_148 ⟨Nat.le_of_ble_eq_true rfl, Nat.le_of_ble_eq_true rfl⟩) hS (fun H locs hP hS => ?_)
  refine lv_iadd hx hb dX9_up_151 ?_
  refine lv_topi (fun x8_152 ex8_152 => ?_)
  replace hf := lt_at ex8_152 hf
  refine lv_istore (lv' := [(8, .int x8_152), (7, .int t0), (0, .ref (gB G 66)), (1, .int x1), (2, .int x2), (3, .int x3), (4, .int x4), (5, .int x5), (6, .int x6)]) hx hb dX9_up_152 hl (by decide) rfl (fun ls hl => ?_)
  refine lv_iload hx hb dX9_up_154 (lv_at hl 1 rfl) ?_
  refine lv_if_eq (tgt := 175) hx hb dX9_up_156 (by decide) (fun c156 => ?_) (fun c156 => ?_)
  · replace hf := if_t c156 hf
    exact w_X9_up_175 hG C x1 x2 x3 k58 hk58 x4 x5 x6 x8_152 h148 _ _ _ (lv_sub hl [2, 3, 4, 5, 6, 7, 8, 0] rfl) hP hS hf
  · replace hf := if_f c156 hf
    refine lv_iload hx hb dX9_up_159 (lv_at hl 6 rfl) ?_
    refine lv_if_lt (tgt := 171) hx hb dX9_up_161 (by decide) (fun c161 => ?_) (fun c161 => ?_)
    · replace hf := if_t c161 hf
      exact w_X9_up_171 hG C x1 x2 x3 k58 hk58 x4 x5 x6 x8_152 h148 _ _ _ (lv_sub hl [2, 3, 4, 5, 6, 7, 8, 0] rfl) hP hS hf
    · replace hf := if_f c161 hf
      refine lv_iload hx hb dX9_up_164 (lv_at hl 0 rfl) ?_
      refine lv_iload hx hb dX9_up_166 (lv_at hl 7 rfl) ?_
      refine lv_icmp_ge (tgt := 175) hx hb dX9_up_168 (by decide) (fun c168 => ?_) (fun c168 => ?_)
      · replace hf := if_t c168 hf
        exact w_X9_up_175 hG C x1 x2 x3 k58 hk58 x4 x5 x6 x8_152 h148 _ _ _ (lv_sub hl [2, 3, 4, 5, 6, 7, 8, 0] rfl) hP hS hf
      · replace hf := if_f c168 hf
        exact w_X9_up_171 hG C x1 x2 x3 k58 hk58 x4 x5 x6 x8_152 h148 _ _ _ (lv_sub hl [2, 3, 4, 5, 6, 7, 8, 0] rfl) hP hS hf
def f_X9_up_108 (x1 : Int32) (x2 : Int32) (x3 : Int32) (k58 : Int32 → Int32 → Int32 → PH → Option (Int32 × PH)) (x4 : Int32) (x5 : Int32) (x6 : Int32) (h : PH) : Option (Int32 × PH) := f_X9_up_109 x1 x2 x3 k58 x4 x5 x6 0 h
set_option maxHeartbeats 4000000 in
set_option maxRecDepth 100000 in
theorem w_X9_up_108 {l : Launch} {G : GC} (hG : GOK G) {rr : Int32} {hh : PH} {p : Program} {e : Env} {s : State} {m : MethodId} {args : Array Value} {below : List Frame} {meth : Method} {c : Code} (C : MC l G p s m args meth c RX9 cX9_up 10 (some .int)) (x1 : Int32) (x2 : Int32) (x3 : Int32) (k58 : Int32 → Int32 → Int32 → PH → Option (Int32 × PH)) (hk58 : ∀ (x4 : Int32) (x5 : Int32) (x6 : Int32) (h : PH) (H : Heap) (locs : List Loc) (ls : Array Slot), lv_has ls 10 [(0, .ref (gB G 66)), (1, .int x1), (2, .int x2), (3, .int x3), (4, .int x4), (5, .int x5), (6, .int x6)] → WP G h H → SP G s H locs → k58 x4 x5 x6 h = some (rr, hh) → W p l e rmX9_up s m args below meth c H locs 0 0 (MQ below (QI G rr hh) args s 0 0 (gA G)) (F0 m 58 ls [])) : ∀ (x4 : Int32) (x5 : Int32) (x6 : Int32) (h : PH) (H : Heap) (locs : List Loc) (ls : Array Slot), lv_has ls 10 [(0, .ref (gB G 66)), (1, .int x1), (2, .int x2), (3, .int x3), (4, .int x4), (5, .int x5), (6, .int x6)] → WP G h H → SP G s H locs → f_X9_up_108 x1 x2 x3 k58 x4 x5 x6 h = some (rr, hh) → W p l e rmX9_up s m args below meth c H locs 0 0 (MQ below (QI G rr hh) args s 0 0 (gA G)) (F0 m 108 ls []) := by
  obtain ⟨hx, hb, hr, hlocks, hml, hown, hts, hK⟩ := id C
  intro x4 x5 x6 h H locs ls hl hP hS hf
  rw [f_X9_up_108] at hf
  refine lv_iconst (v := 0) hx hb dX9_up_108 (by decide) ?_
  exact w_X9_up_109 hG C x1 x2 x3 k58 hk58 x4 x5 x6 0 h _ _ _ (lv_sub hl [0, 1, 2, 3, 4, 5, 6] rfl) hP hS hf
def f_X9_up_58 (x1 : Int32) (x2 : Int32) (x3 : Int32) : Nat → Int32 → Int32 → Int32 → PH → Option (Int32 × PH)
  | 0, _, _, _, _ => none
  | n + 1, x4, x5, x6, h => if (h.1 66 13) ≤ x6 then (if x3 = 0 then (some (x4, h)) else (some (x5, h))) else (bP (f_X9_isFree x6 x2 h) (fun r71 h71 => if r71 = 0 then (f_X9_up_108 x1 x2 x3 (f_X9_up_58 x1 x2 x3 n) x4 x5 x6 h71) else (bO (ag h71 79 20 x6) (fun v84 => bP (f_X9_faultsIn v84 h71) (fun r85 h85 => bO (ag h85 79 20 x1) (fun v94 => bP (f_X9_faultsIn v94 h85) (fun r95 h95 => if (r85 &&& (r95 ^^^ (-1))) = 0 then (f_X9_up_109 x1 x2 x3 (f_X9_up_58 x1 x2 x3 n) x4 x5 x6 1 h95) else (f_X9_up_108 x1 x2 x3 (f_X9_up_58 x1 x2 x3 n) x4 x5 x6 h95))))))))
set_option maxHeartbeats 4000000 in
set_option maxRecDepth 100000 in
theorem w_X9_up_58 {l : Launch} {G : GC} (hG : GOK G) {rr : Int32} {hh : PH} {p : Program} {e : Env} {s : State} {m : MethodId} {args : Array Value} {below : List Frame} {meth : Method} {c : Code} (C : MC l G p s m args meth c RX9 cX9_up 10 (some .int)) (x1 : Int32) (x2 : Int32) (x3 : Int32) : ∀ (n : Nat) (x4 : Int32) (x5 : Int32) (x6 : Int32) (h : PH) (H : Heap) (locs : List Loc) (ls : Array Slot), lv_has ls 10 [(0, .ref (gB G 66)), (1, .int x1), (2, .int x2), (3, .int x3), (4, .int x4), (5, .int x5), (6, .int x6)] → WP G h H → SP G s H locs → f_X9_up_58 x1 x2 x3 n x4 x5 x6 h = some (rr, hh) → W p l e rmX9_up s m args below meth c H locs 0 0 (MQ below (QI G rr hh) args s 0 0 (gA G)) (F0 m 58 ls []) := by
  obtain ⟨hx, hb, hr, hlocks, hml, hown, hts, hK⟩ := id C
  intro n
  induction n with
  | zero => intro x4 x5 x6 h H locs ls hl hP hS hf; rw [f_X9_up_58] at hf; cases hf
  | succ n ih =>
    intro x4 x5 x6 h H locs ls hl hP hS hf
    rw [f_X9_up_58] at hf
    refine lv_iload hx hb dX9_up_58 (lv_at hl 6 rfl) ?_
    refine lv_aload_n hx hb dX9_up_60 rfl (lv_at hl 0 rfl) ?_
    refine r_get (a := 66) (v := .int (h.1 66 13)) (C := RX9) (T := TX9) (N := 55) hx hb hts hinX9 hown hK hP (ltX9 rfl) (ceX9 rfl) rfl 13 (by decide) wd1048 rfl dX9_up_61 ?_
    refine lv_icmp_ge (tgt := 212) hx hb dX9_up_64 (by decide) (fun c64 => ?_) (fun c64 => ?_)
    · replace hf := if_t c64 hf
      refine lv_iload_n hx hb dX9_up_212 rfl (lv_at hl 3 rfl) ?_
      refine lv_if_ne (tgt := 221) hx hb dX9_up_213 (by decide) (fun c213 => ?_) (fun c213 => ?_)
      · replace hf := if_f c213 hf
        refine lv_iload hx hb dX9_up_221 (lv_at hl 5 rfl) ?_
        exact r_iret hx hb hr hlocks hP hS (re2 (Option.some.inj hf)) dX9_up_223
      · replace hf := if_t c213 hf
        refine lv_iload hx hb dX9_up_216 (lv_at hl 4 rfl) ?_
        refine lv_goto (tgt := 223) hx hb dX9_up_218 (by decide) ?_
        exact r_iret hx hb hr hlocks hP hS (re2 (Option.some.inj hf)) dX9_up_223
    · replace hf := if_f c64 hf
      refine lv_aload_n hx hb dX9_up_67 rfl (lv_at hl 0 rfl) ?_
      refine lv_iload hx hb dX9_up_68 (lv_at hl 6 rfl) ?_
      refine lv_iload_n hx hb dX9_up_70 rfl (lv_at hl 2 rfl) ?_
      obtain ⟨r71, h71, er71, hf⟩ := bP_s hf
      refine r_callI (va_runV (As := [.int x6, .int x2]) (rest := []) ⟨hx, hb, hml, hown, hts⟩ (k_X9_isFree l hG er71) (cwV 2 hts (gV wd1473 wd1475 wd61 wd82 wd1476) rfl rfl rfl (by decide +kernel) ⟨Nat.le_of_ble_eq_true rfl, Nat.le_of_ble_eq_true rfl⟩) (r_pv hK hP hS (ltX9 rfl) (ceX9 rfl) rfl) rfl rfl hl.1 rfl (lv_room (Nat.le_of_ble_eq_true rfl)) dX9_up_71 ⟨Nat.le_of_ble_eq_true rfl, Nat.le_of_ble_eq_true rfl⟩) hS (fun H locs hP hS => ?_)
      refine lv_if_eq (tgt := 108) hx hb dX9_up_74 (by decide) (fun c74 => ?_) (fun c74 => ?_)
      · replace hf := if_t c74 hf
        exact w_X9_up_108 hG C x1 x2 x3 (f_X9_up_58 x1 x2 x3 n) ih x4 x5 x6 h71 _ _ _ (lv_sub hl [0, 1, 2, 3, 4, 5, 6] rfl) hP hS hf
      · replace hf := if_f c74 hf
        refine lv_aload_n hx hb dX9_up_77 rfl (lv_at hl 0 rfl) ?_
        refine lv_aload_n hx hb dX9_up_78 rfl (lv_at hl 0 rfl) ?_
        refine r_get (a := 66) (v := .ref (gB G 79)) (C := RX9) (T := TX9) (N := 55) hx hb hts hinX9 hown hK hP (ltX9 rfl) (ceX9 rfl) rfl 16 (by decide) wd1051 rfl dX9_up_79 ?_
        refine lv_iload hx hb dX9_up_82 (lv_at hl 6 rfl) ?_
        obtain ⟨v84, ev84, hf⟩ := bO_s hf
        refine r_iald hx hb hK hP (arX9_16 rfl) ev84 dX9_up_84 ?_
        obtain ⟨r85, h85, er85, hf⟩ := bP_s hf
        refine r_callI (va_runV (As := [.int v84]) (rest := []) ⟨hx, hb, hml, hown, hts⟩ (k_X9_faultsIn l hG er85) (cwV 1 hts (gV wd1351 wd1353 wd48 wd82 wd1354) rfl rfl rfl (by decide +kernel) ⟨Nat.le_of_ble_eq_true rfl, Nat.le_of_ble_eq_true rfl⟩) (r_pv hK hP hS (ltX9 rfl) (ceX9 rfl) rfl) rfl rfl hl.1 rfl (lv_room (Nat.le_of_ble_eq_true rfl)) dX9_up_85 ⟨Nat.le_of_ble_eq_true rfl, Nat.le_of_ble_eq_true rfl⟩) hS (fun H locs hP hS => ?_)
        refine lv_aload_n hx hb dX9_up_88 rfl (lv_at hl 0 rfl) ?_
        refine lv_aload_n hx hb dX9_up_89 rfl (lv_at hl 0 rfl) ?_
        refine r_get (a := 66) (v := .ref (gB G 79)) (C := RX9) (T := TX9) (N := 55) hx hb hts hinX9 hown hK hP (ltX9 rfl) (ceX9 rfl) rfl 16 (by decide) wd1051 rfl dX9_up_90 ?_
        refine lv_iload_n hx hb dX9_up_93 rfl (lv_at hl 1 rfl) ?_
        obtain ⟨v94, ev94, hf⟩ := bO_s hf
        refine r_iald hx hb hK hP (arX9_16 rfl) ev94 dX9_up_94 ?_
        obtain ⟨r95, h95, er95, hf⟩ := bP_s hf
        refine r_callI (va_runV (As := [.int v94]) (rest := [.int r85]) ⟨hx, hb, hml, hown, hts⟩ (k_X9_faultsIn l hG er95) (cwV 1 hts (gV wd1351 wd1353 wd48 wd82 wd1354) rfl rfl rfl (by decide +kernel) ⟨Nat.le_of_ble_eq_true rfl, Nat.le_of_ble_eq_true rfl⟩) (r_pv hK hP hS (ltX9 rfl) (ceX9 rfl) rfl) rfl rfl hl.1 rfl (lv_room (Nat.le_of_ble_eq_true rfl)) dX9_up_95 ⟨Nat.le_of_ble_eq_true rfl, Nat.le_of_ble_eq_true rfl⟩) hS (fun H locs hP hS => ?_)
        refine lv_iconst (v := (-1)) hx hb dX9_up_98 (by decide) ?_
        refine lv_ixor hx hb dX9_up_99 ?_
        refine lv_iand hx hb dX9_up_100 ?_
        refine lv_if_ne (tgt := 108) hx hb dX9_up_101 (by decide) (fun c101 => ?_) (fun c101 => ?_)
        · replace hf := if_f c101 hf
          exact w_X9_up_108 hG C x1 x2 x3 (f_X9_up_58 x1 x2 x3 n) ih x4 x5 x6 h95 _ _ _ (lv_sub hl [0, 1, 2, 3, 4, 5, 6] rfl) hP hS hf
        · replace hf := if_t c101 hf
          refine lv_iconst (v := 1) hx hb dX9_up_104 (by decide) ?_
          refine lv_goto (tgt := 109) hx hb dX9_up_105 (by decide) ?_
          exact w_X9_up_109 hG C x1 x2 x3 (f_X9_up_58 x1 x2 x3 n) ih x4 x5 x6 1 h95 _ _ _ (lv_sub hl [0, 1, 2, 3, 4, 5, 6] rfl) hP hS hf
def f_X9_up (x1 : Int32) (x2 : Int32) (x3 : Int32) (h : PH) : Option (Int32 × PH) := bP (f_X9_isRelease x1 h) (fun r2 h2 => if r2 = 0 then (some ((-1001), h2)) else (bP (f_X9_isFault x2 h2) (fun r10 h10 => if r10 = 0 then (some ((-1001), h10)) else (bO (f_X9_in (x3 : Int32).toInt64 0 1) (fun r24 => if r24 = 0 then (some ((-1002), h10)) else (bP (f_X9_isFree x1 x2 h10) (fun r37 h37 => if r37 = 0 then (lt' ((x1 + 1)) (fun x6_56 => f_X9_up_58 x1 x2 x3 FU (-1) (-1) x6_56 h37)) else (some ((-1003), h37)))))))))
set_option maxHeartbeats 4000000 in
set_option maxRecDepth 100000 in
theorem k_X9_up (l : Launch) {G : GC} (hG : GOK G) {x1 : Int32} {x2 : Int32} {x3 : Int32} {rr : Int32} {h hh : PH} (hf : f_X9_up x1 x2 x3 h = some (rr, hh)) : CI l yX9_up vX9_up rmX9_up G [.ref (gB G 66), .int x1, .int x2, .int x3] h rr hh := by
  refine Met.ofW (cc := cX9_up) (maxL := 10) (ret := (some .int)) (by decide +kernel) rfl ?_
  intro p e s m args below meth c s₁ B hml hv
  obtain ⟨rfl, hP, hK⟩ := hv
  have C : MC l G p s m _ meth c RX9 cX9_up 10 (some .int) := ⟨B.exec, B.bytes, B.returns, B.notSynchronized, hml, findClass_of_methodNamed B.named, fun w hw => atoms_spec (ws := vX9_up) B.pre w (List.mem_cons_of_mem _ hw), hK⟩
  obtain ⟨hx, hb, hr, hlocks, -, hown, hts, -⟩ := id C
  have hl := lv_entry ([.ref (gB G 66), .int x1, .int x2, .int x3]) (n := 10) (Nat.le_of_ble_eq_true rfl)
  rw [lg_entry_eq]
  generalize (lg_sl ([.ref (gB G 66), .int x1, .int x2, .int x3]) ++ List.replicate (10 - (lg_sl ([.ref (gB G 66), .int x1, .int x2, .int x3])).length) Slot.unset).toArray = ls at hl ⊢
  have hl : lv_has ls 10 [(0, .ref (gB G 66)), (1, .int x1), (2, .int x2), (3, .int x3)] := hl
  have hS : SP G s s.heap [] := va_S.rf
  replace hP : WP G h s.heap := hP
  rw [f_X9_up] at hf
  refine lv_aload_n hx hb dX9_up_0 rfl (lv_at hl 0 rfl) ?_
  refine lv_iload_n hx hb dX9_up_1 rfl (lv_at hl 1 rfl) ?_
  obtain ⟨r2, h2, er2, hf⟩ := bP_s hf
  refine r_callI (va_runV (As := [.int x1]) (rest := []) ⟨hx, hb, hml, hown, hts⟩ (k_X9_isRelease l hG er2) (cwV 1 hts (gV wd1457 wd1459 wd60 wd82 wd1460) rfl rfl rfl (by decide +kernel) ⟨Nat.le_of_ble_eq_true rfl, Nat.le_of_ble_eq_true rfl⟩) (r_pv hK hP hS (ltX9 rfl) (ceX9 rfl) rfl) rfl rfl hl.1 rfl (lv_room (Nat.le_of_ble_eq_true rfl)) dX9_up_2 ⟨Nat.le_of_ble_eq_true rfl, Nat.le_of_ble_eq_true rfl⟩) hS (fun H locs hP hS => ?_)
  refine lv_if_eq (tgt := 16) hx hb dX9_up_5 (by decide) (fun c5 => ?_) (fun c5 => ?_)
  · replace hf := if_t c5 hf
    refine lv_sipush (v := (-1001)) hx hb dX9_up_16 (by decide) ?_
    exact r_iret hx hb hr hlocks hP hS (re2 (Option.some.inj hf)) dX9_up_19
  · replace hf := if_f c5 hf
    refine lv_aload_n hx hb dX9_up_8 rfl (lv_at hl 0 rfl) ?_
    refine lv_iload_n hx hb dX9_up_9 rfl (lv_at hl 2 rfl) ?_
    obtain ⟨r10, h10, er10, hf⟩ := bP_s hf
    refine r_callI (va_runV (As := [.int x2]) (rest := []) ⟨hx, hb, hml, hown, hts⟩ (k_X9_isFault l hG er10) (cwV 1 hts (gV wd1331 wd1333 wd46 wd82 wd1334) rfl rfl rfl (by decide +kernel) ⟨Nat.le_of_ble_eq_true rfl, Nat.le_of_ble_eq_true rfl⟩) (r_pv hK hP hS (ltX9 rfl) (ceX9 rfl) rfl) rfl rfl hl.1 rfl (lv_room (Nat.le_of_ble_eq_true rfl)) dX9_up_10 ⟨Nat.le_of_ble_eq_true rfl, Nat.le_of_ble_eq_true rfl⟩) hS (fun H locs hP hS => ?_)
    refine lv_if_ne (tgt := 20) hx hb dX9_up_13 (by decide) (fun c13 => ?_) (fun c13 => ?_)
    · replace hf := if_f c13 hf
      refine lv_iload_n hx hb dX9_up_20 rfl (lv_at hl 3 rfl) ?_
      refine lv_i2l hx hb dX9_up_21 rfl ?_
      refine lv_lconst (v := 0) hx hb dX9_up_22 (by decide) ?_
      refine lv_lconst (v := 1) hx hb dX9_up_23 (by decide) ?_
      obtain ⟨r24, er24, hf⟩ := bO_s hf
      refine r_callI (va_runS (As := [.long (x3 : Int32).toInt64, .long 0, .long 1]) (rest := []) ⟨hx, hb, hml, hown, hts⟩ (k_X9_in l hG (h := h10) er24) (va_cwS 3 hts (gS wd1206 wd1207 wd82 wd1208) rfl rfl rfl (by decide +kernel) ⟨Nat.le_of_ble_eq_true rfl, Nat.le_of_ble_eq_true rfl⟩) (r_ps hK hP hS) rfl rfl hl.1 rfl (lv_room (Nat.le_of_ble_eq_true rfl)) dX9_up_24 ⟨Nat.le_of_ble_eq_true rfl, Nat.le_of_ble_eq_true rfl⟩) hS (fun H locs hP hS => ?_)
      refine lv_if_ne (tgt := 34) hx hb dX9_up_27 (by decide) (fun c27 => ?_) (fun c27 => ?_)
      · replace hf := if_f c27 hf
        refine lv_aload_n hx hb dX9_up_34 rfl (lv_at hl 0 rfl) ?_
        refine lv_iload_n hx hb dX9_up_35 rfl (lv_at hl 1 rfl) ?_
        refine lv_iload_n hx hb dX9_up_36 rfl (lv_at hl 2 rfl) ?_
        obtain ⟨r37, h37, er37, hf⟩ := bP_s hf
        refine r_callI (va_runV (As := [.int x1, .int x2]) (rest := []) ⟨hx, hb, hml, hown, hts⟩ (k_X9_isFree l hG er37) (cwV 2 hts (gV wd1473 wd1475 wd61 wd82 wd1476) rfl rfl rfl (by decide +kernel) ⟨Nat.le_of_ble_eq_true rfl, Nat.le_of_ble_eq_true rfl⟩) (r_pv hK hP hS (ltX9 rfl) (ceX9 rfl) rfl) rfl rfl hl.1 rfl (lv_room (Nat.le_of_ble_eq_true rfl)) dX9_up_37 ⟨Nat.le_of_ble_eq_true rfl, Nat.le_of_ble_eq_true rfl⟩) hS (fun H locs hP hS => ?_)
        refine lv_if_eq (tgt := 47) hx hb dX9_up_40 (by decide) (fun c40 => ?_) (fun c40 => ?_)
        · replace hf := if_t c40 hf
          refine lv_iconst (v := (-1)) hx hb dX9_up_47 (by decide) ?_
          refine lv_istore (lv' := [(4, .int (-1)), (0, .ref (gB G 66)), (1, .int x1), (2, .int x2), (3, .int x3)]) hx hb dX9_up_48 hl (by decide) rfl (fun ls hl => ?_)
          refine lv_iconst (v := (-1)) hx hb dX9_up_50 (by decide) ?_
          refine lv_istore (lv' := [(5, .int (-1)), (4, .int (-1)), (0, .ref (gB G 66)), (1, .int x1), (2, .int x2), (3, .int x3)]) hx hb dX9_up_51 hl (by decide) rfl (fun ls hl => ?_)
          refine lv_iload_n hx hb dX9_up_53 rfl (lv_at hl 3 rfl) ?_
          refine lv_iconst (v := 1) hx hb dX9_up_54 (by decide) ?_
          refine lv_iadd hx hb dX9_up_55 ?_
          refine lv_topi (fun x6_56 ex6_56 => ?_)
          replace hf := lt_at ex6_56 hf
          refine lv_istore (lv' := [(6, .int x6_56), (5, .int (-1)), (4, .int (-1)), (0, .ref (gB G 66)), (1, .int x1), (2, .int x2), (3, .int x3)]) hx hb dX9_up_56 hl (by decide) rfl (fun ls hl => ?_)
          exact w_X9_up_58 hG C x1 x2 x3 FU (-1) (-1) x6_56 h37 _ _ _ (lv_sub hl [3, 4, 5, 6, 2, 1, 0] rfl) hP hS hf
        · replace hf := if_f c40 hf
          refine lv_sipush (v := (-1003)) hx hb dX9_up_43 (by decide) ?_
          exact r_iret hx hb hr hlocks hP hS (re2 (Option.some.inj hf)) dX9_up_46
      · replace hf := if_t c27 hf
        refine lv_sipush (v := (-1002)) hx hb dX9_up_30 (by decide) ?_
        exact r_iret hx hb hr hlocks hP hS (re2 (Option.some.inj hf)) dX9_up_33
    · replace hf := if_t c13 hf
      refine lv_sipush (v := (-1001)) hx hb dX9_up_16 (by decide) ?_
      exact r_iret hx hb hr hlocks hP hS (re2 (Option.some.inj hf)) dX9_up_19
