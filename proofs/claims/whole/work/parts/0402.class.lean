/-! CarriedBack.apart(III)I -/
abbrev rmX8_apart : Room := { frames := 4, cells := 0, slots := 0, locals := 93 }
abbrev vX8_apart : List Cond := Cond.code yX8_apart cX8_apart 4 (some .int) :: GW
def f_X8_apart (x1 : Int32) (x2 : Int32) (x3 : Int32) (h : PH) : Option (Int32 × PH) := bP (f_X0_hasLine 28 x1 h) (fun r5 h5 => if r5 = 0 then (some ((-1001), h5)) else (bP (f_X7_hasChange 4 x2 h5) (fun r16 h16 => if r16 = 0 then (some ((-1001), h16)) else (bP (f_X7_hasChange 4 x3 h16) (fun r27 h27 => if r27 = 0 then (some ((-1001), h27)) else (if x2 = x3 then (some ((-1001), h27)) else (bO (ag h27 30 4 x1) (fun v50 => bO (f_X8_has v50 x2) (fun r52 => if r52 = 0 then (bO (ag h27 30 4 x1) (fun v66 => bO (f_X8_has v66 x3) (fun r68 => if r68 = 0 then (bP (f_X2_areApart x1 x2 x3 h27) (fun r85 h85 => if r85 = 0 then (some (0, h85)) else (some (1, h85)))) else (some ((-1003), h27))))) else (some ((-1003), h27)))))))))))
set_option maxHeartbeats 4000000 in
set_option maxRecDepth 100000 in
theorem k_X8_apart (l : Launch) {G : GC} (hG : GOK G) {x1 : Int32} {x2 : Int32} {x3 : Int32} {rr : Int32} {h hh : PH} (hf : f_X8_apart x1 x2 x3 h = some (rr, hh)) : CI l yX8_apart vX8_apart rmX8_apart G [.ref (gB G 0), .int x1, .int x2, .int x3] h rr hh := by
  refine Met.ofW (cc := cX8_apart) (maxL := 4) (ret := (some .int)) (by decide +kernel) rfl ?_
  intro p e s m args below meth c s₁ B hml hv
  obtain ⟨rfl, hP, hK⟩ := hv
  have C : MC l G p s m _ meth c RX8 cX8_apart 4 (some .int) := ⟨B.exec, B.bytes, B.returns, B.notSynchronized, hml, findClass_of_methodNamed B.named, fun w hw => atoms_spec (ws := vX8_apart) B.pre w (List.mem_cons_of_mem _ hw), hK⟩
  obtain ⟨hx, hb, hr, hlocks, -, hown, hts, -⟩ := id C
  have hl := lv_entry ([.ref (gB G 0), .int x1, .int x2, .int x3]) (n := 4) (Nat.le_of_ble_eq_true rfl)
  rw [lg_entry_eq]
  generalize (lg_sl ([.ref (gB G 0), .int x1, .int x2, .int x3]) ++ List.replicate (4 - (lg_sl ([.ref (gB G 0), .int x1, .int x2, .int x3])).length) Slot.unset).toArray = ls at hl ⊢
  have hl : lv_has ls 4 [(0, .ref (gB G 0)), (1, .int x1), (2, .int x2), (3, .int x3)] := hl
  have hS : SP G s s.heap [] := va_S.rf
  replace hP : WP G h s.heap := hP
  rw [f_X8_apart] at hf
  refine lv_aload_n hx hb dX8_apart_0 rfl (lv_at hl 0 rfl) ?_
  refine r_get (a := 0) (v := .ref (gB G 28)) (C := RX8) (T := TX8) (N := 14) hx hb hts hinX8 hown hK hP (ltX8 rfl) (ceX8 rfl) rfl 6 (by decide) wd368 rfl dX8_apart_1 ?_
  refine lv_iload_n hx hb dX8_apart_4 rfl (lv_at hl 1 rfl) ?_
  obtain ⟨r5, h5, er5, hf⟩ := bP_s hf
  refine r_callI (va_runV (As := [.int x1]) (rest := []) ⟨hx, hb, hml, hown, hts⟩ (k_X0_hasLine l hG 28 (Or.inl rfl) er5) (cwV 1 hts (gV wd684 wd685 wd686 wd78 wd687) rfl rfl rfl (by decide +kernel) ⟨Nat.le_of_ble_eq_true rfl, Nat.le_of_ble_eq_true rfl⟩) (r_pv hK hP hS (ltX0 (Or.inl rfl)) (ceX0 (Or.inl rfl)) rfl) rfl rfl hl.1 rfl (lv_room (Nat.le_of_ble_eq_true rfl)) dX8_apart_5 ⟨Nat.le_of_ble_eq_true rfl, Nat.le_of_ble_eq_true rfl⟩) hS (fun H locs hP hS => ?_)
  refine lv_if_eq (tgt := 38) hx hb dX8_apart_8 (by decide) (fun c8 => ?_) (fun c8 => ?_)
  · replace hf := if_t c8 hf
    refine lv_sipush (v := (-1001)) hx hb dX8_apart_38 (by decide) ?_
    exact r_iret hx hb hr hlocks hP hS (re2 (Option.some.inj hf)) dX8_apart_41
  · replace hf := if_f c8 hf
    refine lv_aload_n hx hb dX8_apart_11 rfl (lv_at hl 0 rfl) ?_
    refine r_get (a := 0) (v := .ref (gB G 4)) (C := RX8) (T := TX8) (N := 14) hx hb hts hinX8 hown hK hP (ltX8 rfl) (ceX8 rfl) rfl 2 (by decide) wd364 rfl dX8_apart_12 ?_
    refine lv_iload_n hx hb dX8_apart_15 rfl (lv_at hl 2 rfl) ?_
    obtain ⟨r16, h16, er16, hf⟩ := bP_s hf
    refine r_callI (va_runV (As := [.int x2]) (rest := []) ⟨hx, hb, hml, hown, hts⟩ (k_X7_hasChange l hG 4 (Or.inl rfl) er16) (cwV 1 hts (gV wd629 wd630 wd631 wd76 wd632) rfl rfl rfl (by decide +kernel) ⟨Nat.le_of_ble_eq_true rfl, Nat.le_of_ble_eq_true rfl⟩) (r_pv hK hP hS (ltX7 (Or.inl rfl)) (ceX7 (Or.inl rfl)) rfl) rfl rfl hl.1 rfl (lv_room (Nat.le_of_ble_eq_true rfl)) dX8_apart_16 ⟨Nat.le_of_ble_eq_true rfl, Nat.le_of_ble_eq_true rfl⟩) hS (fun H locs hP hS => ?_)
    refine lv_if_eq (tgt := 38) hx hb dX8_apart_19 (by decide) (fun c19 => ?_) (fun c19 => ?_)
    · replace hf := if_t c19 hf
      refine lv_sipush (v := (-1001)) hx hb dX8_apart_38 (by decide) ?_
      exact r_iret hx hb hr hlocks hP hS (re2 (Option.some.inj hf)) dX8_apart_41
    · replace hf := if_f c19 hf
      refine lv_aload_n hx hb dX8_apart_22 rfl (lv_at hl 0 rfl) ?_
      refine r_get (a := 0) (v := .ref (gB G 4)) (C := RX8) (T := TX8) (N := 14) hx hb hts hinX8 hown hK hP (ltX8 rfl) (ceX8 rfl) rfl 2 (by decide) wd364 rfl dX8_apart_23 ?_
      refine lv_iload_n hx hb dX8_apart_26 rfl (lv_at hl 3 rfl) ?_
      obtain ⟨r27, h27, er27, hf⟩ := bP_s hf
      refine r_callI (va_runV (As := [.int x3]) (rest := []) ⟨hx, hb, hml, hown, hts⟩ (k_X7_hasChange l hG 4 (Or.inl rfl) er27) (cwV 1 hts (gV wd629 wd630 wd631 wd76 wd632) rfl rfl rfl (by decide +kernel) ⟨Nat.le_of_ble_eq_true rfl, Nat.le_of_ble_eq_true rfl⟩) (r_pv hK hP hS (ltX7 (Or.inl rfl)) (ceX7 (Or.inl rfl)) rfl) rfl rfl hl.1 rfl (lv_room (Nat.le_of_ble_eq_true rfl)) dX8_apart_27 ⟨Nat.le_of_ble_eq_true rfl, Nat.le_of_ble_eq_true rfl⟩) hS (fun H locs hP hS => ?_)
      refine lv_if_eq (tgt := 38) hx hb dX8_apart_30 (by decide) (fun c30 => ?_) (fun c30 => ?_)
      · replace hf := if_t c30 hf
        refine lv_sipush (v := (-1001)) hx hb dX8_apart_38 (by decide) ?_
        exact r_iret hx hb hr hlocks hP hS (re2 (Option.some.inj hf)) dX8_apart_41
      · replace hf := if_f c30 hf
        refine lv_iload_n hx hb dX8_apart_33 rfl (lv_at hl 2 rfl) ?_
        refine lv_iload_n hx hb dX8_apart_34 rfl (lv_at hl 3 rfl) ?_
        refine lv_icmp_ne (tgt := 42) hx hb dX8_apart_35 (by decide) (fun c35 => ?_) (fun c35 => ?_)
        · replace hf := if_f c35 hf
          refine lv_aload_n hx hb dX8_apart_42 rfl (lv_at hl 0 rfl) ?_
          refine r_get (a := 0) (v := .ref (gB G 28)) (C := RX8) (T := TX8) (N := 14) hx hb hts hinX8 hown hK hP (ltX8 rfl) (ceX8 rfl) rfl 6 (by decide) wd368 rfl dX8_apart_43 ?_
          refine r_get (a := 28) (v := .ref (gB G 30)) (C := RX0) (T := TX0) (N := 10) hx hb hts hinX0 hown hK hP (ltX0 (Or.inl rfl)) (ceX0 (Or.inl rfl)) rfl 2 (by decide) wd242 rfl dX8_apart_46 ?_
          refine lv_iload_n hx hb dX8_apart_49 rfl (lv_at hl 1 rfl) ?_
          obtain ⟨v50, ev50, hf⟩ := bO_s hf
          refine r_iald hx hb hK hP (arX0_2 (Or.inl rfl)) ev50 dX8_apart_50 ?_
          refine lv_iload_n hx hb dX8_apart_51 rfl (lv_at hl 2 rfl) ?_
          obtain ⟨r52, er52, hf⟩ := bO_s hf
          refine r_callI (va_runS (As := [.int v50, .int x2]) (rest := []) ⟨hx, hb, hml, hown, hts⟩ (k_X8_has l hG (h := h27) er52) (va_cwS 2 hts (gS wd704 wd522 wd73 wd523) rfl rfl rfl (by decide +kernel) ⟨Nat.le_of_ble_eq_true rfl, Nat.le_of_ble_eq_true rfl⟩) (r_ps hK hP hS) rfl rfl hl.1 rfl (lv_room (Nat.le_of_ble_eq_true rfl)) dX8_apart_52 ⟨Nat.le_of_ble_eq_true rfl, Nat.le_of_ble_eq_true rfl⟩) hS (fun H locs hP hS => ?_)
          refine lv_if_ne (tgt := 74) hx hb dX8_apart_55 (by decide) (fun c55 => ?_) (fun c55 => ?_)
          · replace hf := if_f c55 hf
            refine lv_sipush (v := (-1003)) hx hb dX8_apart_74 (by decide) ?_
            exact r_iret hx hb hr hlocks hP hS (re2 (Option.some.inj hf)) dX8_apart_77
          · replace hf := if_t c55 hf
            refine lv_aload_n hx hb dX8_apart_58 rfl (lv_at hl 0 rfl) ?_
            refine r_get (a := 0) (v := .ref (gB G 28)) (C := RX8) (T := TX8) (N := 14) hx hb hts hinX8 hown hK hP (ltX8 rfl) (ceX8 rfl) rfl 6 (by decide) wd368 rfl dX8_apart_59 ?_
            refine r_get (a := 28) (v := .ref (gB G 30)) (C := RX0) (T := TX0) (N := 10) hx hb hts hinX0 hown hK hP (ltX0 (Or.inl rfl)) (ceX0 (Or.inl rfl)) rfl 2 (by decide) wd242 rfl dX8_apart_62 ?_
            refine lv_iload_n hx hb dX8_apart_65 rfl (lv_at hl 1 rfl) ?_
            obtain ⟨v66, ev66, hf⟩ := bO_s hf
            refine r_iald hx hb hK hP (arX0_2 (Or.inl rfl)) ev66 dX8_apart_66 ?_
            refine lv_iload_n hx hb dX8_apart_67 rfl (lv_at hl 3 rfl) ?_
            obtain ⟨r68, er68, hf⟩ := bO_s hf
            refine r_callI (va_runS (As := [.int v66, .int x3]) (rest := []) ⟨hx, hb, hml, hown, hts⟩ (k_X8_has l hG (h := h27) er68) (va_cwS 2 hts (gS wd704 wd522 wd73 wd523) rfl rfl rfl (by decide +kernel) ⟨Nat.le_of_ble_eq_true rfl, Nat.le_of_ble_eq_true rfl⟩) (r_ps hK hP hS) rfl rfl hl.1 rfl (lv_room (Nat.le_of_ble_eq_true rfl)) dX8_apart_68 ⟨Nat.le_of_ble_eq_true rfl, Nat.le_of_ble_eq_true rfl⟩) hS (fun H locs hP hS => ?_)
            refine lv_if_eq (tgt := 78) hx hb dX8_apart_71 (by decide) (fun c71 => ?_) (fun c71 => ?_)
            · replace hf := if_t c71 hf
              refine lv_aload_n hx hb dX8_apart_78 rfl (lv_at hl 0 rfl) ?_
              refine r_get (a := 0) (v := .ref (gB G 55)) (C := RX8) (T := TX8) (N := 14) hx hb hts hinX8 hown hK hP (ltX8 rfl) (ceX8 rfl) rfl 9 (by decide) wd371 rfl dX8_apart_79 ?_
              refine lv_iload_n hx hb dX8_apart_82 rfl (lv_at hl 1 rfl) ?_
              refine lv_iload_n hx hb dX8_apart_83 rfl (lv_at hl 2 rfl) ?_
              refine lv_iload_n hx hb dX8_apart_84 rfl (lv_at hl 3 rfl) ?_
              obtain ⟨r85, h85, er85, hf⟩ := bP_s hf
              refine r_callI (va_runV (As := [.int x1, .int x2, .int x3]) (rest := []) ⟨hx, hb, hml, hown, hts⟩ (k_X2_areApart l hG er85) (cwV 3 hts (gV wd776 wd777 wd778 wd79 wd779) rfl rfl rfl (by decide +kernel) ⟨Nat.le_of_ble_eq_true rfl, Nat.le_of_ble_eq_true rfl⟩) (r_pv hK hP hS (ltX2 rfl) (ceX2 rfl) rfl) rfl rfl hl.1 rfl (lv_room (Nat.le_of_ble_eq_true rfl)) dX8_apart_85 ⟨Nat.le_of_ble_eq_true rfl, Nat.le_of_ble_eq_true rfl⟩) hS (fun H locs hP hS => ?_)
              refine lv_if_eq (tgt := 95) hx hb dX8_apart_88 (by decide) (fun c88 => ?_) (fun c88 => ?_)
              · replace hf := if_t c88 hf
                refine lv_iconst (v := 0) hx hb dX8_apart_95 (by decide) ?_
                exact r_iret hx hb hr hlocks hP hS (re2 (Option.some.inj hf)) dX8_apart_96
              · replace hf := if_f c88 hf
                refine lv_iconst (v := 1) hx hb dX8_apart_91 (by decide) ?_
                refine lv_goto (tgt := 96) hx hb dX8_apart_92 (by decide) ?_
                exact r_iret hx hb hr hlocks hP hS (re2 (Option.some.inj hf)) dX8_apart_96
            · replace hf := if_f c71 hf
              refine lv_sipush (v := (-1003)) hx hb dX8_apart_74 (by decide) ?_
              exact r_iret hx hb hr hlocks hP hS (re2 (Option.some.inj hf)) dX8_apart_77
        · replace hf := if_t c35 hf
          refine lv_sipush (v := (-1001)) hx hb dX8_apart_38 (by decide) ?_
          exact r_iret hx hb hr hlocks hP hS (re2 (Option.some.inj hf)) dX8_apart_41
/-! CarriedBack$Trunk.hasFaults(I)Z -/
abbrev rmX7_hasFaults : Room := { frames := 1, cells := 0, slots := 0, locals := 20 }
abbrev vX7_hasFaults : List Cond := Cond.code yX7_hasFaults cX7_hasFaults 2 (some .boolean) :: GW
def f_X7_hasFaults (a0 : Nat) (x1 : Int32) (h : PH) : Option (Int32 × PH) := bO (f_X8_firstOnes (h.1 a0 6)) (fun r5 => if (x1 &&& (r5 ^^^ (-1))) = 0 then (some (1, h)) else (some (0, h)))
set_option maxHeartbeats 4000000 in
set_option maxRecDepth 100000 in
theorem k_X7_hasFaults (l : Launch) {G : GC} (hG : GOK G) (a0 : Nat) (ha0 : kdX7 a0) {x1 : Int32} {rr : Int32} {h hh : PH} (hf : f_X7_hasFaults a0 x1 h = some (rr, hh)) : CI l yX7_hasFaults vX7_hasFaults rmX7_hasFaults G [.ref (gB G a0), .int x1] h rr hh := by
  refine Met.ofW (cc := cX7_hasFaults) (maxL := 2) (ret := (some .boolean)) (by decide +kernel) rfl ?_
  intro p e s m args below meth c s₁ B hml hv
  obtain ⟨rfl, hP, hK⟩ := hv
  have C : MC l G p s m _ meth c RX7 cX7_hasFaults 2 (some .boolean) := ⟨B.exec, B.bytes, B.returns, B.notSynchronized, hml, findClass_of_methodNamed B.named, fun w hw => atoms_spec (ws := vX7_hasFaults) B.pre w (List.mem_cons_of_mem _ hw), hK⟩
  obtain ⟨hx, hb, hr, hlocks, -, hown, hts, -⟩ := id C
  have hl := lv_entry ([.ref (gB G a0), .int x1]) (n := 2) (Nat.le_of_ble_eq_true rfl)
  rw [lg_entry_eq]
  generalize (lg_sl ([.ref (gB G a0), .int x1]) ++ List.replicate (2 - (lg_sl ([.ref (gB G a0), .int x1])).length) Slot.unset).toArray = ls at hl ⊢
  have hl : lv_has ls 2 [(0, .ref (gB G a0)), (1, .int x1)] := hl
  have hS : SP G s s.heap [] := va_S.rf
  replace hP : WP G h s.heap := hP
  rw [f_X7_hasFaults] at hf
  refine lv_iload_n hx hb dX7_hasFaults_0 rfl (lv_at hl 1 rfl) ?_
  refine lv_aload_n hx hb dX7_hasFaults_1 rfl (lv_at hl 0 rfl) ?_
  refine r_get (a := a0) (v := .int (h.1 a0 6)) (C := RX7) (T := TX7) (N := 10) hx hb hts hinX7 hown hK hP (ltX7 ha0) (ceX7 ha0) rfl 6 (by decide) wd169 rfl dX7_hasFaults_2 ?_
  obtain ⟨r5, er5, hf⟩ := bO_s hf
  refine r_callI (va_runSN (As := [.int (h.1 a0 6)]) (rest := [.int x1]) ⟨hx, hb, hml, hown, hts⟩ (k_X8_firstOnes l hG (h := h) er5) ⟨va_cnB 1 hts (gC wd678) rfl rfl rfl (host := "CarriedBack") (hK.2.1 _ (by decide +kernel)) (hts _ wd73) (by decide +kernel) ⟨Nat.le_of_ble_eq_true rfl, Nat.le_of_ble_eq_true rfl⟩, hts _ wd677, trivial⟩ (r_ps hK hP hS) rfl rfl hl.1 rfl (lv_room (Nat.le_of_ble_eq_true rfl)) dX7_hasFaults_5 ⟨Nat.le_of_ble_eq_true rfl, Nat.le_of_ble_eq_true rfl⟩) hS (fun H locs hP hS => ?_)
  refine lv_iconst (v := (-1)) hx hb dX7_hasFaults_8 (by decide) ?_
  refine lv_ixor hx hb dX7_hasFaults_9 ?_
  refine lv_iand hx hb dX7_hasFaults_10 ?_
  refine lv_if_ne (tgt := 18) hx hb dX7_hasFaults_11 (by decide) (fun c11 => ?_) (fun c11 => ?_)
  · replace hf := if_f c11 hf
    refine lv_iconst (v := 0) hx hb dX7_hasFaults_18 (by decide) ?_
    exact r_zret hx hb hr rfl hlocks hP hS (re2 (Option.some.inj hf)) dX7_hasFaults_19
  · replace hf := if_t c11 hf
    refine lv_iconst (v := 1) hx hb dX7_hasFaults_14 (by decide) ?_
    refine lv_goto (tgt := 19) hx hb dX7_hasFaults_15 (by decide) ?_
    exact r_zret hx hb hr rfl hlocks hP hS (re2 (Option.some.inj hf)) dX7_hasFaults_19
/-! CarriedBack$Fixes.lookAt(II)V -/
abbrev rmX1_lookAt : Room := { frames := 4, cells := 0, slots := 0, locals := 101 }
abbrev vX1_lookAt : List Cond := Cond.code yX1_lookAt cX1_lookAt 7 none :: GW
def f_X1_lookAt_118 (x1 : Int32) (x3 : Int32) (k35 : Int32 → PH → Option PH) (x4 : Int32) (h : PH) : Option PH := bO (ag h 59 10 x4) (fun v124 => if v124 = (-1) then (k35 (x4 + 1) h) else (lt' (hU h 58 4 ((h.1 58 4) ||| (1 <<< (x4 &&& 31)))) (fun h139 => k35 (x4 + 1) h139)))
set_option maxHeartbeats 4000000 in
set_option maxRecDepth 100000 in
theorem w_X1_lookAt_118 {l : Launch} {G : GC} (hG : GOK G) {hh : PH} {p : Program} {e : Env} {s : State} {m : MethodId} {args : Array Value} {below : List Frame} {meth : Method} {c : Code} (C : MC l G p s m args meth c RX1 cX1_lookAt 7 none) (x1 : Int32) (x3 : Int32) (k35 : Int32 → PH → Option PH) (hk35 : ∀ (x4 : Int32) (h : PH) (H : Heap) (locs : List Loc) (ls : Array Slot), lv_has ls 7 [(0, .ref (gB G 58)), (1, .int x1), (3, .int x3), (4, .int x4)] → WP G h H → SP G s H locs → k35 x4 h = some hh → W p l e rmX1_lookAt s m args below meth c H locs 0 0 (MQ below (QV G hh) args s 0 0 (gA G)) (F0 m 35 ls [])) : ∀ (x4 : Int32) (h : PH) (H : Heap) (locs : List Loc) (ls : Array Slot), lv_has ls 7 [(0, .ref (gB G 58)), (1, .int x1), (3, .int x3), (4, .int x4)] → WP G h H → SP G s H locs → f_X1_lookAt_118 x1 x3 k35 x4 h = some hh → W p l e rmX1_lookAt s m args below meth c H locs 0 0 (MQ below (QV G hh) args s 0 0 (gA G)) (F0 m 118 ls []) := by
  obtain ⟨hx, hb, hr, hlocks, hml, hown, hts, hK⟩ := id C
  intro x4 h H locs ls hl hP hS hf
  rw [f_X1_lookAt_118] at hf
  refine lv_aload_n hx hb dX1_lookAt_118 rfl (lv_at hl 0 rfl) ?_
  refine r_get (a := 58) (v := .ref (gB G 59)) (C := RX1) (T := TX1) (N := 8) hx hb hts hinX1 hown hK hP (ltX1 rfl) (ceX1 rfl) rfl 3 (by decide) wd308 rfl dX1_lookAt_119 ?_
  refine lv_iload hx hb dX1_lookAt_122 (lv_at hl 3 rfl) ?_
  obtain ⟨v124, ev124, hf⟩ := bO_s hf
  refine r_iald hx hb hK hP (arX1_3 rfl) ev124 dX1_lookAt_124 ?_
  refine lv_iconst (v := (-1)) hx hb dX1_lookAt_125 (by decide) ?_
  refine lv_icmp_eq (tgt := 142) hx hb dX1_lookAt_126 (by decide) (fun c126 => ?_) (fun c126 => ?_)
  · replace hf := if_t c126 hf
    refine lv_iinc (v := (x4 + 1)) (lv' := [(4, .int (x4 + 1)), (0, .ref (gB G 58)), (1, .int x1), (3, .int x3)]) hx hb dX1_lookAt_142 hl (k := 3) rfl rfl (by decide) rfl (fun ls hl => ?_)
    refine lv_goto (tgt := 35) hx hb dX1_lookAt_145 (by decide) ?_
    exact hk35 (x4 + 1) h _ _ _ (lv_sub hl [1, 2, 3, 0] rfl) hP hS hf
  · replace hf := if_f c126 hf
    refine lv_aload_n hx hb dX1_lookAt_129 rfl (lv_at hl 0 rfl) ?_
    refine lv_dup hx hb dX1_lookAt_130 rfl ?_
    refine r_get (a := 58) (v := .int (h.1 58 4)) (C := RX1) (T := TX1) (N := 8) hx hb hts hinX1 hown hK hP (ltX1 rfl) (ceX1 rfl) rfl 4 (by decide) wd309 rfl dX1_lookAt_131 ?_
    refine lv_iconst (v := 1) hx hb dX1_lookAt_134 (by decide) ?_
    refine lv_iload hx hb dX1_lookAt_135 (lv_at hl 3 rfl) ?_
    refine lv_ishl hx hb dX1_lookAt_137 ?_
    refine lv_ior hx hb dX1_lookAt_138 ?_
    obtain ⟨h139, eh139⟩ : ∃ y, y = hU h 58 4 ((h.1 58 4) ||| (1 <<< (x4 &&& 31))) := ⟨_, rfl⟩
    replace hf := lt_at eh139 hf
    refine r_put (a := 58) (v := .int ((h.1 58 4) ||| (1 <<< (x4 &&& 31)))) (ty := .int) (h' := h139) (C := RX1) (T := TX1) (N := 8) hG hx hb hts hinX1 tyX1 tyX1_ok nmX1 hown hK hP hS (ltX1 rfl) (ceX1 rfl) rfl 4 (by decide) wd309 rfl (by decide +kernel) rfl rfl (Nat.le_of_ble_eq_true rfl) (by rw [eh139]; exact fun j hj => cE_U hj) (by rw [eh139]; exact puX1_4 rfl _) dX1_lookAt_139 (fun H locs hP hS => ?_)
    refine lv_iinc (v := (x4 + 1)) (lv' := [(4, .int (x4 + 1)), (0, .ref (gB G 58)), (1, .int x1), (3, .int x3)]) hx hb dX1_lookAt_142 hl (k := 3) rfl rfl (by decide) rfl (fun ls hl => ?_)
    refine lv_goto (tgt := 35) hx hb dX1_lookAt_145 (by decide) ?_
    exact hk35 (x4 + 1) h139 _ _ _ (lv_sub hl [1, 2, 3, 0] rfl) hP hS hf
def f_X1_lookAt_117 (x1 : Int32) (x3 : Int32) (k35 : Int32 → PH → Option PH) (x4 : Int32) (t1 : Int32) (t2 : Int32) (h : PH) : Option PH := bO (asg h 59 10 t1 t2) (fun h117 => f_X1_lookAt_118 x1 x3 k35 x4 h117)
set_option maxHeartbeats 4000000 in
set_option maxRecDepth 100000 in
theorem w_X1_lookAt_117 {l : Launch} {G : GC} (hG : GOK G) {hh : PH} {p : Program} {e : Env} {s : State} {m : MethodId} {args : Array Value} {below : List Frame} {meth : Method} {c : Code} (C : MC l G p s m args meth c RX1 cX1_lookAt 7 none) (x1 : Int32) (x3 : Int32) (k35 : Int32 → PH → Option PH) (hk35 : ∀ (x4 : Int32) (h : PH) (H : Heap) (locs : List Loc) (ls : Array Slot), lv_has ls 7 [(0, .ref (gB G 58)), (1, .int x1), (3, .int x3), (4, .int x4)] → WP G h H → SP G s H locs → k35 x4 h = some hh → W p l e rmX1_lookAt s m args below meth c H locs 0 0 (MQ below (QV G hh) args s 0 0 (gA G)) (F0 m 35 ls [])) : ∀ (x4 : Int32) (t1 : Int32) (t2 : Int32) (h : PH) (H : Heap) (locs : List Loc) (ls : Array Slot), lv_has ls 7 [(0, .ref (gB G 58)), (1, .int x1), (3, .int x3), (4, .int x4)] → WP G h H → SP G s H locs → f_X1_lookAt_117 x1 x3 k35 x4 t1 t2 h = some hh → W p l e rmX1_lookAt s m args below meth c H locs 0 0 (MQ below (QV G hh) args s 0 0 (gA G)) (F0 m 117 ls [.int t2, .int t1, .ref (gB G 59)]) := by
  obtain ⟨hx, hb, hr, hlocks, hml, hown, hts, hK⟩ := id C
  intro x4 t1 t2 h H locs ls hl hP hS hf
  rw [f_X1_lookAt_117] at hf
  obtain ⟨h117, eh117, hf⟩ := bO_s hf
  refine r_iast hG hx hb hK hP hS (arX1_3 rfl) eh117 dX1_lookAt_117 (fun H locs hP hS => ?_)
  exact w_X1_lookAt_118 hG C x1 x3 k35 hk35 x4 h117 _ _ _ (lv_sub hl [0, 1, 2, 3] rfl) hP hS hf
def f_X1_lookAt_35 (x1 : Int32) (x3 : Int32) : Nat → Int32 → PH → Option PH
  | 0, _, _ => none
  | n + 1, x4, h => if (h.1 4 6) ≤ x4 then (some h) else (bO (ag h 12 10 x4) (fun v56 => bO (asg h 59 10 x4 (-1)) (fun h66 => bO (f_X8_has x3 x4) (fun r70 => if r70 = 0 then (f_X1_lookAt_118 x1 x3 (f_X1_lookAt_35 x1 x3 n) x4 h66) else (if v56 = (-1) then (f_X1_lookAt_118 x1 x3 (f_X1_lookAt_35 x1 x3 n) x4 h66) else (bP (f_X2_needsOf x1 v56 h66) (fun r89 h89 => if r89 = (-1) then (f_X1_lookAt_117 x1 x3 (f_X1_lookAt_35 x1 x3 n) x4 x4 (-1) h89) else (f_X1_lookAt_117 x1 x3 (f_X1_lookAt_35 x1 x3 n) x4 x4 (r89 ||| (1 <<< (v56 &&& 31))) h89))))))))
set_option maxHeartbeats 4000000 in
set_option maxRecDepth 100000 in
theorem w_X1_lookAt_35 {l : Launch} {G : GC} (hG : GOK G) {hh : PH} {p : Program} {e : Env} {s : State} {m : MethodId} {args : Array Value} {below : List Frame} {meth : Method} {c : Code} (C : MC l G p s m args meth c RX1 cX1_lookAt 7 none) (x1 : Int32) (x3 : Int32) : ∀ (n : Nat) (x4 : Int32) (h : PH) (H : Heap) (locs : List Loc) (ls : Array Slot), lv_has ls 7 [(0, .ref (gB G 58)), (1, .int x1), (3, .int x3), (4, .int x4)] → WP G h H → SP G s H locs → f_X1_lookAt_35 x1 x3 n x4 h = some hh → W p l e rmX1_lookAt s m args below meth c H locs 0 0 (MQ below (QV G hh) args s 0 0 (gA G)) (F0 m 35 ls []) := by
  obtain ⟨hx, hb, hr, hlocks, hml, hown, hts, hK⟩ := id C
  intro n
  induction n with
  | zero => intro x4 h H locs ls hl hP hS hf; rw [f_X1_lookAt_35] at hf; cases hf
  | succ n ih =>
    intro x4 h H locs ls hl hP hS hf
    rw [f_X1_lookAt_35] at hf
    refine lv_iload hx hb dX1_lookAt_35 (lv_at hl 3 rfl) ?_
    refine lv_aload_n hx hb dX1_lookAt_37 rfl (lv_at hl 0 rfl) ?_
    refine r_get (a := 58) (v := .ref (gB G 4)) (C := RX1) (T := TX1) (N := 8) hx hb hts hinX1 hown hK hP (ltX1 rfl) (ceX1 rfl) rfl 0 (by decide) wd305 rfl dX1_lookAt_38 ?_
    refine r_get (a := 4) (v := .int (h.1 4 6)) (C := RX7) (T := TX7) (N := 10) hx hb hts hinX7 hown hK hP (ltX7 (Or.inl rfl)) (ceX7 (Or.inl rfl)) rfl 6 (by decide) wd170 rfl dX1_lookAt_41 ?_
    refine lv_icmp_ge (tgt := 148) hx hb dX1_lookAt_44 (by decide) (fun c44 => ?_) (fun c44 => ?_)
    · replace hf := if_t c44 hf
      exact r_vret hx hb hr hlocks hP hS (Option.some.inj hf) dX1_lookAt_148
    · replace hf := if_f c44 hf
      refine lv_aload_n hx hb dX1_lookAt_47 rfl (lv_at hl 0 rfl) ?_
      refine r_get (a := 58) (v := .ref (gB G 4)) (C := RX1) (T := TX1) (N := 8) hx hb hts hinX1 hown hK hP (ltX1 rfl) (ceX1 rfl) rfl 0 (by decide) wd305 rfl dX1_lookAt_48 ?_
      refine r_get (a := 4) (v := .ref (gB G 12)) (C := RX7) (T := TX7) (N := 10) hx hb hts hinX7 hown hK hP (ltX7 (Or.inl rfl)) (ceX7 (Or.inl rfl)) rfl 9 (by decide) wd177 rfl dX1_lookAt_51 ?_
      refine lv_iload hx hb dX1_lookAt_54 (lv_at hl 3 rfl) ?_
      obtain ⟨v56, ev56, hf⟩ := bO_s hf
      refine r_iald hx hb hK hP (arX7_9 (Or.inl rfl)) ev56 dX1_lookAt_56 ?_
      refine lv_istore (lv' := [(5, .int v56), (0, .ref (gB G 58)), (1, .int x1), (3, .int x3), (4, .int x4)]) hx hb dX1_lookAt_57 hl (by decide) rfl (fun ls hl => ?_)
      refine lv_aload_n hx hb dX1_lookAt_59 rfl (lv_at hl 1 rfl) ?_
      refine r_get (a := 58) (v := .ref (gB G 59)) (C := RX1) (T := TX1) (N := 8) hx hb hts hinX1 hown hK hP (ltX1 rfl) (ceX1 rfl) rfl 3 (by decide) wd308 rfl dX1_lookAt_60 ?_
      refine lv_iload hx hb dX1_lookAt_63 (lv_at hl 4 rfl) ?_
      refine lv_iconst (v := (-1)) hx hb dX1_lookAt_65 (by decide) ?_
      obtain ⟨h66, eh66, hf⟩ := bO_s hf
      refine r_iast hG hx hb hK hP hS (arX1_3 rfl) eh66 dX1_lookAt_66 (fun H locs hP hS => ?_)
      refine lv_iload_n hx hb dX1_lookAt_67 rfl (lv_at hl 3 rfl) ?_
      refine lv_iload hx hb dX1_lookAt_68 (lv_at hl 4 rfl) ?_
      obtain ⟨r70, er70, hf⟩ := bO_s hf
      refine r_callI (va_runSN (As := [.int x3, .int x4]) (rest := []) ⟨hx, hb, hml, hown, hts⟩ (k_X8_has l hG (h := h66) er70) ⟨va_cnB 2 hts (gC wd523) rfl rfl rfl (host := "CarriedBack") (hK.2.1 _ (by decide +kernel)) (hts _ wd73) (by decide +kernel) ⟨Nat.le_of_ble_eq_true rfl, Nat.le_of_ble_eq_true rfl⟩, hts _ wd522, trivial⟩ (r_ps hK hP hS) rfl rfl hl.1 rfl (lv_room (Nat.le_of_ble_eq_true rfl)) dX1_lookAt_70 ⟨Nat.le_of_ble_eq_true rfl, Nat.le_of_ble_eq_true rfl⟩) hS (fun H locs hP hS => ?_)
      refine lv_if_eq (tgt := 118) hx hb dX1_lookAt_73 (by decide) (fun c73 => ?_) (fun c73 => ?_)
      · replace hf := if_t c73 hf
        exact w_X1_lookAt_118 hG C x1 x3 (f_X1_lookAt_35 x1 x3 n) ih x4 h66 _ _ _ (lv_sub hl [1, 2, 3, 4] rfl) hP hS hf
      · replace hf := if_f c73 hf
        refine lv_iload hx hb dX1_lookAt_76 (lv_at hl 0 rfl) ?_
        refine lv_iconst (v := (-1)) hx hb dX1_lookAt_78 (by decide) ?_
        refine lv_icmp_eq (tgt := 118) hx hb dX1_lookAt_79 (by decide) (fun c79 => ?_) (fun c79 => ?_)
        · replace hf := if_t c79 hf
          exact w_X1_lookAt_118 hG C x1 x3 (f_X1_lookAt_35 x1 x3 n) ih x4 h66 _ _ _ (lv_sub hl [1, 2, 3, 4] rfl) hP hS hf
        · replace hf := if_f c79 hf
          refine lv_aload_n hx hb dX1_lookAt_82 rfl (lv_at hl 1 rfl) ?_
          refine r_get (a := 58) (v := .ref (gB G 55)) (C := RX1) (T := TX1) (N := 8) hx hb hts hinX1 hown hK hP (ltX1 rfl) (ceX1 rfl) rfl 1 (by decide) wd306 rfl dX1_lookAt_83 ?_
          refine lv_iload_n hx hb dX1_lookAt_86 rfl (lv_at hl 2 rfl) ?_
          refine lv_iload hx hb dX1_lookAt_87 (lv_at hl 0 rfl) ?_
          obtain ⟨r89, h89, er89, hf⟩ := bP_s hf
          refine r_callI (va_runV (As := [.int x1, .int v56]) (rest := []) ⟨hx, hb, hml, hown, hts⟩ (k_X2_needsOf l hG er89) (cwV 2 hts (gV wd799 wd745 wd746 wd79 wd747) rfl rfl rfl (by decide +kernel) ⟨Nat.le_of_ble_eq_true rfl, Nat.le_of_ble_eq_true rfl⟩) (r_pv hK hP hS (ltX2 rfl) (ceX2 rfl) rfl) rfl rfl hl.1 rfl (lv_room (Nat.le_of_ble_eq_true rfl)) dX1_lookAt_89 ⟨Nat.le_of_ble_eq_true rfl, Nat.le_of_ble_eq_true rfl⟩) hS (fun H locs hP hS => ?_)
          refine lv_istore (lv' := [(6, .int r89), (5, .int v56), (0, .ref (gB G 58)), (1, .int x1), (3, .int x3), (4, .int x4)]) hx hb dX1_lookAt_92 hl (by decide) rfl (fun ls hl => ?_)
          refine lv_aload_n hx hb dX1_lookAt_94 rfl (lv_at hl 2 rfl) ?_
          refine r_get (a := 58) (v := .ref (gB G 59)) (C := RX1) (T := TX1) (N := 8) hx hb hts hinX1 hown hK hP (ltX1 rfl) (ceX1 rfl) rfl 3 (by decide) wd308 rfl dX1_lookAt_95 ?_
          refine lv_iload hx hb dX1_lookAt_98 (lv_at hl 5 rfl) ?_
          refine lv_iload hx hb dX1_lookAt_100 (lv_at hl 0 rfl) ?_
          refine lv_iconst (v := (-1)) hx hb dX1_lookAt_102 (by decide) ?_
          refine lv_icmp_ne (tgt := 110) hx hb dX1_lookAt_103 (by decide) (fun c103 => ?_) (fun c103 => ?_)
          · replace hf := if_f c103 hf
            refine lv_iload hx hb dX1_lookAt_110 (lv_at hl 0 rfl) ?_
            refine lv_iconst (v := 1) hx hb dX1_lookAt_112 (by decide) ?_
            refine lv_iload hx hb dX1_lookAt_113 (lv_at hl 1 rfl) ?_
            refine lv_ishl hx hb dX1_lookAt_115 ?_
            refine lv_ior hx hb dX1_lookAt_116 ?_
            exact w_X1_lookAt_117 hG C x1 x3 (f_X1_lookAt_35 x1 x3 n) ih x4 x4 (r89 ||| (1 <<< (v56 &&& 31))) h89 _ _ _ (lv_sub hl [2, 3, 4, 5] rfl) hP hS hf
          · replace hf := if_t c103 hf
            refine lv_iconst (v := (-1)) hx hb dX1_lookAt_106 (by decide) ?_
            refine lv_goto (tgt := 117) hx hb dX1_lookAt_107 (by decide) ?_
            exact w_X1_lookAt_117 hG C x1 x3 (f_X1_lookAt_35 x1 x3 n) ih x4 x4 (-1) h89 _ _ _ (lv_sub hl [2, 3, 4, 5] rfl) hP hS hf
def f_X1_lookAt (x1 : Int32) (x2 : Int32) (h : PH) : Option PH := lt' (hU h 58 2 x1) (fun h2 => lt' (hU h2 58 4 0) (fun h7 => bO (ag h7 30 4 x1) (fun v25 => bP (f_X7_faultsIn 4 v25 h7) (fun r26 h26 => lt' ((r26 &&& x2)) (fun x3_31 => f_X1_lookAt_35 x1 x3_31 FU 0 h26)))))
set_option maxHeartbeats 4000000 in
set_option maxRecDepth 100000 in
theorem k_X1_lookAt (l : Launch) {G : GC} (hG : GOK G) {x1 : Int32} {x2 : Int32} {h hh : PH} (hf : f_X1_lookAt x1 x2 h = some hh) : CV l yX1_lookAt vX1_lookAt rmX1_lookAt G [.ref (gB G 58), .int x1, .int x2] h hh := by
  refine Met.ofW (cc := cX1_lookAt) (maxL := 7) (ret := none) (by decide +kernel) rfl ?_
  intro p e s m args below meth c s₁ B hml hv
  obtain ⟨rfl, hP, hK⟩ := hv
  have C : MC l G p s m _ meth c RX1 cX1_lookAt 7 none := ⟨B.exec, B.bytes, B.returns, B.notSynchronized, hml, findClass_of_methodNamed B.named, fun w hw => atoms_spec (ws := vX1_lookAt) B.pre w (List.mem_cons_of_mem _ hw), hK⟩
  obtain ⟨hx, hb, hr, hlocks, -, hown, hts, -⟩ := id C
  have hl := lv_entry ([.ref (gB G 58), .int x1, .int x2]) (n := 7) (Nat.le_of_ble_eq_true rfl)
  rw [lg_entry_eq]
  generalize (lg_sl ([.ref (gB G 58), .int x1, .int x2]) ++ List.replicate (7 - (lg_sl ([.ref (gB G 58), .int x1, .int x2])).length) Slot.unset).toArray = ls at hl ⊢
  have hl : lv_has ls 7 [(0, .ref (gB G 58)), (1, .int x1), (2, .int x2)] := hl
  have hS : SP G s s.heap [] := va_S.rf
  replace hP : WP G h s.heap := hP
  rw [f_X1_lookAt] at hf
  refine lv_aload_n hx hb dX1_lookAt_0 rfl (lv_at hl 0 rfl) ?_
  refine lv_iload_n hx hb dX1_lookAt_1 rfl (lv_at hl 1 rfl) ?_
  obtain ⟨h2, eh2⟩ : ∃ y, y = hU h 58 2 x1 := ⟨_, rfl⟩
  replace hf := lt_at eh2 hf
  refine r_put (a := 58) (v := .int x1) (ty := .int) (h' := h2) (C := RX1) (T := TX1) (N := 8) hG hx hb hts hinX1 tyX1 tyX1_ok nmX1 hown hK hP hS (ltX1 rfl) (ceX1 rfl) rfl 2 (by decide) wd307 rfl (by decide +kernel) rfl rfl (Nat.le_of_ble_eq_true rfl) (by rw [eh2]; exact fun j hj => cE_U hj) (by rw [eh2]; exact puX1_2 rfl _) dX1_lookAt_2 (fun H locs hP hS => ?_)
  refine lv_aload_n hx hb dX1_lookAt_5 rfl (lv_at hl 0 rfl) ?_
  refine lv_iconst (v := 0) hx hb dX1_lookAt_6 (by decide) ?_
  obtain ⟨h7, eh7⟩ : ∃ y, y = hU h2 58 4 0 := ⟨_, rfl⟩
  replace hf := lt_at eh7 hf
  refine r_put (a := 58) (v := .int 0) (ty := .int) (h' := h7) (C := RX1) (T := TX1) (N := 8) hG hx hb hts hinX1 tyX1 tyX1_ok nmX1 hown hK hP hS (ltX1 rfl) (ceX1 rfl) rfl 4 (by decide) wd309 rfl (by decide +kernel) rfl rfl (Nat.le_of_ble_eq_true rfl) (by rw [eh7]; exact fun j hj => cE_U hj) (by rw [eh7]; exact puX1_4 rfl _) dX1_lookAt_7 (fun H locs hP hS => ?_)
  refine lv_aload_n hx hb dX1_lookAt_10 rfl (lv_at hl 0 rfl) ?_
  refine r_get (a := 58) (v := .ref (gB G 4)) (C := RX1) (T := TX1) (N := 8) hx hb hts hinX1 hown hK hP (ltX1 rfl) (ceX1 rfl) rfl 0 (by decide) wd305 rfl dX1_lookAt_11 ?_
  refine lv_aload_n hx hb dX1_lookAt_14 rfl (lv_at hl 0 rfl) ?_
  refine r_get (a := 58) (v := .ref (gB G 55)) (C := RX1) (T := TX1) (N := 8) hx hb hts hinX1 hown hK hP (ltX1 rfl) (ceX1 rfl) rfl 1 (by decide) wd306 rfl dX1_lookAt_15 ?_
  refine r_getN (a := 55) (v := .ref (gB G 28)) (C := RX2) (T := TX2) (N := 4) (host := "CarriedBack") hx hb hts hinX2 hown hK hP (ltX2 rfl) (ceX2 rfl) rfl 1 (by decide) (by decide +kernel) rfl dX1_lookAt_18 ?_
  refine r_get (a := 28) (v := .ref (gB G 30)) (C := RX0) (T := TX0) (N := 10) hx hb hts hinX0 hown hK hP (ltX0 (Or.inl rfl)) (ceX0 (Or.inl rfl)) rfl 2 (by decide) wd240 rfl dX1_lookAt_21 ?_
  refine lv_iload_n hx hb dX1_lookAt_24 rfl (lv_at hl 1 rfl) ?_
  obtain ⟨v25, ev25, hf⟩ := bO_s hf
  refine r_iald hx hb hK hP (arX0_2 (Or.inl rfl)) ev25 dX1_lookAt_25 ?_
  obtain ⟨r26, h26, er26, hf⟩ := bP_s hf
  refine r_callI (va_runV (As := [.int v25]) (rest := []) ⟨hx, hb, hml, hown, hts⟩ (k_X7_faultsIn l hG 4 (Or.inl rfl) er26) (cwV 1 hts (gV wd797 wd689 wd690 wd76 wd691) rfl rfl rfl (by decide +kernel) ⟨Nat.le_of_ble_eq_true rfl, Nat.le_of_ble_eq_true rfl⟩) (r_pv hK hP hS (ltX7 (Or.inl rfl)) (ceX7 (Or.inl rfl)) rfl) rfl rfl hl.1 rfl (lv_room (Nat.le_of_ble_eq_true rfl)) dX1_lookAt_26 ⟨Nat.le_of_ble_eq_true rfl, Nat.le_of_ble_eq_true rfl⟩) hS (fun H locs hP hS => ?_)
  refine lv_iload_n hx hb dX1_lookAt_29 rfl (lv_at hl 2 rfl) ?_
  refine lv_iand hx hb dX1_lookAt_30 ?_
  refine lv_topi (fun x3_31 ex3_31 => ?_)
  replace hf := lt_at ex3_31 hf
  refine lv_istore_n (lv' := [(3, .int x3_31), (0, .ref (gB G 58)), (1, .int x1), (2, .int x2)]) hx hb dX1_lookAt_31 rfl hl (by decide) rfl (fun ls hl => ?_)
  refine lv_iconst (v := 0) hx hb dX1_lookAt_32 (by decide) ?_
  refine lv_istore (lv' := [(4, .int 0), (3, .int x3_31), (0, .ref (gB G 58)), (1, .int x1), (2, .int x2)]) hx hb dX1_lookAt_33 hl (by decide) rfl (fun ls hl => ?_)
  exact w_X1_lookAt_35 hG C x1 x3_31 FU 0 h26 _ _ _ (lv_sub hl [2, 3, 1, 0] rfl) hP hS hf
/-! CarriedBack$Fixes.allFixes(I)I -/
abbrev rmX1_allFixes : Room := { frames := 1, cells := 0, slots := 0, locals := 21 }
abbrev vX1_allFixes : List Cond := Cond.code yX1_allFixes cX1_allFixes 4 (some .int) :: GW
def f_X1_allFixes_4 (x1 : Int32) : Nat → Int32 → Int32 → PH → Option (Int32 × PH)
  | 0, _, _, _ => none
  | n + 1, x2, x3, h => if (h.1 4 6) ≤ x3 then (some (x2, h)) else (bO (f_X8_has x1 x3) (fun r17 => if r17 = 0 then ((f_X1_allFixes_4 x1 n) x2 (x3 + 1) h) else (bO (ag h 59 10 x3) (fun v29 => lt' ((x2 ||| v29)) (fun x2_31 => (f_X1_allFixes_4 x1 n) x2_31 (x3 + 1) h)))))
set_option maxHeartbeats 4000000 in
set_option maxRecDepth 100000 in
theorem w_X1_allFixes_4 {l : Launch} {G : GC} (hG : GOK G) {rr : Int32} {hh : PH} {p : Program} {e : Env} {s : State} {m : MethodId} {args : Array Value} {below : List Frame} {meth : Method} {c : Code} (C : MC l G p s m args meth c RX1 cX1_allFixes 4 (some .int)) (x1 : Int32) : ∀ (n : Nat) (x2 : Int32) (x3 : Int32) (h : PH) (H : Heap) (locs : List Loc) (ls : Array Slot), lv_has ls 4 [(0, .ref (gB G 58)), (1, .int x1), (2, .int x2), (3, .int x3)] → WP G h H → SP G s H locs → f_X1_allFixes_4 x1 n x2 x3 h = some (rr, hh) → W p l e rmX1_allFixes s m args below meth c H locs 0 0 (MQ below (QI G rr hh) args s 0 0 (gA G)) (F0 m 4 ls []) := by
  obtain ⟨hx, hb, hr, hlocks, hml, hown, hts, hK⟩ := id C
  intro n
  induction n with
  | zero => intro x2 x3 h H locs ls hl hP hS hf; rw [f_X1_allFixes_4] at hf; cases hf
  | succ n ih =>
    intro x2 x3 h H locs ls hl hP hS hf
    rw [f_X1_allFixes_4] at hf
    refine lv_iload_n hx hb dX1_allFixes_4 rfl (lv_at hl 3 rfl) ?_
    refine lv_aload_n hx hb dX1_allFixes_5 rfl (lv_at hl 0 rfl) ?_
    refine r_get (a := 58) (v := .ref (gB G 4)) (C := RX1) (T := TX1) (N := 8) hx hb hts hinX1 hown hK hP (ltX1 rfl) (ceX1 rfl) rfl 0 (by decide) wd305 rfl dX1_allFixes_6 ?_
    refine r_get (a := 4) (v := .int (h.1 4 6)) (C := RX7) (T := TX7) (N := 10) hx hb hts hinX7 hown hK hP (ltX7 (Or.inl rfl)) (ceX7 (Or.inl rfl)) rfl 6 (by decide) wd170 rfl dX1_allFixes_9 ?_
    refine lv_icmp_ge (tgt := 38) hx hb dX1_allFixes_12 (by decide) (fun c12 => ?_) (fun c12 => ?_)
    · replace hf := if_t c12 hf
      refine lv_iload_n hx hb dX1_allFixes_38 rfl (lv_at hl 2 rfl) ?_
      exact r_iret hx hb hr hlocks hP hS (re2 (Option.some.inj hf)) dX1_allFixes_39
    · replace hf := if_f c12 hf
      refine lv_iload_n hx hb dX1_allFixes_15 rfl (lv_at hl 1 rfl) ?_
      refine lv_iload_n hx hb dX1_allFixes_16 rfl (lv_at hl 3 rfl) ?_
      obtain ⟨r17, er17, hf⟩ := bO_s hf
      refine r_callI (va_runSN (As := [.int x1, .int x3]) (rest := []) ⟨hx, hb, hml, hown, hts⟩ (k_X8_has l hG (h := h) er17) ⟨va_cnB 2 hts (gC wd523) rfl rfl rfl (host := "CarriedBack") (hK.2.1 _ (by decide +kernel)) (hts _ wd73) (by decide +kernel) ⟨Nat.le_of_ble_eq_true rfl, Nat.le_of_ble_eq_true rfl⟩, hts _ wd522, trivial⟩ (r_ps hK hP hS) rfl rfl hl.1 rfl (lv_room (Nat.le_of_ble_eq_true rfl)) dX1_allFixes_17 ⟨Nat.le_of_ble_eq_true rfl, Nat.le_of_ble_eq_true rfl⟩) hS (fun H locs hP hS => ?_)
      refine lv_if_eq (tgt := 32) hx hb dX1_allFixes_20 (by decide) (fun c20 => ?_) (fun c20 => ?_)
      · replace hf := if_t c20 hf
        refine lv_iinc (v := (x3 + 1)) (lv' := [(3, .int (x3 + 1)), (0, .ref (gB G 58)), (1, .int x1), (2, .int x2)]) hx hb dX1_allFixes_32 hl (k := 3) rfl rfl (by decide) rfl (fun ls hl => ?_)
        refine lv_goto (tgt := 4) hx hb dX1_allFixes_35 (by decide) ?_
        exact ih x2 (x3 + 1) h _ _ _ (lv_sub hl [1, 2, 3, 0] rfl) hP hS hf
      · replace hf := if_f c20 hf
        refine lv_iload_n hx hb dX1_allFixes_23 rfl (lv_at hl 2 rfl) ?_
        refine lv_aload_n hx hb dX1_allFixes_24 rfl (lv_at hl 0 rfl) ?_
        refine r_get (a := 58) (v := .ref (gB G 59)) (C := RX1) (T := TX1) (N := 8) hx hb hts hinX1 hown hK hP (ltX1 rfl) (ceX1 rfl) rfl 3 (by decide) wd308 rfl dX1_allFixes_25 ?_
        refine lv_iload_n hx hb dX1_allFixes_28 rfl (lv_at hl 3 rfl) ?_
        obtain ⟨v29, ev29, hf⟩ := bO_s hf
        refine r_iald hx hb hK hP (arX1_3 rfl) ev29 dX1_allFixes_29 ?_
        refine lv_ior hx hb dX1_allFixes_30 ?_
        refine lv_topi (fun x2_31 ex2_31 => ?_)
        replace hf := lt_at ex2_31 hf
        refine lv_istore_n (lv' := [(2, .int x2_31), (0, .ref (gB G 58)), (1, .int x1), (3, .int x3)]) hx hb dX1_allFixes_31 rfl hl (by decide) rfl (fun ls hl => ?_)
        refine lv_iinc (v := (x3 + 1)) (lv' := [(3, .int (x3 + 1)), (2, .int x2_31), (0, .ref (gB G 58)), (1, .int x1)]) hx hb dX1_allFixes_32 hl (k := 3) rfl rfl (by decide) rfl (fun ls hl => ?_)
        refine lv_goto (tgt := 4) hx hb dX1_allFixes_35 (by decide) ?_
        exact ih x2_31 (x3 + 1) h _ _ _ (lv_sub hl [2, 3, 1, 0] rfl) hP hS hf
def f_X1_allFixes (x1 : Int32) (h : PH) : Option (Int32 × PH) := f_X1_allFixes_4 x1 FU 0 0 h
set_option maxHeartbeats 4000000 in
set_option maxRecDepth 100000 in
theorem k_X1_allFixes (l : Launch) {G : GC} (hG : GOK G) {x1 : Int32} {rr : Int32} {h hh : PH} (hf : f_X1_allFixes x1 h = some (rr, hh)) : CI l yX1_allFixes vX1_allFixes rmX1_allFixes G [.ref (gB G 58), .int x1] h rr hh := by
  refine Met.ofW (cc := cX1_allFixes) (maxL := 4) (ret := (some .int)) (by decide +kernel) rfl ?_
  intro p e s m args below meth c s₁ B hml hv
  obtain ⟨rfl, hP, hK⟩ := hv
  have C : MC l G p s m _ meth c RX1 cX1_allFixes 4 (some .int) := ⟨B.exec, B.bytes, B.returns, B.notSynchronized, hml, findClass_of_methodNamed B.named, fun w hw => atoms_spec (ws := vX1_allFixes) B.pre w (List.mem_cons_of_mem _ hw), hK⟩
  obtain ⟨hx, hb, hr, hlocks, -, hown, hts, -⟩ := id C
  have hl := lv_entry ([.ref (gB G 58), .int x1]) (n := 4) (Nat.le_of_ble_eq_true rfl)
  rw [lg_entry_eq]
  generalize (lg_sl ([.ref (gB G 58), .int x1]) ++ List.replicate (4 - (lg_sl ([.ref (gB G 58), .int x1])).length) Slot.unset).toArray = ls at hl ⊢
  have hl : lv_has ls 4 [(0, .ref (gB G 58)), (1, .int x1)] := hl
  have hS : SP G s s.heap [] := va_S.rf
  replace hP : WP G h s.heap := hP
  rw [f_X1_allFixes] at hf
  refine lv_iconst (v := 0) hx hb dX1_allFixes_0 (by decide) ?_
  refine lv_istore_n (lv' := [(2, .int 0), (0, .ref (gB G 58)), (1, .int x1)]) hx hb dX1_allFixes_1 rfl hl (by decide) rfl (fun ls hl => ?_)
  refine lv_iconst (v := 0) hx hb dX1_allFixes_2 (by decide) ?_
  refine lv_istore_n (lv' := [(3, .int 0), (2, .int 0), (0, .ref (gB G 58)), (1, .int x1)]) hx hb dX1_allFixes_3 rfl hl (by decide) rfl (fun ls hl => ?_)
  exact w_X1_allFixes_4 hG C x1 FU 0 0 h _ _ _ (lv_sub hl [2, 3, 1, 0] rfl) hP hS hf
/-! CarriedBack$Fixes.costOf(I)I -/
abbrev rmX1_costOf : Room := { frames := 3, cells := 0, slots := 0, locals := 75 }
abbrev vX1_costOf : List Cond := Cond.code yX1_costOf cX1_costOf 3 (some .int) :: GW
def f_X1_costOf (x1 : Int32) (h : PH) : Option (Int32 × PH) := if (x1 &&& ((h.1 58 4) ^^^ (-1))) = 0 then (bP (f_X1_allFixes x1 h) (fun r15 h15 => bP (f_X2_allGoOn (h15.1 58 2) r15 h15) (fun r28 h28 => if r28 = 0 then (some ((-1), h28)) else (some (r15, h28))))) else (some ((-1), h))
set_option maxHeartbeats 4000000 in
set_option maxRecDepth 100000 in
theorem k_X1_costOf (l : Launch) {G : GC} (hG : GOK G) {x1 : Int32} {rr : Int32} {h hh : PH} (hf : f_X1_costOf x1 h = some (rr, hh)) : CI l yX1_costOf vX1_costOf rmX1_costOf G [.ref (gB G 58), .int x1] h rr hh := by
  refine Met.ofW (cc := cX1_costOf) (maxL := 3) (ret := (some .int)) (by decide +kernel) rfl ?_
  intro p e s m args below meth c s₁ B hml hv
  obtain ⟨rfl, hP, hK⟩ := hv
  have C : MC l G p s m _ meth c RX1 cX1_costOf 3 (some .int) := ⟨B.exec, B.bytes, B.returns, B.notSynchronized, hml, findClass_of_methodNamed B.named, fun w hw => atoms_spec (ws := vX1_costOf) B.pre w (List.mem_cons_of_mem _ hw), hK⟩
  obtain ⟨hx, hb, hr, hlocks, -, hown, hts, -⟩ := id C
  have hl := lv_entry ([.ref (gB G 58), .int x1]) (n := 3) (Nat.le_of_ble_eq_true rfl)
  rw [lg_entry_eq]
  generalize (lg_sl ([.ref (gB G 58), .int x1]) ++ List.replicate (3 - (lg_sl ([.ref (gB G 58), .int x1])).length) Slot.unset).toArray = ls at hl ⊢
  have hl : lv_has ls 3 [(0, .ref (gB G 58)), (1, .int x1)] := hl
  have hS : SP G s s.heap [] := va_S.rf
  replace hP : WP G h s.heap := hP
  rw [f_X1_costOf] at hf
  refine lv_iload_n hx hb dX1_costOf_0 rfl (lv_at hl 1 rfl) ?_
  refine lv_aload_n hx hb dX1_costOf_1 rfl (lv_at hl 0 rfl) ?_
  refine r_get (a := 58) (v := .int (h.1 58 4)) (C := RX1) (T := TX1) (N := 8) hx hb hts hinX1 hown hK hP (ltX1 rfl) (ceX1 rfl) rfl 4 (by decide) wd309 rfl dX1_costOf_2 ?_
  refine lv_iconst (v := (-1)) hx hb dX1_costOf_5 (by decide) ?_
  refine lv_ixor hx hb dX1_costOf_6 ?_
  refine lv_iand hx hb dX1_costOf_7 ?_
  refine lv_if_eq (tgt := 13) hx hb dX1_costOf_8 (by decide) (fun c8 => ?_) (fun c8 => ?_)
  · replace hf := if_t c8 hf
    refine lv_aload_n hx hb dX1_costOf_13 rfl (lv_at hl 0 rfl) ?_
    refine lv_iload_n hx hb dX1_costOf_14 rfl (lv_at hl 1 rfl) ?_
    obtain ⟨r15, h15, er15, hf⟩ := bP_s hf
    refine r_callI (va_runV (As := [.int x1]) (rest := []) ⟨hx, hb, hml, hown, hts⟩ (k_X1_allFixes l hG er15) (cwV 1 hts (gV wd804 wd806 wd16 wd80 wd807) rfl rfl rfl (by decide +kernel) ⟨Nat.le_of_ble_eq_true rfl, Nat.le_of_ble_eq_true rfl⟩) (r_pv hK hP hS (ltX1 rfl) (ceX1 rfl) rfl) rfl rfl hl.1 rfl (lv_room (Nat.le_of_ble_eq_true rfl)) dX1_costOf_15 ⟨Nat.le_of_ble_eq_true rfl, Nat.le_of_ble_eq_true rfl⟩) hS (fun H locs hP hS => ?_)
    refine lv_istore_n (lv' := [(2, .int r15), (0, .ref (gB G 58)), (1, .int x1)]) hx hb dX1_costOf_18 rfl hl (by decide) rfl (fun ls hl => ?_)
    refine lv_aload_n hx hb dX1_costOf_19 rfl (lv_at hl 1 rfl) ?_
    refine r_get (a := 58) (v := .ref (gB G 55)) (C := RX1) (T := TX1) (N := 8) hx hb hts hinX1 hown hK hP (ltX1 rfl) (ceX1 rfl) rfl 1 (by decide) wd306 rfl dX1_costOf_20 ?_
    refine lv_aload_n hx hb dX1_costOf_23 rfl (lv_at hl 1 rfl) ?_
    refine r_get (a := 58) (v := .int (h15.1 58 2)) (C := RX1) (T := TX1) (N := 8) hx hb hts hinX1 hown hK hP (ltX1 rfl) (ceX1 rfl) rfl 2 (by decide) wd307 rfl dX1_costOf_24 ?_
    refine lv_iload_n hx hb dX1_costOf_27 rfl (lv_at hl 0 rfl) ?_
    obtain ⟨r28, h28, er28, hf⟩ := bP_s hf
    refine r_callI (va_runV (As := [.int (h15.1 58 2), .int r15]) (rest := []) ⟨hx, hb, hml, hown, hts⟩ (k_X2_allGoOn l hG er28) (cwV 2 hts (gV wd808 wd759 wd760 wd79 wd761) rfl rfl rfl (by decide +kernel) ⟨Nat.le_of_ble_eq_true rfl, Nat.le_of_ble_eq_true rfl⟩) (r_pv hK hP hS (ltX2 rfl) (ceX2 rfl) rfl) rfl rfl hl.1 rfl (lv_room (Nat.le_of_ble_eq_true rfl)) dX1_costOf_28 ⟨Nat.le_of_ble_eq_true rfl, Nat.le_of_ble_eq_true rfl⟩) hS (fun H locs hP hS => ?_)
    refine lv_if_eq (tgt := 38) hx hb dX1_costOf_31 (by decide) (fun c31 => ?_) (fun c31 => ?_)
    · replace hf := if_t c31 hf
      refine lv_iconst (v := (-1)) hx hb dX1_costOf_38 (by decide) ?_
      exact r_iret hx hb hr hlocks hP hS (re2 (Option.some.inj hf)) dX1_costOf_39
    · replace hf := if_f c31 hf
      refine lv_iload_n hx hb dX1_costOf_34 rfl (lv_at hl 0 rfl) ?_
      refine lv_goto (tgt := 39) hx hb dX1_costOf_35 (by decide) ?_
      exact r_iret hx hb hr hlocks hP hS (re2 (Option.some.inj hf)) dX1_costOf_39
  · replace hf := if_f c8 hf
    refine lv_iconst (v := (-1)) hx hb dX1_costOf_11 (by decide) ?_
    exact r_iret hx hb hr hlocks hP hS (re2 (Option.some.inj hf)) dX1_costOf_12
/-! CarriedBack.cost(II)I -/
abbrev rmX8_cost : Room := { frames := 5, cells := 0, slots := 0, locals := 127 }
abbrev vX8_cost : List Cond := Cond.code yX8_cost cX8_cost 3 (some .int) :: GW
def f_X8_cost (x1 : Int32) (x2 : Int32) (h : PH) : Option (Int32 × PH) := bP (f_X0_hasLine 28 x1 h) (fun r5 h5 => if r5 = 0 then (some ((-1001), h5)) else (bP (f_X7_hasFaults 4 x2 h5) (fun r16 h16 => if r16 = 0 then (some ((-1001), h16)) else (bO (f_X1_lookAt x1 x2 h16) (fun h32 => bP (f_X1_costOf x2 h32) (fun r40 h40 => some (r40, h40)))))))
set_option maxHeartbeats 4000000 in
set_option maxRecDepth 100000 in
theorem k_X8_cost (l : Launch) {G : GC} (hG : GOK G) {x1 : Int32} {x2 : Int32} {rr : Int32} {h hh : PH} (hf : f_X8_cost x1 x2 h = some (rr, hh)) : CI l yX8_cost vX8_cost rmX8_cost G [.ref (gB G 0), .int x1, .int x2] h rr hh := by
  refine Met.ofW (cc := cX8_cost) (maxL := 3) (ret := (some .int)) (by decide +kernel) rfl ?_
  intro p e s m args below meth c s₁ B hml hv
  obtain ⟨rfl, hP, hK⟩ := hv
  have C : MC l G p s m _ meth c RX8 cX8_cost 3 (some .int) := ⟨B.exec, B.bytes, B.returns, B.notSynchronized, hml, findClass_of_methodNamed B.named, fun w hw => atoms_spec (ws := vX8_cost) B.pre w (List.mem_cons_of_mem _ hw), hK⟩
  obtain ⟨hx, hb, hr, hlocks, -, hown, hts, -⟩ := id C
  have hl := lv_entry ([.ref (gB G 0), .int x1, .int x2]) (n := 3) (Nat.le_of_ble_eq_true rfl)
  rw [lg_entry_eq]
  generalize (lg_sl ([.ref (gB G 0), .int x1, .int x2]) ++ List.replicate (3 - (lg_sl ([.ref (gB G 0), .int x1, .int x2])).length) Slot.unset).toArray = ls at hl ⊢
  have hl : lv_has ls 3 [(0, .ref (gB G 0)), (1, .int x1), (2, .int x2)] := hl
  have hS : SP G s s.heap [] := va_S.rf
  replace hP : WP G h s.heap := hP
  rw [f_X8_cost] at hf
  refine lv_aload_n hx hb dX8_cost_0 rfl (lv_at hl 0 rfl) ?_
  refine r_get (a := 0) (v := .ref (gB G 28)) (C := RX8) (T := TX8) (N := 14) hx hb hts hinX8 hown hK hP (ltX8 rfl) (ceX8 rfl) rfl 6 (by decide) wd368 rfl dX8_cost_1 ?_
  refine lv_iload_n hx hb dX8_cost_4 rfl (lv_at hl 1 rfl) ?_
  obtain ⟨r5, h5, er5, hf⟩ := bP_s hf
  refine r_callI (va_runV (As := [.int x1]) (rest := []) ⟨hx, hb, hml, hown, hts⟩ (k_X0_hasLine l hG 28 (Or.inl rfl) er5) (cwV 1 hts (gV wd684 wd685 wd686 wd78 wd687) rfl rfl rfl (by decide +kernel) ⟨Nat.le_of_ble_eq_true rfl, Nat.le_of_ble_eq_true rfl⟩) (r_pv hK hP hS (ltX0 (Or.inl rfl)) (ceX0 (Or.inl rfl)) rfl) rfl rfl hl.1 rfl (lv_room (Nat.le_of_ble_eq_true rfl)) dX8_cost_5 ⟨Nat.le_of_ble_eq_true rfl, Nat.le_of_ble_eq_true rfl⟩) hS (fun H locs hP hS => ?_)
  refine lv_if_eq (tgt := 22) hx hb dX8_cost_8 (by decide) (fun c8 => ?_) (fun c8 => ?_)
  · replace hf := if_t c8 hf
    refine lv_sipush (v := (-1001)) hx hb dX8_cost_22 (by decide) ?_
    exact r_iret hx hb hr hlocks hP hS (re2 (Option.some.inj hf)) dX8_cost_25
  · replace hf := if_f c8 hf
    refine lv_aload_n hx hb dX8_cost_11 rfl (lv_at hl 0 rfl) ?_
    refine r_get (a := 0) (v := .ref (gB G 4)) (C := RX8) (T := TX8) (N := 14) hx hb hts hinX8 hown hK hP (ltX8 rfl) (ceX8 rfl) rfl 2 (by decide) wd364 rfl dX8_cost_12 ?_
    refine lv_iload_n hx hb dX8_cost_15 rfl (lv_at hl 2 rfl) ?_
    obtain ⟨r16, h16, er16, hf⟩ := bP_s hf
    refine r_callI (va_runV (As := [.int x2]) (rest := []) ⟨hx, hb, hml, hown, hts⟩ (k_X7_hasFaults l hG 4 (Or.inl rfl) er16) (cwV 1 hts (gV wd788 wd789 wd790 wd76 wd791) rfl rfl rfl (by decide +kernel) ⟨Nat.le_of_ble_eq_true rfl, Nat.le_of_ble_eq_true rfl⟩) (r_pv hK hP hS (ltX7 (Or.inl rfl)) (ceX7 (Or.inl rfl)) rfl) rfl rfl hl.1 rfl (lv_room (Nat.le_of_ble_eq_true rfl)) dX8_cost_16 ⟨Nat.le_of_ble_eq_true rfl, Nat.le_of_ble_eq_true rfl⟩) hS (fun H locs hP hS => ?_)
    refine lv_if_ne (tgt := 26) hx hb dX8_cost_19 (by decide) (fun c19 => ?_) (fun c19 => ?_)
    · replace hf := if_f c19 hf
      refine lv_aload_n hx hb dX8_cost_26 rfl (lv_at hl 0 rfl) ?_
      refine r_get (a := 0) (v := .ref (gB G 58)) (C := RX8) (T := TX8) (N := 14) hx hb hts hinX8 hown hK hP (ltX8 rfl) (ceX8 rfl) rfl 10 (by decide) wd372 rfl dX8_cost_27 ?_
      refine lv_iload_n hx hb dX8_cost_30 rfl (lv_at hl 1 rfl) ?_
      refine lv_iload_n hx hb dX8_cost_31 rfl (lv_at hl 2 rfl) ?_
      obtain ⟨h32, eh32, hf⟩ := bO_s hf
      refine r_callV (va_runV (As := [.int x1, .int x2]) (rest := []) ⟨hx, hb, hml, hown, hts⟩ (k_X1_lookAt l hG eh32) (cwV 2 hts (gV wd793 wd794 wd795 wd80 wd796) rfl rfl rfl (by decide +kernel) ⟨Nat.le_of_ble_eq_true rfl, Nat.le_of_ble_eq_true rfl⟩) (r_pv hK hP hS (ltX1 rfl) (ceX1 rfl) rfl) rfl rfl hl.1 rfl (lv_room (Nat.le_of_ble_eq_true rfl)) dX8_cost_32 ⟨Nat.le_of_ble_eq_true rfl, Nat.le_of_ble_eq_true rfl⟩) hS (fun H locs hP hS => ?_)
      refine lv_aload_n hx hb dX8_cost_35 rfl (lv_at hl 0 rfl) ?_
      refine r_get (a := 0) (v := .ref (gB G 58)) (C := RX8) (T := TX8) (N := 14) hx hb hts hinX8 hown hK hP (ltX8 rfl) (ceX8 rfl) rfl 10 (by decide) wd372 rfl dX8_cost_36 ?_
      refine lv_iload_n hx hb dX8_cost_39 rfl (lv_at hl 2 rfl) ?_
      obtain ⟨r40, h40, er40, hf⟩ := bP_s hf
      refine r_callI (va_runV (As := [.int x2]) (rest := []) ⟨hx, hb, hml, hown, hts⟩ (k_X1_costOf l hG er40) (cwV 1 hts (gV wd800 wd801 wd802 wd80 wd803) rfl rfl rfl (by decide +kernel) ⟨Nat.le_of_ble_eq_true rfl, Nat.le_of_ble_eq_true rfl⟩) (r_pv hK hP hS (ltX1 rfl) (ceX1 rfl) rfl) rfl rfl hl.1 rfl (lv_room (Nat.le_of_ble_eq_true rfl)) dX8_cost_40 ⟨Nat.le_of_ble_eq_true rfl, Nat.le_of_ble_eq_true rfl⟩) hS (fun H locs hP hS => ?_)
      exact r_iret hx hb hr hlocks hP hS (re2 (Option.some.inj hf)) dX8_cost_43
    · replace hf := if_t c19 hf
      refine lv_sipush (v := (-1001)) hx hb dX8_cost_22 (by decide) ?_
      exact r_iret hx hb hr hlocks hP hS (re2 (Option.some.inj hf)) dX8_cost_25
/-! CarriedBack$Trunk.weightOf(I)I -/
abbrev rmX7_weightOf : Room := { frames := 1, cells := 0, slots := 0, locals := 21 }
abbrev vX7_weightOf : List Cond := Cond.code yX7_weightOf cX7_weightOf 4 (some .int) :: GW
def f_X7_weightOf_4 (a0 : Nat) (x1 : Int32) : Nat → Int32 → Int32 → PH → Option (Int32 × PH)
  | 0, _, _, _ => none
  | n + 1, x2, x3, h => if (h.1 a0 6) ≤ x3 then (some (x2, h)) else (bO (f_X8_has x1 x3) (fun r14 => if r14 = 0 then ((f_X7_weightOf_4 a0 x1 n) x2 (x3 + 1) h) else (bO (ag h (a0 + 6) 10 x3) (fun v26 => lt' ((x2 + v26)) (fun x2_28 => (f_X7_weightOf_4 a0 x1 n) x2_28 (x3 + 1) h)))))
set_option maxHeartbeats 4000000 in
set_option maxRecDepth 100000 in
theorem w_X7_weightOf_4 {l : Launch} {G : GC} (hG : GOK G) {rr : Int32} {hh : PH} {p : Program} {e : Env} {s : State} {m : MethodId} {args : Array Value} {below : List Frame} {meth : Method} {c : Code} (C : MC l G p s m args meth c RX7 cX7_weightOf 4 (some .int)) (a0 : Nat) (ha0 : kdX7 a0) (x1 : Int32) : ∀ (n : Nat) (x2 : Int32) (x3 : Int32) (h : PH) (H : Heap) (locs : List Loc) (ls : Array Slot), lv_has ls 4 [(0, .ref (gB G a0)), (1, .int x1), (2, .int x2), (3, .int x3)] → WP G h H → SP G s H locs → f_X7_weightOf_4 a0 x1 n x2 x3 h = some (rr, hh) → W p l e rmX7_weightOf s m args below meth c H locs 0 0 (MQ below (QI G rr hh) args s 0 0 (gA G)) (F0 m 4 ls []) := by
  obtain ⟨hx, hb, hr, hlocks, hml, hown, hts, hK⟩ := id C
  intro n
  induction n with
  | zero => intro x2 x3 h H locs ls hl hP hS hf; rw [f_X7_weightOf_4] at hf; cases hf
  | succ n ih =>
    intro x2 x3 h H locs ls hl hP hS hf
    rw [f_X7_weightOf_4] at hf
    refine lv_iload_n hx hb dX7_weightOf_4 rfl (lv_at hl 3 rfl) ?_
    refine lv_aload_n hx hb dX7_weightOf_5 rfl (lv_at hl 0 rfl) ?_
    refine r_get (a := a0) (v := .int (h.1 a0 6)) (C := RX7) (T := TX7) (N := 10) hx hb hts hinX7 hown hK hP (ltX7 ha0) (ceX7 ha0) rfl 6 (by decide) wd169 rfl dX7_weightOf_6 ?_
    refine lv_icmp_ge (tgt := 35) hx hb dX7_weightOf_9 (by decide) (fun c9 => ?_) (fun c9 => ?_)
    · replace hf := if_t c9 hf
      refine lv_iload_n hx hb dX7_weightOf_35 rfl (lv_at hl 2 rfl) ?_
      exact r_iret hx hb hr hlocks hP hS (re2 (Option.some.inj hf)) dX7_weightOf_36
    · replace hf := if_f c9 hf
      refine lv_iload_n hx hb dX7_weightOf_12 rfl (lv_at hl 1 rfl) ?_
      refine lv_iload_n hx hb dX7_weightOf_13 rfl (lv_at hl 3 rfl) ?_
      obtain ⟨r14, er14, hf⟩ := bO_s hf
      refine r_callI (va_runSN (As := [.int x1, .int x3]) (rest := []) ⟨hx, hb, hml, hown, hts⟩ (k_X8_has l hG (h := h) er14) ⟨va_cnB 2 hts (gC wd523) rfl rfl rfl (host := "CarriedBack") (hK.2.1 _ (by decide +kernel)) (hts _ wd73) (by decide +kernel) ⟨Nat.le_of_ble_eq_true rfl, Nat.le_of_ble_eq_true rfl⟩, hts _ wd522, trivial⟩ (r_ps hK hP hS) rfl rfl hl.1 rfl (lv_room (Nat.le_of_ble_eq_true rfl)) dX7_weightOf_14 ⟨Nat.le_of_ble_eq_true rfl, Nat.le_of_ble_eq_true rfl⟩) hS (fun H locs hP hS => ?_)
      refine lv_if_eq (tgt := 29) hx hb dX7_weightOf_17 (by decide) (fun c17 => ?_) (fun c17 => ?_)
      · replace hf := if_t c17 hf
        refine lv_iinc (v := (x3 + 1)) (lv' := [(3, .int (x3 + 1)), (0, .ref (gB G a0)), (1, .int x1), (2, .int x2)]) hx hb dX7_weightOf_29 hl (k := 3) rfl rfl (by decide) rfl (fun ls hl => ?_)
        refine lv_goto (tgt := 4) hx hb dX7_weightOf_32 (by decide) ?_
        exact ih x2 (x3 + 1) h _ _ _ (lv_sub hl [1, 2, 3, 0] rfl) hP hS hf
      · replace hf := if_f c17 hf
        refine lv_iload_n hx hb dX7_weightOf_20 rfl (lv_at hl 2 rfl) ?_
        refine lv_aload_n hx hb dX7_weightOf_21 rfl (lv_at hl 0 rfl) ?_
        refine r_get (a := a0) (v := .ref (gB G (a0 + 6))) (C := RX7) (T := TX7) (N := 10) hx hb hts hinX7 hown hK hP (ltX7 ha0) (ceX7 ha0) rfl 7 (by decide) wd172 rfl dX7_weightOf_22 ?_
        refine lv_iload_n hx hb dX7_weightOf_25 rfl (lv_at hl 3 rfl) ?_
        obtain ⟨v26, ev26, hf⟩ := bO_s hf
        refine r_iald hx hb hK hP (arX7_7 ha0) ev26 dX7_weightOf_26 ?_
        refine lv_iadd hx hb dX7_weightOf_27 ?_
        refine lv_topi (fun x2_28 ex2_28 => ?_)
        replace hf := lt_at ex2_28 hf
        refine lv_istore_n (lv' := [(2, .int x2_28), (0, .ref (gB G a0)), (1, .int x1), (3, .int x3)]) hx hb dX7_weightOf_28 rfl hl (by decide) rfl (fun ls hl => ?_)
        refine lv_iinc (v := (x3 + 1)) (lv' := [(3, .int (x3 + 1)), (2, .int x2_28), (0, .ref (gB G a0)), (1, .int x1)]) hx hb dX7_weightOf_29 hl (k := 3) rfl rfl (by decide) rfl (fun ls hl => ?_)
        refine lv_goto (tgt := 4) hx hb dX7_weightOf_32 (by decide) ?_
        exact ih x2_28 (x3 + 1) h _ _ _ (lv_sub hl [2, 3, 1, 0] rfl) hP hS hf
def f_X7_weightOf (a0 : Nat) (x1 : Int32) (h : PH) : Option (Int32 × PH) := f_X7_weightOf_4 a0 x1 FU 0 0 h
set_option maxHeartbeats 4000000 in
set_option maxRecDepth 100000 in
theorem k_X7_weightOf (l : Launch) {G : GC} (hG : GOK G) (a0 : Nat) (ha0 : kdX7 a0) {x1 : Int32} {rr : Int32} {h hh : PH} (hf : f_X7_weightOf a0 x1 h = some (rr, hh)) : CI l yX7_weightOf vX7_weightOf rmX7_weightOf G [.ref (gB G a0), .int x1] h rr hh := by
  refine Met.ofW (cc := cX7_weightOf) (maxL := 4) (ret := (some .int)) (by decide +kernel) rfl ?_
  intro p e s m args below meth c s₁ B hml hv
  obtain ⟨rfl, hP, hK⟩ := hv
  have C : MC l G p s m _ meth c RX7 cX7_weightOf 4 (some .int) := ⟨B.exec, B.bytes, B.returns, B.notSynchronized, hml, findClass_of_methodNamed B.named, fun w hw => atoms_spec (ws := vX7_weightOf) B.pre w (List.mem_cons_of_mem _ hw), hK⟩
  obtain ⟨hx, hb, hr, hlocks, -, hown, hts, -⟩ := id C
  have hl := lv_entry ([.ref (gB G a0), .int x1]) (n := 4) (Nat.le_of_ble_eq_true rfl)
  rw [lg_entry_eq]
  generalize (lg_sl ([.ref (gB G a0), .int x1]) ++ List.replicate (4 - (lg_sl ([.ref (gB G a0), .int x1])).length) Slot.unset).toArray = ls at hl ⊢
  have hl : lv_has ls 4 [(0, .ref (gB G a0)), (1, .int x1)] := hl
  have hS : SP G s s.heap [] := va_S.rf
  replace hP : WP G h s.heap := hP
  rw [f_X7_weightOf] at hf
  refine lv_iconst (v := 0) hx hb dX7_weightOf_0 (by decide) ?_
  refine lv_istore_n (lv' := [(2, .int 0), (0, .ref (gB G a0)), (1, .int x1)]) hx hb dX7_weightOf_1 rfl hl (by decide) rfl (fun ls hl => ?_)
  refine lv_iconst (v := 0) hx hb dX7_weightOf_2 (by decide) ?_
  refine lv_istore_n (lv' := [(3, .int 0), (2, .int 0), (0, .ref (gB G a0)), (1, .int x1)]) hx hb dX7_weightOf_3 rfl hl (by decide) rfl (fun ls hl => ?_)
  exact w_X7_weightOf_4 hG C a0 ha0 x1 FU 0 0 h _ _ _ (lv_sub hl [2, 3, 1, 0] rfl) hP hS hf
/-! CarriedBack$Fixes.wouldBeBetter(III)Z -/
abbrev rmX1_wouldBeBetter : Room := { frames := 2, cells := 0, slots := 0, locals := 44 }
abbrev vX1_wouldBeBetter : List Cond := Cond.code yX1_wouldBeBetter cX1_wouldBeBetter 7 (some .boolean) :: GW
def f_X1_wouldBeBetter_58 (x2 : Int32) (x3 : Int32) (x5 : Int32) (x6 : Int32) (h : PH) : Option (Int32 × PH) := if x2 < x6 then (some (0, h)) else (bP (f_X7_riskOf 4 x5 h) (fun r70 h70 => if x3 < r70 then (some (0, h70)) else (some (1, h70))))
set_option maxHeartbeats 4000000 in
set_option maxRecDepth 100000 in
theorem w_X1_wouldBeBetter_58 {l : Launch} {G : GC} (hG : GOK G) {rr : Int32} {hh : PH} {p : Program} {e : Env} {s : State} {m : MethodId} {args : Array Value} {below : List Frame} {meth : Method} {c : Code} (C : MC l G p s m args meth c RX1 cX1_wouldBeBetter 7 (some .boolean)) : ∀ (x2 : Int32) (x3 : Int32) (x5 : Int32) (x6 : Int32) (h : PH) (H : Heap) (locs : List Loc) (ls : Array Slot), lv_has ls 7 [(0, .ref (gB G 58)), (2, .int x2), (3, .int x3), (5, .int x5), (6, .int x6)] → WP G h H → SP G s H locs → f_X1_wouldBeBetter_58 x2 x3 x5 x6 h = some (rr, hh) → W p l e rmX1_wouldBeBetter s m args below meth c H locs 0 0 (MQ below (QI G rr hh) args s 0 0 (gA G)) (F0 m 58 ls []) := by
  obtain ⟨hx, hb, hr, hlocks, hml, hown, hts, hK⟩ := id C
  intro x2 x3 x5 x6 h H locs ls hl hP hS hf
  rw [f_X1_wouldBeBetter_58] at hf
  refine lv_iload hx hb dX1_wouldBeBetter_58 (lv_at hl 4 rfl) ?_
  refine lv_iload_n hx hb dX1_wouldBeBetter_60 rfl (lv_at hl 1 rfl) ?_
  refine lv_icmp_gt (tgt := 81) hx hb dX1_wouldBeBetter_61 (by decide) (fun c61 => ?_) (fun c61 => ?_)
  · replace hf := if_t c61 hf
    refine lv_iconst (v := 0) hx hb dX1_wouldBeBetter_81 (by decide) ?_
    exact r_zret hx hb hr rfl hlocks hP hS (re2 (Option.some.inj hf)) dX1_wouldBeBetter_82
  · replace hf := if_f c61 hf
    refine lv_aload_n hx hb dX1_wouldBeBetter_64 rfl (lv_at hl 0 rfl) ?_
    refine r_get (a := 58) (v := .ref (gB G 4)) (C := RX1) (T := TX1) (N := 8) hx hb hts hinX1 hown hK hP (ltX1 rfl) (ceX1 rfl) rfl 0 (by decide) wd305 rfl dX1_wouldBeBetter_65 ?_
    refine lv_iload hx hb dX1_wouldBeBetter_68 (lv_at hl 3 rfl) ?_
    obtain ⟨r70, h70, er70, hf⟩ := bP_s hf
    refine r_callI (va_runV (As := [.int x5]) (rest := []) ⟨hx, hb, hml, hown, hts⟩ (k_X7_riskOf l hG 4 (Or.inl rfl) er70) (cwV 1 hts (gV wd828 wd693 wd694 wd76 wd695) rfl rfl rfl (by decide +kernel) ⟨Nat.le_of_ble_eq_true rfl, Nat.le_of_ble_eq_true rfl⟩) (r_pv hK hP hS (ltX7 (Or.inl rfl)) (ceX7 (Or.inl rfl)) rfl) rfl rfl hl.1 rfl (lv_room (Nat.le_of_ble_eq_true rfl)) dX1_wouldBeBetter_70 ⟨Nat.le_of_ble_eq_true rfl, Nat.le_of_ble_eq_true rfl⟩) hS (fun H locs hP hS => ?_)
    refine lv_iload_n hx hb dX1_wouldBeBetter_73 rfl (lv_at hl 2 rfl) ?_
    refine lv_icmp_gt (tgt := 81) hx hb dX1_wouldBeBetter_74 (by decide) (fun c74 => ?_) (fun c74 => ?_)
    · replace hf := if_t c74 hf
      refine lv_iconst (v := 0) hx hb dX1_wouldBeBetter_81 (by decide) ?_
      exact r_zret hx hb hr rfl hlocks hP hS (re2 (Option.some.inj hf)) dX1_wouldBeBetter_82
    · replace hf := if_f c74 hf
      refine lv_iconst (v := 1) hx hb dX1_wouldBeBetter_77 (by decide) ?_
      refine lv_goto (tgt := 82) hx hb dX1_wouldBeBetter_78 (by decide) ?_
      exact r_zret hx hb hr rfl hlocks hP hS (re2 (Option.some.inj hf)) dX1_wouldBeBetter_82
def f_X1_wouldBeBetter (x1 : Int32) (x2 : Int32) (x3 : Int32) (h : PH) : Option (Int32 × PH) := bP (f_X7_weightOf 4 x1 h) (fun r5 h5 => if (h5.1 58 6) ≤ r5 then (bP (f_X1_allFixes x1 h5) (fun r23 h23 => bO (f_J6_bitCount_0f7a4 r23) (fun r30 => if r5 = (h23.1 58 6) then (bO (f_J6_bitCount_0f7a4 (h23.1 58 7)) (fun r50 => if r30 < r50 then (f_X1_wouldBeBetter_58 x2 x3 r23 r30 h23) else (some (0, h23)))) else (f_X1_wouldBeBetter_58 x2 x3 r23 r30 h23)))) else (some (0, h5)))
set_option maxHeartbeats 4000000 in
set_option maxRecDepth 100000 in
theorem k_X1_wouldBeBetter (l : Launch) {G : GC} (hG : GOK G) {x1 : Int32} {x2 : Int32} {x3 : Int32} {rr : Int32} {h hh : PH} (hf : f_X1_wouldBeBetter x1 x2 x3 h = some (rr, hh)) : CI l yX1_wouldBeBetter vX1_wouldBeBetter rmX1_wouldBeBetter G [.ref (gB G 58), .int x1, .int x2, .int x3] h rr hh := by
  refine Met.ofW (cc := cX1_wouldBeBetter) (maxL := 7) (ret := (some .boolean)) (by decide +kernel) rfl ?_
  intro p e s m args below meth c s₁ B hml hv
  obtain ⟨rfl, hP, hK⟩ := hv
  have C : MC l G p s m _ meth c RX1 cX1_wouldBeBetter 7 (some .boolean) := ⟨B.exec, B.bytes, B.returns, B.notSynchronized, hml, findClass_of_methodNamed B.named, fun w hw => atoms_spec (ws := vX1_wouldBeBetter) B.pre w (List.mem_cons_of_mem _ hw), hK⟩
  obtain ⟨hx, hb, hr, hlocks, -, hown, hts, -⟩ := id C
  have hl := lv_entry ([.ref (gB G 58), .int x1, .int x2, .int x3]) (n := 7) (Nat.le_of_ble_eq_true rfl)
  rw [lg_entry_eq]
  generalize (lg_sl ([.ref (gB G 58), .int x1, .int x2, .int x3]) ++ List.replicate (7 - (lg_sl ([.ref (gB G 58), .int x1, .int x2, .int x3])).length) Slot.unset).toArray = ls at hl ⊢
  have hl : lv_has ls 7 [(0, .ref (gB G 58)), (1, .int x1), (2, .int x2), (3, .int x3)] := hl
  have hS : SP G s s.heap [] := va_S.rf
  replace hP : WP G h s.heap := hP
  rw [f_X1_wouldBeBetter] at hf
  refine lv_aload_n hx hb dX1_wouldBeBetter_0 rfl (lv_at hl 0 rfl) ?_
  refine r_get (a := 58) (v := .ref (gB G 4)) (C := RX1) (T := TX1) (N := 8) hx hb hts hinX1 hown hK hP (ltX1 rfl) (ceX1 rfl) rfl 0 (by decide) wd305 rfl dX1_wouldBeBetter_1 ?_
  refine lv_iload_n hx hb dX1_wouldBeBetter_4 rfl (lv_at hl 1 rfl) ?_
  obtain ⟨r5, h5, er5, hf⟩ := bP_s hf
  refine r_callI (va_runV (As := [.int x1]) (rest := []) ⟨hx, hb, hml, hown, hts⟩ (k_X7_weightOf l hG 4 (Or.inl rfl) er5) (cwV 1 hts (gV wd823 wd824 wd825 wd76 wd826) rfl rfl rfl (by decide +kernel) ⟨Nat.le_of_ble_eq_true rfl, Nat.le_of_ble_eq_true rfl⟩) (r_pv hK hP hS (ltX7 (Or.inl rfl)) (ceX7 (Or.inl rfl)) rfl) rfl rfl hl.1 rfl (lv_room (Nat.le_of_ble_eq_true rfl)) dX1_wouldBeBetter_5 ⟨Nat.le_of_ble_eq_true rfl, Nat.le_of_ble_eq_true rfl⟩) hS (fun H locs hP hS => ?_)
  refine lv_istore (lv' := [(4, .int r5), (0, .ref (gB G 58)), (1, .int x1), (2, .int x2), (3, .int x3)]) hx hb dX1_wouldBeBetter_8 hl (by decide) rfl (fun ls hl => ?_)
  refine lv_iload hx hb dX1_wouldBeBetter_10 (lv_at hl 0 rfl) ?_
  refine lv_aload_n hx hb dX1_wouldBeBetter_12 rfl (lv_at hl 1 rfl) ?_
  refine r_get (a := 58) (v := .int (h5.1 58 6)) (C := RX1) (T := TX1) (N := 8) hx hb hts hinX1 hown hK hP (ltX1 rfl) (ceX1 rfl) rfl 6 (by decide) wd312 rfl dX1_wouldBeBetter_13 ?_
  refine lv_icmp_ge (tgt := 21) hx hb dX1_wouldBeBetter_16 (by decide) (fun c16 => ?_) (fun c16 => ?_)
  · replace hf := if_t c16 hf
    refine lv_aload_n hx hb dX1_wouldBeBetter_21 rfl (lv_at hl 1 rfl) ?_
    refine lv_iload_n hx hb dX1_wouldBeBetter_22 rfl (lv_at hl 2 rfl) ?_
    obtain ⟨r23, h23, er23, hf⟩ := bP_s hf
    refine r_callI (va_runV (As := [.int x1]) (rest := []) ⟨hx, hb, hml, hown, hts⟩ (k_X1_allFixes l hG er23) (cwV 1 hts (gV wd804 wd806 wd16 wd80 wd807) rfl rfl rfl (by decide +kernel) ⟨Nat.le_of_ble_eq_true rfl, Nat.le_of_ble_eq_true rfl⟩) (r_pv hK hP hS (ltX1 rfl) (ceX1 rfl) rfl) rfl rfl hl.1 rfl (lv_room (Nat.le_of_ble_eq_true rfl)) dX1_wouldBeBetter_23 ⟨Nat.le_of_ble_eq_true rfl, Nat.le_of_ble_eq_true rfl⟩) hS (fun H locs hP hS => ?_)
    refine lv_istore (lv' := [(5, .int r23), (4, .int r5), (0, .ref (gB G 58)), (1, .int x1), (2, .int x2), (3, .int x3)]) hx hb dX1_wouldBeBetter_26 hl (by decide) rfl (fun ls hl => ?_)
    refine lv_iload hx hb dX1_wouldBeBetter_28 (lv_at hl 0 rfl) ?_
    obtain ⟨r30, er30, hf⟩ := bO_s hf
    refine r_callI (va_runS (As := [.int r23]) (rest := []) ⟨hx, hb, hml, hown, hts⟩ (k_J6_bitCount_0f7a4 l hG (h := h23) er30) (va_cwS 1 hts (gS wd827 wd719 wd88 wd720) rfl rfl rfl (by decide +kernel) ⟨Nat.le_of_ble_eq_true rfl, Nat.le_of_ble_eq_true rfl⟩) (r_ps hK hP hS) rfl rfl hl.1 rfl (lv_room (Nat.le_of_ble_eq_true rfl)) dX1_wouldBeBetter_30 ⟨Nat.le_of_ble_eq_true rfl, Nat.le_of_ble_eq_true rfl⟩) hS (fun H locs hP hS => ?_)
    refine lv_istore (lv' := [(6, .int r30), (5, .int r23), (4, .int r5), (0, .ref (gB G 58)), (1, .int x1), (2, .int x2), (3, .int x3)]) hx hb dX1_wouldBeBetter_33 hl (by decide) rfl (fun ls hl => ?_)
    refine lv_iload hx hb dX1_wouldBeBetter_35 (lv_at hl 2 rfl) ?_
    refine lv_aload_n hx hb dX1_wouldBeBetter_37 rfl (lv_at hl 3 rfl) ?_
    refine r_get (a := 58) (v := .int (h23.1 58 6)) (C := RX1) (T := TX1) (N := 8) hx hb hts hinX1 hown hK hP (ltX1 rfl) (ceX1 rfl) rfl 6 (by decide) wd312 rfl dX1_wouldBeBetter_38 ?_
    refine lv_icmp_ne (tgt := 58) hx hb dX1_wouldBeBetter_41 (by decide) (fun c41 => ?_) (fun c41 => ?_)
    · replace hf := if_f c41 hf
      exact w_X1_wouldBeBetter_58 hG C x2 x3 r23 r30 h23 _ _ _ (lv_sub hl [3, 5, 6, 1, 0] rfl) hP hS hf
    · replace hf := if_t c41 hf
      refine lv_iload hx hb dX1_wouldBeBetter_44 (lv_at hl 0 rfl) ?_
      refine lv_aload_n hx hb dX1_wouldBeBetter_46 rfl (lv_at hl 3 rfl) ?_
      refine r_get (a := 58) (v := .int (h23.1 58 7)) (C := RX1) (T := TX1) (N := 8) hx hb hts hinX1 hown hK hP (ltX1 rfl) (ceX1 rfl) rfl 7 (by decide) wd314 rfl dX1_wouldBeBetter_47 ?_
      obtain ⟨r50, er50, hf⟩ := bO_s hf
      refine r_callI (va_runS (As := [.int (h23.1 58 7)]) (rest := [.int r30]) ⟨hx, hb, hml, hown, hts⟩ (k_J6_bitCount_0f7a4 l hG (h := h23) er50) (va_cwS 1 hts (gS wd827 wd719 wd88 wd720) rfl rfl rfl (by decide +kernel) ⟨Nat.le_of_ble_eq_true rfl, Nat.le_of_ble_eq_true rfl⟩) (r_ps hK hP hS) rfl rfl hl.1 rfl (lv_room (Nat.le_of_ble_eq_true rfl)) dX1_wouldBeBetter_50 ⟨Nat.le_of_ble_eq_true rfl, Nat.le_of_ble_eq_true rfl⟩) hS (fun H locs hP hS => ?_)
      refine lv_icmp_lt (tgt := 58) hx hb dX1_wouldBeBetter_53 (by decide) (fun c53 => ?_) (fun c53 => ?_)
      · replace hf := if_t c53 hf
        exact w_X1_wouldBeBetter_58 hG C x2 x3 r23 r30 h23 _ _ _ (lv_sub hl [3, 5, 6, 1, 0] rfl) hP hS hf
      · replace hf := if_f c53 hf
        refine lv_iconst (v := 0) hx hb dX1_wouldBeBetter_56 (by decide) ?_
        exact r_zret hx hb hr rfl hlocks hP hS (re2 (Option.some.inj hf)) dX1_wouldBeBetter_57
  · replace hf := if_f c16 hf
    refine lv_iconst (v := 0) hx hb dX1_wouldBeBetter_19 (by decide) ?_
    exact r_zret hx hb hr rfl hlocks hP hS (re2 (Option.some.inj hf)) dX1_wouldBeBetter_20
/-! CarriedBack$Fixes.findBest(II)V -/
abbrev rmX1_findBest : Room := { frames := 4, cells := 0, slots := 0, locals := 97 }
abbrev vX1_findBest : List Cond := Cond.code yX1_findBest cX1_findBest 4 none :: GW
def f_X1_findBest_17 (x1 : Int32) (x2 : Int32) : Nat → Int32 → PH → Option PH
  | 0, _, _ => none
  | n + 1, x3, h => bO (f_X8_firstOnes (h.1 4 6)) (fun r25 => if r25 < x3 then (some h) else (if (x3 &&& ((h.1 58 4) ^^^ (-1))) = 0 then (bP (f_X1_wouldBeBetter x3 x1 x2 h) (fun r46 h46 => if r46 = 0 then ((f_X1_findBest_17 x1 x2 n) (x3 + 1) h46) else (bP (f_X1_costOf x3 h46) (fun r54 h54 => if r54 = (-1) then ((f_X1_findBest_17 x1 x2 n) (x3 + 1) h54) else (lt' (hU h54 58 5 x3) (fun h63 => bP (f_X7_weightOf 4 x3 h63) (fun r72 h72 => lt' (hU h72 58 6 r72) (fun h75 => bP (f_X1_allFixes x3 h75) (fun r81 h81 => lt' (hU h81 58 7 r81) (fun h84 => (f_X1_findBest_17 x1 x2 n) (x3 + 1) h84)))))))))) else ((f_X1_findBest_17 x1 x2 n) (x3 + 1) h)))
set_option maxHeartbeats 4000000 in
set_option maxRecDepth 100000 in
theorem w_X1_findBest_17 {l : Launch} {G : GC} (hG : GOK G) {hh : PH} {p : Program} {e : Env} {s : State} {m : MethodId} {args : Array Value} {below : List Frame} {meth : Method} {c : Code} (C : MC l G p s m args meth c RX1 cX1_findBest 4 none) (x1 : Int32) (x2 : Int32) : ∀ (n : Nat) (x3 : Int32) (h : PH) (H : Heap) (locs : List Loc) (ls : Array Slot), lv_has ls 4 [(0, .ref (gB G 58)), (1, .int x1), (2, .int x2), (3, .int x3)] → WP G h H → SP G s H locs → f_X1_findBest_17 x1 x2 n x3 h = some hh → W p l e rmX1_findBest s m args below meth c H locs 0 0 (MQ below (QV G hh) args s 0 0 (gA G)) (F0 m 17 ls []) := by
  obtain ⟨hx, hb, hr, hlocks, hml, hown, hts, hK⟩ := id C
  intro n
  induction n with
  | zero => intro x3 h H locs ls hl hP hS hf; rw [f_X1_findBest_17] at hf; cases hf
  | succ n ih =>
    intro x3 h H locs ls hl hP hS hf
    rw [f_X1_findBest_17] at hf
    refine lv_iload_n hx hb dX1_findBest_17 rfl (lv_at hl 3 rfl) ?_
    refine lv_aload_n hx hb dX1_findBest_18 rfl (lv_at hl 0 rfl) ?_
    refine r_get (a := 58) (v := .ref (gB G 4)) (C := RX1) (T := TX1) (N := 8) hx hb hts hinX1 hown hK hP (ltX1 rfl) (ceX1 rfl) rfl 0 (by decide) wd305 rfl dX1_findBest_19 ?_
    refine r_get (a := 4) (v := .int (h.1 4 6)) (C := RX7) (T := TX7) (N := 10) hx hb hts hinX7 hown hK hP (ltX7 (Or.inl rfl)) (ceX7 (Or.inl rfl)) rfl 6 (by decide) wd170 rfl dX1_findBest_22 ?_
    obtain ⟨r25, er25, hf⟩ := bO_s hf
    refine r_callI (va_runSN (As := [.int (h.1 4 6)]) (rest := [.int x3]) ⟨hx, hb, hml, hown, hts⟩ (k_X8_firstOnes l hG (h := h) er25) ⟨va_cnB 1 hts (gC wd678) rfl rfl rfl (host := "CarriedBack") (hK.2.1 _ (by decide +kernel)) (hts _ wd73) (by decide +kernel) ⟨Nat.le_of_ble_eq_true rfl, Nat.le_of_ble_eq_true rfl⟩, hts _ wd677, trivial⟩ (r_ps hK hP hS) rfl rfl hl.1 rfl (lv_room (Nat.le_of_ble_eq_true rfl)) dX1_findBest_25 ⟨Nat.le_of_ble_eq_true rfl, Nat.le_of_ble_eq_true rfl⟩) hS (fun H locs hP hS => ?_)
    refine lv_icmp_gt (tgt := 93) hx hb dX1_findBest_28 (by decide) (fun c28 => ?_) (fun c28 => ?_)
    · replace hf := if_t c28 hf
      exact r_vret hx hb hr hlocks hP hS (Option.some.inj hf) dX1_findBest_93
    · replace hf := if_f c28 hf
      refine lv_iload_n hx hb dX1_findBest_31 rfl (lv_at hl 3 rfl) ?_
      refine lv_aload_n hx hb dX1_findBest_32 rfl (lv_at hl 0 rfl) ?_
      refine r_get (a := 58) (v := .int (h.1 58 4)) (C := RX1) (T := TX1) (N := 8) hx hb hts hinX1 hown hK hP (ltX1 rfl) (ceX1 rfl) rfl 4 (by decide) wd309 rfl dX1_findBest_33 ?_
      refine lv_iconst (v := (-1)) hx hb dX1_findBest_36 (by decide) ?_
      refine lv_ixor hx hb dX1_findBest_37 ?_
      refine lv_iand hx hb dX1_findBest_38 ?_
      refine lv_if_ne (tgt := 87) hx hb dX1_findBest_39 (by decide) (fun c39 => ?_) (fun c39 => ?_)
      · replace hf := if_f c39 hf
        refine lv_iinc (v := (x3 + 1)) (lv' := [(3, .int (x3 + 1)), (0, .ref (gB G 58)), (1, .int x1), (2, .int x2)]) hx hb dX1_findBest_87 hl (k := 3) rfl rfl (by decide) rfl (fun ls hl => ?_)
        refine lv_goto (tgt := 17) hx hb dX1_findBest_90 (by decide) ?_
        exact ih (x3 + 1) h _ _ _ (lv_sub hl [1, 2, 3, 0] rfl) hP hS hf
      · replace hf := if_t c39 hf
        refine lv_aload_n hx hb dX1_findBest_42 rfl (lv_at hl 0 rfl) ?_
        refine lv_iload_n hx hb dX1_findBest_43 rfl (lv_at hl 3 rfl) ?_
        refine lv_iload_n hx hb dX1_findBest_44 rfl (lv_at hl 1 rfl) ?_
        refine lv_iload_n hx hb dX1_findBest_45 rfl (lv_at hl 2 rfl) ?_
        obtain ⟨r46, h46, er46, hf⟩ := bP_s hf
        refine r_callI (va_runV (As := [.int x3, .int x1, .int x2]) (rest := []) ⟨hx, hb, hml, hown, hts⟩ (k_X1_wouldBeBetter l hG er46) (cwV 3 hts (gV wd819 wd821 wd17 wd80 wd822) rfl rfl rfl (by decide +kernel) ⟨Nat.le_of_ble_eq_true rfl, Nat.le_of_ble_eq_true rfl⟩) (r_pv hK hP hS (ltX1 rfl) (ceX1 rfl) rfl) rfl rfl hl.1 rfl (lv_room (Nat.le_of_ble_eq_true rfl)) dX1_findBest_46 ⟨Nat.le_of_ble_eq_true rfl, Nat.le_of_ble_eq_true rfl⟩) hS (fun H locs hP hS => ?_)
        refine lv_if_eq (tgt := 87) hx hb dX1_findBest_49 (by decide) (fun c49 => ?_) (fun c49 => ?_)
        · replace hf := if_t c49 hf
          refine lv_iinc (v := (x3 + 1)) (lv' := [(3, .int (x3 + 1)), (0, .ref (gB G 58)), (1, .int x1), (2, .int x2)]) hx hb dX1_findBest_87 hl (k := 3) rfl rfl (by decide) rfl (fun ls hl => ?_)
          refine lv_goto (tgt := 17) hx hb dX1_findBest_90 (by decide) ?_
          exact ih (x3 + 1) h46 _ _ _ (lv_sub hl [1, 2, 3, 0] rfl) hP hS hf
        · replace hf := if_f c49 hf
          refine lv_aload_n hx hb dX1_findBest_52 rfl (lv_at hl 0 rfl) ?_
          refine lv_iload_n hx hb dX1_findBest_53 rfl (lv_at hl 3 rfl) ?_
          obtain ⟨r54, h54, er54, hf⟩ := bP_s hf
          refine r_callI (va_runV (As := [.int x3]) (rest := []) ⟨hx, hb, hml, hown, hts⟩ (k_X1_costOf l hG er54) (cwV 1 hts (gV wd829 wd801 wd802 wd80 wd803) rfl rfl rfl (by decide +kernel) ⟨Nat.le_of_ble_eq_true rfl, Nat.le_of_ble_eq_true rfl⟩) (r_pv hK hP hS (ltX1 rfl) (ceX1 rfl) rfl) rfl rfl hl.1 rfl (lv_room (Nat.le_of_ble_eq_true rfl)) dX1_findBest_54 ⟨Nat.le_of_ble_eq_true rfl, Nat.le_of_ble_eq_true rfl⟩) hS (fun H locs hP hS => ?_)
          refine lv_iconst (v := (-1)) hx hb dX1_findBest_57 (by decide) ?_
          refine lv_icmp_eq (tgt := 87) hx hb dX1_findBest_58 (by decide) (fun c58 => ?_) (fun c58 => ?_)
          · replace hf := if_t c58 hf
            refine lv_iinc (v := (x3 + 1)) (lv' := [(3, .int (x3 + 1)), (0, .ref (gB G 58)), (1, .int x1), (2, .int x2)]) hx hb dX1_findBest_87 hl (k := 3) rfl rfl (by decide) rfl (fun ls hl => ?_)
            refine lv_goto (tgt := 17) hx hb dX1_findBest_90 (by decide) ?_
            exact ih (x3 + 1) h54 _ _ _ (lv_sub hl [1, 2, 3, 0] rfl) hP hS hf
          · replace hf := if_f c58 hf
            refine lv_aload_n hx hb dX1_findBest_61 rfl (lv_at hl 0 rfl) ?_
            refine lv_iload_n hx hb dX1_findBest_62 rfl (lv_at hl 3 rfl) ?_
            obtain ⟨h63, eh63⟩ : ∃ y, y = hU h54 58 5 x3 := ⟨_, rfl⟩
            replace hf := lt_at eh63 hf
            refine r_put (a := 58) (v := .int x3) (ty := .int) (h' := h63) (C := RX1) (T := TX1) (N := 8) hG hx hb hts hinX1 tyX1 tyX1_ok nmX1 hown hK hP hS (ltX1 rfl) (ceX1 rfl) rfl 5 (by decide) wd310 rfl (by decide +kernel) rfl rfl (Nat.le_of_ble_eq_true rfl) (by rw [eh63]; exact fun j hj => cE_U hj) (by rw [eh63]; exact puX1_5 rfl _) dX1_findBest_63 (fun H locs hP hS => ?_)
            refine lv_aload_n hx hb dX1_findBest_66 rfl (lv_at hl 0 rfl) ?_
            refine lv_aload_n hx hb dX1_findBest_67 rfl (lv_at hl 0 rfl) ?_
            refine r_get (a := 58) (v := .ref (gB G 4)) (C := RX1) (T := TX1) (N := 8) hx hb hts hinX1 hown hK hP (ltX1 rfl) (ceX1 rfl) rfl 0 (by decide) wd305 rfl dX1_findBest_68 ?_
            refine lv_iload_n hx hb dX1_findBest_71 rfl (lv_at hl 3 rfl) ?_
            obtain ⟨r72, h72, er72, hf⟩ := bP_s hf
            refine r_callI (va_runV (As := [.int x3]) (rest := [.ref (gB G 58)]) ⟨hx, hb, hml, hown, hts⟩ (k_X7_weightOf l hG 4 (Or.inl rfl) er72) (cwV 1 hts (gV wd823 wd824 wd825 wd76 wd826) rfl rfl rfl (by decide +kernel) ⟨Nat.le_of_ble_eq_true rfl, Nat.le_of_ble_eq_true rfl⟩) (r_pv hK hP hS (ltX7 (Or.inl rfl)) (ceX7 (Or.inl rfl)) rfl) rfl rfl hl.1 rfl (lv_room (Nat.le_of_ble_eq_true rfl)) dX1_findBest_72 ⟨Nat.le_of_ble_eq_true rfl, Nat.le_of_ble_eq_true rfl⟩) hS (fun H locs hP hS => ?_)
            obtain ⟨h75, eh75⟩ : ∃ y, y = hU h72 58 6 r72 := ⟨_, rfl⟩
            replace hf := lt_at eh75 hf
            refine r_put (a := 58) (v := .int r72) (ty := .int) (h' := h75) (C := RX1) (T := TX1) (N := 8) hG hx hb hts hinX1 tyX1 tyX1_ok nmX1 hown hK hP hS (ltX1 rfl) (ceX1 rfl) rfl 6 (by decide) wd312 rfl (by decide +kernel) rfl rfl (Nat.le_of_ble_eq_true rfl) (by rw [eh75]; exact fun j hj => cE_U hj) (by rw [eh75]; exact puX1_6 rfl _) dX1_findBest_75 (fun H locs hP hS => ?_)
            refine lv_aload_n hx hb dX1_findBest_78 rfl (lv_at hl 0 rfl) ?_
            refine lv_aload_n hx hb dX1_findBest_79 rfl (lv_at hl 0 rfl) ?_
            refine lv_iload_n hx hb dX1_findBest_80 rfl (lv_at hl 3 rfl) ?_
            obtain ⟨r81, h81, er81, hf⟩ := bP_s hf
            refine r_callI (va_runV (As := [.int x3]) (rest := [.ref (gB G 58)]) ⟨hx, hb, hml, hown, hts⟩ (k_X1_allFixes l hG er81) (cwV 1 hts (gV wd804 wd806 wd16 wd80 wd807) rfl rfl rfl (by decide +kernel) ⟨Nat.le_of_ble_eq_true rfl, Nat.le_of_ble_eq_true rfl⟩) (r_pv hK hP hS (ltX1 rfl) (ceX1 rfl) rfl) rfl rfl hl.1 rfl (lv_room (Nat.le_of_ble_eq_true rfl)) dX1_findBest_81 ⟨Nat.le_of_ble_eq_true rfl, Nat.le_of_ble_eq_true rfl⟩) hS (fun H locs hP hS => ?_)
            obtain ⟨h84, eh84⟩ : ∃ y, y = hU h81 58 7 r81 := ⟨_, rfl⟩
            replace hf := lt_at eh84 hf
            refine r_put (a := 58) (v := .int r81) (ty := .int) (h' := h84) (C := RX1) (T := TX1) (N := 8) hG hx hb hts hinX1 tyX1 tyX1_ok nmX1 hown hK hP hS (ltX1 rfl) (ceX1 rfl) rfl 7 (by decide) wd314 rfl (by decide +kernel) rfl rfl (Nat.le_of_ble_eq_true rfl) (by rw [eh84]; exact fun j hj => cE_U hj) (by rw [eh84]; exact puX1_7 rfl _) dX1_findBest_84 (fun H locs hP hS => ?_)
            refine lv_iinc (v := (x3 + 1)) (lv' := [(3, .int (x3 + 1)), (0, .ref (gB G 58)), (1, .int x1), (2, .int x2)]) hx hb dX1_findBest_87 hl (k := 3) rfl rfl (by decide) rfl (fun ls hl => ?_)
            refine lv_goto (tgt := 17) hx hb dX1_findBest_90 (by decide) ?_
            exact ih (x3 + 1) h84 _ _ _ (lv_sub hl [1, 2, 3, 0] rfl) hP hS hf
def f_X1_findBest (x1 : Int32) (x2 : Int32) (h : PH) : Option PH := lt' (hU h 58 5 0) (fun h2 => lt' (hU h2 58 6 0) (fun h7 => lt' (hU h7 58 7 0) (fun h12 => f_X1_findBest_17 x1 x2 FU 1 h12)))
set_option maxHeartbeats 4000000 in
set_option maxRecDepth 100000 in
theorem k_X1_findBest (l : Launch) {G : GC} (hG : GOK G) {x1 : Int32} {x2 : Int32} {h hh : PH} (hf : f_X1_findBest x1 x2 h = some hh) : CV l yX1_findBest vX1_findBest rmX1_findBest G [.ref (gB G 58), .int x1, .int x2] h hh := by
  refine Met.ofW (cc := cX1_findBest) (maxL := 4) (ret := none) (by decide +kernel) rfl ?_
  intro p e s m args below meth c s₁ B hml hv
  obtain ⟨rfl, hP, hK⟩ := hv
  have C : MC l G p s m _ meth c RX1 cX1_findBest 4 none := ⟨B.exec, B.bytes, B.returns, B.notSynchronized, hml, findClass_of_methodNamed B.named, fun w hw => atoms_spec (ws := vX1_findBest) B.pre w (List.mem_cons_of_mem _ hw), hK⟩
  obtain ⟨hx, hb, hr, hlocks, -, hown, hts, -⟩ := id C
  have hl := lv_entry ([.ref (gB G 58), .int x1, .int x2]) (n := 4) (Nat.le_of_ble_eq_true rfl)
  rw [lg_entry_eq]
  generalize (lg_sl ([.ref (gB G 58), .int x1, .int x2]) ++ List.replicate (4 - (lg_sl ([.ref (gB G 58), .int x1, .int x2])).length) Slot.unset).toArray = ls at hl ⊢
  have hl : lv_has ls 4 [(0, .ref (gB G 58)), (1, .int x1), (2, .int x2)] := hl
  have hS : SP G s s.heap [] := va_S.rf
  replace hP : WP G h s.heap := hP
  rw [f_X1_findBest] at hf
  refine lv_aload_n hx hb dX1_findBest_0 rfl (lv_at hl 0 rfl) ?_
  refine lv_iconst (v := 0) hx hb dX1_findBest_1 (by decide) ?_
  obtain ⟨h2, eh2⟩ : ∃ y, y = hU h 58 5 0 := ⟨_, rfl⟩
  replace hf := lt_at eh2 hf
  refine r_put (a := 58) (v := .int 0) (ty := .int) (h' := h2) (C := RX1) (T := TX1) (N := 8) hG hx hb hts hinX1 tyX1 tyX1_ok nmX1 hown hK hP hS (ltX1 rfl) (ceX1 rfl) rfl 5 (by decide) wd310 rfl (by decide +kernel) rfl rfl (Nat.le_of_ble_eq_true rfl) (by rw [eh2]; exact fun j hj => cE_U hj) (by rw [eh2]; exact puX1_5 rfl _) dX1_findBest_2 (fun H locs hP hS => ?_)
  refine lv_aload_n hx hb dX1_findBest_5 rfl (lv_at hl 0 rfl) ?_
  refine lv_iconst (v := 0) hx hb dX1_findBest_6 (by decide) ?_
  obtain ⟨h7, eh7⟩ : ∃ y, y = hU h2 58 6 0 := ⟨_, rfl⟩
  replace hf := lt_at eh7 hf
  refine r_put (a := 58) (v := .int 0) (ty := .int) (h' := h7) (C := RX1) (T := TX1) (N := 8) hG hx hb hts hinX1 tyX1 tyX1_ok nmX1 hown hK hP hS (ltX1 rfl) (ceX1 rfl) rfl 6 (by decide) wd312 rfl (by decide +kernel) rfl rfl (Nat.le_of_ble_eq_true rfl) (by rw [eh7]; exact fun j hj => cE_U hj) (by rw [eh7]; exact puX1_6 rfl _) dX1_findBest_7 (fun H locs hP hS => ?_)
  refine lv_aload_n hx hb dX1_findBest_10 rfl (lv_at hl 0 rfl) ?_
  refine lv_iconst (v := 0) hx hb dX1_findBest_11 (by decide) ?_
  obtain ⟨h12, eh12⟩ : ∃ y, y = hU h7 58 7 0 := ⟨_, rfl⟩
  replace hf := lt_at eh12 hf
  refine r_put (a := 58) (v := .int 0) (ty := .int) (h' := h12) (C := RX1) (T := TX1) (N := 8) hG hx hb hts hinX1 tyX1 tyX1_ok nmX1 hown hK hP hS (ltX1 rfl) (ceX1 rfl) rfl 7 (by decide) wd314 rfl (by decide +kernel) rfl rfl (Nat.le_of_ble_eq_true rfl) (by rw [eh12]; exact fun j hj => cE_U hj) (by rw [eh12]; exact puX1_7 rfl _) dX1_findBest_12 (fun H locs hP hS => ?_)
  refine lv_iconst (v := 1) hx hb dX1_findBest_15 (by decide) ?_
  refine lv_istore_n (lv' := [(3, .int 1), (0, .ref (gB G 58)), (1, .int x1), (2, .int x2)]) hx hb dX1_findBest_16 rfl hl (by decide) rfl (fun ls hl => ?_)
  exact w_X1_findBest_17 hG C x1 x2 FU 1 h12 _ _ _ (lv_sub hl [1, 2, 3, 0] rfl) hP hS hf
/-! CarriedBack.best(IIII)I -/
abbrev rmX8_best : Room := { frames := 5, cells := 0, slots := 0, locals := 127 }
abbrev vX8_best : List Cond := Cond.code yX8_best cX8_best 5 (some .int) :: GW
def f_X8_best (x1 : Int32) (x2 : Int32) (x3 : Int32) (x4 : Int32) (h : PH) : Option (Int32 × PH) := bP (f_X0_hasLine 28 x1 h) (fun r5 h5 => if r5 = 0 then (some ((-1001), h5)) else (if x2 < 0 then (some ((-1002), h5)) else (if (24 : Int32) < x2 then (some ((-1002), h5)) else (if x3 < 0 then (some ((-1002), h5)) else (if x3 ≤ 99 then (if x4 < 0 then (some ((-1002), h5)) else (if x4 ≤ 2 then (bO (f_X8_firstOnes (h5.1 4 6)) (fun r66 => bO (f_X1_lookAt x1 r66 h5) (fun h69 => bO (f_X1_findBest x2 x3 h69) (fun h78 => if x4 = 0 then (some ((h78.1 58 5), h78)) else (if x4 = 1 then (some ((h78.1 58 6), h78)) else (some ((h78.1 58 7), h78))))))) else (some ((-1002), h5)))) else (some ((-1002), h5)))))))
set_option maxHeartbeats 4000000 in
set_option maxRecDepth 100000 in
theorem k_X8_best (l : Launch) {G : GC} (hG : GOK G) {x1 : Int32} {x2 : Int32} {x3 : Int32} {x4 : Int32} {rr : Int32} {h hh : PH} (hf : f_X8_best x1 x2 x3 x4 h = some (rr, hh)) : CI l yX8_best vX8_best rmX8_best G [.ref (gB G 0), .int x1, .int x2, .int x3, .int x4] h rr hh := by
  refine Met.ofW (cc := cX8_best) (maxL := 5) (ret := (some .int)) (by decide +kernel) rfl ?_
  intro p e s m args below meth c s₁ B hml hv
  obtain ⟨rfl, hP, hK⟩ := hv
  have C : MC l G p s m _ meth c RX8 cX8_best 5 (some .int) := ⟨B.exec, B.bytes, B.returns, B.notSynchronized, hml, findClass_of_methodNamed B.named, fun w hw => atoms_spec (ws := vX8_best) B.pre w (List.mem_cons_of_mem _ hw), hK⟩
  obtain ⟨hx, hb, hr, hlocks, -, hown, hts, -⟩ := id C
  have hl := lv_entry ([.ref (gB G 0), .int x1, .int x2, .int x3, .int x4]) (n := 5) (Nat.le_of_ble_eq_true rfl)
  rw [lg_entry_eq]
  generalize (lg_sl ([.ref (gB G 0), .int x1, .int x2, .int x3, .int x4]) ++ List.replicate (5 - (lg_sl ([.ref (gB G 0), .int x1, .int x2, .int x3, .int x4])).length) Slot.unset).toArray = ls at hl ⊢
  have hl : lv_has ls 5 [(0, .ref (gB G 0)), (1, .int x1), (2, .int x2), (3, .int x3), (4, .int x4)] := hl
  have hS : SP G s s.heap [] := va_S.rf
  replace hP : WP G h s.heap := hP
  rw [f_X8_best] at hf
  refine lv_aload_n hx hb dX8_best_0 rfl (lv_at hl 0 rfl) ?_
  refine r_get (a := 0) (v := .ref (gB G 28)) (C := RX8) (T := TX8) (N := 14) hx hb hts hinX8 hown hK hP (ltX8 rfl) (ceX8 rfl) rfl 6 (by decide) wd368 rfl dX8_best_1 ?_
  refine lv_iload_n hx hb dX8_best_4 rfl (lv_at hl 1 rfl) ?_
  obtain ⟨r5, h5, er5, hf⟩ := bP_s hf
  refine r_callI (va_runV (As := [.int x1]) (rest := []) ⟨hx, hb, hml, hown, hts⟩ (k_X0_hasLine l hG 28 (Or.inl rfl) er5) (cwV 1 hts (gV wd684 wd685 wd686 wd78 wd687) rfl rfl rfl (by decide +kernel) ⟨Nat.le_of_ble_eq_true rfl, Nat.le_of_ble_eq_true rfl⟩) (r_pv hK hP hS (ltX0 (Or.inl rfl)) (ceX0 (Or.inl rfl)) rfl) rfl rfl hl.1 rfl (lv_room (Nat.le_of_ble_eq_true rfl)) dX8_best_5 ⟨Nat.le_of_ble_eq_true rfl, Nat.le_of_ble_eq_true rfl⟩) hS (fun H locs hP hS => ?_)
  refine lv_if_ne (tgt := 15) hx hb dX8_best_8 (by decide) (fun c8 => ?_) (fun c8 => ?_)
  · replace hf := if_f c8 hf
    refine lv_iload_n hx hb dX8_best_15 rfl (lv_at hl 2 rfl) ?_
    refine lv_if_lt (tgt := 35) hx hb dX8_best_16 (by decide) (fun c16 => ?_) (fun c16 => ?_)
    · replace hf := if_t c16 hf
      refine lv_sipush (v := (-1002)) hx hb dX8_best_35 (by decide) ?_
      exact r_iret hx hb hr hlocks hP hS (re2 (Option.some.inj hf)) dX8_best_38
    · replace hf := if_f c16 hf
      refine lv_iload_n hx hb dX8_best_19 rfl (lv_at hl 2 rfl) ?_
      refine lv_bipush (v := 24) hx hb dX8_best_20 (by decide) ?_
      refine lv_icmp_gt (tgt := 35) hx hb dX8_best_22 (by decide) (fun c22 => ?_) (fun c22 => ?_)
      · replace hf := if_t c22 hf
        refine lv_sipush (v := (-1002)) hx hb dX8_best_35 (by decide) ?_
        exact r_iret hx hb hr hlocks hP hS (re2 (Option.some.inj hf)) dX8_best_38
      · replace hf := if_f c22 hf
        refine lv_iload_n hx hb dX8_best_25 rfl (lv_at hl 3 rfl) ?_
        refine lv_if_lt (tgt := 35) hx hb dX8_best_26 (by decide) (fun c26 => ?_) (fun c26 => ?_)
        · replace hf := if_t c26 hf
          refine lv_sipush (v := (-1002)) hx hb dX8_best_35 (by decide) ?_
          exact r_iret hx hb hr hlocks hP hS (re2 (Option.some.inj hf)) dX8_best_38
        · replace hf := if_f c26 hf
          refine lv_iload_n hx hb dX8_best_29 rfl (lv_at hl 3 rfl) ?_
          refine lv_bipush (v := 99) hx hb dX8_best_30 (by decide) ?_
          refine lv_icmp_le (tgt := 39) hx hb dX8_best_32 (by decide) (fun c32 => ?_) (fun c32 => ?_)
          · replace hf := if_t c32 hf
            refine lv_iload hx hb dX8_best_39 (lv_at hl 4 rfl) ?_
            refine lv_if_lt (tgt := 50) hx hb dX8_best_41 (by decide) (fun c41 => ?_) (fun c41 => ?_)
            · replace hf := if_t c41 hf
              refine lv_sipush (v := (-1002)) hx hb dX8_best_50 (by decide) ?_
              exact r_iret hx hb hr hlocks hP hS (re2 (Option.some.inj hf)) dX8_best_53
            · replace hf := if_f c41 hf
              refine lv_iload hx hb dX8_best_44 (lv_at hl 4 rfl) ?_
              refine lv_iconst (v := 2) hx hb dX8_best_46 (by decide) ?_
              refine lv_icmp_le (tgt := 54) hx hb dX8_best_47 (by decide) (fun c47 => ?_) (fun c47 => ?_)
              · replace hf := if_t c47 hf
                refine lv_aload_n hx hb dX8_best_54 rfl (lv_at hl 0 rfl) ?_
                refine r_get (a := 0) (v := .ref (gB G 58)) (C := RX8) (T := TX8) (N := 14) hx hb hts hinX8 hown hK hP (ltX8 rfl) (ceX8 rfl) rfl 10 (by decide) wd372 rfl dX8_best_55 ?_
                refine lv_iload_n hx hb dX8_best_58 rfl (lv_at hl 1 rfl) ?_
                refine lv_aload_n hx hb dX8_best_59 rfl (lv_at hl 0 rfl) ?_
                refine r_get (a := 0) (v := .ref (gB G 4)) (C := RX8) (T := TX8) (N := 14) hx hb hts hinX8 hown hK hP (ltX8 rfl) (ceX8 rfl) rfl 2 (by decide) wd364 rfl dX8_best_60 ?_
                refine r_get (a := 4) (v := .int (h5.1 4 6)) (C := RX7) (T := TX7) (N := 10) hx hb hts hinX7 hown hK hP (ltX7 (Or.inl rfl)) (ceX7 (Or.inl rfl)) rfl 6 (by decide) wd171 rfl dX8_best_63 ?_
                obtain ⟨r66, er66, hf⟩ := bO_s hf
                refine r_callI (va_runS (As := [.int (h5.1 4 6)]) (rest := [.int x1, .ref (gB G 58)]) ⟨hx, hb, hml, hown, hts⟩ (k_X8_firstOnes l hG (h := h5) er66) (va_cwS 1 hts (gS wd813 wd677 wd73 wd678) rfl rfl rfl (by decide +kernel) ⟨Nat.le_of_ble_eq_true rfl, Nat.le_of_ble_eq_true rfl⟩) (r_ps hK hP hS) rfl rfl hl.1 rfl (lv_room (Nat.le_of_ble_eq_true rfl)) dX8_best_66 ⟨Nat.le_of_ble_eq_true rfl, Nat.le_of_ble_eq_true rfl⟩) hS (fun H locs hP hS => ?_)
                obtain ⟨h69, eh69, hf⟩ := bO_s hf
                refine r_callV (va_runV (As := [.int x1, .int r66]) (rest := []) ⟨hx, hb, hml, hown, hts⟩ (k_X1_lookAt l hG eh69) (cwV 2 hts (gV wd793 wd794 wd795 wd80 wd796) rfl rfl rfl (by decide +kernel) ⟨Nat.le_of_ble_eq_true rfl, Nat.le_of_ble_eq_true rfl⟩) (r_pv hK hP hS (ltX1 rfl) (ceX1 rfl) rfl) rfl rfl hl.1 rfl (lv_room (Nat.le_of_ble_eq_true rfl)) dX8_best_69 ⟨Nat.le_of_ble_eq_true rfl, Nat.le_of_ble_eq_true rfl⟩) hS (fun H locs hP hS => ?_)
                refine lv_aload_n hx hb dX8_best_72 rfl (lv_at hl 0 rfl) ?_
                refine r_get (a := 0) (v := .ref (gB G 58)) (C := RX8) (T := TX8) (N := 14) hx hb hts hinX8 hown hK hP (ltX8 rfl) (ceX8 rfl) rfl 10 (by decide) wd372 rfl dX8_best_73 ?_
                refine lv_iload_n hx hb dX8_best_76 rfl (lv_at hl 2 rfl) ?_
                refine lv_iload_n hx hb dX8_best_77 rfl (lv_at hl 3 rfl) ?_
                obtain ⟨h78, eh78, hf⟩ := bO_s hf
                refine r_callV (va_runV (As := [.int x2, .int x3]) (rest := []) ⟨hx, hb, hml, hown, hts⟩ (k_X1_findBest l hG eh78) (cwV 2 hts (gV wd814 wd815 wd816 wd80 wd817) rfl rfl rfl (by decide +kernel) ⟨Nat.le_of_ble_eq_true rfl, Nat.le_of_ble_eq_true rfl⟩) (r_pv hK hP hS (ltX1 rfl) (ceX1 rfl) rfl) rfl rfl hl.1 rfl (lv_room (Nat.le_of_ble_eq_true rfl)) dX8_best_78 ⟨Nat.le_of_ble_eq_true rfl, Nat.le_of_ble_eq_true rfl⟩) hS (fun H locs hP hS => ?_)
                refine lv_iload hx hb dX8_best_81 (lv_at hl 4 rfl) ?_
                refine lv_if_ne (tgt := 94) hx hb dX8_best_83 (by decide) (fun c83 => ?_) (fun c83 => ?_)
                · replace hf := if_f c83 hf
                  refine lv_iload hx hb dX8_best_94 (lv_at hl 4 rfl) ?_
                  refine lv_iconst (v := 1) hx hb dX8_best_96 (by decide) ?_
                  refine lv_icmp_ne (tgt := 110) hx hb dX8_best_97 (by decide) (fun c97 => ?_) (fun c97 => ?_)
                  · replace hf := if_f c97 hf
                    refine lv_aload_n hx hb dX8_best_110 rfl (lv_at hl 0 rfl) ?_
                    refine r_get (a := 0) (v := .ref (gB G 58)) (C := RX8) (T := TX8) (N := 14) hx hb hts hinX8 hown hK hP (ltX8 rfl) (ceX8 rfl) rfl 10 (by decide) wd372 rfl dX8_best_111 ?_
                    refine r_get (a := 58) (v := .int (h78.1 58 7)) (C := RX1) (T := TX1) (N := 8) hx hb hts hinX1 hown hK hP (ltX1 rfl) (ceX1 rfl) rfl 7 (by decide) wd315 rfl dX8_best_114 ?_
                    exact r_iret hx hb hr hlocks hP hS (re2 (Option.some.inj hf)) dX8_best_117
                  · replace hf := if_t c97 hf
                    refine lv_aload_n hx hb dX8_best_100 rfl (lv_at hl 0 rfl) ?_
                    refine r_get (a := 0) (v := .ref (gB G 58)) (C := RX8) (T := TX8) (N := 14) hx hb hts hinX8 hown hK hP (ltX8 rfl) (ceX8 rfl) rfl 10 (by decide) wd372 rfl dX8_best_101 ?_
                    refine r_get (a := 58) (v := .int (h78.1 58 6)) (C := RX1) (T := TX1) (N := 8) hx hb hts hinX1 hown hK hP (ltX1 rfl) (ceX1 rfl) rfl 6 (by decide) wd313 rfl dX8_best_104 ?_
                    refine lv_goto (tgt := 117) hx hb dX8_best_107 (by decide) ?_
                    exact r_iret hx hb hr hlocks hP hS (re2 (Option.some.inj hf)) dX8_best_117
                · replace hf := if_t c83 hf
                  refine lv_aload_n hx hb dX8_best_86 rfl (lv_at hl 0 rfl) ?_
                  refine r_get (a := 0) (v := .ref (gB G 58)) (C := RX8) (T := TX8) (N := 14) hx hb hts hinX8 hown hK hP (ltX8 rfl) (ceX8 rfl) rfl 10 (by decide) wd372 rfl dX8_best_87 ?_
                  refine r_get (a := 58) (v := .int (h78.1 58 5)) (C := RX1) (T := TX1) (N := 8) hx hb hts hinX1 hown hK hP (ltX1 rfl) (ceX1 rfl) rfl 5 (by decide) wd311 rfl dX8_best_90 ?_
                  exact r_iret hx hb hr hlocks hP hS (re2 (Option.some.inj hf)) dX8_best_93
              · replace hf := if_f c47 hf
                refine lv_sipush (v := (-1002)) hx hb dX8_best_50 (by decide) ?_
                exact r_iret hx hb hr hlocks hP hS (re2 (Option.some.inj hf)) dX8_best_53
          · replace hf := if_f c32 hf
            refine lv_sipush (v := (-1002)) hx hb dX8_best_35 (by decide) ?_
            exact r_iret hx hb hr hlocks hP hS (re2 (Option.some.inj hf)) dX8_best_38
  · replace hf := if_t c8 hf
    refine lv_sipush (v := (-1001)) hx hb dX8_best_11 (by decide) ?_
    exact r_iret hx hb hr hlocks hP hS (re2 (Option.some.inj hf)) dX8_best_14
/-! CarriedBack$Trunk.weightIn(I)I -/
abbrev rmX7_weightIn : Room := { frames := 3, cells := 0, slots := 0, locals := 67 }
abbrev vX7_weightIn : List Cond := Cond.code yX7_weightIn cX7_weightIn 2 (some .int) :: GW
def f_X7_weightIn (a0 : Nat) (x1 : Int32) (h : PH) : Option (Int32 × PH) := bP (f_X7_faultsIn a0 x1 h) (fun r3 h3 => bP (f_X7_weightOf a0 r3 h3) (fun r6 h6 => some (r6, h6)))
set_option maxHeartbeats 4000000 in
set_option maxRecDepth 100000 in
theorem k_X7_weightIn (l : Launch) {G : GC} (hG : GOK G) (a0 : Nat) (ha0 : kdX7 a0) {x1 : Int32} {rr : Int32} {h hh : PH} (hf : f_X7_weightIn a0 x1 h = some (rr, hh)) : CI l yX7_weightIn vX7_weightIn rmX7_weightIn G [.ref (gB G a0), .int x1] h rr hh := by
  refine Met.ofW (cc := cX7_weightIn) (maxL := 2) (ret := (some .int)) (by decide +kernel) rfl ?_
  intro p e s m args below meth c s₁ B hml hv
  obtain ⟨rfl, hP, hK⟩ := hv
  have C : MC l G p s m _ meth c RX7 cX7_weightIn 2 (some .int) := ⟨B.exec, B.bytes, B.returns, B.notSynchronized, hml, findClass_of_methodNamed B.named, fun w hw => atoms_spec (ws := vX7_weightIn) B.pre w (List.mem_cons_of_mem _ hw), hK⟩
  obtain ⟨hx, hb, hr, hlocks, -, hown, hts, -⟩ := id C
  have hl := lv_entry ([.ref (gB G a0), .int x1]) (n := 2) (Nat.le_of_ble_eq_true rfl)
  rw [lg_entry_eq]
  generalize (lg_sl ([.ref (gB G a0), .int x1]) ++ List.replicate (2 - (lg_sl ([.ref (gB G a0), .int x1])).length) Slot.unset).toArray = ls at hl ⊢
  have hl : lv_has ls 2 [(0, .ref (gB G a0)), (1, .int x1)] := hl
  have hS : SP G s s.heap [] := va_S.rf
  replace hP : WP G h s.heap := hP
  rw [f_X7_weightIn] at hf
  refine lv_aload_n hx hb dX7_weightIn_0 rfl (lv_at hl 0 rfl) ?_
  refine lv_aload_n hx hb dX7_weightIn_1 rfl (lv_at hl 0 rfl) ?_
  refine lv_iload_n hx hb dX7_weightIn_2 rfl (lv_at hl 1 rfl) ?_
  obtain ⟨r3, h3, er3, hf⟩ := bP_s hf
  refine r_callI (va_runV (As := [.int x1]) (rest := [.ref (gB G a0)]) ⟨hx, hb, hml, hown, hts⟩ (k_X7_faultsIn l hG a0 ha0 er3) (cwV 1 hts (gV wd841 wd689 wd690 wd76 wd691) rfl rfl rfl (by decide +kernel) ⟨Nat.le_of_ble_eq_true rfl, Nat.le_of_ble_eq_true rfl⟩) (r_pv hK hP hS (ltX7 ha0) (ceX7 ha0) rfl) rfl rfl hl.1 rfl (lv_room (Nat.le_of_ble_eq_true rfl)) dX7_weightIn_3 ⟨Nat.le_of_ble_eq_true rfl, Nat.le_of_ble_eq_true rfl⟩) hS (fun H locs hP hS => ?_)
  obtain ⟨r6, h6, er6, hf⟩ := bP_s hf
  refine r_callI (va_runV (As := [.int r3]) (rest := []) ⟨hx, hb, hml, hown, hts⟩ (k_X7_weightOf l hG a0 ha0 er6) (cwV 1 hts (gV wd842 wd824 wd825 wd76 wd826) rfl rfl rfl (by decide +kernel) ⟨Nat.le_of_ble_eq_true rfl, Nat.le_of_ble_eq_true rfl⟩) (r_pv hK hP hS (ltX7 ha0) (ceX7 ha0) rfl) rfl rfl hl.1 rfl (lv_room (Nat.le_of_ble_eq_true rfl)) dX7_weightIn_6 ⟨Nat.le_of_ble_eq_true rfl, Nat.le_of_ble_eq_true rfl⟩) hS (fun H locs hP hS => ?_)
  exact r_iret hx hb hr hlocks hP hS (re2 (Option.some.inj hf)) dX7_weightIn_9
/-! CarriedBack.later(II)I -/
abbrev rmX8_later : Room := { frames := 4, cells := 0, slots := 0, locals := 88 }
abbrev vX8_later : List Cond := Cond.code yX8_later cX8_later 4 (some .int) :: GW
def f_X8_later (x1 : Int32) (x2 : Int32) (h : PH) : Option (Int32 × PH) := bP (f_X0_hasLine 28 x1 h) (fun r5 h5 => if r5 = 0 then (some ((-1001), h5)) else (if x2 < 0 then (some ((-1002), h5)) else (if x2 ≤ 24 then (bO (ag h5 29 4 x1) (fun v37 => lt' ((if (h5.1 4 0) < (v37 + x2) then (h5.1 4 0) else (v37 + x2))) (fun x3_50 => bO (ag h5 30 4 x1) (fun v63 => bP (f_X7_weightIn 4 v63 h5) (fun r64 h64 => bO (f_X8_firstOnes x3_50) (fun r72 => bP (f_X7_weightIn 4 r72 h64) (fun r75 h75 => some ((r64 - r75), h75)))))))) else (some ((-1002), h5)))))
set_option maxHeartbeats 4000000 in
set_option maxRecDepth 100000 in
theorem k_X8_later (l : Launch) {G : GC} (hG : GOK G) {x1 : Int32} {x2 : Int32} {rr : Int32} {h hh : PH} (hf : f_X8_later x1 x2 h = some (rr, hh)) : CI l yX8_later vX8_later rmX8_later G [.ref (gB G 0), .int x1, .int x2] h rr hh := by
  refine Met.ofW (cc := cX8_later) (maxL := 4) (ret := (some .int)) (by decide +kernel) rfl ?_
  intro p e s m args below meth c s₁ B hml hv
  obtain ⟨rfl, hP, hK⟩ := hv
  have C : MC l G p s m _ meth c RX8 cX8_later 4 (some .int) := ⟨B.exec, B.bytes, B.returns, B.notSynchronized, hml, findClass_of_methodNamed B.named, fun w hw => atoms_spec (ws := vX8_later) B.pre w (List.mem_cons_of_mem _ hw), hK⟩
  obtain ⟨hx, hb, hr, hlocks, -, hown, hts, -⟩ := id C
  have hl := lv_entry ([.ref (gB G 0), .int x1, .int x2]) (n := 4) (Nat.le_of_ble_eq_true rfl)
  rw [lg_entry_eq]
  generalize (lg_sl ([.ref (gB G 0), .int x1, .int x2]) ++ List.replicate (4 - (lg_sl ([.ref (gB G 0), .int x1, .int x2])).length) Slot.unset).toArray = ls at hl ⊢
  have hl : lv_has ls 4 [(0, .ref (gB G 0)), (1, .int x1), (2, .int x2)] := hl
  have hS : SP G s s.heap [] := va_S.rf
  replace hP : WP G h s.heap := hP
  rw [f_X8_later] at hf
  refine lv_aload_n hx hb dX8_later_0 rfl (lv_at hl 0 rfl) ?_
  refine r_get (a := 0) (v := .ref (gB G 28)) (C := RX8) (T := TX8) (N := 14) hx hb hts hinX8 hown hK hP (ltX8 rfl) (ceX8 rfl) rfl 6 (by decide) wd368 rfl dX8_later_1 ?_
  refine lv_iload_n hx hb dX8_later_4 rfl (lv_at hl 1 rfl) ?_
  obtain ⟨r5, h5, er5, hf⟩ := bP_s hf
  refine r_callI (va_runV (As := [.int x1]) (rest := []) ⟨hx, hb, hml, hown, hts⟩ (k_X0_hasLine l hG 28 (Or.inl rfl) er5) (cwV 1 hts (gV wd684 wd685 wd686 wd78 wd687) rfl rfl rfl (by decide +kernel) ⟨Nat.le_of_ble_eq_true rfl, Nat.le_of_ble_eq_true rfl⟩) (r_pv hK hP hS (ltX0 (Or.inl rfl)) (ceX0 (Or.inl rfl)) rfl) rfl rfl hl.1 rfl (lv_room (Nat.le_of_ble_eq_true rfl)) dX8_later_5 ⟨Nat.le_of_ble_eq_true rfl, Nat.le_of_ble_eq_true rfl⟩) hS (fun H locs hP hS => ?_)
  refine lv_if_ne (tgt := 15) hx hb dX8_later_8 (by decide) (fun c8 => ?_) (fun c8 => ?_)
  · replace hf := if_f c8 hf
    refine lv_iload_n hx hb dX8_later_15 rfl (lv_at hl 2 rfl) ?_
    refine lv_if_lt (tgt := 25) hx hb dX8_later_16 (by decide) (fun c16 => ?_) (fun c16 => ?_)
    · replace hf := if_t c16 hf
      refine lv_sipush (v := (-1002)) hx hb dX8_later_25 (by decide) ?_
      exact r_iret hx hb hr hlocks hP hS (re2 (Option.some.inj hf)) dX8_later_28
    · replace hf := if_f c16 hf
      refine lv_iload_n hx hb dX8_later_19 rfl (lv_at hl 2 rfl) ?_
      refine lv_bipush (v := 24) hx hb dX8_later_20 (by decide) ?_
      refine lv_icmp_le (tgt := 29) hx hb dX8_later_22 (by decide) (fun c22 => ?_) (fun c22 => ?_)
      · replace hf := if_t c22 hf
        refine lv_aload_n hx hb dX8_later_29 rfl (lv_at hl 0 rfl) ?_
        refine r_get (a := 0) (v := .ref (gB G 28)) (C := RX8) (T := TX8) (N := 14) hx hb hts hinX8 hown hK hP (ltX8 rfl) (ceX8 rfl) rfl 6 (by decide) wd368 rfl dX8_later_30 ?_
        refine r_get (a := 28) (v := .ref (gB G 29)) (C := RX0) (T := TX0) (N := 10) hx hb hts hinX0 hown hK hP (ltX0 (Or.inl rfl)) (ceX0 (Or.inl rfl)) rfl 1 (by decide) wd238 rfl dX8_later_33 ?_
        refine lv_iload_n hx hb dX8_later_36 rfl (lv_at hl 1 rfl) ?_
        obtain ⟨v37, ev37, hf⟩ := bO_s hf
        refine r_iald hx hb hK hP (arX0_1 (Or.inl rfl)) ev37 dX8_later_37 ?_
        refine lv_iload_n hx hb dX8_later_38 rfl (lv_at hl 2 rfl) ?_
        refine lv_iadd hx hb dX8_later_39 ?_
        refine lv_aload_n hx hb dX8_later_40 rfl (lv_at hl 0 rfl) ?_
        refine r_get (a := 0) (v := .ref (gB G 4)) (C := RX8) (T := TX8) (N := 14) hx hb hts hinX8 hown hK hP (ltX8 rfl) (ceX8 rfl) rfl 2 (by decide) wd364 rfl dX8_later_41 ?_
        refine r_get (a := 4) (v := .int (h5.1 4 0)) (C := RX7) (T := TX7) (N := 10) hx hb hts hinX7 hown hK hP (ltX7 (Or.inl rfl)) (ceX7 (Or.inl rfl)) rfl 0 (by decide) wd156 rfl dX8_later_44 ?_
        refine va_mmin hx hb (by rw [hml]; exact hl.1.symm) hown (hts _ wd834) (hts _ wd835) (hts _ wd89) (hts _ wd836) (Nat.le_of_ble_eq_true rfl) (Nat.le_of_ble_eq_true rfl) (Nat.le_refl _) (Nat.le_refl _) dX8_later_47 ?_
        refine lv_topi (fun x3_50 ex3_50 => ?_)
        replace hf := lt_at ex3_50 hf
        refine lv_istore_n (lv' := [(3, .int x3_50), (0, .ref (gB G 0)), (1, .int x1), (2, .int x2)]) hx hb dX8_later_50 rfl hl (by decide) rfl (fun ls hl => ?_)
        refine lv_aload_n hx hb dX8_later_51 rfl (lv_at hl 1 rfl) ?_
        refine r_get (a := 0) (v := .ref (gB G 4)) (C := RX8) (T := TX8) (N := 14) hx hb hts hinX8 hown hK hP (ltX8 rfl) (ceX8 rfl) rfl 2 (by decide) wd364 rfl dX8_later_52 ?_
        refine lv_aload_n hx hb dX8_later_55 rfl (lv_at hl 1 rfl) ?_
        refine r_get (a := 0) (v := .ref (gB G 28)) (C := RX8) (T := TX8) (N := 14) hx hb hts hinX8 hown hK hP (ltX8 rfl) (ceX8 rfl) rfl 6 (by decide) wd368 rfl dX8_later_56 ?_
        refine r_get (a := 28) (v := .ref (gB G 30)) (C := RX0) (T := TX0) (N := 10) hx hb hts hinX0 hown hK hP (ltX0 (Or.inl rfl)) (ceX0 (Or.inl rfl)) rfl 2 (by decide) wd242 rfl dX8_later_59 ?_
        refine lv_iload_n hx hb dX8_later_62 rfl (lv_at hl 2 rfl) ?_
        obtain ⟨v63, ev63, hf⟩ := bO_s hf
        refine r_iald hx hb hK hP (arX0_2 (Or.inl rfl)) ev63 dX8_later_63 ?_
        obtain ⟨r64, h64, er64, hf⟩ := bP_s hf
        refine r_callI (va_runV (As := [.int v63]) (rest := []) ⟨hx, hb, hml, hown, hts⟩ (k_X7_weightIn l hG 4 (Or.inl rfl) er64) (cwV 1 hts (gV wd837 wd838 wd839 wd76 wd840) rfl rfl rfl (by decide +kernel) ⟨Nat.le_of_ble_eq_true rfl, Nat.le_of_ble_eq_true rfl⟩) (r_pv hK hP hS (ltX7 (Or.inl rfl)) (ceX7 (Or.inl rfl)) rfl) rfl rfl hl.1 rfl (lv_room (Nat.le_of_ble_eq_true rfl)) dX8_later_64 ⟨Nat.le_of_ble_eq_true rfl, Nat.le_of_ble_eq_true rfl⟩) hS (fun H locs hP hS => ?_)
        refine lv_aload_n hx hb dX8_later_67 rfl (lv_at hl 1 rfl) ?_
        refine r_get (a := 0) (v := .ref (gB G 4)) (C := RX8) (T := TX8) (N := 14) hx hb hts hinX8 hown hK hP (ltX8 rfl) (ceX8 rfl) rfl 2 (by decide) wd364 rfl dX8_later_68 ?_
        refine lv_iload_n hx hb dX8_later_71 rfl (lv_at hl 0 rfl) ?_
        obtain ⟨r72, er72, hf⟩ := bO_s hf
        refine r_callI (va_runS (As := [.int x3_50]) (rest := [.ref (gB G 4), .int r64]) ⟨hx, hb, hml, hown, hts⟩ (k_X8_firstOnes l hG (h := h64) er72) (va_cwS 1 hts (gS wd813 wd677 wd73 wd678) rfl rfl rfl (by decide +kernel) ⟨Nat.le_of_ble_eq_true rfl, Nat.le_of_ble_eq_true rfl⟩) (r_ps hK hP hS) rfl rfl hl.1 rfl (lv_room (Nat.le_of_ble_eq_true rfl)) dX8_later_72 ⟨Nat.le_of_ble_eq_true rfl, Nat.le_of_ble_eq_true rfl⟩) hS (fun H locs hP hS => ?_)
        obtain ⟨r75, h75, er75, hf⟩ := bP_s hf
        refine r_callI (va_runV (As := [.int r72]) (rest := [.int r64]) ⟨hx, hb, hml, hown, hts⟩ (k_X7_weightIn l hG 4 (Or.inl rfl) er75) (cwV 1 hts (gV wd837 wd838 wd839 wd76 wd840) rfl rfl rfl (by decide +kernel) ⟨Nat.le_of_ble_eq_true rfl, Nat.le_of_ble_eq_true rfl⟩) (r_pv hK hP hS (ltX7 (Or.inl rfl)) (ceX7 (Or.inl rfl)) rfl) rfl rfl hl.1 rfl (lv_room (Nat.le_of_ble_eq_true rfl)) dX8_later_75 ⟨Nat.le_of_ble_eq_true rfl, Nat.le_of_ble_eq_true rfl⟩) hS (fun H locs hP hS => ?_)
        refine lv_isub hx hb dX8_later_78 ?_
        exact r_iret hx hb hr hlocks hP hS (re2 (Option.some.inj hf)) dX8_later_79
      · replace hf := if_f c22 hf
        refine lv_sipush (v := (-1002)) hx hb dX8_later_25 (by decide) ?_
        exact r_iret hx hb hr hlocks hP hS (re2 (Option.some.inj hf)) dX8_later_28
  · replace hf := if_t c8 hf
    refine lv_sipush (v := (-1001)) hx hb dX8_later_11 (by decide) ?_
    exact r_iret hx hb hr hlocks hP hS (re2 (Option.some.inj hf)) dX8_later_14
/-! CarriedBack.isDay(I)Z -/
abbrev rmX8_isDay : Room := { frames := 0, cells := 0, slots := 0, locals := 0 }
abbrev vX8_isDay : List Cond := Cond.code yX8_isDay cX8_isDay 1 (some .boolean) :: GW
def f_X8_isDay (x0 : Int32) : Option Int32 := if x0 < 0 then (some 0) else (if (999 : Int32) < x0 then (some 0) else (some 1))
set_option maxHeartbeats 4000000 in
set_option maxRecDepth 100000 in
theorem k_X8_isDay (l : Launch) {G : GC} (hG : GOK G) {x0 : Int32} {rr : Int32} {h : PH} (hf : f_X8_isDay x0 = some rr) : CI l yX8_isDay vX8_isDay rmX8_isDay G [.int x0] h rr h := by
  refine Met.ofW (cc := cX8_isDay) (maxL := 1) (ret := (some .boolean)) (by decide +kernel) rfl ?_
  intro p e s m args below meth c s₁ B hml hv
  obtain ⟨rfl, hP, hK⟩ := hv
  have C : MC l G p s m _ meth c RX8 cX8_isDay 1 (some .boolean) := ⟨B.exec, B.bytes, B.returns, B.notSynchronized, hml, findClass_of_methodNamed B.named, fun w hw => atoms_spec (ws := vX8_isDay) B.pre w (List.mem_cons_of_mem _ hw), hK⟩
  obtain ⟨hx, hb, hr, hlocks, -, hown, hts, -⟩ := id C
  have hl := lv_entry ([.int x0]) (n := 1) (Nat.le_of_ble_eq_true rfl)
  rw [lg_entry_eq]
  generalize (lg_sl ([.int x0]) ++ List.replicate (1 - (lg_sl ([.int x0])).length) Slot.unset).toArray = ls at hl ⊢
  have hl : lv_has ls 1 [(0, .int x0)] := hl
  have hS : SP G s s.heap [] := va_S.rf
  replace hP : WP G h s.heap := hP
  rw [f_X8_isDay] at hf
  refine lv_iload_n hx hb dX8_isDay_0 rfl (lv_at hl 0 rfl) ?_
  refine lv_if_lt (tgt := 15) hx hb dX8_isDay_1 (by decide) (fun c1 => ?_) (fun c1 => ?_)
  · replace hf := if_t c1 hf
    refine lv_iconst (v := 0) hx hb dX8_isDay_15 (by decide) ?_
    exact r_zret hx hb hr rfl hlocks hP hS ⟨Option.some.inj hf, rfl⟩ dX8_isDay_16
  · replace hf := if_f c1 hf
    refine lv_iload_n hx hb dX8_isDay_4 rfl (lv_at hl 0 rfl) ?_
    refine lv_sipush (v := 999) hx hb dX8_isDay_5 (by decide) ?_
    refine lv_icmp_gt (tgt := 15) hx hb dX8_isDay_8 (by decide) (fun c8 => ?_) (fun c8 => ?_)
    · replace hf := if_t c8 hf
      refine lv_iconst (v := 0) hx hb dX8_isDay_15 (by decide) ?_
      exact r_zret hx hb hr rfl hlocks hP hS ⟨Option.some.inj hf, rfl⟩ dX8_isDay_16
    · replace hf := if_f c8 hf
      refine lv_iconst (v := 1) hx hb dX8_isDay_11 (by decide) ?_
      refine lv_goto (tgt := 16) hx hb dX8_isDay_12 (by decide) ?_
      exact r_zret hx hb hr rfl hlocks hP hS ⟨Option.some.inj hf, rfl⟩ dX8_isDay_16
/-! CarriedBack$Book.lastDay()I -/
abbrev rmX0_lastDay : Room := { frames := 0, cells := 0, slots := 0, locals := 0 }
abbrev vX0_lastDay : List Cond := Cond.code yX0_lastDay cX0_lastDay 1 (some .int) :: GW
def f_X0_lastDay (a0 : Nat) (h : PH) : Option (Int32 × PH) := if (h.1 a0 5) = 0 then (some (0, h)) else (bO (ag h (a0 + 6) 20 ((h.1 a0 5) - 1)) (fun v21 => some (v21, h)))
set_option maxHeartbeats 4000000 in
set_option maxRecDepth 100000 in
theorem k_X0_lastDay (l : Launch) {G : GC} (hG : GOK G) (a0 : Nat) (ha0 : kdX0 a0) {rr : Int32} {h hh : PH} (hf : f_X0_lastDay a0 h = some (rr, hh)) : CI l yX0_lastDay vX0_lastDay rmX0_lastDay G [.ref (gB G a0)] h rr hh := by
  refine Met.ofW (cc := cX0_lastDay) (maxL := 1) (ret := (some .int)) (by decide +kernel) rfl ?_
  intro p e s m args below meth c s₁ B hml hv
  obtain ⟨rfl, hP, hK⟩ := hv
  have C : MC l G p s m _ meth c RX0 cX0_lastDay 1 (some .int) := ⟨B.exec, B.bytes, B.returns, B.notSynchronized, hml, findClass_of_methodNamed B.named, fun w hw => atoms_spec (ws := vX0_lastDay) B.pre w (List.mem_cons_of_mem _ hw), hK⟩
  obtain ⟨hx, hb, hr, hlocks, -, hown, hts, -⟩ := id C
  have hl := lv_entry ([.ref (gB G a0)]) (n := 1) (Nat.le_of_ble_eq_true rfl)
  rw [lg_entry_eq]
  generalize (lg_sl ([.ref (gB G a0)]) ++ List.replicate (1 - (lg_sl ([.ref (gB G a0)])).length) Slot.unset).toArray = ls at hl ⊢
  have hl : lv_has ls 1 [(0, .ref (gB G a0))] := hl
  have hS : SP G s s.heap [] := va_S.rf
  replace hP : WP G h s.heap := hP
  rw [f_X0_lastDay] at hf
  refine lv_aload_n hx hb dX0_lastDay_0 rfl (lv_at hl 0 rfl) ?_
  refine r_get (a := a0) (v := .int (h.1 a0 5)) (C := RX0) (T := TX0) (N := 10) hx hb hts hinX0 hown hK hP (ltX0 ha0) (ceX0 ha0) rfl 5 (by decide) wd248 rfl dX0_lastDay_1 ?_
  refine lv_if_ne (tgt := 11) hx hb dX0_lastDay_4 (by decide) (fun c4 => ?_) (fun c4 => ?_)
  · replace hf := if_f c4 hf
    refine lv_aload_n hx hb dX0_lastDay_11 rfl (lv_at hl 0 rfl) ?_
    refine r_get (a := a0) (v := .ref (gB G (a0 + 6))) (C := RX0) (T := TX0) (N := 10) hx hb hts hinX0 hown hK hP (ltX0 ha0) (ceX0 ha0) rfl 7 (by decide) wd252 rfl dX0_lastDay_12 ?_
    refine lv_aload_n hx hb dX0_lastDay_15 rfl (lv_at hl 0 rfl) ?_
    refine r_get (a := a0) (v := .int (h.1 a0 5)) (C := RX0) (T := TX0) (N := 10) hx hb hts hinX0 hown hK hP (ltX0 ha0) (ceX0 ha0) rfl 5 (by decide) wd248 rfl dX0_lastDay_16 ?_
    refine lv_iconst (v := 1) hx hb dX0_lastDay_19 (by decide) ?_
    refine lv_isub hx hb dX0_lastDay_20 ?_
    obtain ⟨v21, ev21, hf⟩ := bO_s hf
    refine r_iald hx hb hK hP (arX0_7 ha0) ev21 dX0_lastDay_21 ?_
    exact r_iret hx hb hr hlocks hP hS (re2 (Option.some.inj hf)) dX0_lastDay_22
  · replace hf := if_t c4 hf
    refine lv_iconst (v := 0) hx hb dX0_lastDay_7 (by decide) ?_
    refine lv_goto (tgt := 22) hx hb dX0_lastDay_8 (by decide) ?_
    exact r_iret hx hb hr hlocks hP hS (re2 (Option.some.inj hf)) dX0_lastDay_22
/-! CarriedBack$Book.addRelease(II)I -/
abbrev rmX0_addRelease : Room := { frames := 1, cells := 0, slots := 0, locals := 30 }
abbrev vX0_addRelease : List Cond := Cond.code yX0_addRelease cX0_addRelease 4 (some .int) :: GW
def f_X0_addRelease (a0 : Nat) (x1 : Int32) (x2 : Int32) (h : PH) : Option (Int32 × PH) := lt' ((h.1 a0 5)) (fun x3_4 => bO (asg h (a0 + 5) 20 x3_4 x1) (fun h11 => bO (asg h11 (a0 + 6) 20 x3_4 x2) (fun h18 => bO (ag h18 (a0 + 2) 4 x1) (fun v29 => bO (asg h18 (a0 + 7) 20 x3_4 v29) (fun h30 => bO (cpy h30 (a0 + 4) 64 (x1 * 16) (a0 + 8) 320 (x3_4 * 16) 16) (fun h49 => lt' (hU h49 a0 5 (x3_4 + 1)) (fun h56 => some (x3_4, h56))))))))
set_option maxHeartbeats 4000000 in
set_option maxRecDepth 100000 in
theorem k_X0_addRelease (l : Launch) {G : GC} (hG : GOK G) (a0 : Nat) (ha0 : kdX0 a0) {x1 : Int32} {x2 : Int32} {rr : Int32} {h hh : PH} (hf : f_X0_addRelease a0 x1 x2 h = some (rr, hh)) : CI l yX0_addRelease vX0_addRelease rmX0_addRelease G [.ref (gB G a0), .int x1, .int x2] h rr hh := by
  refine Met.ofW (cc := cX0_addRelease) (maxL := 4) (ret := (some .int)) (by decide +kernel) rfl ?_
  intro p e s m args below meth c s₁ B hml hv
  obtain ⟨rfl, hP, hK⟩ := hv
  have C : MC l G p s m _ meth c RX0 cX0_addRelease 4 (some .int) := ⟨B.exec, B.bytes, B.returns, B.notSynchronized, hml, findClass_of_methodNamed B.named, fun w hw => atoms_spec (ws := vX0_addRelease) B.pre w (List.mem_cons_of_mem _ hw), hK⟩
  obtain ⟨hx, hb, hr, hlocks, -, hown, hts, -⟩ := id C
  have hl := lv_entry ([.ref (gB G a0), .int x1, .int x2]) (n := 4) (Nat.le_of_ble_eq_true rfl)
  rw [lg_entry_eq]
  generalize (lg_sl ([.ref (gB G a0), .int x1, .int x2]) ++ List.replicate (4 - (lg_sl ([.ref (gB G a0), .int x1, .int x2])).length) Slot.unset).toArray = ls at hl ⊢
  have hl : lv_has ls 4 [(0, .ref (gB G a0)), (1, .int x1), (2, .int x2)] := hl
  have hS : SP G s s.heap [] := va_S.rf
  replace hP : WP G h s.heap := hP
  rw [f_X0_addRelease] at hf
  refine lv_aload_n hx hb dX0_addRelease_0 rfl (lv_at hl 0 rfl) ?_
  refine r_get (a := a0) (v := .int (h.1 a0 5)) (C := RX0) (T := TX0) (N := 10) hx hb hts hinX0 hown hK hP (ltX0 ha0) (ceX0 ha0) rfl 5 (by decide) wd248 rfl dX0_addRelease_1 ?_
  refine lv_topi (fun x3_4 ex3_4 => ?_)
  replace hf := lt_at ex3_4 hf
  refine lv_istore_n (lv' := [(3, .int x3_4), (0, .ref (gB G a0)), (1, .int x1), (2, .int x2)]) hx hb dX0_addRelease_4 rfl hl (by decide) rfl (fun ls hl => ?_)
  refine lv_aload_n hx hb dX0_addRelease_5 rfl (lv_at hl 1 rfl) ?_
  refine r_get (a := a0) (v := .ref (gB G (a0 + 5))) (C := RX0) (T := TX0) (N := 10) hx hb hts hinX0 hown hK hP (ltX0 ha0) (ceX0 ha0) rfl 6 (by decide) wd250 rfl dX0_addRelease_6 ?_
  refine lv_iload_n hx hb dX0_addRelease_9 rfl (lv_at hl 0 rfl) ?_
  refine lv_iload_n hx hb dX0_addRelease_10 rfl (lv_at hl 2 rfl) ?_
  obtain ⟨h11, eh11, hf⟩ := bO_s hf
  refine r_iast hG hx hb hK hP hS (arX0_6 ha0) eh11 dX0_addRelease_11 (fun H locs hP hS => ?_)
  refine lv_aload_n hx hb dX0_addRelease_12 rfl (lv_at hl 1 rfl) ?_
  refine r_get (a := a0) (v := .ref (gB G (a0 + 6))) (C := RX0) (T := TX0) (N := 10) hx hb hts hinX0 hown hK hP (ltX0 ha0) (ceX0 ha0) rfl 7 (by decide) wd252 rfl dX0_addRelease_13 ?_
  refine lv_iload_n hx hb dX0_addRelease_16 rfl (lv_at hl 0 rfl) ?_
  refine lv_iload_n hx hb dX0_addRelease_17 rfl (lv_at hl 3 rfl) ?_
  obtain ⟨h18, eh18, hf⟩ := bO_s hf
  refine r_iast hG hx hb hK hP hS (arX0_7 ha0) eh18 dX0_addRelease_18 (fun H locs hP hS => ?_)
  refine lv_aload_n hx hb dX0_addRelease_19 rfl (lv_at hl 1 rfl) ?_
  refine r_get (a := a0) (v := .ref (gB G (a0 + 7))) (C := RX0) (T := TX0) (N := 10) hx hb hts hinX0 hown hK hP (ltX0 ha0) (ceX0 ha0) rfl 8 (by decide) wd254 rfl dX0_addRelease_20 ?_
  refine lv_iload_n hx hb dX0_addRelease_23 rfl (lv_at hl 0 rfl) ?_
  refine lv_aload_n hx hb dX0_addRelease_24 rfl (lv_at hl 1 rfl) ?_
  refine r_get (a := a0) (v := .ref (gB G (a0 + 2))) (C := RX0) (T := TX0) (N := 10) hx hb hts hinX0 hown hK hP (ltX0 ha0) (ceX0 ha0) rfl 2 (by decide) wd239 rfl dX0_addRelease_25 ?_
  refine lv_iload_n hx hb dX0_addRelease_28 rfl (lv_at hl 2 rfl) ?_
  obtain ⟨v29, ev29, hf⟩ := bO_s hf
  refine r_iald hx hb hK hP (arX0_2 ha0) ev29 dX0_addRelease_29 ?_
  obtain ⟨h30, eh30, hf⟩ := bO_s hf
  refine r_iast hG hx hb hK hP hS (arX0_8 ha0) eh30 dX0_addRelease_30 (fun H locs hP hS => ?_)
  refine lv_aload_n hx hb dX0_addRelease_31 rfl (lv_at hl 1 rfl) ?_
  refine r_get (a := a0) (v := .ref (gB G (a0 + 4))) (C := RX0) (T := TX0) (N := 10) hx hb hts hinX0 hown hK hP (ltX0 ha0) (ceX0 ha0) rfl 4 (by decide) wd245 rfl dX0_addRelease_32 ?_
  refine lv_iload_n hx hb dX0_addRelease_35 rfl (lv_at hl 2 rfl) ?_
  refine lv_bipush (v := 16) hx hb dX0_addRelease_36 (by decide) ?_
  refine lv_imul hx hb dX0_addRelease_38 ?_
  refine lv_aload_n hx hb dX0_addRelease_39 rfl (lv_at hl 1 rfl) ?_
  refine r_get (a := a0) (v := .ref (gB G (a0 + 8))) (C := RX0) (T := TX0) (N := 10) hx hb hts hinX0 hown hK hP (ltX0 ha0) (ceX0 ha0) rfl 9 (by decide) wd256 rfl dX0_addRelease_40 ?_
  refine lv_iload_n hx hb dX0_addRelease_43 rfl (lv_at hl 0 rfl) ?_
  refine lv_bipush (v := 16) hx hb dX0_addRelease_44 (by decide) ?_
  refine lv_imul hx hb dX0_addRelease_46 ?_
  refine lv_bipush (v := 16) hx hb dX0_addRelease_47 (by decide) ?_
  obtain ⟨h49, eh49, hf⟩ := bO_s hf
  refine r_cpy hG hx hb (by rw [hml]; exact hl.1.symm) hown hts wd679 wd553 wd552 wd87 hK hP hS (arX0_4 ha0) (arX0_9 ha0) eh49 (Nat.le_of_ble_eq_true rfl) (Nat.le_of_ble_eq_true rfl) dX0_addRelease_49 (fun H locs hP hS => ?_)
  refine lv_aload_n hx hb dX0_addRelease_52 rfl (lv_at hl 1 rfl) ?_
  refine lv_iload_n hx hb dX0_addRelease_53 rfl (lv_at hl 0 rfl) ?_
  refine lv_iconst (v := 1) hx hb dX0_addRelease_54 (by decide) ?_
  refine lv_iadd hx hb dX0_addRelease_55 ?_
  obtain ⟨h56, eh56⟩ : ∃ y, y = hU h49 a0 5 (x3_4 + 1) := ⟨_, rfl⟩
  replace hf := lt_at eh56 hf
  refine r_put (a := a0) (v := .int (x3_4 + 1)) (ty := .int) (h' := h56) (C := RX0) (T := TX0) (N := 10) hG hx hb hts hinX0 tyX0 tyX0_ok nmX0 hown hK hP hS (ltX0 ha0) (ceX0 ha0) rfl 5 (by decide) wd248 rfl (by decide +kernel) rfl rfl (Nat.le_of_ble_eq_true rfl) (by rw [eh56]; exact fun j hj => cE_U hj) (by rw [eh56]; exact puX0_5 ha0 _) dX0_addRelease_56 (fun H locs hP hS => ?_)
  refine lv_iload_n hx hb dX0_addRelease_59 rfl (lv_at hl 0 rfl) ?_
  exact r_iret hx hb hr hlocks hP hS (re2 (Option.some.inj hf)) dX0_addRelease_60
/-! CarriedBack.release(II)I -/
abbrev rmX8_release : Room := { frames := 2, cells := 0, slots := 0, locals := 53 }
abbrev vX8_release : List Cond := Cond.code yX8_release cX8_release 3 (some .int) :: GW
def f_X8_release (x1 : Int32) (x2 : Int32) (h : PH) : Option (Int32 × PH) := bP (f_X0_hasLine 28 x1 h) (fun r5 h5 => if r5 = 0 then (some ((-1001), h5)) else (bO (f_X8_isDay x2) (fun r16 => if r16 = 0 then (some ((-1002), h5)) else (bP (f_X0_lastDay 28 h5) (fun r31 h31 => if r31 ≤ x2 then (if (h31.1 28 5) < 20 then (bP (f_X0_addRelease 28 x1 x2 h31) (fun r63 h63 => some (r63, h63))) else (some ((-1004), h31))) else (some ((-1003), h31)))))))
set_option maxHeartbeats 4000000 in
set_option maxRecDepth 100000 in
theorem k_X8_release (l : Launch) {G : GC} (hG : GOK G) {x1 : Int32} {x2 : Int32} {rr : Int32} {h hh : PH} (hf : f_X8_release x1 x2 h = some (rr, hh)) : CI l yX8_release vX8_release rmX8_release G [.ref (gB G 0), .int x1, .int x2] h rr hh := by
  refine Met.ofW (cc := cX8_release) (maxL := 3) (ret := (some .int)) (by decide +kernel) rfl ?_
  intro p e s m args below meth c s₁ B hml hv
  obtain ⟨rfl, hP, hK⟩ := hv
  have C : MC l G p s m _ meth c RX8 cX8_release 3 (some .int) := ⟨B.exec, B.bytes, B.returns, B.notSynchronized, hml, findClass_of_methodNamed B.named, fun w hw => atoms_spec (ws := vX8_release) B.pre w (List.mem_cons_of_mem _ hw), hK⟩
  obtain ⟨hx, hb, hr, hlocks, -, hown, hts, -⟩ := id C
  have hl := lv_entry ([.ref (gB G 0), .int x1, .int x2]) (n := 3) (Nat.le_of_ble_eq_true rfl)
  rw [lg_entry_eq]
  generalize (lg_sl ([.ref (gB G 0), .int x1, .int x2]) ++ List.replicate (3 - (lg_sl ([.ref (gB G 0), .int x1, .int x2])).length) Slot.unset).toArray = ls at hl ⊢
  have hl : lv_has ls 3 [(0, .ref (gB G 0)), (1, .int x1), (2, .int x2)] := hl
  have hS : SP G s s.heap [] := va_S.rf
  replace hP : WP G h s.heap := hP
  rw [f_X8_release] at hf
  refine lv_aload_n hx hb dX8_release_0 rfl (lv_at hl 0 rfl) ?_
  refine r_get (a := 0) (v := .ref (gB G 28)) (C := RX8) (T := TX8) (N := 14) hx hb hts hinX8 hown hK hP (ltX8 rfl) (ceX8 rfl) rfl 6 (by decide) wd368 rfl dX8_release_1 ?_
  refine lv_iload_n hx hb dX8_release_4 rfl (lv_at hl 1 rfl) ?_
  obtain ⟨r5, h5, er5, hf⟩ := bP_s hf
  refine r_callI (va_runV (As := [.int x1]) (rest := []) ⟨hx, hb, hml, hown, hts⟩ (k_X0_hasLine l hG 28 (Or.inl rfl) er5) (cwV 1 hts (gV wd684 wd685 wd686 wd78 wd687) rfl rfl rfl (by decide +kernel) ⟨Nat.le_of_ble_eq_true rfl, Nat.le_of_ble_eq_true rfl⟩) (r_pv hK hP hS (ltX0 (Or.inl rfl)) (ceX0 (Or.inl rfl)) rfl) rfl rfl hl.1 rfl (lv_room (Nat.le_of_ble_eq_true rfl)) dX8_release_5 ⟨Nat.le_of_ble_eq_true rfl, Nat.le_of_ble_eq_true rfl⟩) hS (fun H locs hP hS => ?_)
  refine lv_if_ne (tgt := 15) hx hb dX8_release_8 (by decide) (fun c8 => ?_) (fun c8 => ?_)
  · replace hf := if_f c8 hf
    refine lv_iload_n hx hb dX8_release_15 rfl (lv_at hl 2 rfl) ?_
    obtain ⟨r16, er16, hf⟩ := bO_s hf
    refine r_callI (va_runS (As := [.int x2]) (rest := []) ⟨hx, hb, hml, hown, hts⟩ (k_X8_isDay l hG (h := h5) er16) (va_cwS 1 hts (gS wd847 wd848 wd73 wd849) rfl rfl rfl (by decide +kernel) ⟨Nat.le_of_ble_eq_true rfl, Nat.le_of_ble_eq_true rfl⟩) (r_ps hK hP hS) rfl rfl hl.1 rfl (lv_room (Nat.le_of_ble_eq_true rfl)) dX8_release_16 ⟨Nat.le_of_ble_eq_true rfl, Nat.le_of_ble_eq_true rfl⟩) hS (fun H locs hP hS => ?_)
    refine lv_if_ne (tgt := 26) hx hb dX8_release_19 (by decide) (fun c19 => ?_) (fun c19 => ?_)
    · replace hf := if_f c19 hf
      refine lv_iload_n hx hb dX8_release_26 rfl (lv_at hl 2 rfl) ?_
      refine lv_aload_n hx hb dX8_release_27 rfl (lv_at hl 0 rfl) ?_
      refine r_get (a := 0) (v := .ref (gB G 28)) (C := RX8) (T := TX8) (N := 14) hx hb hts hinX8 hown hK hP (ltX8 rfl) (ceX8 rfl) rfl 6 (by decide) wd368 rfl dX8_release_28 ?_
      obtain ⟨r31, h31, er31, hf⟩ := bP_s hf
      refine r_callI (va_runV (As := []) (rest := [.int x2]) ⟨hx, hb, hml, hown, hts⟩ (k_X0_lastDay l hG 28 (Or.inl rfl) er31) (cwV 0 hts (gV wd850 wd851 wd852 wd78 wd853) rfl rfl rfl (by decide +kernel) ⟨Nat.le_of_ble_eq_true rfl, Nat.le_of_ble_eq_true rfl⟩) (r_pv hK hP hS (ltX0 (Or.inl rfl)) (ceX0 (Or.inl rfl)) rfl) rfl rfl hl.1 rfl (lv_room (Nat.le_of_ble_eq_true rfl)) dX8_release_31 ⟨Nat.le_of_ble_eq_true rfl, Nat.le_of_ble_eq_true rfl⟩) hS (fun H locs hP hS => ?_)
      refine lv_icmp_ge (tgt := 41) hx hb dX8_release_34 (by decide) (fun c34 => ?_) (fun c34 => ?_)
      · replace hf := if_t c34 hf
        refine lv_aload_n hx hb dX8_release_41 rfl (lv_at hl 0 rfl) ?_
        refine r_get (a := 0) (v := .ref (gB G 28)) (C := RX8) (T := TX8) (N := 14) hx hb hts hinX8 hown hK hP (ltX8 rfl) (ceX8 rfl) rfl 6 (by decide) wd368 rfl dX8_release_42 ?_
        refine r_get (a := 28) (v := .int (h31.1 28 5)) (C := RX0) (T := TX0) (N := 10) hx hb hts hinX0 hown hK hP (ltX0 (Or.inl rfl)) (ceX0 (Or.inl rfl)) rfl 5 (by decide) wd249 rfl dX8_release_45 ?_
        refine lv_bipush (v := 20) hx hb dX8_release_48 (by decide) ?_
        refine lv_icmp_lt (tgt := 57) hx hb dX8_release_50 (by decide) (fun c50 => ?_) (fun c50 => ?_)
        · replace hf := if_t c50 hf
          refine lv_aload_n hx hb dX8_release_57 rfl (lv_at hl 0 rfl) ?_
          refine r_get (a := 0) (v := .ref (gB G 28)) (C := RX8) (T := TX8) (N := 14) hx hb hts hinX8 hown hK hP (ltX8 rfl) (ceX8 rfl) rfl 6 (by decide) wd368 rfl dX8_release_58 ?_
          refine lv_iload_n hx hb dX8_release_61 rfl (lv_at hl 1 rfl) ?_
          refine lv_iload_n hx hb dX8_release_62 rfl (lv_at hl 2 rfl) ?_
          obtain ⟨r63, h63, er63, hf⟩ := bP_s hf
          refine r_callI (va_runV (As := [.int x1, .int x2]) (rest := []) ⟨hx, hb, hml, hown, hts⟩ (k_X0_addRelease l hG 28 (Or.inl rfl) er63) (cwV 2 hts (gV wd854 wd855 wd856 wd78 wd857) rfl rfl rfl (by decide +kernel) ⟨Nat.le_of_ble_eq_true rfl, Nat.le_of_ble_eq_true rfl⟩) (r_pv hK hP hS (ltX0 (Or.inl rfl)) (ceX0 (Or.inl rfl)) rfl) rfl rfl hl.1 rfl (lv_room (Nat.le_of_ble_eq_true rfl)) dX8_release_63 ⟨Nat.le_of_ble_eq_true rfl, Nat.le_of_ble_eq_true rfl⟩) hS (fun H locs hP hS => ?_)
          exact r_iret hx hb hr hlocks hP hS (re2 (Option.some.inj hf)) dX8_release_66
        · replace hf := if_f c50 hf
          refine lv_sipush (v := (-1004)) hx hb dX8_release_53 (by decide) ?_
          exact r_iret hx hb hr hlocks hP hS (re2 (Option.some.inj hf)) dX8_release_56
      · replace hf := if_f c34 hf
        refine lv_sipush (v := (-1003)) hx hb dX8_release_37 (by decide) ?_
        exact r_iret hx hb hr hlocks hP hS (re2 (Option.some.inj hf)) dX8_release_40
    · replace hf := if_t c19 hf
      refine lv_sipush (v := (-1002)) hx hb dX8_release_22 (by decide) ?_
      exact r_iret hx hb hr hlocks hP hS (re2 (Option.some.inj hf)) dX8_release_25
  · replace hf := if_t c8 hf
    refine lv_sipush (v := (-1001)) hx hb dX8_release_11 (by decide) ?_
    exact r_iret hx hb hr hlocks hP hS (re2 (Option.some.inj hf)) dX8_release_14
/-! CarriedBack$Book.hasRelease(I)Z -/
abbrev rmX0_hasRelease : Room := { frames := 0, cells := 0, slots := 0, locals := 0 }
abbrev vX0_hasRelease : List Cond := Cond.code yX0_hasRelease cX0_hasRelease 2 (some .boolean) :: GW
def f_X0_hasRelease (a0 : Nat) (x1 : Int32) (h : PH) : Option (Int32 × PH) := if x1 < 0 then (some (0, h)) else (if (h.1 a0 5) ≤ x1 then (some (0, h)) else (some (1, h)))
set_option maxHeartbeats 4000000 in
set_option maxRecDepth 100000 in
theorem k_X0_hasRelease (l : Launch) {G : GC} (hG : GOK G) (a0 : Nat) (ha0 : kdX0 a0) {x1 : Int32} {rr : Int32} {h hh : PH} (hf : f_X0_hasRelease a0 x1 h = some (rr, hh)) : CI l yX0_hasRelease vX0_hasRelease rmX0_hasRelease G [.ref (gB G a0), .int x1] h rr hh := by
  refine Met.ofW (cc := cX0_hasRelease) (maxL := 2) (ret := (some .boolean)) (by decide +kernel) rfl ?_
  intro p e s m args below meth c s₁ B hml hv
  obtain ⟨rfl, hP, hK⟩ := hv
  have C : MC l G p s m _ meth c RX0 cX0_hasRelease 2 (some .boolean) := ⟨B.exec, B.bytes, B.returns, B.notSynchronized, hml, findClass_of_methodNamed B.named, fun w hw => atoms_spec (ws := vX0_hasRelease) B.pre w (List.mem_cons_of_mem _ hw), hK⟩
  obtain ⟨hx, hb, hr, hlocks, -, hown, hts, -⟩ := id C
  have hl := lv_entry ([.ref (gB G a0), .int x1]) (n := 2) (Nat.le_of_ble_eq_true rfl)
  rw [lg_entry_eq]
  generalize (lg_sl ([.ref (gB G a0), .int x1]) ++ List.replicate (2 - (lg_sl ([.ref (gB G a0), .int x1])).length) Slot.unset).toArray = ls at hl ⊢
  have hl : lv_has ls 2 [(0, .ref (gB G a0)), (1, .int x1)] := hl
  have hS : SP G s s.heap [] := va_S.rf
  replace hP : WP G h s.heap := hP
  rw [f_X0_hasRelease] at hf
  refine lv_iload_n hx hb dX0_hasRelease_0 rfl (lv_at hl 1 rfl) ?_
  refine lv_if_lt (tgt := 16) hx hb dX0_hasRelease_1 (by decide) (fun c1 => ?_) (fun c1 => ?_)
  · replace hf := if_t c1 hf
    refine lv_iconst (v := 0) hx hb dX0_hasRelease_16 (by decide) ?_
    exact r_zret hx hb hr rfl hlocks hP hS (re2 (Option.some.inj hf)) dX0_hasRelease_17
  · replace hf := if_f c1 hf
    refine lv_iload_n hx hb dX0_hasRelease_4 rfl (lv_at hl 1 rfl) ?_
    refine lv_aload_n hx hb dX0_hasRelease_5 rfl (lv_at hl 0 rfl) ?_
    refine r_get (a := a0) (v := .int (h.1 a0 5)) (C := RX0) (T := TX0) (N := 10) hx hb hts hinX0 hown hK hP (ltX0 ha0) (ceX0 ha0) rfl 5 (by decide) wd248 rfl dX0_hasRelease_6 ?_
    refine lv_icmp_ge (tgt := 16) hx hb dX0_hasRelease_9 (by decide) (fun c9 => ?_) (fun c9 => ?_)
    · replace hf := if_t c9 hf
      refine lv_iconst (v := 0) hx hb dX0_hasRelease_16 (by decide) ?_
      exact r_zret hx hb hr rfl hlocks hP hS (re2 (Option.some.inj hf)) dX0_hasRelease_17
    · replace hf := if_f c9 hf
      refine lv_iconst (v := 1) hx hb dX0_hasRelease_12 (by decide) ?_
      refine lv_goto (tgt := 17) hx hb dX0_hasRelease_13 (by decide) ?_
      exact r_zret hx hb hr rfl hlocks hP hS (re2 (Option.some.inj hf)) dX0_hasRelease_17
/-! CarriedBack.released(II)I -/
abbrev rmX8_released : Room := { frames := 3, cells := 0, slots := 0, locals := 67 }
abbrev vX8_released : List Cond := Cond.code yX8_released cX8_released 3 (some .int) :: GW
def f_X8_released (x1 : Int32) (x2 : Int32) (h : PH) : Option (Int32 × PH) := bP (f_X0_hasRelease 28 x1 h) (fun r5 h5 => if r5 = 0 then (some ((-1001), h5)) else (if x2 = 0 then (bO (ag h5 33 20 x1) (fun v56 => some (v56, h5))) else (if x2 = 1 then (bO (ag h5 34 20 x1) (fun v66 => some (v66, h5))) else (if x2 = 2 then (bO (ag h5 35 20 x1) (fun v76 => some (v76, h5))) else (if x2 = 3 then (bO (ag h5 35 20 x1) (fun v90 => bP (f_X7_faultsIn 4 v90 h5) (fun r91 h91 => some (r91, h91)))) else (some ((-1002), h5)))))))
set_option maxHeartbeats 4000000 in
set_option maxRecDepth 100000 in
theorem k_X8_released (l : Launch) {G : GC} (hG : GOK G) {x1 : Int32} {x2 : Int32} {rr : Int32} {h hh : PH} (hf : f_X8_released x1 x2 h = some (rr, hh)) : CI l yX8_released vX8_released rmX8_released G [.ref (gB G 0), .int x1, .int x2] h rr hh := by
  refine Met.ofW (cc := cX8_released) (maxL := 3) (ret := (some .int)) (by decide +kernel) rfl ?_
  intro p e s m args below meth c s₁ B hml hv
  obtain ⟨rfl, hP, hK⟩ := hv
  have C : MC l G p s m _ meth c RX8 cX8_released 3 (some .int) := ⟨B.exec, B.bytes, B.returns, B.notSynchronized, hml, findClass_of_methodNamed B.named, fun w hw => atoms_spec (ws := vX8_released) B.pre w (List.mem_cons_of_mem _ hw), hK⟩
  obtain ⟨hx, hb, hr, hlocks, -, hown, hts, -⟩ := id C
  have hl := lv_entry ([.ref (gB G 0), .int x1, .int x2]) (n := 3) (Nat.le_of_ble_eq_true rfl)
  rw [lg_entry_eq]
  generalize (lg_sl ([.ref (gB G 0), .int x1, .int x2]) ++ List.replicate (3 - (lg_sl ([.ref (gB G 0), .int x1, .int x2])).length) Slot.unset).toArray = ls at hl ⊢
  have hl : lv_has ls 3 [(0, .ref (gB G 0)), (1, .int x1), (2, .int x2)] := hl
  have hS : SP G s s.heap [] := va_S.rf
  replace hP : WP G h s.heap := hP
  rw [f_X8_released] at hf
  refine lv_aload_n hx hb dX8_released_0 rfl (lv_at hl 0 rfl) ?_
  refine r_get (a := 0) (v := .ref (gB G 28)) (C := RX8) (T := TX8) (N := 14) hx hb hts hinX8 hown hK hP (ltX8 rfl) (ceX8 rfl) rfl 6 (by decide) wd368 rfl dX8_released_1 ?_
  refine lv_iload_n hx hb dX8_released_4 rfl (lv_at hl 1 rfl) ?_
  obtain ⟨r5, h5, er5, hf⟩ := bP_s hf
  refine r_callI (va_runV (As := [.int x1]) (rest := []) ⟨hx, hb, hml, hown, hts⟩ (k_X0_hasRelease l hG 28 (Or.inl rfl) er5) (cwV 1 hts (gV wd862 wd863 wd864 wd78 wd865) rfl rfl rfl (by decide +kernel) ⟨Nat.le_of_ble_eq_true rfl, Nat.le_of_ble_eq_true rfl⟩) (r_pv hK hP hS (ltX0 (Or.inl rfl)) (ceX0 (Or.inl rfl)) rfl) rfl rfl hl.1 rfl (lv_room (Nat.le_of_ble_eq_true rfl)) dX8_released_5 ⟨Nat.le_of_ble_eq_true rfl, Nat.le_of_ble_eq_true rfl⟩) hS (fun H locs hP hS => ?_)
  refine lv_if_ne (tgt := 15) hx hb dX8_released_8 (by decide) (fun c8 => ?_) (fun c8 => ?_)
  · replace hf := if_f c8 hf
    refine lv_iload_n hx hb dX8_released_15 rfl (lv_at hl 2 rfl) ?_
    by_cases s16_0 : x2 = 0
    · replace hf := if_t s16_0 hf
      refine lv_tableIn (tgt := 48) hx hb dX8_released_16 (by rw [s16_0]; decide) (by rw [s16_0]; decide) (by rw [s16_0]; rfl) (by decide) ?_
      refine lv_aload_n hx hb dX8_released_48 rfl (lv_at hl 0 rfl) ?_
      refine r_get (a := 0) (v := .ref (gB G 28)) (C := RX8) (T := TX8) (N := 14) hx hb hts hinX8 hown hK hP (ltX8 rfl) (ceX8 rfl) rfl 6 (by decide) wd368 rfl dX8_released_49 ?_
      refine r_get (a := 28) (v := .ref (gB G 33)) (C := RX0) (T := TX0) (N := 10) hx hb hts hinX0 hown hK hP (ltX0 (Or.inl rfl)) (ceX0 (Or.inl rfl)) rfl 6 (by decide) wd251 rfl dX8_released_52 ?_
      refine lv_iload_n hx hb dX8_released_55 rfl (lv_at hl 1 rfl) ?_
      obtain ⟨v56, ev56, hf⟩ := bO_s hf
      refine r_iald hx hb hK hP (arX0_6 (Or.inl rfl)) ev56 dX8_released_56 ?_
      exact r_iret hx hb hr hlocks hP hS (re2 (Option.some.inj hf)) dX8_released_57
    replace hf := if_f s16_0 hf
    by_cases s16_1 : x2 = 1
    · replace hf := if_t s16_1 hf
      refine lv_tableIn (tgt := 58) hx hb dX8_released_16 (by rw [s16_1]; decide) (by rw [s16_1]; decide) (by rw [s16_1]; rfl) (by decide) ?_
      refine lv_aload_n hx hb dX8_released_58 rfl (lv_at hl 0 rfl) ?_
      refine r_get (a := 0) (v := .ref (gB G 28)) (C := RX8) (T := TX8) (N := 14) hx hb hts hinX8 hown hK hP (ltX8 rfl) (ceX8 rfl) rfl 6 (by decide) wd368 rfl dX8_released_59 ?_
      refine r_get (a := 28) (v := .ref (gB G 34)) (C := RX0) (T := TX0) (N := 10) hx hb hts hinX0 hown hK hP (ltX0 (Or.inl rfl)) (ceX0 (Or.inl rfl)) rfl 7 (by decide) wd253 rfl dX8_released_62 ?_
      refine lv_iload_n hx hb dX8_released_65 rfl (lv_at hl 1 rfl) ?_
      obtain ⟨v66, ev66, hf⟩ := bO_s hf
      refine r_iald hx hb hK hP (arX0_7 (Or.inl rfl)) ev66 dX8_released_66 ?_
      exact r_iret hx hb hr hlocks hP hS (re2 (Option.some.inj hf)) dX8_released_67
    replace hf := if_f s16_1 hf
    by_cases s16_2 : x2 = 2
    · replace hf := if_t s16_2 hf
      refine lv_tableIn (tgt := 68) hx hb dX8_released_16 (by rw [s16_2]; decide) (by rw [s16_2]; decide) (by rw [s16_2]; rfl) (by decide) ?_
      refine lv_aload_n hx hb dX8_released_68 rfl (lv_at hl 0 rfl) ?_
      refine r_get (a := 0) (v := .ref (gB G 28)) (C := RX8) (T := TX8) (N := 14) hx hb hts hinX8 hown hK hP (ltX8 rfl) (ceX8 rfl) rfl 6 (by decide) wd368 rfl dX8_released_69 ?_
      refine r_get (a := 28) (v := .ref (gB G 35)) (C := RX0) (T := TX0) (N := 10) hx hb hts hinX0 hown hK hP (ltX0 (Or.inl rfl)) (ceX0 (Or.inl rfl)) rfl 8 (by decide) wd255 rfl dX8_released_72 ?_
      refine lv_iload_n hx hb dX8_released_75 rfl (lv_at hl 1 rfl) ?_
      obtain ⟨v76, ev76, hf⟩ := bO_s hf
      refine r_iald hx hb hK hP (arX0_8 (Or.inl rfl)) ev76 dX8_released_76 ?_
      exact r_iret hx hb hr hlocks hP hS (re2 (Option.some.inj hf)) dX8_released_77
    replace hf := if_f s16_2 hf
    by_cases s16_3 : x2 = 3
    · replace hf := if_t s16_3 hf
      refine lv_tableIn (tgt := 78) hx hb dX8_released_16 (by rw [s16_3]; decide) (by rw [s16_3]; decide) (by rw [s16_3]; rfl) (by decide) ?_
      refine lv_aload_n hx hb dX8_released_78 rfl (lv_at hl 0 rfl) ?_
      refine r_get (a := 0) (v := .ref (gB G 4)) (C := RX8) (T := TX8) (N := 14) hx hb hts hinX8 hown hK hP (ltX8 rfl) (ceX8 rfl) rfl 2 (by decide) wd364 rfl dX8_released_79 ?_
      refine lv_aload_n hx hb dX8_released_82 rfl (lv_at hl 0 rfl) ?_
      refine r_get (a := 0) (v := .ref (gB G 28)) (C := RX8) (T := TX8) (N := 14) hx hb hts hinX8 hown hK hP (ltX8 rfl) (ceX8 rfl) rfl 6 (by decide) wd368 rfl dX8_released_83 ?_
      refine r_get (a := 28) (v := .ref (gB G 35)) (C := RX0) (T := TX0) (N := 10) hx hb hts hinX0 hown hK hP (ltX0 (Or.inl rfl)) (ceX0 (Or.inl rfl)) rfl 8 (by decide) wd255 rfl dX8_released_86 ?_
      refine lv_iload_n hx hb dX8_released_89 rfl (lv_at hl 1 rfl) ?_
      obtain ⟨v90, ev90, hf⟩ := bO_s hf
      refine r_iald hx hb hK hP (arX0_8 (Or.inl rfl)) ev90 dX8_released_90 ?_
      obtain ⟨r91, h91, er91, hf⟩ := bP_s hf
      refine r_callI (va_runV (As := [.int v90]) (rest := []) ⟨hx, hb, hml, hown, hts⟩ (k_X7_faultsIn l hG 4 (Or.inl rfl) er91) (cwV 1 hts (gV wd688 wd689 wd690 wd76 wd691) rfl rfl rfl (by decide +kernel) ⟨Nat.le_of_ble_eq_true rfl, Nat.le_of_ble_eq_true rfl⟩) (r_pv hK hP hS (ltX7 (Or.inl rfl)) (ceX7 (Or.inl rfl)) rfl) rfl rfl hl.1 rfl (lv_room (Nat.le_of_ble_eq_true rfl)) dX8_released_91 ⟨Nat.le_of_ble_eq_true rfl, Nat.le_of_ble_eq_true rfl⟩) hS (fun H locs hP hS => ?_)
      exact r_iret hx hb hr hlocks hP hS (re2 (Option.some.inj hf)) dX8_released_94
    replace hf := if_f s16_3 hf
    refine lv_tableOut (tgt := 95) hx hb dX8_released_16 (sw_out (x := x2) 3 (by decide) (fun k hk => by
      rcases (show k = 0 ∨ k = 1 ∨ k = 2 ∨ k = 3 by omega) with rfl | rfl | rfl | rfl
      · exact s16_0
      · exact s16_1
      · exact s16_2
      · exact s16_3
      )) (by decide) ?_
    refine lv_sipush (v := (-1002)) hx hb dX8_released_95 (by decide) ?_
    exact r_iret hx hb hr hlocks hP hS (re2 (Option.some.inj hf)) dX8_released_98
  · replace hf := if_t c8 hf
    refine lv_sipush (v := (-1001)) hx hb dX8_released_11 (by decide) ?_
    exact r_iret hx hb hr hlocks hP hS (re2 (Option.some.inj hf)) dX8_released_14
/-! CarriedBack.notes(III)I -/
abbrev rmX8_notes : Room := { frames := 3, cells := 0, slots := 0, locals := 67 }
abbrev vX8_notes : List Cond := Cond.code yX8_notes cX8_notes 6 (some .int) :: GW
def f_X8_notes (x1 : Int32) (x2 : Int32) (x3 : Int32) (h : PH) : Option (Int32 × PH) := bP (f_X0_hasRelease 28 x1 h) (fun r5 h5 => if r5 = 0 then (some ((-1001), h5)) else (bP (f_X0_hasRelease 28 x2 h5) (fun r16 h16 => if r16 = 0 then (some ((-1001), h16)) else (bO (ag h16 35 20 x1) (fun v34 => bO (ag h16 35 20 x2) (fun v45 => if x3 = 0 then (some ((v45 &&& (v34 ^^^ (-1))), h16)) else (if x3 = 1 then (some ((v34 &&& (v45 ^^^ (-1))), h16)) else (if x3 = 2 then (bP (f_X7_faultsIn 4 v34 h16) (fun r102 h102 => bP (f_X7_faultsIn 4 v45 h102) (fun r111 h111 => some ((r102 &&& (r111 ^^^ (-1))), h111)))) else (if x3 = 3 then (bP (f_X7_faultsIn 4 v45 h16) (fun r124 h124 => bP (f_X7_faultsIn 4 v34 h124) (fun r133 h133 => some ((r124 &&& (r133 ^^^ (-1))), h133)))) else (some ((-1002), h16)))))))))))
set_option maxHeartbeats 4000000 in
set_option maxRecDepth 100000 in
theorem k_X8_notes (l : Launch) {G : GC} (hG : GOK G) {x1 : Int32} {x2 : Int32} {x3 : Int32} {rr : Int32} {h hh : PH} (hf : f_X8_notes x1 x2 x3 h = some (rr, hh)) : CI l yX8_notes vX8_notes rmX8_notes G [.ref (gB G 0), .int x1, .int x2, .int x3] h rr hh := by
  refine Met.ofW (cc := cX8_notes) (maxL := 6) (ret := (some .int)) (by decide +kernel) rfl ?_
  intro p e s m args below meth c s₁ B hml hv
  obtain ⟨rfl, hP, hK⟩ := hv
  have C : MC l G p s m _ meth c RX8 cX8_notes 6 (some .int) := ⟨B.exec, B.bytes, B.returns, B.notSynchronized, hml, findClass_of_methodNamed B.named, fun w hw => atoms_spec (ws := vX8_notes) B.pre w (List.mem_cons_of_mem _ hw), hK⟩
  obtain ⟨hx, hb, hr, hlocks, -, hown, hts, -⟩ := id C
  have hl := lv_entry ([.ref (gB G 0), .int x1, .int x2, .int x3]) (n := 6) (Nat.le_of_ble_eq_true rfl)
  rw [lg_entry_eq]
  generalize (lg_sl ([.ref (gB G 0), .int x1, .int x2, .int x3]) ++ List.replicate (6 - (lg_sl ([.ref (gB G 0), .int x1, .int x2, .int x3])).length) Slot.unset).toArray = ls at hl ⊢
  have hl : lv_has ls 6 [(0, .ref (gB G 0)), (1, .int x1), (2, .int x2), (3, .int x3)] := hl
  have hS : SP G s s.heap [] := va_S.rf
  replace hP : WP G h s.heap := hP
  rw [f_X8_notes] at hf
  refine lv_aload_n hx hb dX8_notes_0 rfl (lv_at hl 0 rfl) ?_
  refine r_get (a := 0) (v := .ref (gB G 28)) (C := RX8) (T := TX8) (N := 14) hx hb hts hinX8 hown hK hP (ltX8 rfl) (ceX8 rfl) rfl 6 (by decide) wd368 rfl dX8_notes_1 ?_
  refine lv_iload_n hx hb dX8_notes_4 rfl (lv_at hl 1 rfl) ?_
  obtain ⟨r5, h5, er5, hf⟩ := bP_s hf
  refine r_callI (va_runV (As := [.int x1]) (rest := []) ⟨hx, hb, hml, hown, hts⟩ (k_X0_hasRelease l hG 28 (Or.inl rfl) er5) (cwV 1 hts (gV wd862 wd863 wd864 wd78 wd865) rfl rfl rfl (by decide +kernel) ⟨Nat.le_of_ble_eq_true rfl, Nat.le_of_ble_eq_true rfl⟩) (r_pv hK hP hS (ltX0 (Or.inl rfl)) (ceX0 (Or.inl rfl)) rfl) rfl rfl hl.1 rfl (lv_room (Nat.le_of_ble_eq_true rfl)) dX8_notes_5 ⟨Nat.le_of_ble_eq_true rfl, Nat.le_of_ble_eq_true rfl⟩) hS (fun H locs hP hS => ?_)
  refine lv_if_eq (tgt := 22) hx hb dX8_notes_8 (by decide) (fun c8 => ?_) (fun c8 => ?_)
  · replace hf := if_t c8 hf
    refine lv_sipush (v := (-1001)) hx hb dX8_notes_22 (by decide) ?_
    exact r_iret hx hb hr hlocks hP hS (re2 (Option.some.inj hf)) dX8_notes_25
  · replace hf := if_f c8 hf
    refine lv_aload_n hx hb dX8_notes_11 rfl (lv_at hl 0 rfl) ?_
    refine r_get (a := 0) (v := .ref (gB G 28)) (C := RX8) (T := TX8) (N := 14) hx hb hts hinX8 hown hK hP (ltX8 rfl) (ceX8 rfl) rfl 6 (by decide) wd368 rfl dX8_notes_12 ?_
    refine lv_iload_n hx hb dX8_notes_15 rfl (lv_at hl 2 rfl) ?_
    obtain ⟨r16, h16, er16, hf⟩ := bP_s hf
    refine r_callI (va_runV (As := [.int x2]) (rest := []) ⟨hx, hb, hml, hown, hts⟩ (k_X0_hasRelease l hG 28 (Or.inl rfl) er16) (cwV 1 hts (gV wd862 wd863 wd864 wd78 wd865) rfl rfl rfl (by decide +kernel) ⟨Nat.le_of_ble_eq_true rfl, Nat.le_of_ble_eq_true rfl⟩) (r_pv hK hP hS (ltX0 (Or.inl rfl)) (ceX0 (Or.inl rfl)) rfl) rfl rfl hl.1 rfl (lv_room (Nat.le_of_ble_eq_true rfl)) dX8_notes_16 ⟨Nat.le_of_ble_eq_true rfl, Nat.le_of_ble_eq_true rfl⟩) hS (fun H locs hP hS => ?_)
    refine lv_if_ne (tgt := 26) hx hb dX8_notes_19 (by decide) (fun c19 => ?_) (fun c19 => ?_)
    · replace hf := if_f c19 hf
      refine lv_aload_n hx hb dX8_notes_26 rfl (lv_at hl 0 rfl) ?_
      refine r_get (a := 0) (v := .ref (gB G 28)) (C := RX8) (T := TX8) (N := 14) hx hb hts hinX8 hown hK hP (ltX8 rfl) (ceX8 rfl) rfl 6 (by decide) wd368 rfl dX8_notes_27 ?_
      refine r_get (a := 28) (v := .ref (gB G 35)) (C := RX0) (T := TX0) (N := 10) hx hb hts hinX0 hown hK hP (ltX0 (Or.inl rfl)) (ceX0 (Or.inl rfl)) rfl 8 (by decide) wd255 rfl dX8_notes_30 ?_
      refine lv_iload_n hx hb dX8_notes_33 rfl (lv_at hl 1 rfl) ?_
      obtain ⟨v34, ev34, hf⟩ := bO_s hf
      refine r_iald hx hb hK hP (arX0_8 (Or.inl rfl)) ev34 dX8_notes_34 ?_
      refine lv_istore (lv' := [(4, .int v34), (0, .ref (gB G 0)), (1, .int x1), (2, .int x2), (3, .int x3)]) hx hb dX8_notes_35 hl (by decide) rfl (fun ls hl => ?_)
      refine lv_aload_n hx hb dX8_notes_37 rfl (lv_at hl 1 rfl) ?_
      refine r_get (a := 0) (v := .ref (gB G 28)) (C := RX8) (T := TX8) (N := 14) hx hb hts hinX8 hown hK hP (ltX8 rfl) (ceX8 rfl) rfl 6 (by decide) wd368 rfl dX8_notes_38 ?_
      refine r_get (a := 28) (v := .ref (gB G 35)) (C := RX0) (T := TX0) (N := 10) hx hb hts hinX0 hown hK hP (ltX0 (Or.inl rfl)) (ceX0 (Or.inl rfl)) rfl 8 (by decide) wd255 rfl dX8_notes_41 ?_
      refine lv_iload_n hx hb dX8_notes_44 rfl (lv_at hl 3 rfl) ?_
      obtain ⟨v45, ev45, hf⟩ := bO_s hf
      refine r_iald hx hb hK hP (arX0_8 (Or.inl rfl)) ev45 dX8_notes_45 ?_
      refine lv_istore (lv' := [(5, .int v45), (4, .int v34), (0, .ref (gB G 0)), (1, .int x1), (2, .int x2), (3, .int x3)]) hx hb dX8_notes_46 hl (by decide) rfl (fun ls hl => ?_)
      refine lv_iload_n hx hb dX8_notes_48 rfl (lv_at hl 5 rfl) ?_
      by_cases s49_0 : x3 = 0
      · replace hf := if_t s49_0 hf
        refine lv_tableIn (tgt := 80) hx hb dX8_notes_49 (by rw [s49_0]; decide) (by rw [s49_0]; decide) (by rw [s49_0]; rfl) (by decide) ?_
        refine lv_iload hx hb dX8_notes_80 (lv_at hl 0 rfl) ?_
        refine lv_iload hx hb dX8_notes_82 (lv_at hl 1 rfl) ?_
        refine lv_iconst (v := (-1)) hx hb dX8_notes_84 (by decide) ?_
        refine lv_ixor hx hb dX8_notes_85 ?_
        refine lv_iand hx hb dX8_notes_86 ?_
        exact r_iret hx hb hr hlocks hP hS (re2 (Option.some.inj hf)) dX8_notes_87
      replace hf := if_f s49_0 hf
      by_cases s49_1 : x3 = 1
      · replace hf := if_t s49_1 hf
        refine lv_tableIn (tgt := 88) hx hb dX8_notes_49 (by rw [s49_1]; decide) (by rw [s49_1]; decide) (by rw [s49_1]; rfl) (by decide) ?_
        refine lv_iload hx hb dX8_notes_88 (lv_at hl 1 rfl) ?_
        refine lv_iload hx hb dX8_notes_90 (lv_at hl 0 rfl) ?_
        refine lv_iconst (v := (-1)) hx hb dX8_notes_92 (by decide) ?_
        refine lv_ixor hx hb dX8_notes_93 ?_
        refine lv_iand hx hb dX8_notes_94 ?_
        exact r_iret hx hb hr hlocks hP hS (re2 (Option.some.inj hf)) dX8_notes_95
      replace hf := if_f s49_1 hf
      by_cases s49_2 : x3 = 2
      · replace hf := if_t s49_2 hf
        refine lv_tableIn (tgt := 96) hx hb dX8_notes_49 (by rw [s49_2]; decide) (by rw [s49_2]; decide) (by rw [s49_2]; rfl) (by decide) ?_
        refine lv_aload_n hx hb dX8_notes_96 rfl (lv_at hl 2 rfl) ?_
        refine r_get (a := 0) (v := .ref (gB G 4)) (C := RX8) (T := TX8) (N := 14) hx hb hts hinX8 hown hK hP (ltX8 rfl) (ceX8 rfl) rfl 2 (by decide) wd364 rfl dX8_notes_97 ?_
        refine lv_iload hx hb dX8_notes_100 (lv_at hl 1 rfl) ?_
        obtain ⟨r102, h102, er102, hf⟩ := bP_s hf
        refine r_callI (va_runV (As := [.int v34]) (rest := []) ⟨hx, hb, hml, hown, hts⟩ (k_X7_faultsIn l hG 4 (Or.inl rfl) er102) (cwV 1 hts (gV wd688 wd689 wd690 wd76 wd691) rfl rfl rfl (by decide +kernel) ⟨Nat.le_of_ble_eq_true rfl, Nat.le_of_ble_eq_true rfl⟩) (r_pv hK hP hS (ltX7 (Or.inl rfl)) (ceX7 (Or.inl rfl)) rfl) rfl rfl hl.1 rfl (lv_room (Nat.le_of_ble_eq_true rfl)) dX8_notes_102 ⟨Nat.le_of_ble_eq_true rfl, Nat.le_of_ble_eq_true rfl⟩) hS (fun H locs hP hS => ?_)
        refine lv_aload_n hx hb dX8_notes_105 rfl (lv_at hl 2 rfl) ?_
        refine r_get (a := 0) (v := .ref (gB G 4)) (C := RX8) (T := TX8) (N := 14) hx hb hts hinX8 hown hK hP (ltX8 rfl) (ceX8 rfl) rfl 2 (by decide) wd364 rfl dX8_notes_106 ?_
        refine lv_iload hx hb dX8_notes_109 (lv_at hl 0 rfl) ?_
        obtain ⟨r111, h111, er111, hf⟩ := bP_s hf
        refine r_callI (va_runV (As := [.int v45]) (rest := [.int r102]) ⟨hx, hb, hml, hown, hts⟩ (k_X7_faultsIn l hG 4 (Or.inl rfl) er111) (cwV 1 hts (gV wd688 wd689 wd690 wd76 wd691) rfl rfl rfl (by decide +kernel) ⟨Nat.le_of_ble_eq_true rfl, Nat.le_of_ble_eq_true rfl⟩) (r_pv hK hP hS (ltX7 (Or.inl rfl)) (ceX7 (Or.inl rfl)) rfl) rfl rfl hl.1 rfl (lv_room (Nat.le_of_ble_eq_true rfl)) dX8_notes_111 ⟨Nat.le_of_ble_eq_true rfl, Nat.le_of_ble_eq_true rfl⟩) hS (fun H locs hP hS => ?_)
        refine lv_iconst (v := (-1)) hx hb dX8_notes_114 (by decide) ?_
        refine lv_ixor hx hb dX8_notes_115 ?_
        refine lv_iand hx hb dX8_notes_116 ?_
        exact r_iret hx hb hr hlocks hP hS (re2 (Option.some.inj hf)) dX8_notes_117
      replace hf := if_f s49_2 hf
      by_cases s49_3 : x3 = 3
      · replace hf := if_t s49_3 hf
        refine lv_tableIn (tgt := 118) hx hb dX8_notes_49 (by rw [s49_3]; decide) (by rw [s49_3]; decide) (by rw [s49_3]; rfl) (by decide) ?_
        refine lv_aload_n hx hb dX8_notes_118 rfl (lv_at hl 2 rfl) ?_
        refine r_get (a := 0) (v := .ref (gB G 4)) (C := RX8) (T := TX8) (N := 14) hx hb hts hinX8 hown hK hP (ltX8 rfl) (ceX8 rfl) rfl 2 (by decide) wd364 rfl dX8_notes_119 ?_
        refine lv_iload hx hb dX8_notes_122 (lv_at hl 0 rfl) ?_
        obtain ⟨r124, h124, er124, hf⟩ := bP_s hf
        refine r_callI (va_runV (As := [.int v45]) (rest := []) ⟨hx, hb, hml, hown, hts⟩ (k_X7_faultsIn l hG 4 (Or.inl rfl) er124) (cwV 1 hts (gV wd688 wd689 wd690 wd76 wd691) rfl rfl rfl (by decide +kernel) ⟨Nat.le_of_ble_eq_true rfl, Nat.le_of_ble_eq_true rfl⟩) (r_pv hK hP hS (ltX7 (Or.inl rfl)) (ceX7 (Or.inl rfl)) rfl) rfl rfl hl.1 rfl (lv_room (Nat.le_of_ble_eq_true rfl)) dX8_notes_124 ⟨Nat.le_of_ble_eq_true rfl, Nat.le_of_ble_eq_true rfl⟩) hS (fun H locs hP hS => ?_)
        refine lv_aload_n hx hb dX8_notes_127 rfl (lv_at hl 2 rfl) ?_
        refine r_get (a := 0) (v := .ref (gB G 4)) (C := RX8) (T := TX8) (N := 14) hx hb hts hinX8 hown hK hP (ltX8 rfl) (ceX8 rfl) rfl 2 (by decide) wd364 rfl dX8_notes_128 ?_
        refine lv_iload hx hb dX8_notes_131 (lv_at hl 1 rfl) ?_
        obtain ⟨r133, h133, er133, hf⟩ := bP_s hf
        refine r_callI (va_runV (As := [.int v34]) (rest := [.int r124]) ⟨hx, hb, hml, hown, hts⟩ (k_X7_faultsIn l hG 4 (Or.inl rfl) er133) (cwV 1 hts (gV wd688 wd689 wd690 wd76 wd691) rfl rfl rfl (by decide +kernel) ⟨Nat.le_of_ble_eq_true rfl, Nat.le_of_ble_eq_true rfl⟩) (r_pv hK hP hS (ltX7 (Or.inl rfl)) (ceX7 (Or.inl rfl)) rfl) rfl rfl hl.1 rfl (lv_room (Nat.le_of_ble_eq_true rfl)) dX8_notes_133 ⟨Nat.le_of_ble_eq_true rfl, Nat.le_of_ble_eq_true rfl⟩) hS (fun H locs hP hS => ?_)
        refine lv_iconst (v := (-1)) hx hb dX8_notes_136 (by decide) ?_
        refine lv_ixor hx hb dX8_notes_137 ?_
        refine lv_iand hx hb dX8_notes_138 ?_
        exact r_iret hx hb hr hlocks hP hS (re2 (Option.some.inj hf)) dX8_notes_139
      replace hf := if_f s49_3 hf
      refine lv_tableOut (tgt := 140) hx hb dX8_notes_49 (sw_out (x := x3) 3 (by decide) (fun k hk => by
        rcases (show k = 0 ∨ k = 1 ∨ k = 2 ∨ k = 3 by omega) with rfl | rfl | rfl | rfl
        · exact s49_0
        · exact s49_1
        · exact s49_2
        · exact s49_3
        )) (by decide) ?_
      refine lv_sipush (v := (-1002)) hx hb dX8_notes_140 (by decide) ?_
      exact r_iret hx hb hr hlocks hP hS (re2 (Option.some.inj hf)) dX8_notes_143
    · replace hf := if_t c19 hf
      refine lv_sipush (v := (-1001)) hx hb dX8_notes_22 (by decide) ?_
      exact r_iret hx hb hr hlocks hP hS (re2 (Option.some.inj hf)) dX8_notes_25
/-! CarriedBack.differs(II)I -/
abbrev rmX8_differs : Room := { frames := 1, cells := 0, slots := 0, locals := 21 }
abbrev vX8_differs : List Cond := Cond.code yX8_differs cX8_differs 5 (some .int) :: GW
def f_X8_differs_31 (x1 : Int32) (x2 : Int32) : Nat → Int32 → Int32 → PH → Option (Int32 × PH)
  | 0, _, _, _ => none
  | n + 1, x3, x4, h => if (16 : Int32) ≤ x4 then (some (x3, h)) else (bO (ag h 36 320 ((x1 * 16) + x4)) (fun v52 => bO (ag h 36 320 ((x2 * 16) + x4)) (fun v67 => if v52 = v67 then ((f_X8_differs_31 x1 x2 n) x3 (x4 + 1) h) else (lt' ((x3 ||| (1 <<< (x4 &&& 31)))) (fun x3_77 => (f_X8_differs_31 x1 x2 n) x3_77 (x4 + 1) h)))))
set_option maxHeartbeats 4000000 in
set_option maxRecDepth 100000 in
theorem w_X8_differs_31 {l : Launch} {G : GC} (hG : GOK G) {rr : Int32} {hh : PH} {p : Program} {e : Env} {s : State} {m : MethodId} {args : Array Value} {below : List Frame} {meth : Method} {c : Code} (C : MC l G p s m args meth c RX8 cX8_differs 5 (some .int)) (x1 : Int32) (x2 : Int32) : ∀ (n : Nat) (x3 : Int32) (x4 : Int32) (h : PH) (H : Heap) (locs : List Loc) (ls : Array Slot), lv_has ls 5 [(0, .ref (gB G 0)), (1, .int x1), (2, .int x2), (3, .int x3), (4, .int x4)] → WP G h H → SP G s H locs → f_X8_differs_31 x1 x2 n x3 x4 h = some (rr, hh) → W p l e rmX8_differs s m args below meth c H locs 0 0 (MQ below (QI G rr hh) args s 0 0 (gA G)) (F0 m 31 ls []) := by
  obtain ⟨hx, hb, hr, hlocks, hml, hown, hts, hK⟩ := id C
  intro n
  induction n with
  | zero => intro x3 x4 h H locs ls hl hP hS hf; rw [f_X8_differs_31] at hf; cases hf
  | succ n ih =>
    intro x3 x4 h H locs ls hl hP hS hf
    rw [f_X8_differs_31] at hf
    refine lv_iload hx hb dX8_differs_31 (lv_at hl 4 rfl) ?_
    refine lv_bipush (v := 16) hx hb dX8_differs_33 (by decide) ?_
    refine lv_icmp_ge (tgt := 84) hx hb dX8_differs_35 (by decide) (fun c35 => ?_) (fun c35 => ?_)
    · replace hf := if_t c35 hf
      refine lv_iload_n hx hb dX8_differs_84 rfl (lv_at hl 3 rfl) ?_
      exact r_iret hx hb hr hlocks hP hS (re2 (Option.some.inj hf)) dX8_differs_85
    · replace hf := if_f c35 hf
      refine lv_aload_n hx hb dX8_differs_38 rfl (lv_at hl 0 rfl) ?_
      refine r_get (a := 0) (v := .ref (gB G 28)) (C := RX8) (T := TX8) (N := 14) hx hb hts hinX8 hown hK hP (ltX8 rfl) (ceX8 rfl) rfl 6 (by decide) wd368 rfl dX8_differs_39 ?_
      refine r_get (a := 28) (v := .ref (gB G 36)) (C := RX0) (T := TX0) (N := 10) hx hb hts hinX0 hown hK hP (ltX0 (Or.inl rfl)) (ceX0 (Or.inl rfl)) rfl 9 (by decide) wd257 rfl dX8_differs_42 ?_
      refine lv_iload_n hx hb dX8_differs_45 rfl (lv_at hl 1 rfl) ?_
      refine lv_bipush (v := 16) hx hb dX8_differs_46 (by decide) ?_
      refine lv_imul hx hb dX8_differs_48 ?_
      refine lv_iload hx hb dX8_differs_49 (lv_at hl 4 rfl) ?_
      refine lv_iadd hx hb dX8_differs_51 ?_
      obtain ⟨v52, ev52, hf⟩ := bO_s hf
      refine r_iald hx hb hK hP (arX0_9 (Or.inl rfl)) ev52 dX8_differs_52 ?_
      refine lv_aload_n hx hb dX8_differs_53 rfl (lv_at hl 0 rfl) ?_
      refine r_get (a := 0) (v := .ref (gB G 28)) (C := RX8) (T := TX8) (N := 14) hx hb hts hinX8 hown hK hP (ltX8 rfl) (ceX8 rfl) rfl 6 (by decide) wd368 rfl dX8_differs_54 ?_
      refine r_get (a := 28) (v := .ref (gB G 36)) (C := RX0) (T := TX0) (N := 10) hx hb hts hinX0 hown hK hP (ltX0 (Or.inl rfl)) (ceX0 (Or.inl rfl)) rfl 9 (by decide) wd257 rfl dX8_differs_57 ?_
      refine lv_iload_n hx hb dX8_differs_60 rfl (lv_at hl 2 rfl) ?_
      refine lv_bipush (v := 16) hx hb dX8_differs_61 (by decide) ?_
      refine lv_imul hx hb dX8_differs_63 ?_
      refine lv_iload hx hb dX8_differs_64 (lv_at hl 4 rfl) ?_
      refine lv_iadd hx hb dX8_differs_66 ?_
      obtain ⟨v67, ev67, hf⟩ := bO_s hf
      refine r_iald hx hb hK hP (arX0_9 (Or.inl rfl)) ev67 dX8_differs_67 ?_
      refine lv_icmp_eq (tgt := 78) hx hb dX8_differs_68 (by decide) (fun c68 => ?_) (fun c68 => ?_)
      · replace hf := if_t c68 hf
        refine lv_iinc (v := (x4 + 1)) (lv' := [(4, .int (x4 + 1)), (0, .ref (gB G 0)), (1, .int x1), (2, .int x2), (3, .int x3)]) hx hb dX8_differs_78 hl (k := 4) rfl rfl (by decide) rfl (fun ls hl => ?_)
        refine lv_goto (tgt := 31) hx hb dX8_differs_81 (by decide) ?_
        exact ih x3 (x4 + 1) h _ _ _ (lv_sub hl [1, 2, 3, 4, 0] rfl) hP hS hf
      · replace hf := if_f c68 hf
        refine lv_iload_n hx hb dX8_differs_71 rfl (lv_at hl 3 rfl) ?_
        refine lv_iconst (v := 1) hx hb dX8_differs_72 (by decide) ?_
        refine lv_iload hx hb dX8_differs_73 (lv_at hl 4 rfl) ?_
        refine lv_ishl hx hb dX8_differs_75 ?_
        refine lv_ior hx hb dX8_differs_76 ?_
        refine lv_topi (fun x3_77 ex3_77 => ?_)
        replace hf := lt_at ex3_77 hf
        refine lv_istore_n (lv' := [(3, .int x3_77), (0, .ref (gB G 0)), (1, .int x1), (2, .int x2), (4, .int x4)]) hx hb dX8_differs_77 rfl hl (by decide) rfl (fun ls hl => ?_)
        refine lv_iinc (v := (x4 + 1)) (lv' := [(4, .int (x4 + 1)), (3, .int x3_77), (0, .ref (gB G 0)), (1, .int x1), (2, .int x2)]) hx hb dX8_differs_78 hl (k := 4) rfl rfl (by decide) rfl (fun ls hl => ?_)
        refine lv_goto (tgt := 31) hx hb dX8_differs_81 (by decide) ?_
        exact ih x3_77 (x4 + 1) h _ _ _ (lv_sub hl [2, 3, 4, 1, 0] rfl) hP hS hf
def f_X8_differs (x1 : Int32) (x2 : Int32) (h : PH) : Option (Int32 × PH) := bP (f_X0_hasRelease 28 x1 h) (fun r5 h5 => if r5 = 0 then (some ((-1001), h5)) else (bP (f_X0_hasRelease 28 x2 h5) (fun r16 h16 => if r16 = 0 then (some ((-1001), h16)) else (f_X8_differs_31 x1 x2 FU 0 0 h16))))
set_option maxHeartbeats 4000000 in
set_option maxRecDepth 100000 in
theorem k_X8_differs (l : Launch) {G : GC} (hG : GOK G) {x1 : Int32} {x2 : Int32} {rr : Int32} {h hh : PH} (hf : f_X8_differs x1 x2 h = some (rr, hh)) : CI l yX8_differs vX8_differs rmX8_differs G [.ref (gB G 0), .int x1, .int x2] h rr hh := by
  refine Met.ofW (cc := cX8_differs) (maxL := 5) (ret := (some .int)) (by decide +kernel) rfl ?_
  intro p e s m args below meth c s₁ B hml hv
  obtain ⟨rfl, hP, hK⟩ := hv
  have C : MC l G p s m _ meth c RX8 cX8_differs 5 (some .int) := ⟨B.exec, B.bytes, B.returns, B.notSynchronized, hml, findClass_of_methodNamed B.named, fun w hw => atoms_spec (ws := vX8_differs) B.pre w (List.mem_cons_of_mem _ hw), hK⟩
  obtain ⟨hx, hb, hr, hlocks, -, hown, hts, -⟩ := id C
  have hl := lv_entry ([.ref (gB G 0), .int x1, .int x2]) (n := 5) (Nat.le_of_ble_eq_true rfl)
  rw [lg_entry_eq]
  generalize (lg_sl ([.ref (gB G 0), .int x1, .int x2]) ++ List.replicate (5 - (lg_sl ([.ref (gB G 0), .int x1, .int x2])).length) Slot.unset).toArray = ls at hl ⊢
  have hl : lv_has ls 5 [(0, .ref (gB G 0)), (1, .int x1), (2, .int x2)] := hl
  have hS : SP G s s.heap [] := va_S.rf
  replace hP : WP G h s.heap := hP
  rw [f_X8_differs] at hf
  refine lv_aload_n hx hb dX8_differs_0 rfl (lv_at hl 0 rfl) ?_
  refine r_get (a := 0) (v := .ref (gB G 28)) (C := RX8) (T := TX8) (N := 14) hx hb hts hinX8 hown hK hP (ltX8 rfl) (ceX8 rfl) rfl 6 (by decide) wd368 rfl dX8_differs_1 ?_
  refine lv_iload_n hx hb dX8_differs_4 rfl (lv_at hl 1 rfl) ?_
  obtain ⟨r5, h5, er5, hf⟩ := bP_s hf
  refine r_callI (va_runV (As := [.int x1]) (rest := []) ⟨hx, hb, hml, hown, hts⟩ (k_X0_hasRelease l hG 28 (Or.inl rfl) er5) (cwV 1 hts (gV wd862 wd863 wd864 wd78 wd865) rfl rfl rfl (by decide +kernel) ⟨Nat.le_of_ble_eq_true rfl, Nat.le_of_ble_eq_true rfl⟩) (r_pv hK hP hS (ltX0 (Or.inl rfl)) (ceX0 (Or.inl rfl)) rfl) rfl rfl hl.1 rfl (lv_room (Nat.le_of_ble_eq_true rfl)) dX8_differs_5 ⟨Nat.le_of_ble_eq_true rfl, Nat.le_of_ble_eq_true rfl⟩) hS (fun H locs hP hS => ?_)
  refine lv_if_eq (tgt := 22) hx hb dX8_differs_8 (by decide) (fun c8 => ?_) (fun c8 => ?_)
  · replace hf := if_t c8 hf
    refine lv_sipush (v := (-1001)) hx hb dX8_differs_22 (by decide) ?_
    exact r_iret hx hb hr hlocks hP hS (re2 (Option.some.inj hf)) dX8_differs_25
  · replace hf := if_f c8 hf
    refine lv_aload_n hx hb dX8_differs_11 rfl (lv_at hl 0 rfl) ?_
    refine r_get (a := 0) (v := .ref (gB G 28)) (C := RX8) (T := TX8) (N := 14) hx hb hts hinX8 hown hK hP (ltX8 rfl) (ceX8 rfl) rfl 6 (by decide) wd368 rfl dX8_differs_12 ?_
    refine lv_iload_n hx hb dX8_differs_15 rfl (lv_at hl 2 rfl) ?_
    obtain ⟨r16, h16, er16, hf⟩ := bP_s hf
    refine r_callI (va_runV (As := [.int x2]) (rest := []) ⟨hx, hb, hml, hown, hts⟩ (k_X0_hasRelease l hG 28 (Or.inl rfl) er16) (cwV 1 hts (gV wd862 wd863 wd864 wd78 wd865) rfl rfl rfl (by decide +kernel) ⟨Nat.le_of_ble_eq_true rfl, Nat.le_of_ble_eq_true rfl⟩) (r_pv hK hP hS (ltX0 (Or.inl rfl)) (ceX0 (Or.inl rfl)) rfl) rfl rfl hl.1 rfl (lv_room (Nat.le_of_ble_eq_true rfl)) dX8_differs_16 ⟨Nat.le_of_ble_eq_true rfl, Nat.le_of_ble_eq_true rfl⟩) hS (fun H locs hP hS => ?_)
    refine lv_if_ne (tgt := 26) hx hb dX8_differs_19 (by decide) (fun c19 => ?_) (fun c19 => ?_)
    · replace hf := if_f c19 hf
      refine lv_iconst (v := 0) hx hb dX8_differs_26 (by decide) ?_
      refine lv_istore_n (lv' := [(3, .int 0), (0, .ref (gB G 0)), (1, .int x1), (2, .int x2)]) hx hb dX8_differs_27 rfl hl (by decide) rfl (fun ls hl => ?_)
      refine lv_iconst (v := 0) hx hb dX8_differs_28 (by decide) ?_
      refine lv_istore (lv' := [(4, .int 0), (3, .int 0), (0, .ref (gB G 0)), (1, .int x1), (2, .int x2)]) hx hb dX8_differs_29 hl (by decide) rfl (fun ls hl => ?_)
      exact w_X8_differs_31 hG C x1 x2 FU 0 0 h16 _ _ _ (lv_sub hl [2, 3, 4, 1, 0] rfl) hP hS hf
    · replace hf := if_t c19 hf
      refine lv_sipush (v := (-1001)) hx hb dX8_differs_22 (by decide) ?_
      exact r_iret hx hb hr hlocks hP hS (re2 (Option.some.inj hf)) dX8_differs_25
/-! CarriedBack.isFree(II)Z -/
abbrev rmX8_isFree : Room := { frames := 3, cells := 0, slots := 0, locals := 67 }
abbrev vX8_isFree : List Cond := Cond.code yX8_isFree cX8_isFree 3 (some .boolean) :: GW
def f_X8_isFree (x1 : Int32) (x2 : Int32) (h : PH) : Option (Int32 × PH) := bO (ag h 35 20 x1) (fun v12 => bP (f_X7_faultsIn 4 v12 h) (fun r13 h13 => bO (f_X8_has r13 x2) (fun r17 => if r17 = 0 then (some (1, h13)) else (some (0, h13)))))
set_option maxHeartbeats 4000000 in
set_option maxRecDepth 100000 in
theorem k_X8_isFree (l : Launch) {G : GC} (hG : GOK G) {x1 : Int32} {x2 : Int32} {rr : Int32} {h hh : PH} (hf : f_X8_isFree x1 x2 h = some (rr, hh)) : CI l yX8_isFree vX8_isFree rmX8_isFree G [.ref (gB G 0), .int x1, .int x2] h rr hh := by
  refine Met.ofW (cc := cX8_isFree) (maxL := 3) (ret := (some .boolean)) (by decide +kernel) rfl ?_
  intro p e s m args below meth c s₁ B hml hv
  obtain ⟨rfl, hP, hK⟩ := hv
  have C : MC l G p s m _ meth c RX8 cX8_isFree 3 (some .boolean) := ⟨B.exec, B.bytes, B.returns, B.notSynchronized, hml, findClass_of_methodNamed B.named, fun w hw => atoms_spec (ws := vX8_isFree) B.pre w (List.mem_cons_of_mem _ hw), hK⟩
  obtain ⟨hx, hb, hr, hlocks, -, hown, hts, -⟩ := id C
  have hl := lv_entry ([.ref (gB G 0), .int x1, .int x2]) (n := 3) (Nat.le_of_ble_eq_true rfl)
  rw [lg_entry_eq]
  generalize (lg_sl ([.ref (gB G 0), .int x1, .int x2]) ++ List.replicate (3 - (lg_sl ([.ref (gB G 0), .int x1, .int x2])).length) Slot.unset).toArray = ls at hl ⊢
  have hl : lv_has ls 3 [(0, .ref (gB G 0)), (1, .int x1), (2, .int x2)] := hl
  have hS : SP G s s.heap [] := va_S.rf
  replace hP : WP G h s.heap := hP
  rw [f_X8_isFree] at hf
  refine lv_aload_n hx hb dX8_isFree_0 rfl (lv_at hl 0 rfl) ?_
  refine r_get (a := 0) (v := .ref (gB G 4)) (C := RX8) (T := TX8) (N := 14) hx hb hts hinX8 hown hK hP (ltX8 rfl) (ceX8 rfl) rfl 2 (by decide) wd364 rfl dX8_isFree_1 ?_
  refine lv_aload_n hx hb dX8_isFree_4 rfl (lv_at hl 0 rfl) ?_
  refine r_get (a := 0) (v := .ref (gB G 28)) (C := RX8) (T := TX8) (N := 14) hx hb hts hinX8 hown hK hP (ltX8 rfl) (ceX8 rfl) rfl 6 (by decide) wd368 rfl dX8_isFree_5 ?_
  refine r_get (a := 28) (v := .ref (gB G 35)) (C := RX0) (T := TX0) (N := 10) hx hb hts hinX0 hown hK hP (ltX0 (Or.inl rfl)) (ceX0 (Or.inl rfl)) rfl 8 (by decide) wd255 rfl dX8_isFree_8 ?_
  refine lv_iload_n hx hb dX8_isFree_11 rfl (lv_at hl 1 rfl) ?_
  obtain ⟨v12, ev12, hf⟩ := bO_s hf
  refine r_iald hx hb hK hP (arX0_8 (Or.inl rfl)) ev12 dX8_isFree_12 ?_
  obtain ⟨r13, h13, er13, hf⟩ := bP_s hf
  refine r_callI (va_runV (As := [.int v12]) (rest := []) ⟨hx, hb, hml, hown, hts⟩ (k_X7_faultsIn l hG 4 (Or.inl rfl) er13) (cwV 1 hts (gV wd688 wd689 wd690 wd76 wd691) rfl rfl rfl (by decide +kernel) ⟨Nat.le_of_ble_eq_true rfl, Nat.le_of_ble_eq_true rfl⟩) (r_pv hK hP hS (ltX7 (Or.inl rfl)) (ceX7 (Or.inl rfl)) rfl) rfl rfl hl.1 rfl (lv_room (Nat.le_of_ble_eq_true rfl)) dX8_isFree_13 ⟨Nat.le_of_ble_eq_true rfl, Nat.le_of_ble_eq_true rfl⟩) hS (fun H locs hP hS => ?_)
  refine lv_iload_n hx hb dX8_isFree_16 rfl (lv_at hl 2 rfl) ?_
  obtain ⟨r17, er17, hf⟩ := bO_s hf
  refine r_callI (va_runS (As := [.int r13, .int x2]) (rest := []) ⟨hx, hb, hml, hown, hts⟩ (k_X8_has l hG (h := h13) er17) (va_cwS 2 hts (gS wd704 wd522 wd73 wd523) rfl rfl rfl (by decide +kernel) ⟨Nat.le_of_ble_eq_true rfl, Nat.le_of_ble_eq_true rfl⟩) (r_ps hK hP hS) rfl rfl hl.1 rfl (lv_room (Nat.le_of_ble_eq_true rfl)) dX8_isFree_17 ⟨Nat.le_of_ble_eq_true rfl, Nat.le_of_ble_eq_true rfl⟩) hS (fun H locs hP hS => ?_)
  refine lv_if_ne (tgt := 27) hx hb dX8_isFree_20 (by decide) (fun c20 => ?_) (fun c20 => ?_)
  · replace hf := if_f c20 hf
    refine lv_iconst (v := 0) hx hb dX8_isFree_27 (by decide) ?_
    exact r_zret hx hb hr rfl hlocks hP hS (re2 (Option.some.inj hf)) dX8_isFree_28
  · replace hf := if_t c20 hf
    refine lv_iconst (v := 1) hx hb dX8_isFree_23 (by decide) ?_
    refine lv_goto (tgt := 28) hx hb dX8_isFree_24 (by decide) ?_
    exact r_zret hx hb hr rfl hlocks hP hS (re2 (Option.some.inj hf)) dX8_isFree_28
/-! CarriedBack.freed(II)I -/
abbrev rmX8_freed : Room := { frames := 4, cells := 0, slots := 0, locals := 89 }
abbrev vX8_freed : List Cond := Cond.code yX8_freed cX8_freed 6 (some .int) :: GW
def f_X8_freed_34 (x1 : Int32) (x2 : Int32) : Nat → Int32 → Int32 → Int32 → PH → Option (Int32 × PH)
  | 0, _, _, _, _ => none
  | n + 1, x3, x4, x5, h => if (h.1 28 5) ≤ x5 then (some (x3, h)) else (bO (ag h 33 20 x5) (fun v55 => if v55 = x2 then (bP (f_X8_isFree x5 x1 h) (fun r67 h67 => if r67 = 0 then ((f_X8_freed_34 x1 x2 n) (-1) 1 (x5 + 1) h67) else (if x4 = 0 then ((f_X8_freed_34 x1 x2 n) x3 x4 (x5 + 1) h67) else (if x3 = (-1) then ((f_X8_freed_34 x1 x2 n) x5 x4 (x5 + 1) h67) else ((f_X8_freed_34 x1 x2 n) x3 x4 (x5 + 1) h67))))) else ((f_X8_freed_34 x1 x2 n) x3 x4 (x5 + 1) h)))
set_option maxHeartbeats 4000000 in
set_option maxRecDepth 100000 in
theorem w_X8_freed_34 {l : Launch} {G : GC} (hG : GOK G) {rr : Int32} {hh : PH} {p : Program} {e : Env} {s : State} {m : MethodId} {args : Array Value} {below : List Frame} {meth : Method} {c : Code} (C : MC l G p s m args meth c RX8 cX8_freed 6 (some .int)) (x1 : Int32) (x2 : Int32) : ∀ (n : Nat) (x3 : Int32) (x4 : Int32) (x5 : Int32) (h : PH) (H : Heap) (locs : List Loc) (ls : Array Slot), lv_has ls 6 [(0, .ref (gB G 0)), (1, .int x1), (2, .int x2), (3, .int x3), (4, .int x4), (5, .int x5)] → WP G h H → SP G s H locs → f_X8_freed_34 x1 x2 n x3 x4 x5 h = some (rr, hh) → W p l e rmX8_freed s m args below meth c H locs 0 0 (MQ below (QI G rr hh) args s 0 0 (gA G)) (F0 m 34 ls []) := by
  obtain ⟨hx, hb, hr, hlocks, hml, hown, hts, hK⟩ := id C
  intro n
  induction n with
  | zero => intro x3 x4 x5 h H locs ls hl hP hS hf; rw [f_X8_freed_34] at hf; cases hf
  | succ n ih =>
    intro x3 x4 x5 h H locs ls hl hP hS hf
    rw [f_X8_freed_34] at hf
    refine lv_iload hx hb dX8_freed_34 (lv_at hl 5 rfl) ?_
    refine lv_aload_n hx hb dX8_freed_36 rfl (lv_at hl 0 rfl) ?_
    refine r_get (a := 0) (v := .ref (gB G 28)) (C := RX8) (T := TX8) (N := 14) hx hb hts hinX8 hown hK hP (ltX8 rfl) (ceX8 rfl) rfl 6 (by decide) wd368 rfl dX8_freed_37 ?_
    refine r_get (a := 28) (v := .int (h.1 28 5)) (C := RX0) (T := TX0) (N := 10) hx hb hts hinX0 hown hK hP (ltX0 (Or.inl rfl)) (ceX0 (Or.inl rfl)) rfl 5 (by decide) wd249 rfl dX8_freed_40 ?_
    refine lv_icmp_ge (tgt := 100) hx hb dX8_freed_43 (by decide) (fun c43 => ?_) (fun c43 => ?_)
    · replace hf := if_t c43 hf
      refine lv_iload_n hx hb dX8_freed_100 rfl (lv_at hl 3 rfl) ?_
      exact r_iret hx hb hr hlocks hP hS (re2 (Option.some.inj hf)) dX8_freed_101
    · replace hf := if_f c43 hf
      refine lv_aload_n hx hb dX8_freed_46 rfl (lv_at hl 0 rfl) ?_
      refine r_get (a := 0) (v := .ref (gB G 28)) (C := RX8) (T := TX8) (N := 14) hx hb hts hinX8 hown hK hP (ltX8 rfl) (ceX8 rfl) rfl 6 (by decide) wd368 rfl dX8_freed_47 ?_
      refine r_get (a := 28) (v := .ref (gB G 33)) (C := RX0) (T := TX0) (N := 10) hx hb hts hinX0 hown hK hP (ltX0 (Or.inl rfl)) (ceX0 (Or.inl rfl)) rfl 6 (by decide) wd251 rfl dX8_freed_50 ?_
      refine lv_iload hx hb dX8_freed_53 (lv_at hl 5 rfl) ?_
      obtain ⟨v55, ev55, hf⟩ := bO_s hf
      refine r_iald hx hb hK hP (arX0_6 (Or.inl rfl)) ev55 dX8_freed_55 ?_
      refine lv_iload_n hx hb dX8_freed_56 rfl (lv_at hl 2 rfl) ?_
      refine lv_icmp_eq (tgt := 63) hx hb dX8_freed_57 (by decide) (fun c57 => ?_) (fun c57 => ?_)
      · replace hf := if_t c57 hf
        refine lv_aload_n hx hb dX8_freed_63 rfl (lv_at hl 0 rfl) ?_
        refine lv_iload hx hb dX8_freed_64 (lv_at hl 5 rfl) ?_
        refine lv_iload_n hx hb dX8_freed_66 rfl (lv_at hl 1 rfl) ?_
        obtain ⟨r67, h67, er67, hf⟩ := bP_s hf
        refine r_callI (va_runV (As := [.int x5, .int x1]) (rest := []) ⟨hx, hb, hml, hown, hts⟩ (k_X8_isFree l hG er67) (cwV 2 hts (gV wd878 wd880 wd18 wd73 wd881) rfl rfl rfl (by decide +kernel) ⟨Nat.le_of_ble_eq_true rfl, Nat.le_of_ble_eq_true rfl⟩) (r_pv hK hP hS (ltX8 rfl) (ceX8 rfl) rfl) rfl rfl hl.1 rfl (lv_room (Nat.le_of_ble_eq_true rfl)) dX8_freed_67 ⟨Nat.le_of_ble_eq_true rfl, Nat.le_of_ble_eq_true rfl⟩) hS (fun H locs hP hS => ?_)
        refine lv_if_ne (tgt := 81) hx hb dX8_freed_70 (by decide) (fun c70 => ?_) (fun c70 => ?_)
        · replace hf := if_f c70 hf
          refine lv_iload hx hb dX8_freed_81 (lv_at hl 4 rfl) ?_
          refine lv_if_eq (tgt := 94) hx hb dX8_freed_83 (by decide) (fun c83 => ?_) (fun c83 => ?_)
          · replace hf := if_t c83 hf
            refine lv_iinc (v := (x5 + 1)) (lv' := [(5, .int (x5 + 1)), (0, .ref (gB G 0)), (1, .int x1), (2, .int x2), (3, .int x3), (4, .int x4)]) hx hb dX8_freed_94 hl (k := 5) rfl rfl (by decide) rfl (fun ls hl => ?_)
            refine lv_goto (tgt := 34) hx hb dX8_freed_97 (by decide) ?_
            exact ih x3 x4 (x5 + 1) h67 _ _ _ (lv_sub hl [1, 2, 3, 4, 5, 0] rfl) hP hS hf
          · replace hf := if_f c83 hf
            refine lv_iload_n hx hb dX8_freed_86 rfl (lv_at hl 3 rfl) ?_
            refine lv_iconst (v := (-1)) hx hb dX8_freed_87 (by decide) ?_
            refine lv_icmp_ne (tgt := 94) hx hb dX8_freed_88 (by decide) (fun c88 => ?_) (fun c88 => ?_)
            · replace hf := if_f c88 hf
              refine lv_iinc (v := (x5 + 1)) (lv' := [(5, .int (x5 + 1)), (0, .ref (gB G 0)), (1, .int x1), (2, .int x2), (3, .int x3), (4, .int x4)]) hx hb dX8_freed_94 hl (k := 5) rfl rfl (by decide) rfl (fun ls hl => ?_)
              refine lv_goto (tgt := 34) hx hb dX8_freed_97 (by decide) ?_
              exact ih x3 x4 (x5 + 1) h67 _ _ _ (lv_sub hl [1, 2, 3, 4, 5, 0] rfl) hP hS hf
            · replace hf := if_t c88 hf
              refine lv_iload hx hb dX8_freed_91 (lv_at hl 5 rfl) ?_
              refine lv_istore_n (lv' := [(3, .int x5), (0, .ref (gB G 0)), (1, .int x1), (2, .int x2), (4, .int x4), (5, .int x5)]) hx hb dX8_freed_93 rfl hl (by decide) rfl (fun ls hl => ?_)
              refine lv_iinc (v := (x5 + 1)) (lv' := [(5, .int (x5 + 1)), (3, .int x5), (0, .ref (gB G 0)), (1, .int x1), (2, .int x2), (4, .int x4)]) hx hb dX8_freed_94 hl (k := 5) rfl rfl (by decide) rfl (fun ls hl => ?_)
              refine lv_goto (tgt := 34) hx hb dX8_freed_97 (by decide) ?_
              exact ih x5 x4 (x5 + 1) h67 _ _ _ (lv_sub hl [2, 3, 4, 1, 5, 0] rfl) hP hS hf
        · replace hf := if_t c70 hf
          refine lv_iconst (v := 1) hx hb dX8_freed_73 (by decide) ?_
          refine lv_istore (lv' := [(4, .int 1), (0, .ref (gB G 0)), (1, .int x1), (2, .int x2), (3, .int x3), (5, .int x5)]) hx hb dX8_freed_74 hl (by decide) rfl (fun ls hl => ?_)
          refine lv_iconst (v := (-1)) hx hb dX8_freed_76 (by decide) ?_
          refine lv_istore_n (lv' := [(3, .int (-1)), (4, .int 1), (0, .ref (gB G 0)), (1, .int x1), (2, .int x2), (5, .int x5)]) hx hb dX8_freed_77 rfl hl (by decide) rfl (fun ls hl => ?_)
          refine lv_goto (tgt := 94) hx hb dX8_freed_78 (by decide) ?_
          refine lv_iinc (v := (x5 + 1)) (lv' := [(5, .int (x5 + 1)), (3, .int (-1)), (4, .int 1), (0, .ref (gB G 0)), (1, .int x1), (2, .int x2)]) hx hb dX8_freed_94 hl (k := 5) rfl rfl (by decide) rfl (fun ls hl => ?_)
          refine lv_goto (tgt := 34) hx hb dX8_freed_97 (by decide) ?_
          exact ih (-1) 1 (x5 + 1) h67 _ _ _ (lv_sub hl [3, 4, 5, 1, 2, 0] rfl) hP hS hf
      · replace hf := if_f c57 hf
        refine lv_goto (tgt := 94) hx hb dX8_freed_60 (by decide) ?_
        refine lv_iinc (v := (x5 + 1)) (lv' := [(5, .int (x5 + 1)), (0, .ref (gB G 0)), (1, .int x1), (2, .int x2), (3, .int x3), (4, .int x4)]) hx hb dX8_freed_94 hl (k := 5) rfl rfl (by decide) rfl (fun ls hl => ?_)
        refine lv_goto (tgt := 34) hx hb dX8_freed_97 (by decide) ?_
        exact ih x3 x4 (x5 + 1) h _ _ _ (lv_sub hl [1, 2, 3, 4, 5, 0] rfl) hP hS hf
def f_X8_freed (x1 : Int32) (x2 : Int32) (h : PH) : Option (Int32 × PH) := bP (f_X7_hasFault 4 x1 h) (fun r5 h5 => if r5 = 0 then (some ((-1001), h5)) else (bP (f_X0_hasLine 28 x2 h5) (fun r16 h16 => if r16 = 0 then (some ((-1001), h16)) else (f_X8_freed_34 x1 x2 FU (-1) 0 0 h16))))
set_option maxHeartbeats 4000000 in
set_option maxRecDepth 100000 in
theorem k_X8_freed (l : Launch) {G : GC} (hG : GOK G) {x1 : Int32} {x2 : Int32} {rr : Int32} {h hh : PH} (hf : f_X8_freed x1 x2 h = some (rr, hh)) : CI l yX8_freed vX8_freed rmX8_freed G [.ref (gB G 0), .int x1, .int x2] h rr hh := by
  refine Met.ofW (cc := cX8_freed) (maxL := 6) (ret := (some .int)) (by decide +kernel) rfl ?_
  intro p e s m args below meth c s₁ B hml hv
  obtain ⟨rfl, hP, hK⟩ := hv
  have C : MC l G p s m _ meth c RX8 cX8_freed 6 (some .int) := ⟨B.exec, B.bytes, B.returns, B.notSynchronized, hml, findClass_of_methodNamed B.named, fun w hw => atoms_spec (ws := vX8_freed) B.pre w (List.mem_cons_of_mem _ hw), hK⟩
  obtain ⟨hx, hb, hr, hlocks, -, hown, hts, -⟩ := id C
  have hl := lv_entry ([.ref (gB G 0), .int x1, .int x2]) (n := 6) (Nat.le_of_ble_eq_true rfl)
  rw [lg_entry_eq]
  generalize (lg_sl ([.ref (gB G 0), .int x1, .int x2]) ++ List.replicate (6 - (lg_sl ([.ref (gB G 0), .int x1, .int x2])).length) Slot.unset).toArray = ls at hl ⊢
  have hl : lv_has ls 6 [(0, .ref (gB G 0)), (1, .int x1), (2, .int x2)] := hl
  have hS : SP G s s.heap [] := va_S.rf
  replace hP : WP G h s.heap := hP
  rw [f_X8_freed] at hf
  refine lv_aload_n hx hb dX8_freed_0 rfl (lv_at hl 0 rfl) ?_
  refine r_get (a := 0) (v := .ref (gB G 4)) (C := RX8) (T := TX8) (N := 14) hx hb hts hinX8 hown hK hP (ltX8 rfl) (ceX8 rfl) rfl 2 (by decide) wd364 rfl dX8_freed_1 ?_
  refine lv_iload_n hx hb dX8_freed_4 rfl (lv_at hl 1 rfl) ?_
  obtain ⟨r5, h5, er5, hf⟩ := bP_s hf
  refine r_callI (va_runV (As := [.int x1]) (rest := []) ⟨hx, hb, hml, hown, hts⟩ (k_X7_hasFault l hG 4 (Or.inl rfl) er5) (cwV 1 hts (gV wd660 wd661 wd662 wd76 wd663) rfl rfl rfl (by decide +kernel) ⟨Nat.le_of_ble_eq_true rfl, Nat.le_of_ble_eq_true rfl⟩) (r_pv hK hP hS (ltX7 (Or.inl rfl)) (ceX7 (Or.inl rfl)) rfl) rfl rfl hl.1 rfl (lv_room (Nat.le_of_ble_eq_true rfl)) dX8_freed_5 ⟨Nat.le_of_ble_eq_true rfl, Nat.le_of_ble_eq_true rfl⟩) hS (fun H locs hP hS => ?_)
  refine lv_if_eq (tgt := 22) hx hb dX8_freed_8 (by decide) (fun c8 => ?_) (fun c8 => ?_)
  · replace hf := if_t c8 hf
    refine lv_sipush (v := (-1001)) hx hb dX8_freed_22 (by decide) ?_
    exact r_iret hx hb hr hlocks hP hS (re2 (Option.some.inj hf)) dX8_freed_25
  · replace hf := if_f c8 hf
    refine lv_aload_n hx hb dX8_freed_11 rfl (lv_at hl 0 rfl) ?_
    refine r_get (a := 0) (v := .ref (gB G 28)) (C := RX8) (T := TX8) (N := 14) hx hb hts hinX8 hown hK hP (ltX8 rfl) (ceX8 rfl) rfl 6 (by decide) wd368 rfl dX8_freed_12 ?_
    refine lv_iload_n hx hb dX8_freed_15 rfl (lv_at hl 2 rfl) ?_
    obtain ⟨r16, h16, er16, hf⟩ := bP_s hf
    refine r_callI (va_runV (As := [.int x2]) (rest := []) ⟨hx, hb, hml, hown, hts⟩ (k_X0_hasLine l hG 28 (Or.inl rfl) er16) (cwV 1 hts (gV wd684 wd685 wd686 wd78 wd687) rfl rfl rfl (by decide +kernel) ⟨Nat.le_of_ble_eq_true rfl, Nat.le_of_ble_eq_true rfl⟩) (r_pv hK hP hS (ltX0 (Or.inl rfl)) (ceX0 (Or.inl rfl)) rfl) rfl rfl hl.1 rfl (lv_room (Nat.le_of_ble_eq_true rfl)) dX8_freed_16 ⟨Nat.le_of_ble_eq_true rfl, Nat.le_of_ble_eq_true rfl⟩) hS (fun H locs hP hS => ?_)
    refine lv_if_ne (tgt := 26) hx hb dX8_freed_19 (by decide) (fun c19 => ?_) (fun c19 => ?_)
    · replace hf := if_f c19 hf
      refine lv_iconst (v := (-1)) hx hb dX8_freed_26 (by decide) ?_
      refine lv_istore_n (lv' := [(3, .int (-1)), (0, .ref (gB G 0)), (1, .int x1), (2, .int x2)]) hx hb dX8_freed_27 rfl hl (by decide) rfl (fun ls hl => ?_)
      refine lv_iconst (v := 0) hx hb dX8_freed_28 (by decide) ?_
      refine lv_istore (lv' := [(4, .int 0), (3, .int (-1)), (0, .ref (gB G 0)), (1, .int x1), (2, .int x2)]) hx hb dX8_freed_29 hl (by decide) rfl (fun ls hl => ?_)
      refine lv_iconst (v := 0) hx hb dX8_freed_31 (by decide) ?_
      refine lv_istore (lv' := [(5, .int 0), (4, .int 0), (3, .int (-1)), (0, .ref (gB G 0)), (1, .int x1), (2, .int x2)]) hx hb dX8_freed_32 hl (by decide) rfl (fun ls hl => ?_)
      exact w_X8_freed_34 hG C x1 x2 FU (-1) 0 0 h16 _ _ _ (lv_sub hl [3, 4, 5, 2, 1, 0] rfl) hP hS hf
    · replace hf := if_t c19 hf
      refine lv_sipush (v := (-1001)) hx hb dX8_freed_22 (by decide) ?_
      exact r_iret hx hb hr hlocks hP hS (re2 (Option.some.inj hf)) dX8_freed_25
/-! CarriedBack$Book.nextOfLine(I)I -/
abbrev rmX0_nextOfLine : Room := { frames := 0, cells := 0, slots := 0, locals := 0 }
abbrev vX0_nextOfLine : List Cond := Cond.code yX0_nextOfLine cX0_nextOfLine 3 (some .int) :: GW
def f_X0_nextOfLine_4 (a0 : Nat) (x1 : Int32) : Nat → Int32 → PH → Option (Int32 × PH)
  | 0, _, _ => none
  | n + 1, x2, h => if (h.1 a0 5) ≤ x2 then (some ((-1), h)) else (bO (ag h (a0 + 5) 20 x2) (fun v17 => bO (ag h (a0 + 5) 20 x1) (fun v23 => if v17 = v23 then (some (x2, h)) else ((f_X0_nextOfLine_4 a0 x1 n) (x2 + 1) h))))
set_option maxHeartbeats 4000000 in
set_option maxRecDepth 100000 in
theorem w_X0_nextOfLine_4 {l : Launch} {G : GC} (hG : GOK G) {rr : Int32} {hh : PH} {p : Program} {e : Env} {s : State} {m : MethodId} {args : Array Value} {below : List Frame} {meth : Method} {c : Code} (C : MC l G p s m args meth c RX0 cX0_nextOfLine 3 (some .int)) (a0 : Nat) (ha0 : kdX0 a0) (x1 : Int32) : ∀ (n : Nat) (x2 : Int32) (h : PH) (H : Heap) (locs : List Loc) (ls : Array Slot), lv_has ls 3 [(0, .ref (gB G a0)), (1, .int x1), (2, .int x2)] → WP G h H → SP G s H locs → f_X0_nextOfLine_4 a0 x1 n x2 h = some (rr, hh) → W p l e rmX0_nextOfLine s m args below meth c H locs 0 0 (MQ below (QI G rr hh) args s 0 0 (gA G)) (F0 m 4 ls []) := by
  obtain ⟨hx, hb, hr, hlocks, hml, hown, hts, hK⟩ := id C
  intro n
  induction n with
  | zero => intro x2 h H locs ls hl hP hS hf; rw [f_X0_nextOfLine_4] at hf; cases hf
  | succ n ih =>
    intro x2 h H locs ls hl hP hS hf
    rw [f_X0_nextOfLine_4] at hf
    refine lv_iload_n hx hb dX0_nextOfLine_4 rfl (lv_at hl 2 rfl) ?_
    refine lv_aload_n hx hb dX0_nextOfLine_5 rfl (lv_at hl 0 rfl) ?_
    refine r_get (a := a0) (v := .int (h.1 a0 5)) (C := RX0) (T := TX0) (N := 10) hx hb hts hinX0 hown hK hP (ltX0 ha0) (ceX0 ha0) rfl 5 (by decide) wd248 rfl dX0_nextOfLine_6 ?_
    refine lv_icmp_ge (tgt := 35) hx hb dX0_nextOfLine_9 (by decide) (fun c9 => ?_) (fun c9 => ?_)
    · replace hf := if_t c9 hf
      refine lv_iconst (v := (-1)) hx hb dX0_nextOfLine_35 (by decide) ?_
      exact r_iret hx hb hr hlocks hP hS (re2 (Option.some.inj hf)) dX0_nextOfLine_36
    · replace hf := if_f c9 hf
      refine lv_aload_n hx hb dX0_nextOfLine_12 rfl (lv_at hl 0 rfl) ?_
      refine r_get (a := a0) (v := .ref (gB G (a0 + 5))) (C := RX0) (T := TX0) (N := 10) hx hb hts hinX0 hown hK hP (ltX0 ha0) (ceX0 ha0) rfl 6 (by decide) wd250 rfl dX0_nextOfLine_13 ?_
      refine lv_iload_n hx hb dX0_nextOfLine_16 rfl (lv_at hl 2 rfl) ?_
      obtain ⟨v17, ev17, hf⟩ := bO_s hf
      refine r_iald hx hb hK hP (arX0_6 ha0) ev17 dX0_nextOfLine_17 ?_
      refine lv_aload_n hx hb dX0_nextOfLine_18 rfl (lv_at hl 0 rfl) ?_
      refine r_get (a := a0) (v := .ref (gB G (a0 + 5))) (C := RX0) (T := TX0) (N := 10) hx hb hts hinX0 hown hK hP (ltX0 ha0) (ceX0 ha0) rfl 6 (by decide) wd250 rfl dX0_nextOfLine_19 ?_
      refine lv_iload_n hx hb dX0_nextOfLine_22 rfl (lv_at hl 1 rfl) ?_
      obtain ⟨v23, ev23, hf⟩ := bO_s hf
      refine r_iald hx hb hK hP (arX0_6 ha0) ev23 dX0_nextOfLine_23 ?_
      refine lv_icmp_ne (tgt := 29) hx hb dX0_nextOfLine_24 (by decide) (fun c24 => ?_) (fun c24 => ?_)
      · replace hf := if_f c24 hf
        refine lv_iinc (v := (x2 + 1)) (lv' := [(2, .int (x2 + 1)), (0, .ref (gB G a0)), (1, .int x1)]) hx hb dX0_nextOfLine_29 hl (k := 2) rfl rfl (by decide) rfl (fun ls hl => ?_)
        refine lv_goto (tgt := 4) hx hb dX0_nextOfLine_32 (by decide) ?_
        exact ih (x2 + 1) h _ _ _ (lv_sub hl [1, 2, 0] rfl) hP hS hf
      · replace hf := if_t c24 hf
        refine lv_iload_n hx hb dX0_nextOfLine_27 rfl (lv_at hl 2 rfl) ?_
        exact r_iret hx hb hr hlocks hP hS (re2 (Option.some.inj hf)) dX0_nextOfLine_28
def f_X0_nextOfLine (a0 : Nat) (x1 : Int32) (h : PH) : Option (Int32 × PH) := lt' ((x1 + 1)) (fun x2_3 => f_X0_nextOfLine_4 a0 x1 FU x2_3 h)
set_option maxHeartbeats 4000000 in
set_option maxRecDepth 100000 in
theorem k_X0_nextOfLine (l : Launch) {G : GC} (hG : GOK G) (a0 : Nat) (ha0 : kdX0 a0) {x1 : Int32} {rr : Int32} {h hh : PH} (hf : f_X0_nextOfLine a0 x1 h = some (rr, hh)) : CI l yX0_nextOfLine vX0_nextOfLine rmX0_nextOfLine G [.ref (gB G a0), .int x1] h rr hh := by
  refine Met.ofW (cc := cX0_nextOfLine) (maxL := 3) (ret := (some .int)) (by decide +kernel) rfl ?_
  intro p e s m args below meth c s₁ B hml hv
  obtain ⟨rfl, hP, hK⟩ := hv
  have C : MC l G p s m _ meth c RX0 cX0_nextOfLine 3 (some .int) := ⟨B.exec, B.bytes, B.returns, B.notSynchronized, hml, findClass_of_methodNamed B.named, fun w hw => atoms_spec (ws := vX0_nextOfLine) B.pre w (List.mem_cons_of_mem _ hw), hK⟩
  obtain ⟨hx, hb, hr, hlocks, -, hown, hts, -⟩ := id C
  have hl := lv_entry ([.ref (gB G a0), .int x1]) (n := 3) (Nat.le_of_ble_eq_true rfl)
  rw [lg_entry_eq]
  generalize (lg_sl ([.ref (gB G a0), .int x1]) ++ List.replicate (3 - (lg_sl ([.ref (gB G a0), .int x1])).length) Slot.unset).toArray = ls at hl ⊢
  have hl : lv_has ls 3 [(0, .ref (gB G a0)), (1, .int x1)] := hl
  have hS : SP G s s.heap [] := va_S.rf
  replace hP : WP G h s.heap := hP
  rw [f_X0_nextOfLine] at hf
  refine lv_iload_n hx hb dX0_nextOfLine_0 rfl (lv_at hl 1 rfl) ?_
  refine lv_iconst (v := 1) hx hb dX0_nextOfLine_1 (by decide) ?_
  refine lv_iadd hx hb dX0_nextOfLine_2 ?_
  refine lv_topi (fun x2_3 ex2_3 => ?_)
  replace hf := lt_at ex2_3 hf
  refine lv_istore_n (lv' := [(2, .int x2_3), (0, .ref (gB G a0)), (1, .int x1)]) hx hb dX0_nextOfLine_3 rfl hl (by decide) rfl (fun ls hl => ?_)
  exact w_X0_nextOfLine_4 hG C a0 ha0 x1 FU x2_3 h _ _ _ (lv_sub hl [1, 2, 0] rfl) hP hS hf
/-! CarriedBack.danger(III)I -/
abbrev rmX8_danger : Room := { frames := 4, cells := 0, slots := 0, locals := 89 }
abbrev vX8_danger : List Cond := Cond.code yX8_danger cX8_danger 9 (some .int) :: GW
def f_X8_danger_103 (x1 : Int32) (x2 : Int32) (x3 : Int32) (k44 : Int32 → Int32 → PH → Option (Int32 × PH)) (x4 : Int32) (x5 : Int32) (t0 : Int32) (h : PH) : Option (Int32 × PH) := bO (ag h 34 20 x5) (fun v115 => lt' ((if x2 < v115 then v115 else x2)) (fun x8_119 => lt' ((x4 + (if 0 < ((t0 - x8_119) + 1) then ((t0 - x8_119) + 1) else 0))) (fun x4_135 => k44 x4_135 (x5 + 1) h)))
set_option maxHeartbeats 4000000 in
set_option maxRecDepth 100000 in
theorem w_X8_danger_103 {l : Launch} {G : GC} (hG : GOK G) {rr : Int32} {hh : PH} {p : Program} {e : Env} {s : State} {m : MethodId} {args : Array Value} {below : List Frame} {meth : Method} {c : Code} (C : MC l G p s m args meth c RX8 cX8_danger 9 (some .int)) (x1 : Int32) (x2 : Int32) (x3 : Int32) (k44 : Int32 → Int32 → PH → Option (Int32 × PH)) (hk44 : ∀ (x4 : Int32) (x5 : Int32) (h : PH) (H : Heap) (locs : List Loc) (ls : Array Slot), lv_has ls 9 [(0, .ref (gB G 0)), (1, .int x1), (2, .int x2), (3, .int x3), (4, .int x4), (5, .int x5)] → WP G h H → SP G s H locs → k44 x4 x5 h = some (rr, hh) → W p l e rmX8_danger s m args below meth c H locs 0 0 (MQ below (QI G rr hh) args s 0 0 (gA G)) (F0 m 44 ls [])) : ∀ (x4 : Int32) (x5 : Int32) (t0 : Int32) (h : PH) (H : Heap) (locs : List Loc) (ls : Array Slot), lv_has ls 9 [(0, .ref (gB G 0)), (1, .int x1), (2, .int x2), (3, .int x3), (4, .int x4), (5, .int x5)] → WP G h H → SP G s H locs → f_X8_danger_103 x1 x2 x3 k44 x4 x5 t0 h = some (rr, hh) → W p l e rmX8_danger s m args below meth c H locs 0 0 (MQ below (QI G rr hh) args s 0 0 (gA G)) (F0 m 103 ls [.int t0]) := by
  obtain ⟨hx, hb, hr, hlocks, hml, hown, hts, hK⟩ := id C
  intro x4 x5 t0 h H locs ls hl hP hS hf
  rw [f_X8_danger_103] at hf
  refine lv_istore (lv' := [(7, .int t0), (0, .ref (gB G 0)), (1, .int x1), (2, .int x2), (3, .int x3), (4, .int x4), (5, .int x5)]) hx hb dX8_danger_103 hl (by decide) rfl (fun ls hl => ?_)
  refine lv_iload_n hx hb dX8_danger_105 rfl (lv_at hl 3 rfl) ?_
  refine lv_aload_n hx hb dX8_danger_106 rfl (lv_at hl 1 rfl) ?_
  refine r_get (a := 0) (v := .ref (gB G 28)) (C := RX8) (T := TX8) (N := 14) hx hb hts hinX8 hown hK hP (ltX8 rfl) (ceX8 rfl) rfl 6 (by decide) wd368 rfl dX8_danger_107 ?_
  refine r_get (a := 28) (v := .ref (gB G 34)) (C := RX0) (T := TX0) (N := 10) hx hb hts hinX0 hown hK hP (ltX0 (Or.inl rfl)) (ceX0 (Or.inl rfl)) rfl 7 (by decide) wd253 rfl dX8_danger_110 ?_
  refine lv_iload hx hb dX8_danger_113 (lv_at hl 6 rfl) ?_
  obtain ⟨v115, ev115, hf⟩ := bO_s hf
  refine r_iald hx hb hK hP (arX0_7 (Or.inl rfl)) ev115 dX8_danger_115 ?_
  refine va_mmax hx hb (by rw [hml]; exact hl.1.symm) hown (hts _ wd890) (hts _ wd891) (hts _ wd89) (hts _ wd892) (Nat.le_of_ble_eq_true rfl) (Nat.le_of_ble_eq_true rfl) (Nat.le_refl _) (Nat.le_refl _) dX8_danger_116 ?_
  refine lv_topi (fun x8_119 ex8_119 => ?_)
  replace hf := lt_at ex8_119 hf
  refine lv_istore (lv' := [(8, .int x8_119), (7, .int t0), (0, .ref (gB G 0)), (1, .int x1), (2, .int x2), (3, .int x3), (4, .int x4), (5, .int x5)]) hx hb dX8_danger_119 hl (by decide) rfl (fun ls hl => ?_)
  refine lv_iload hx hb dX8_danger_121 (lv_at hl 6 rfl) ?_
  refine lv_iconst (v := 0) hx hb dX8_danger_123 (by decide) ?_
  refine lv_iload hx hb dX8_danger_124 (lv_at hl 1 rfl) ?_
  refine lv_iload hx hb dX8_danger_126 (lv_at hl 0 rfl) ?_
  refine lv_isub hx hb dX8_danger_128 ?_
  refine lv_iconst (v := 1) hx hb dX8_danger_129 (by decide) ?_
  refine lv_iadd hx hb dX8_danger_130 ?_
  refine va_mmax hx hb (by rw [hml]; exact hl.1.symm) hown (hts _ wd890) (hts _ wd891) (hts _ wd89) (hts _ wd892) (Nat.le_of_ble_eq_true rfl) (Nat.le_of_ble_eq_true rfl) (Nat.le_refl _) (Nat.le_refl _) dX8_danger_131 ?_
  refine lv_iadd hx hb dX8_danger_134 ?_
  refine lv_topi (fun x4_135 ex4_135 => ?_)
  replace hf := lt_at ex4_135 hf
  refine lv_istore (lv' := [(4, .int x4_135), (8, .int x8_119), (7, .int t0), (0, .ref (gB G 0)), (1, .int x1), (2, .int x2), (3, .int x3), (5, .int x5)]) hx hb dX8_danger_135 hl (by decide) rfl (fun ls hl => ?_)
  refine lv_iinc (v := (x5 + 1)) (lv' := [(5, .int (x5 + 1)), (4, .int x4_135), (8, .int x8_119), (7, .int t0), (0, .ref (gB G 0)), (1, .int x1), (2, .int x2), (3, .int x3)]) hx hb dX8_danger_137 hl (k := 7) rfl rfl (by decide) rfl (fun ls hl => ?_)
  refine lv_goto (tgt := 44) hx hb dX8_danger_140 (by decide) ?_
  exact hk44 x4_135 (x5 + 1) h _ _ _ (lv_sub hl [4, 5, 6, 7, 1, 0] rfl) hP hS hf
def f_X8_danger_44 (x1 : Int32) (x2 : Int32) (x3 : Int32) : Nat → Int32 → Int32 → PH → Option (Int32 × PH)
  | 0, _, _, _ => none
  | n + 1, x4, x5, h => if (h.1 28 5) ≤ x5 then (some (x4, h)) else (bP (f_X8_isFree x5 x1 h) (fun r60 h60 => if r60 = 0 then (bP (f_X0_nextOfLine 28 x5 h60) (fun r72 h72 => if r72 = (-1) then (f_X8_danger_103 x1 x2 x3 (f_X8_danger_44 x1 x2 x3 n) x4 x5 x3 h72) else (bO (ag h72 34 20 r72) (fun v97 => f_X8_danger_103 x1 x2 x3 (f_X8_danger_44 x1 x2 x3 n) x4 x5 (if (v97 - 1) < x3 then (v97 - 1) else x3) h72)))) else ((f_X8_danger_44 x1 x2 x3 n) x4 (x5 + 1) h60)))
set_option maxHeartbeats 4000000 in
set_option maxRecDepth 100000 in
theorem w_X8_danger_44 {l : Launch} {G : GC} (hG : GOK G) {rr : Int32} {hh : PH} {p : Program} {e : Env} {s : State} {m : MethodId} {args : Array Value} {below : List Frame} {meth : Method} {c : Code} (C : MC l G p s m args meth c RX8 cX8_danger 9 (some .int)) (x1 : Int32) (x2 : Int32) (x3 : Int32) : ∀ (n : Nat) (x4 : Int32) (x5 : Int32) (h : PH) (H : Heap) (locs : List Loc) (ls : Array Slot), lv_has ls 9 [(0, .ref (gB G 0)), (1, .int x1), (2, .int x2), (3, .int x3), (4, .int x4), (5, .int x5)] → WP G h H → SP G s H locs → f_X8_danger_44 x1 x2 x3 n x4 x5 h = some (rr, hh) → W p l e rmX8_danger s m args below meth c H locs 0 0 (MQ below (QI G rr hh) args s 0 0 (gA G)) (F0 m 44 ls []) := by
  obtain ⟨hx, hb, hr, hlocks, hml, hown, hts, hK⟩ := id C
  intro n
  induction n with
  | zero => intro x4 x5 h H locs ls hl hP hS hf; rw [f_X8_danger_44] at hf; cases hf
  | succ n ih =>
    intro x4 x5 h H locs ls hl hP hS hf
    rw [f_X8_danger_44] at hf
    refine lv_iload hx hb dX8_danger_44 (lv_at hl 5 rfl) ?_
    refine lv_aload_n hx hb dX8_danger_46 rfl (lv_at hl 0 rfl) ?_
    refine r_get (a := 0) (v := .ref (gB G 28)) (C := RX8) (T := TX8) (N := 14) hx hb hts hinX8 hown hK hP (ltX8 rfl) (ceX8 rfl) rfl 6 (by decide) wd368 rfl dX8_danger_47 ?_
    refine r_get (a := 28) (v := .int (h.1 28 5)) (C := RX0) (T := TX0) (N := 10) hx hb hts hinX0 hown hK hP (ltX0 (Or.inl rfl)) (ceX0 (Or.inl rfl)) rfl 5 (by decide) wd249 rfl dX8_danger_50 ?_
    refine lv_icmp_ge (tgt := 143) hx hb dX8_danger_53 (by decide) (fun c53 => ?_) (fun c53 => ?_)
    · replace hf := if_t c53 hf
      refine lv_iload hx hb dX8_danger_143 (lv_at hl 4 rfl) ?_
      exact r_iret hx hb hr hlocks hP hS (re2 (Option.some.inj hf)) dX8_danger_145
    · replace hf := if_f c53 hf
      refine lv_aload_n hx hb dX8_danger_56 rfl (lv_at hl 0 rfl) ?_
      refine lv_iload hx hb dX8_danger_57 (lv_at hl 5 rfl) ?_
      refine lv_iload_n hx hb dX8_danger_59 rfl (lv_at hl 1 rfl) ?_
      obtain ⟨r60, h60, er60, hf⟩ := bP_s hf
      refine r_callI (va_runV (As := [.int x5, .int x1]) (rest := []) ⟨hx, hb, hml, hown, hts⟩ (k_X8_isFree l hG er60) (cwV 2 hts (gV wd878 wd880 wd18 wd73 wd881) rfl rfl rfl (by decide +kernel) ⟨Nat.le_of_ble_eq_true rfl, Nat.le_of_ble_eq_true rfl⟩) (r_pv hK hP hS (ltX8 rfl) (ceX8 rfl) rfl) rfl rfl hl.1 rfl (lv_room (Nat.le_of_ble_eq_true rfl)) dX8_danger_60 ⟨Nat.le_of_ble_eq_true rfl, Nat.le_of_ble_eq_true rfl⟩) hS (fun H locs hP hS => ?_)
      refine lv_if_ne (tgt := 137) hx hb dX8_danger_63 (by decide) (fun c63 => ?_) (fun c63 => ?_)
      · replace hf := if_f c63 hf
        refine lv_iinc (v := (x5 + 1)) (lv' := [(5, .int (x5 + 1)), (0, .ref (gB G 0)), (1, .int x1), (2, .int x2), (3, .int x3), (4, .int x4)]) hx hb dX8_danger_137 hl (k := 5) rfl rfl (by decide) rfl (fun ls hl => ?_)
        refine lv_goto (tgt := 44) hx hb dX8_danger_140 (by decide) ?_
        exact ih x4 (x5 + 1) h60 _ _ _ (lv_sub hl [1, 2, 3, 4, 5, 0] rfl) hP hS hf
      · replace hf := if_t c63 hf
        refine lv_aload_n hx hb dX8_danger_66 rfl (lv_at hl 0 rfl) ?_
        refine r_get (a := 0) (v := .ref (gB G 28)) (C := RX8) (T := TX8) (N := 14) hx hb hts hinX8 hown hK hP (ltX8 rfl) (ceX8 rfl) rfl 6 (by decide) wd368 rfl dX8_danger_67 ?_
        refine lv_iload hx hb dX8_danger_70 (lv_at hl 5 rfl) ?_
        obtain ⟨r72, h72, er72, hf⟩ := bP_s hf
        refine r_callI (va_runV (As := [.int x5]) (rest := []) ⟨hx, hb, hml, hown, hts⟩ (k_X0_nextOfLine l hG 28 (Or.inl rfl) er72) (cwV 1 hts (gV wd886 wd887 wd888 wd78 wd889) rfl rfl rfl (by decide +kernel) ⟨Nat.le_of_ble_eq_true rfl, Nat.le_of_ble_eq_true rfl⟩) (r_pv hK hP hS (ltX0 (Or.inl rfl)) (ceX0 (Or.inl rfl)) rfl) rfl rfl hl.1 rfl (lv_room (Nat.le_of_ble_eq_true rfl)) dX8_danger_72 ⟨Nat.le_of_ble_eq_true rfl, Nat.le_of_ble_eq_true rfl⟩) hS (fun H locs hP hS => ?_)
        refine lv_istore (lv' := [(6, .int r72), (0, .ref (gB G 0)), (1, .int x1), (2, .int x2), (3, .int x3), (4, .int x4), (5, .int x5)]) hx hb dX8_danger_75 hl (by decide) rfl (fun ls hl => ?_)
        refine lv_iload hx hb dX8_danger_77 (lv_at hl 0 rfl) ?_
        refine lv_iconst (v := (-1)) hx hb dX8_danger_79 (by decide) ?_
        refine lv_icmp_ne (tgt := 87) hx hb dX8_danger_80 (by decide) (fun c80 => ?_) (fun c80 => ?_)
        · replace hf := if_f c80 hf
          refine lv_iload_n hx hb dX8_danger_87 rfl (lv_at hl 4 rfl) ?_
          refine lv_aload_n hx hb dX8_danger_88 rfl (lv_at hl 1 rfl) ?_
          refine r_get (a := 0) (v := .ref (gB G 28)) (C := RX8) (T := TX8) (N := 14) hx hb hts hinX8 hown hK hP (ltX8 rfl) (ceX8 rfl) rfl 6 (by decide) wd368 rfl dX8_danger_89 ?_
          refine r_get (a := 28) (v := .ref (gB G 34)) (C := RX0) (T := TX0) (N := 10) hx hb hts hinX0 hown hK hP (ltX0 (Or.inl rfl)) (ceX0 (Or.inl rfl)) rfl 7 (by decide) wd253 rfl dX8_danger_92 ?_
          refine lv_iload hx hb dX8_danger_95 (lv_at hl 0 rfl) ?_
          obtain ⟨v97, ev97, hf⟩ := bO_s hf
          refine r_iald hx hb hK hP (arX0_7 (Or.inl rfl)) ev97 dX8_danger_97 ?_
          refine lv_iconst (v := 1) hx hb dX8_danger_98 (by decide) ?_
          refine lv_isub hx hb dX8_danger_99 ?_
          refine va_mmin hx hb (by rw [hml]; exact hl.1.symm) hown (hts _ wd834) (hts _ wd835) (hts _ wd89) (hts _ wd836) (Nat.le_of_ble_eq_true rfl) (Nat.le_of_ble_eq_true rfl) (Nat.le_refl _) (Nat.le_refl _) dX8_danger_100 ?_
          exact w_X8_danger_103 hG C x1 x2 x3 (f_X8_danger_44 x1 x2 x3 n) ih x4 x5 (if (v97 - 1) < x3 then (v97 - 1) else x3) h72 _ _ _ (lv_sub hl [1, 2, 3, 4, 5, 6] rfl) hP hS hf
        · replace hf := if_t c80 hf
          refine lv_iload_n hx hb dX8_danger_83 rfl (lv_at hl 4 rfl) ?_
          refine lv_goto (tgt := 103) hx hb dX8_danger_84 (by decide) ?_
          exact w_X8_danger_103 hG C x1 x2 x3 (f_X8_danger_44 x1 x2 x3 n) ih x4 x5 x3 h72 _ _ _ (lv_sub hl [1, 2, 3, 4, 5, 6] rfl) hP hS hf
def f_X8_danger (x1 : Int32) (x2 : Int32) (x3 : Int32) (h : PH) : Option (Int32 × PH) := bP (f_X7_hasFault 4 x1 h) (fun r5 h5 => if r5 = 0 then (some ((-1001), h5)) else (bO (f_X8_isDay x2) (fun r16 => if r16 = 0 then (some ((-1002), h5)) else (bO (f_X8_isDay x3) (fun r23 => if r23 = 0 then (some ((-1002), h5)) else (if x2 ≤ x3 then (f_X8_danger_44 x1 x2 x3 FU 0 0 h5) else (some ((-1002), h5))))))))
set_option maxHeartbeats 4000000 in
set_option maxRecDepth 100000 in
theorem k_X8_danger (l : Launch) {G : GC} (hG : GOK G) {x1 : Int32} {x2 : Int32} {x3 : Int32} {rr : Int32} {h hh : PH} (hf : f_X8_danger x1 x2 x3 h = some (rr, hh)) : CI l yX8_danger vX8_danger rmX8_danger G [.ref (gB G 0), .int x1, .int x2, .int x3] h rr hh := by
  refine Met.ofW (cc := cX8_danger) (maxL := 9) (ret := (some .int)) (by decide +kernel) rfl ?_
  intro p e s m args below meth c s₁ B hml hv
  obtain ⟨rfl, hP, hK⟩ := hv
  have C : MC l G p s m _ meth c RX8 cX8_danger 9 (some .int) := ⟨B.exec, B.bytes, B.returns, B.notSynchronized, hml, findClass_of_methodNamed B.named, fun w hw => atoms_spec (ws := vX8_danger) B.pre w (List.mem_cons_of_mem _ hw), hK⟩
  obtain ⟨hx, hb, hr, hlocks, -, hown, hts, -⟩ := id C
  have hl := lv_entry ([.ref (gB G 0), .int x1, .int x2, .int x3]) (n := 9) (Nat.le_of_ble_eq_true rfl)
  rw [lg_entry_eq]
  generalize (lg_sl ([.ref (gB G 0), .int x1, .int x2, .int x3]) ++ List.replicate (9 - (lg_sl ([.ref (gB G 0), .int x1, .int x2, .int x3])).length) Slot.unset).toArray = ls at hl ⊢
  have hl : lv_has ls 9 [(0, .ref (gB G 0)), (1, .int x1), (2, .int x2), (3, .int x3)] := hl
  have hS : SP G s s.heap [] := va_S.rf
  replace hP : WP G h s.heap := hP
  rw [f_X8_danger] at hf
  refine lv_aload_n hx hb dX8_danger_0 rfl (lv_at hl 0 rfl) ?_
  refine r_get (a := 0) (v := .ref (gB G 4)) (C := RX8) (T := TX8) (N := 14) hx hb hts hinX8 hown hK hP (ltX8 rfl) (ceX8 rfl) rfl 2 (by decide) wd364 rfl dX8_danger_1 ?_
  refine lv_iload_n hx hb dX8_danger_4 rfl (lv_at hl 1 rfl) ?_
  obtain ⟨r5, h5, er5, hf⟩ := bP_s hf
  refine r_callI (va_runV (As := [.int x1]) (rest := []) ⟨hx, hb, hml, hown, hts⟩ (k_X7_hasFault l hG 4 (Or.inl rfl) er5) (cwV 1 hts (gV wd660 wd661 wd662 wd76 wd663) rfl rfl rfl (by decide +kernel) ⟨Nat.le_of_ble_eq_true rfl, Nat.le_of_ble_eq_true rfl⟩) (r_pv hK hP hS (ltX7 (Or.inl rfl)) (ceX7 (Or.inl rfl)) rfl) rfl rfl hl.1 rfl (lv_room (Nat.le_of_ble_eq_true rfl)) dX8_danger_5 ⟨Nat.le_of_ble_eq_true rfl, Nat.le_of_ble_eq_true rfl⟩) hS (fun H locs hP hS => ?_)
  refine lv_if_ne (tgt := 15) hx hb dX8_danger_8 (by decide) (fun c8 => ?_) (fun c8 => ?_)
  · replace hf := if_f c8 hf
    refine lv_iload_n hx hb dX8_danger_15 rfl (lv_at hl 2 rfl) ?_
    obtain ⟨r16, er16, hf⟩ := bO_s hf
    refine r_callI (va_runS (As := [.int x2]) (rest := []) ⟨hx, hb, hml, hown, hts⟩ (k_X8_isDay l hG (h := h5) er16) (va_cwS 1 hts (gS wd847 wd848 wd73 wd849) rfl rfl rfl (by decide +kernel) ⟨Nat.le_of_ble_eq_true rfl, Nat.le_of_ble_eq_true rfl⟩) (r_ps hK hP hS) rfl rfl hl.1 rfl (lv_room (Nat.le_of_ble_eq_true rfl)) dX8_danger_16 ⟨Nat.le_of_ble_eq_true rfl, Nat.le_of_ble_eq_true rfl⟩) hS (fun H locs hP hS => ?_)
    refine lv_if_eq (tgt := 34) hx hb dX8_danger_19 (by decide) (fun c19 => ?_) (fun c19 => ?_)
    · replace hf := if_t c19 hf
      refine lv_sipush (v := (-1002)) hx hb dX8_danger_34 (by decide) ?_
      exact r_iret hx hb hr hlocks hP hS (re2 (Option.some.inj hf)) dX8_danger_37
    · replace hf := if_f c19 hf
      refine lv_iload_n hx hb dX8_danger_22 rfl (lv_at hl 3 rfl) ?_
      obtain ⟨r23, er23, hf⟩ := bO_s hf
      refine r_callI (va_runS (As := [.int x3]) (rest := []) ⟨hx, hb, hml, hown, hts⟩ (k_X8_isDay l hG (h := h5) er23) (va_cwS 1 hts (gS wd847 wd848 wd73 wd849) rfl rfl rfl (by decide +kernel) ⟨Nat.le_of_ble_eq_true rfl, Nat.le_of_ble_eq_true rfl⟩) (r_ps hK hP hS) rfl rfl hl.1 rfl (lv_room (Nat.le_of_ble_eq_true rfl)) dX8_danger_23 ⟨Nat.le_of_ble_eq_true rfl, Nat.le_of_ble_eq_true rfl⟩) hS (fun H locs hP hS => ?_)
      refine lv_if_eq (tgt := 34) hx hb dX8_danger_26 (by decide) (fun c26 => ?_) (fun c26 => ?_)
      · replace hf := if_t c26 hf
        refine lv_sipush (v := (-1002)) hx hb dX8_danger_34 (by decide) ?_
        exact r_iret hx hb hr hlocks hP hS (re2 (Option.some.inj hf)) dX8_danger_37
      · replace hf := if_f c26 hf
        refine lv_iload_n hx hb dX8_danger_29 rfl (lv_at hl 3 rfl) ?_
        refine lv_iload_n hx hb dX8_danger_30 rfl (lv_at hl 2 rfl) ?_
        refine lv_icmp_ge (tgt := 38) hx hb dX8_danger_31 (by decide) (fun c31 => ?_) (fun c31 => ?_)
        · replace hf := if_t c31 hf
          refine lv_iconst (v := 0) hx hb dX8_danger_38 (by decide) ?_
          refine lv_istore (lv' := [(4, .int 0), (0, .ref (gB G 0)), (1, .int x1), (2, .int x2), (3, .int x3)]) hx hb dX8_danger_39 hl (by decide) rfl (fun ls hl => ?_)
          refine lv_iconst (v := 0) hx hb dX8_danger_41 (by decide) ?_
          refine lv_istore (lv' := [(5, .int 0), (4, .int 0), (0, .ref (gB G 0)), (1, .int x1), (2, .int x2), (3, .int x3)]) hx hb dX8_danger_42 hl (by decide) rfl (fun ls hl => ?_)
          exact w_X8_danger_44 hG C x1 x2 x3 FU 0 0 h5 _ _ _ (lv_sub hl [2, 3, 4, 5, 1, 0] rfl) hP hS hf
        · replace hf := if_f c31 hf
          refine lv_sipush (v := (-1002)) hx hb dX8_danger_34 (by decide) ?_
          exact r_iret hx hb hr hlocks hP hS (re2 (Option.some.inj hf)) dX8_danger_37
  · replace hf := if_t c8 hf
    refine lv_sipush (v := (-1001)) hx hb dX8_danger_11 (by decide) ?_
    exact r_iret hx hb hr hlocks hP hS (re2 (Option.some.inj hf)) dX8_danger_14
/-! CarriedBack.every(II)I -/
abbrev rmX8_every : Room := { frames := 1, cells := 0, slots := 0, locals := 21 }
abbrev vX8_every : List Cond := Cond.code yX8_every cX8_every 4 (some .int) :: GW
def f_X8_every (x1 : Int32) (x2 : Int32) (h : PH) : Option (Int32 × PH) := bP (f_X0_hasLine 28 x1 h) (fun r5 h5 => if r5 = 0 then (some ((-1001), h5)) else (if x2 < 0 then (some ((-1002), h5)) else (if x2 ≤ 99 then (bO (ag h5 31 4 x1) (fun v37 => bO (asg h5 31 4 x1 x2) (fun h48 => some (v37, h48)))) else (some ((-1002), h5)))))
set_option maxHeartbeats 4000000 in
set_option maxRecDepth 100000 in
theorem k_X8_every (l : Launch) {G : GC} (hG : GOK G) {x1 : Int32} {x2 : Int32} {rr : Int32} {h hh : PH} (hf : f_X8_every x1 x2 h = some (rr, hh)) : CI l yX8_every vX8_every rmX8_every G [.ref (gB G 0), .int x1, .int x2] h rr hh := by
  refine Met.ofW (cc := cX8_every) (maxL := 4) (ret := (some .int)) (by decide +kernel) rfl ?_
  intro p e s m args below meth c s₁ B hml hv
  obtain ⟨rfl, hP, hK⟩ := hv
  have C : MC l G p s m _ meth c RX8 cX8_every 4 (some .int) := ⟨B.exec, B.bytes, B.returns, B.notSynchronized, hml, findClass_of_methodNamed B.named, fun w hw => atoms_spec (ws := vX8_every) B.pre w (List.mem_cons_of_mem _ hw), hK⟩
  obtain ⟨hx, hb, hr, hlocks, -, hown, hts, -⟩ := id C
  have hl := lv_entry ([.ref (gB G 0), .int x1, .int x2]) (n := 4) (Nat.le_of_ble_eq_true rfl)
  rw [lg_entry_eq]
  generalize (lg_sl ([.ref (gB G 0), .int x1, .int x2]) ++ List.replicate (4 - (lg_sl ([.ref (gB G 0), .int x1, .int x2])).length) Slot.unset).toArray = ls at hl ⊢
  have hl : lv_has ls 4 [(0, .ref (gB G 0)), (1, .int x1), (2, .int x2)] := hl
  have hS : SP G s s.heap [] := va_S.rf
  replace hP : WP G h s.heap := hP
  rw [f_X8_every] at hf
  refine lv_aload_n hx hb dX8_every_0 rfl (lv_at hl 0 rfl) ?_
  refine r_get (a := 0) (v := .ref (gB G 28)) (C := RX8) (T := TX8) (N := 14) hx hb hts hinX8 hown hK hP (ltX8 rfl) (ceX8 rfl) rfl 6 (by decide) wd368 rfl dX8_every_1 ?_
  refine lv_iload_n hx hb dX8_every_4 rfl (lv_at hl 1 rfl) ?_
  obtain ⟨r5, h5, er5, hf⟩ := bP_s hf
  refine r_callI (va_runV (As := [.int x1]) (rest := []) ⟨hx, hb, hml, hown, hts⟩ (k_X0_hasLine l hG 28 (Or.inl rfl) er5) (cwV 1 hts (gV wd684 wd685 wd686 wd78 wd687) rfl rfl rfl (by decide +kernel) ⟨Nat.le_of_ble_eq_true rfl, Nat.le_of_ble_eq_true rfl⟩) (r_pv hK hP hS (ltX0 (Or.inl rfl)) (ceX0 (Or.inl rfl)) rfl) rfl rfl hl.1 rfl (lv_room (Nat.le_of_ble_eq_true rfl)) dX8_every_5 ⟨Nat.le_of_ble_eq_true rfl, Nat.le_of_ble_eq_true rfl⟩) hS (fun H locs hP hS => ?_)
  refine lv_if_ne (tgt := 15) hx hb dX8_every_8 (by decide) (fun c8 => ?_) (fun c8 => ?_)
  · replace hf := if_f c8 hf
    refine lv_iload_n hx hb dX8_every_15 rfl (lv_at hl 2 rfl) ?_
    refine lv_if_lt (tgt := 25) hx hb dX8_every_16 (by decide) (fun c16 => ?_) (fun c16 => ?_)
    · replace hf := if_t c16 hf
      refine lv_sipush (v := (-1002)) hx hb dX8_every_25 (by decide) ?_
      exact r_iret hx hb hr hlocks hP hS (re2 (Option.some.inj hf)) dX8_every_28
    · replace hf := if_f c16 hf
      refine lv_iload_n hx hb dX8_every_19 rfl (lv_at hl 2 rfl) ?_
      refine lv_bipush (v := 99) hx hb dX8_every_20 (by decide) ?_
      refine lv_icmp_le (tgt := 29) hx hb dX8_every_22 (by decide) (fun c22 => ?_) (fun c22 => ?_)
      · replace hf := if_t c22 hf
        refine lv_aload_n hx hb dX8_every_29 rfl (lv_at hl 0 rfl) ?_
        refine r_get (a := 0) (v := .ref (gB G 28)) (C := RX8) (T := TX8) (N := 14) hx hb hts hinX8 hown hK hP (ltX8 rfl) (ceX8 rfl) rfl 6 (by decide) wd368 rfl dX8_every_30 ?_
        refine r_get (a := 28) (v := .ref (gB G 31)) (C := RX0) (T := TX0) (N := 10) hx hb hts hinX0 hown hK hP (ltX0 (Or.inl rfl)) (ceX0 (Or.inl rfl)) rfl 3 (by decide) wd244 rfl dX8_every_33 ?_
        refine lv_iload_n hx hb dX8_every_36 rfl (lv_at hl 1 rfl) ?_
        obtain ⟨v37, ev37, hf⟩ := bO_s hf
        refine r_iald hx hb hK hP (arX0_3 (Or.inl rfl)) ev37 dX8_every_37 ?_
        refine lv_istore_n (lv' := [(3, .int v37), (0, .ref (gB G 0)), (1, .int x1), (2, .int x2)]) hx hb dX8_every_38 rfl hl (by decide) rfl (fun ls hl => ?_)
        refine lv_aload_n hx hb dX8_every_39 rfl (lv_at hl 1 rfl) ?_
        refine r_get (a := 0) (v := .ref (gB G 28)) (C := RX8) (T := TX8) (N := 14) hx hb hts hinX8 hown hK hP (ltX8 rfl) (ceX8 rfl) rfl 6 (by decide) wd368 rfl dX8_every_40 ?_
        refine r_get (a := 28) (v := .ref (gB G 31)) (C := RX0) (T := TX0) (N := 10) hx hb hts hinX0 hown hK hP (ltX0 (Or.inl rfl)) (ceX0 (Or.inl rfl)) rfl 3 (by decide) wd244 rfl dX8_every_43 ?_
        refine lv_iload_n hx hb dX8_every_46 rfl (lv_at hl 2 rfl) ?_
        refine lv_iload_n hx hb dX8_every_47 rfl (lv_at hl 3 rfl) ?_
        obtain ⟨h48, eh48, hf⟩ := bO_s hf
        refine r_iast hG hx hb hK hP hS (arX0_3 (Or.inl rfl)) eh48 dX8_every_48 (fun H locs hP hS => ?_)
        refine lv_iload_n hx hb dX8_every_49 rfl (lv_at hl 0 rfl) ?_
        exact r_iret hx hb hr hlocks hP hS (re2 (Option.some.inj hf)) dX8_every_50
      · replace hf := if_f c22 hf
        refine lv_sipush (v := (-1002)) hx hb dX8_every_25 (by decide) ?_
        exact r_iret hx hb hr hlocks hP hS (re2 (Option.some.inj hf)) dX8_every_28
  · replace hf := if_t c8 hf
    refine lv_sipush (v := (-1001)) hx hb dX8_every_11 (by decide) ?_
    exact r_iret hx hb hr hlocks hP hS (re2 (Option.some.inj hf)) dX8_every_14
/-! CarriedBack.trainWithFix(III)I -/
abbrev rmX8_trainWithFix : Room := { frames := 5, cells := 0, slots := 0, locals := 127 }
abbrev vX8_trainWithFix : List Cond := Cond.code yX8_trainWithFix cX8_trainWithFix 6 (some .int) :: GW
def f_X8_trainWithFix (x1 : Int32) (x2 : Int32) (x3 : Int32) (h : PH) : Option (Int32 × PH) := bO (ag h 31 4 x1) (fun v8 => bO (f_X1_lookAt x1 (1 <<< (x2 &&& 31)) h) (fun h19 => if v8 < 1 then (some ((-1), h19)) else (bP (f_X1_costOf (1 <<< (x2 &&& 31)) h19) (fun r35 h35 => if r35 = (-1) then (some ((-1), h35)) else (dz v8 (lt' ((x3 - x3 / v8 * v8)) (fun x5_48 => if x5_48 = 0 then (some (x3, h35)) else (some (((x3 + v8) - x5_48), h35)))))))))
set_option maxHeartbeats 4000000 in
set_option maxRecDepth 100000 in
theorem k_X8_trainWithFix (l : Launch) {G : GC} (hG : GOK G) {x1 : Int32} {x2 : Int32} {x3 : Int32} {rr : Int32} {h hh : PH} (hf : f_X8_trainWithFix x1 x2 x3 h = some (rr, hh)) : CI l yX8_trainWithFix vX8_trainWithFix rmX8_trainWithFix G [.ref (gB G 0), .int x1, .int x2, .int x3] h rr hh := by
  refine Met.ofW (cc := cX8_trainWithFix) (maxL := 6) (ret := (some .int)) (by decide +kernel) rfl ?_
  intro p e s m args below meth c s₁ B hml hv
  obtain ⟨rfl, hP, hK⟩ := hv
  have C : MC l G p s m _ meth c RX8 cX8_trainWithFix 6 (some .int) := ⟨B.exec, B.bytes, B.returns, B.notSynchronized, hml, findClass_of_methodNamed B.named, fun w hw => atoms_spec (ws := vX8_trainWithFix) B.pre w (List.mem_cons_of_mem _ hw), hK⟩
  obtain ⟨hx, hb, hr, hlocks, -, hown, hts, -⟩ := id C
  have hl := lv_entry ([.ref (gB G 0), .int x1, .int x2, .int x3]) (n := 6) (Nat.le_of_ble_eq_true rfl)
  rw [lg_entry_eq]
  generalize (lg_sl ([.ref (gB G 0), .int x1, .int x2, .int x3]) ++ List.replicate (6 - (lg_sl ([.ref (gB G 0), .int x1, .int x2, .int x3])).length) Slot.unset).toArray = ls at hl ⊢
  have hl : lv_has ls 6 [(0, .ref (gB G 0)), (1, .int x1), (2, .int x2), (3, .int x3)] := hl
  have hS : SP G s s.heap [] := va_S.rf
  replace hP : WP G h s.heap := hP
  rw [f_X8_trainWithFix] at hf
  refine lv_aload_n hx hb dX8_trainWithFix_0 rfl (lv_at hl 0 rfl) ?_
  refine r_get (a := 0) (v := .ref (gB G 28)) (C := RX8) (T := TX8) (N := 14) hx hb hts hinX8 hown hK hP (ltX8 rfl) (ceX8 rfl) rfl 6 (by decide) wd368 rfl dX8_trainWithFix_1 ?_
  refine r_get (a := 28) (v := .ref (gB G 31)) (C := RX0) (T := TX0) (N := 10) hx hb hts hinX0 hown hK hP (ltX0 (Or.inl rfl)) (ceX0 (Or.inl rfl)) rfl 3 (by decide) wd244 rfl dX8_trainWithFix_4 ?_
  refine lv_iload_n hx hb dX8_trainWithFix_7 rfl (lv_at hl 1 rfl) ?_
  obtain ⟨v8, ev8, hf⟩ := bO_s hf
  refine r_iald hx hb hK hP (arX0_3 (Or.inl rfl)) ev8 dX8_trainWithFix_8 ?_
  refine lv_istore (lv' := [(4, .int v8), (0, .ref (gB G 0)), (1, .int x1), (2, .int x2), (3, .int x3)]) hx hb dX8_trainWithFix_9 hl (by decide) rfl (fun ls hl => ?_)
  refine lv_aload_n hx hb dX8_trainWithFix_11 rfl (lv_at hl 1 rfl) ?_
  refine r_get (a := 0) (v := .ref (gB G 58)) (C := RX8) (T := TX8) (N := 14) hx hb hts hinX8 hown hK hP (ltX8 rfl) (ceX8 rfl) rfl 10 (by decide) wd372 rfl dX8_trainWithFix_12 ?_
  refine lv_iload_n hx hb dX8_trainWithFix_15 rfl (lv_at hl 2 rfl) ?_
  refine lv_iconst (v := 1) hx hb dX8_trainWithFix_16 (by decide) ?_
  refine lv_iload_n hx hb dX8_trainWithFix_17 rfl (lv_at hl 3 rfl) ?_
  refine lv_ishl hx hb dX8_trainWithFix_18 ?_
  obtain ⟨h19, eh19, hf⟩ := bO_s hf
  refine r_callV (va_runV (As := [.int x1, .int (1 <<< (x2 &&& 31))]) (rest := []) ⟨hx, hb, hml, hown, hts⟩ (k_X1_lookAt l hG eh19) (cwV 2 hts (gV wd793 wd794 wd795 wd80 wd796) rfl rfl rfl (by decide +kernel) ⟨Nat.le_of_ble_eq_true rfl, Nat.le_of_ble_eq_true rfl⟩) (r_pv hK hP hS (ltX1 rfl) (ceX1 rfl) rfl) rfl rfl hl.1 rfl (lv_room (Nat.le_of_ble_eq_true rfl)) dX8_trainWithFix_19 ⟨Nat.le_of_ble_eq_true rfl, Nat.le_of_ble_eq_true rfl⟩) hS (fun H locs hP hS => ?_)
  refine lv_iload hx hb dX8_trainWithFix_22 (lv_at hl 0 rfl) ?_
  refine lv_iconst (v := 1) hx hb dX8_trainWithFix_24 (by decide) ?_
  refine lv_icmp_lt (tgt := 42) hx hb dX8_trainWithFix_25 (by decide) (fun c25 => ?_) (fun c25 => ?_)
  · replace hf := if_t c25 hf
    refine lv_iconst (v := (-1)) hx hb dX8_trainWithFix_42 (by decide) ?_
    exact r_iret hx hb hr hlocks hP hS (re2 (Option.some.inj hf)) dX8_trainWithFix_43
  · replace hf := if_f c25 hf
    refine lv_aload_n hx hb dX8_trainWithFix_28 rfl (lv_at hl 1 rfl) ?_
    refine r_get (a := 0) (v := .ref (gB G 58)) (C := RX8) (T := TX8) (N := 14) hx hb hts hinX8 hown hK hP (ltX8 rfl) (ceX8 rfl) rfl 10 (by decide) wd372 rfl dX8_trainWithFix_29 ?_
    refine lv_iconst (v := 1) hx hb dX8_trainWithFix_32 (by decide) ?_
    refine lv_iload_n hx hb dX8_trainWithFix_33 rfl (lv_at hl 3 rfl) ?_
    refine lv_ishl hx hb dX8_trainWithFix_34 ?_
    obtain ⟨r35, h35, er35, hf⟩ := bP_s hf
    refine r_callI (va_runV (As := [.int (1 <<< (x2 &&& 31))]) (rest := []) ⟨hx, hb, hml, hown, hts⟩ (k_X1_costOf l hG er35) (cwV 1 hts (gV wd800 wd801 wd802 wd80 wd803) rfl rfl rfl (by decide +kernel) ⟨Nat.le_of_ble_eq_true rfl, Nat.le_of_ble_eq_true rfl⟩) (r_pv hK hP hS (ltX1 rfl) (ceX1 rfl) rfl) rfl rfl hl.1 rfl (lv_room (Nat.le_of_ble_eq_true rfl)) dX8_trainWithFix_35 ⟨Nat.le_of_ble_eq_true rfl, Nat.le_of_ble_eq_true rfl⟩) hS (fun H locs hP hS => ?_)
    refine lv_iconst (v := (-1)) hx hb dX8_trainWithFix_38 (by decide) ?_
    refine lv_icmp_ne (tgt := 44) hx hb dX8_trainWithFix_39 (by decide) (fun c39 => ?_) (fun c39 => ?_)
    · replace hf := if_f c39 hf
      refine lv_iload_n hx hb dX8_trainWithFix_44 rfl (lv_at hl 4 rfl) ?_
      refine lv_iload hx hb dX8_trainWithFix_45 (lv_at hl 0 rfl) ?_
      obtain ⟨z47, hf⟩ := dz_s hf
      refine lv_irem hx hb dX8_trainWithFix_47 z47 ?_
      refine lv_topi (fun x5_48 ex5_48 => ?_)
      replace hf := lt_at ex5_48 hf
      refine lv_istore (lv' := [(5, .int x5_48), (4, .int v8), (0, .ref (gB G 0)), (1, .int x1), (2, .int x2), (3, .int x3)]) hx hb dX8_trainWithFix_48 hl (by decide) rfl (fun ls hl => ?_)
      refine lv_iload hx hb dX8_trainWithFix_50 (lv_at hl 0 rfl) ?_
      refine lv_if_ne (tgt := 59) hx hb dX8_trainWithFix_52 (by decide) (fun c52 => ?_) (fun c52 => ?_)
      · replace hf := if_f c52 hf
        refine lv_iload_n hx hb dX8_trainWithFix_59 rfl (lv_at hl 5 rfl) ?_
        refine lv_iload hx hb dX8_trainWithFix_60 (lv_at hl 1 rfl) ?_
        refine lv_iadd hx hb dX8_trainWithFix_62 ?_
        refine lv_iload hx hb dX8_trainWithFix_63 (lv_at hl 0 rfl) ?_
        refine lv_isub hx hb dX8_trainWithFix_65 ?_
        exact r_iret hx hb hr hlocks hP hS (re2 (Option.some.inj hf)) dX8_trainWithFix_66
      · replace hf := if_t c52 hf
        refine lv_iload_n hx hb dX8_trainWithFix_55 rfl (lv_at hl 5 rfl) ?_
        refine lv_goto (tgt := 66) hx hb dX8_trainWithFix_56 (by decide) ?_
        exact r_iret hx hb hr hlocks hP hS (re2 (Option.some.inj hf)) dX8_trainWithFix_66
    · replace hf := if_t c39 hf
      refine lv_iconst (v := (-1)) hx hb dX8_trainWithFix_42 (by decide) ?_
      exact r_iret hx hb hr hlocks hP hS (re2 (Option.some.inj hf)) dX8_trainWithFix_43
/-! CarriedBack.soonest(II)I -/
abbrev rmX8_soonest : Room := { frames := 6, cells := 0, slots := 0, locals := 152 }
abbrev vX8_soonest : List Cond := Cond.code yX8_soonest cX8_soonest 6 (some .int) :: GW
def f_X8_soonest_32 (x1 : Int32) (x2 : Int32) : Nat → Int32 → Int32 → PH → Option (Int32 × PH)
  | 0, _, _, _ => none
  | n + 1, x3, x4, h => if (h.1 28 0) ≤ x4 then (some (x3, h)) else (bO (ag h 30 4 x4) (fun v57 => bP (f_X7_faultsIn 4 v57 h) (fun r58 h58 => bO (f_X8_has r58 x1) (fun r62 => if r62 = 0 then ((f_X8_soonest_32 x1 x2 n) x3 (x4 + 1) h58) else (bP (f_X8_trainWithFix x4 x1 x2 h58) (fun r73 h73 => if r73 = (-1) then (some ((-1), h73)) else (lt' ((if x3 < r73 then r73 else x3)) (fun x3_92 => (f_X8_soonest_32 x1 x2 n) x3_92 (x4 + 1) h73))))))))
set_option maxHeartbeats 4000000 in
set_option maxRecDepth 100000 in
theorem w_X8_soonest_32 {l : Launch} {G : GC} (hG : GOK G) {rr : Int32} {hh : PH} {p : Program} {e : Env} {s : State} {m : MethodId} {args : Array Value} {below : List Frame} {meth : Method} {c : Code} (C : MC l G p s m args meth c RX8 cX8_soonest 6 (some .int)) (x1 : Int32) (x2 : Int32) : ∀ (n : Nat) (x3 : Int32) (x4 : Int32) (h : PH) (H : Heap) (locs : List Loc) (ls : Array Slot), lv_has ls 6 [(0, .ref (gB G 0)), (1, .int x1), (2, .int x2), (3, .int x3), (4, .int x4)] → WP G h H → SP G s H locs → f_X8_soonest_32 x1 x2 n x3 x4 h = some (rr, hh) → W p l e rmX8_soonest s m args below meth c H locs 0 0 (MQ below (QI G rr hh) args s 0 0 (gA G)) (F0 m 32 ls []) := by
  obtain ⟨hx, hb, hr, hlocks, hml, hown, hts, hK⟩ := id C
  intro n
  induction n with
  | zero => intro x3 x4 h H locs ls hl hP hS hf; rw [f_X8_soonest_32] at hf; cases hf
  | succ n ih =>
    intro x3 x4 h H locs ls hl hP hS hf
    rw [f_X8_soonest_32] at hf
    refine lv_iload hx hb dX8_soonest_32 (lv_at hl 4 rfl) ?_
    refine lv_aload_n hx hb dX8_soonest_34 rfl (lv_at hl 0 rfl) ?_
    refine r_get (a := 0) (v := .ref (gB G 28)) (C := RX8) (T := TX8) (N := 14) hx hb hts hinX8 hown hK hP (ltX8 rfl) (ceX8 rfl) rfl 6 (by decide) wd368 rfl dX8_soonest_35 ?_
    refine r_get (a := 28) (v := .int (h.1 28 0)) (C := RX0) (T := TX0) (N := 10) hx hb hts hinX0 hown hK hP (ltX0 (Or.inl rfl)) (ceX0 (Or.inl rfl)) rfl 0 (by decide) wd236 rfl dX8_soonest_38 ?_
    refine lv_icmp_ge (tgt := 99) hx hb dX8_soonest_41 (by decide) (fun c41 => ?_) (fun c41 => ?_)
    · replace hf := if_t c41 hf
      refine lv_iload_n hx hb dX8_soonest_99 rfl (lv_at hl 3 rfl) ?_
      exact r_iret hx hb hr hlocks hP hS (re2 (Option.some.inj hf)) dX8_soonest_100
    · replace hf := if_f c41 hf
      refine lv_aload_n hx hb dX8_soonest_44 rfl (lv_at hl 0 rfl) ?_
      refine r_get (a := 0) (v := .ref (gB G 4)) (C := RX8) (T := TX8) (N := 14) hx hb hts hinX8 hown hK hP (ltX8 rfl) (ceX8 rfl) rfl 2 (by decide) wd364 rfl dX8_soonest_45 ?_
      refine lv_aload_n hx hb dX8_soonest_48 rfl (lv_at hl 0 rfl) ?_
      refine r_get (a := 0) (v := .ref (gB G 28)) (C := RX8) (T := TX8) (N := 14) hx hb hts hinX8 hown hK hP (ltX8 rfl) (ceX8 rfl) rfl 6 (by decide) wd368 rfl dX8_soonest_49 ?_
      refine r_get (a := 28) (v := .ref (gB G 30)) (C := RX0) (T := TX0) (N := 10) hx hb hts hinX0 hown hK hP (ltX0 (Or.inl rfl)) (ceX0 (Or.inl rfl)) rfl 2 (by decide) wd242 rfl dX8_soonest_52 ?_
      refine lv_iload hx hb dX8_soonest_55 (lv_at hl 4 rfl) ?_
      obtain ⟨v57, ev57, hf⟩ := bO_s hf
      refine r_iald hx hb hK hP (arX0_2 (Or.inl rfl)) ev57 dX8_soonest_57 ?_
      obtain ⟨r58, h58, er58, hf⟩ := bP_s hf
      refine r_callI (va_runV (As := [.int v57]) (rest := []) ⟨hx, hb, hml, hown, hts⟩ (k_X7_faultsIn l hG 4 (Or.inl rfl) er58) (cwV 1 hts (gV wd688 wd689 wd690 wd76 wd691) rfl rfl rfl (by decide +kernel) ⟨Nat.le_of_ble_eq_true rfl, Nat.le_of_ble_eq_true rfl⟩) (r_pv hK hP hS (ltX7 (Or.inl rfl)) (ceX7 (Or.inl rfl)) rfl) rfl rfl hl.1 rfl (lv_room (Nat.le_of_ble_eq_true rfl)) dX8_soonest_58 ⟨Nat.le_of_ble_eq_true rfl, Nat.le_of_ble_eq_true rfl⟩) hS (fun H locs hP hS => ?_)
      refine lv_iload_n hx hb dX8_soonest_61 rfl (lv_at hl 1 rfl) ?_
      obtain ⟨r62, er62, hf⟩ := bO_s hf
      refine r_callI (va_runS (As := [.int r58, .int x1]) (rest := []) ⟨hx, hb, hml, hown, hts⟩ (k_X8_has l hG (h := h58) er62) (va_cwS 2 hts (gS wd704 wd522 wd73 wd523) rfl rfl rfl (by decide +kernel) ⟨Nat.le_of_ble_eq_true rfl, Nat.le_of_ble_eq_true rfl⟩) (r_ps hK hP hS) rfl rfl hl.1 rfl (lv_room (Nat.le_of_ble_eq_true rfl)) dX8_soonest_62 ⟨Nat.le_of_ble_eq_true rfl, Nat.le_of_ble_eq_true rfl⟩) hS (fun H locs hP hS => ?_)
      refine lv_if_eq (tgt := 93) hx hb dX8_soonest_65 (by decide) (fun c65 => ?_) (fun c65 => ?_)
      · replace hf := if_t c65 hf
        refine lv_iinc (v := (x4 + 1)) (lv' := [(4, .int (x4 + 1)), (0, .ref (gB G 0)), (1, .int x1), (2, .int x2), (3, .int x3)]) hx hb dX8_soonest_93 hl (k := 4) rfl rfl (by decide) rfl (fun ls hl => ?_)
        refine lv_goto (tgt := 32) hx hb dX8_soonest_96 (by decide) ?_
        exact ih x3 (x4 + 1) h58 _ _ _ (lv_sub hl [1, 2, 3, 4, 0] rfl) hP hS hf
      · replace hf := if_f c65 hf
        refine lv_aload_n hx hb dX8_soonest_68 rfl (lv_at hl 0 rfl) ?_
        refine lv_iload hx hb dX8_soonest_69 (lv_at hl 4 rfl) ?_
        refine lv_iload_n hx hb dX8_soonest_71 rfl (lv_at hl 1 rfl) ?_
        refine lv_iload_n hx hb dX8_soonest_72 rfl (lv_at hl 2 rfl) ?_
        obtain ⟨r73, h73, er73, hf⟩ := bP_s hf
        refine r_callI (va_runV (As := [.int x4, .int x1, .int x2]) (rest := []) ⟨hx, hb, hml, hown, hts⟩ (k_X8_trainWithFix l hG er73) (cwV 3 hts (gV wd901 wd903 wd19 wd73 wd904) rfl rfl rfl (by decide +kernel) ⟨Nat.le_of_ble_eq_true rfl, Nat.le_of_ble_eq_true rfl⟩) (r_pv hK hP hS (ltX8 rfl) (ceX8 rfl) rfl) rfl rfl hl.1 rfl (lv_room (Nat.le_of_ble_eq_true rfl)) dX8_soonest_73 ⟨Nat.le_of_ble_eq_true rfl, Nat.le_of_ble_eq_true rfl⟩) hS (fun H locs hP hS => ?_)
        refine lv_istore (lv' := [(5, .int r73), (0, .ref (gB G 0)), (1, .int x1), (2, .int x2), (3, .int x3), (4, .int x4)]) hx hb dX8_soonest_76 hl (by decide) rfl (fun ls hl => ?_)
        refine lv_iload hx hb dX8_soonest_78 (lv_at hl 0 rfl) ?_
        refine lv_iconst (v := (-1)) hx hb dX8_soonest_80 (by decide) ?_
        refine lv_icmp_ne (tgt := 86) hx hb dX8_soonest_81 (by decide) (fun c81 => ?_) (fun c81 => ?_)
        · replace hf := if_f c81 hf
          refine lv_iload_n hx hb dX8_soonest_86 rfl (lv_at hl 4 rfl) ?_
          refine lv_iload hx hb dX8_soonest_87 (lv_at hl 0 rfl) ?_
          refine va_mmax hx hb (by rw [hml]; exact hl.1.symm) hown (hts _ wd890) (hts _ wd891) (hts _ wd89) (hts _ wd892) (Nat.le_of_ble_eq_true rfl) (Nat.le_of_ble_eq_true rfl) (Nat.le_refl _) (Nat.le_refl _) dX8_soonest_89 ?_
          refine lv_topi (fun x3_92 ex3_92 => ?_)
          replace hf := lt_at ex3_92 hf
          refine lv_istore_n (lv' := [(3, .int x3_92), (5, .int r73), (0, .ref (gB G 0)), (1, .int x1), (2, .int x2), (4, .int x4)]) hx hb dX8_soonest_92 rfl hl (by decide) rfl (fun ls hl => ?_)
          refine lv_iinc (v := (x4 + 1)) (lv' := [(4, .int (x4 + 1)), (3, .int x3_92), (5, .int r73), (0, .ref (gB G 0)), (1, .int x1), (2, .int x2)]) hx hb dX8_soonest_93 hl (k := 5) rfl rfl (by decide) rfl (fun ls hl => ?_)
          refine lv_goto (tgt := 32) hx hb dX8_soonest_96 (by decide) ?_
          exact ih x3_92 (x4 + 1) h73 _ _ _ (lv_sub hl [3, 4, 5, 1, 0] rfl) hP hS hf
        · replace hf := if_t c81 hf
          refine lv_iconst (v := (-1)) hx hb dX8_soonest_84 (by decide) ?_
          exact r_iret hx hb hr hlocks hP hS (re2 (Option.some.inj hf)) dX8_soonest_85
def f_X8_soonest (x1 : Int32) (x2 : Int32) (h : PH) : Option (Int32 × PH) := bP (f_X7_hasFault 4 x1 h) (fun r5 h5 => if r5 = 0 then (some ((-1001), h5)) else (bO (f_X8_isDay x2) (fun r16 => if r16 = 0 then (some ((-1002), h5)) else (f_X8_soonest_32 x1 x2 FU (-2) 0 h5))))
set_option maxHeartbeats 4000000 in
set_option maxRecDepth 100000 in
theorem k_X8_soonest (l : Launch) {G : GC} (hG : GOK G) {x1 : Int32} {x2 : Int32} {rr : Int32} {h hh : PH} (hf : f_X8_soonest x1 x2 h = some (rr, hh)) : CI l yX8_soonest vX8_soonest rmX8_soonest G [.ref (gB G 0), .int x1, .int x2] h rr hh := by
  refine Met.ofW (cc := cX8_soonest) (maxL := 6) (ret := (some .int)) (by decide +kernel) rfl ?_
  intro p e s m args below meth c s₁ B hml hv
  obtain ⟨rfl, hP, hK⟩ := hv
  have C : MC l G p s m _ meth c RX8 cX8_soonest 6 (some .int) := ⟨B.exec, B.bytes, B.returns, B.notSynchronized, hml, findClass_of_methodNamed B.named, fun w hw => atoms_spec (ws := vX8_soonest) B.pre w (List.mem_cons_of_mem _ hw), hK⟩
  obtain ⟨hx, hb, hr, hlocks, -, hown, hts, -⟩ := id C
  have hl := lv_entry ([.ref (gB G 0), .int x1, .int x2]) (n := 6) (Nat.le_of_ble_eq_true rfl)
  rw [lg_entry_eq]
  generalize (lg_sl ([.ref (gB G 0), .int x1, .int x2]) ++ List.replicate (6 - (lg_sl ([.ref (gB G 0), .int x1, .int x2])).length) Slot.unset).toArray = ls at hl ⊢
  have hl : lv_has ls 6 [(0, .ref (gB G 0)), (1, .int x1), (2, .int x2)] := hl
  have hS : SP G s s.heap [] := va_S.rf
  replace hP : WP G h s.heap := hP
  rw [f_X8_soonest] at hf
  refine lv_aload_n hx hb dX8_soonest_0 rfl (lv_at hl 0 rfl) ?_
  refine r_get (a := 0) (v := .ref (gB G 4)) (C := RX8) (T := TX8) (N := 14) hx hb hts hinX8 hown hK hP (ltX8 rfl) (ceX8 rfl) rfl 2 (by decide) wd364 rfl dX8_soonest_1 ?_
  refine lv_iload_n hx hb dX8_soonest_4 rfl (lv_at hl 1 rfl) ?_
  obtain ⟨r5, h5, er5, hf⟩ := bP_s hf
  refine r_callI (va_runV (As := [.int x1]) (rest := []) ⟨hx, hb, hml, hown, hts⟩ (k_X7_hasFault l hG 4 (Or.inl rfl) er5) (cwV 1 hts (gV wd660 wd661 wd662 wd76 wd663) rfl rfl rfl (by decide +kernel) ⟨Nat.le_of_ble_eq_true rfl, Nat.le_of_ble_eq_true rfl⟩) (r_pv hK hP hS (ltX7 (Or.inl rfl)) (ceX7 (Or.inl rfl)) rfl) rfl rfl hl.1 rfl (lv_room (Nat.le_of_ble_eq_true rfl)) dX8_soonest_5 ⟨Nat.le_of_ble_eq_true rfl, Nat.le_of_ble_eq_true rfl⟩) hS (fun H locs hP hS => ?_)
  refine lv_if_ne (tgt := 15) hx hb dX8_soonest_8 (by decide) (fun c8 => ?_) (fun c8 => ?_)
  · replace hf := if_f c8 hf
    refine lv_iload_n hx hb dX8_soonest_15 rfl (lv_at hl 2 rfl) ?_
    obtain ⟨r16, er16, hf⟩ := bO_s hf
    refine r_callI (va_runS (As := [.int x2]) (rest := []) ⟨hx, hb, hml, hown, hts⟩ (k_X8_isDay l hG (h := h5) er16) (va_cwS 1 hts (gS wd847 wd848 wd73 wd849) rfl rfl rfl (by decide +kernel) ⟨Nat.le_of_ble_eq_true rfl, Nat.le_of_ble_eq_true rfl⟩) (r_ps hK hP hS) rfl rfl hl.1 rfl (lv_room (Nat.le_of_ble_eq_true rfl)) dX8_soonest_16 ⟨Nat.le_of_ble_eq_true rfl, Nat.le_of_ble_eq_true rfl⟩) hS (fun H locs hP hS => ?_)
    refine lv_if_ne (tgt := 26) hx hb dX8_soonest_19 (by decide) (fun c19 => ?_) (fun c19 => ?_)
    · replace hf := if_f c19 hf
      refine lv_bipush (v := (-2)) hx hb dX8_soonest_26 (by decide) ?_
      refine lv_istore_n (lv' := [(3, .int (-2)), (0, .ref (gB G 0)), (1, .int x1), (2, .int x2)]) hx hb dX8_soonest_28 rfl hl (by decide) rfl (fun ls hl => ?_)
      refine lv_iconst (v := 0) hx hb dX8_soonest_29 (by decide) ?_
      refine lv_istore (lv' := [(4, .int 0), (3, .int (-2)), (0, .ref (gB G 0)), (1, .int x1), (2, .int x2)]) hx hb dX8_soonest_30 hl (by decide) rfl (fun ls hl => ?_)
      exact w_X8_soonest_32 hG C x1 x2 FU (-2) 0 h5 _ _ _ (lv_sub hl [2, 3, 4, 1, 0] rfl) hP hS hf
    · replace hf := if_t c19 hf
      refine lv_sipush (v := (-1002)) hx hb dX8_soonest_22 (by decide) ?_
      exact r_iret hx hb hr hlocks hP hS (re2 (Option.some.inj hf)) dX8_soonest_25
  · replace hf := if_t c8 hf
    refine lv_sipush (v := (-1001)) hx hb dX8_soonest_11 (by decide) ?_
    exact r_iret hx hb hr hlocks hP hS (re2 (Option.some.inj hf)) dX8_soonest_14
/-! CarriedBack$Picker.leastReady(I)I -/
abbrev rmX2_leastReady : Room := { frames := 2, cells := 0, slots := 0, locals := 47 }
abbrev vX2_leastReady : List Cond := Cond.code yX2_leastReady cX2_leastReady 3 (some .int) :: GW
def f_X2_leastReady_2 (x1 : Int32) : Nat → Int32 → PH → Option (Int32 × PH)
  | 0, _, _ => none
  | n + 1, x2, h => if (h.1 4 0) ≤ x2 then (some ((-1), h)) else (bO (f_X8_has x1 x2) (fun r15 => if r15 = 0 then (bP (f_X7_clashOf 4 56 16 x2 0 h) (fun r31 h31 => if r31 = 0 then (some (x2, h31)) else ((f_X2_leastReady_2 x1 n) (x2 + 1) h31))) else ((f_X2_leastReady_2 x1 n) (x2 + 1) h)))
set_option maxHeartbeats 4000000 in
set_option maxRecDepth 100000 in
theorem w_X2_leastReady_2 {l : Launch} {G : GC} (hG : GOK G) {rr : Int32} {hh : PH} {p : Program} {e : Env} {s : State} {m : MethodId} {args : Array Value} {below : List Frame} {meth : Method} {c : Code} (C : MC l G p s m args meth c RX2 cX2_leastReady 3 (some .int)) (x1 : Int32) : ∀ (n : Nat) (x2 : Int32) (h : PH) (H : Heap) (locs : List Loc) (ls : Array Slot), lv_has ls 3 [(0, .ref (gB G 55)), (1, .int x1), (2, .int x2)] → WP G h H → SP G s H locs → f_X2_leastReady_2 x1 n x2 h = some (rr, hh) → W p l e rmX2_leastReady s m args below meth c H locs 0 0 (MQ below (QI G rr hh) args s 0 0 (gA G)) (F0 m 2 ls []) := by
  obtain ⟨hx, hb, hr, hlocks, hml, hown, hts, hK⟩ := id C
  intro n
  induction n with
  | zero => intro x2 h H locs ls hl hP hS hf; rw [f_X2_leastReady_2] at hf; cases hf
  | succ n ih =>
    intro x2 h H locs ls hl hP hS hf
    rw [f_X2_leastReady_2] at hf
    refine lv_iload_n hx hb dX2_leastReady_2 rfl (lv_at hl 2 rfl) ?_
    refine lv_aload_n hx hb dX2_leastReady_3 rfl (lv_at hl 0 rfl) ?_
    refine r_get (a := 55) (v := .ref (gB G 4)) (C := RX2) (T := TX2) (N := 4) hx hb hts hinX2 hown hK hP (ltX2 rfl) (ceX2 rfl) rfl 0 (by decide) wd285 rfl dX2_leastReady_4 ?_
    refine r_get (a := 4) (v := .int (h.1 4 0)) (C := RX7) (T := TX7) (N := 10) hx hb hts hinX7 hown hK hP (ltX7 (Or.inl rfl)) (ceX7 (Or.inl rfl)) rfl 0 (by decide) wd157 rfl dX2_leastReady_7 ?_
    refine lv_icmp_ge (tgt := 45) hx hb dX2_leastReady_10 (by decide) (fun c10 => ?_) (fun c10 => ?_)
    · replace hf := if_t c10 hf
      refine lv_iconst (v := (-1)) hx hb dX2_leastReady_45 (by decide) ?_
      exact r_iret hx hb hr hlocks hP hS (re2 (Option.some.inj hf)) dX2_leastReady_46
    · replace hf := if_f c10 hf
      refine lv_iload_n hx hb dX2_leastReady_13 rfl (lv_at hl 1 rfl) ?_
      refine lv_iload_n hx hb dX2_leastReady_14 rfl (lv_at hl 2 rfl) ?_
      obtain ⟨r15, er15, hf⟩ := bO_s hf
      refine r_callI (va_runSN (As := [.int x1, .int x2]) (rest := []) ⟨hx, hb, hml, hown, hts⟩ (k_X8_has l hG (h := h) er15) ⟨va_cnB 2 hts (gC wd523) rfl rfl rfl (host := "CarriedBack") (hK.2.1 _ (by decide +kernel)) (hts _ wd73) (by decide +kernel) ⟨Nat.le_of_ble_eq_true rfl, Nat.le_of_ble_eq_true rfl⟩, hts _ wd522, trivial⟩ (r_ps hK hP hS) rfl rfl hl.1 rfl (lv_room (Nat.le_of_ble_eq_true rfl)) dX2_leastReady_15 ⟨Nat.le_of_ble_eq_true rfl, Nat.le_of_ble_eq_true rfl⟩) hS (fun H locs hP hS => ?_)
      refine lv_if_ne (tgt := 39) hx hb dX2_leastReady_18 (by decide) (fun c18 => ?_) (fun c18 => ?_)
      · replace hf := if_f c18 hf
        refine lv_iinc (v := (x2 + 1)) (lv' := [(2, .int (x2 + 1)), (0, .ref (gB G 55)), (1, .int x1)]) hx hb dX2_leastReady_39 hl (k := 2) rfl rfl (by decide) rfl (fun ls hl => ?_)
        refine lv_goto (tgt := 2) hx hb dX2_leastReady_42 (by decide) ?_
        exact ih (x2 + 1) h _ _ _ (lv_sub hl [1, 2, 0] rfl) hP hS hf
      · replace hf := if_t c18 hf
        refine lv_aload_n hx hb dX2_leastReady_21 rfl (lv_at hl 0 rfl) ?_
        refine r_get (a := 55) (v := .ref (gB G 4)) (C := RX2) (T := TX2) (N := 4) hx hb hts hinX2 hown hK hP (ltX2 rfl) (ceX2 rfl) rfl 0 (by decide) wd285 rfl dX2_leastReady_22 ?_
        refine lv_iload_n hx hb dX2_leastReady_25 rfl (lv_at hl 2 rfl) ?_
        refine lv_aload_n hx hb dX2_leastReady_26 rfl (lv_at hl 0 rfl) ?_
        refine r_get (a := 55) (v := .ref (gB G 56)) (C := RX2) (T := TX2) (N := 4) hx hb hts hinX2 hown hK hP (ltX2 rfl) (ceX2 rfl) rfl 2 (by decide) wd288 rfl dX2_leastReady_27 ?_
        refine lv_iconst (v := 0) hx hb dX2_leastReady_30 (by decide) ?_
        obtain ⟨r31, h31, er31, hf⟩ := bP_s hf
        refine r_callI (va_runV (As := [.int x2, .ref (gB G 56), .int 0]) (rest := []) ⟨hx, hb, hml, hown, hts⟩ (k_X7_clashOf l hG 4 (Or.inl rfl) 56 16 (arX2_2 rfl) er31) (cwV 3 hts (gV wd749 wd706 wd707 wd76 wd708) rfl rfl rfl (by decide +kernel) ⟨Nat.le_of_ble_eq_true rfl, Nat.le_of_ble_eq_true rfl⟩) (r_pv hK hP hS (ltX7 (Or.inl rfl)) (ceX7 (Or.inl rfl)) rfl) rfl rfl hl.1 rfl (lv_room (Nat.le_of_ble_eq_true rfl)) dX2_leastReady_31 ⟨Nat.le_of_ble_eq_true rfl, Nat.le_of_ble_eq_true rfl⟩) hS (fun H locs hP hS => ?_)
        refine lv_if_ne (tgt := 39) hx hb dX2_leastReady_34 (by decide) (fun c34 => ?_) (fun c34 => ?_)
        · replace hf := if_f c34 hf
          refine lv_iinc (v := (x2 + 1)) (lv' := [(2, .int (x2 + 1)), (0, .ref (gB G 55)), (1, .int x1)]) hx hb dX2_leastReady_39 hl (k := 2) rfl rfl (by decide) rfl (fun ls hl => ?_)
          refine lv_goto (tgt := 2) hx hb dX2_leastReady_42 (by decide) ?_
          exact ih (x2 + 1) h31 _ _ _ (lv_sub hl [1, 2, 0] rfl) hP hS hf
        · replace hf := if_t c34 hf
          refine lv_iload_n hx hb dX2_leastReady_37 rfl (lv_at hl 2 rfl) ?_
          exact r_iret hx hb hr hlocks hP hS (re2 (Option.some.inj hf)) dX2_leastReady_38
def f_X2_leastReady (x1 : Int32) (h : PH) : Option (Int32 × PH) := f_X2_leastReady_2 x1 FU 0 h
set_option maxHeartbeats 4000000 in
set_option maxRecDepth 100000 in
theorem k_X2_leastReady (l : Launch) {G : GC} (hG : GOK G) {x1 : Int32} {rr : Int32} {h hh : PH} (hf : f_X2_leastReady x1 h = some (rr, hh)) : CI l yX2_leastReady vX2_leastReady rmX2_leastReady G [.ref (gB G 55), .int x1] h rr hh := by
  refine Met.ofW (cc := cX2_leastReady) (maxL := 3) (ret := (some .int)) (by decide +kernel) rfl ?_
  intro p e s m args below meth c s₁ B hml hv
  obtain ⟨rfl, hP, hK⟩ := hv
  have C : MC l G p s m _ meth c RX2 cX2_leastReady 3 (some .int) := ⟨B.exec, B.bytes, B.returns, B.notSynchronized, hml, findClass_of_methodNamed B.named, fun w hw => atoms_spec (ws := vX2_leastReady) B.pre w (List.mem_cons_of_mem _ hw), hK⟩
  obtain ⟨hx, hb, hr, hlocks, -, hown, hts, -⟩ := id C
  have hl := lv_entry ([.ref (gB G 55), .int x1]) (n := 3) (Nat.le_of_ble_eq_true rfl)
  rw [lg_entry_eq]
  generalize (lg_sl ([.ref (gB G 55), .int x1]) ++ List.replicate (3 - (lg_sl ([.ref (gB G 55), .int x1])).length) Slot.unset).toArray = ls at hl ⊢
  have hl : lv_has ls 3 [(0, .ref (gB G 55)), (1, .int x1)] := hl
  have hS : SP G s s.heap [] := va_S.rf
  replace hP : WP G h s.heap := hP
  rw [f_X2_leastReady] at hf
  refine lv_iconst (v := 0) hx hb dX2_leastReady_0 (by decide) ?_
  refine lv_istore_n (lv' := [(2, .int 0), (0, .ref (gB G 55)), (1, .int x1)]) hx hb dX2_leastReady_1 rfl hl (by decide) rfl (fun ls hl => ?_)
  exact w_X2_leastReady_2 hG C x1 FU 0 h _ _ _ (lv_sub hl [1, 2, 0] rfl) hP hS hf
/-! CarriedBack$Picker.inReach(I)I -/
abbrev rmX2_inReach : Room := { frames := 3, cells := 0, slots := 0, locals := 69 }
abbrev vX2_inReach : List Cond := Cond.code yX2_inReach cX2_inReach 5 (some .int) :: GW
def f_X2_inReach_13 (x1 : Int32) : Nat → Int32 → Int32 → PH → Option (Int32 × PH)
  | 0, _, _, _ => none
  | n + 1, x2, x3, h => if (24 : Int32) ≤ x3 then (some (x2, h)) else (bO (ag h 30 4 x1) (fun v28 => bP (f_X2_leastReady (v28 ||| x2) h) (fun r31 h31 => if r31 = (-1) then (some (x2, h31)) else (bO (f_X7_putOn 4 56 16 r31 0 h31) (fun h55 => lt' ((x2 ||| (1 <<< (r31 &&& 31)))) (fun x2_64 => (f_X2_inReach_13 x1 n) x2_64 (x3 + 1) h55))))))
set_option maxHeartbeats 4000000 in
set_option maxRecDepth 100000 in
theorem w_X2_inReach_13 {l : Launch} {G : GC} (hG : GOK G) {rr : Int32} {hh : PH} {p : Program} {e : Env} {s : State} {m : MethodId} {args : Array Value} {below : List Frame} {meth : Method} {c : Code} (C : MC l G p s m args meth c RX2 cX2_inReach 5 (some .int)) (x1 : Int32) : ∀ (n : Nat) (x2 : Int32) (x3 : Int32) (h : PH) (H : Heap) (locs : List Loc) (ls : Array Slot), lv_has ls 5 [(0, .ref (gB G 55)), (1, .int x1), (2, .int x2), (3, .int x3)] → WP G h H → SP G s H locs → f_X2_inReach_13 x1 n x2 x3 h = some (rr, hh) → W p l e rmX2_inReach s m args below meth c H locs 0 0 (MQ below (QI G rr hh) args s 0 0 (gA G)) (F0 m 13 ls []) := by
  obtain ⟨hx, hb, hr, hlocks, hml, hown, hts, hK⟩ := id C
  intro n
  induction n with
  | zero => intro x2 x3 h H locs ls hl hP hS hf; rw [f_X2_inReach_13] at hf; cases hf
  | succ n ih =>
    intro x2 x3 h H locs ls hl hP hS hf
    rw [f_X2_inReach_13] at hf
    refine lv_iload_n hx hb dX2_inReach_13 rfl (lv_at hl 3 rfl) ?_
    refine lv_bipush (v := 24) hx hb dX2_inReach_14 (by decide) ?_
    refine lv_icmp_ge (tgt := 71) hx hb dX2_inReach_16 (by decide) (fun c16 => ?_) (fun c16 => ?_)
    · replace hf := if_t c16 hf
      refine lv_iload_n hx hb dX2_inReach_71 rfl (lv_at hl 2 rfl) ?_
      exact r_iret hx hb hr hlocks hP hS (re2 (Option.some.inj hf)) dX2_inReach_72
    · replace hf := if_f c16 hf
      refine lv_aload_n hx hb dX2_inReach_19 rfl (lv_at hl 0 rfl) ?_
      refine lv_aload_n hx hb dX2_inReach_20 rfl (lv_at hl 0 rfl) ?_
      refine r_get (a := 55) (v := .ref (gB G 28)) (C := RX2) (T := TX2) (N := 4) hx hb hts hinX2 hown hK hP (ltX2 rfl) (ceX2 rfl) rfl 1 (by decide) wd286 rfl dX2_inReach_21 ?_
      refine r_get (a := 28) (v := .ref (gB G 30)) (C := RX0) (T := TX0) (N := 10) hx hb hts hinX0 hown hK hP (ltX0 (Or.inl rfl)) (ceX0 (Or.inl rfl)) rfl 2 (by decide) wd241 rfl dX2_inReach_24 ?_
      refine lv_iload_n hx hb dX2_inReach_27 rfl (lv_at hl 1 rfl) ?_
      obtain ⟨v28, ev28, hf⟩ := bO_s hf
      refine r_iald hx hb hK hP (arX0_2 (Or.inl rfl)) ev28 dX2_inReach_28 ?_
      refine lv_iload_n hx hb dX2_inReach_29 rfl (lv_at hl 2 rfl) ?_
      refine lv_ior hx hb dX2_inReach_30 ?_
      obtain ⟨r31, h31, er31, hf⟩ := bP_s hf
      refine r_callI (va_runV (As := [.int (v28 ||| x2)]) (rest := []) ⟨hx, hb, hml, hown, hts⟩ (k_X2_leastReady l hG er31) (cwV 1 hts (gV wd913 wd915 wd20 wd79 wd916) rfl rfl rfl (by decide +kernel) ⟨Nat.le_of_ble_eq_true rfl, Nat.le_of_ble_eq_true rfl⟩) (r_pv hK hP hS (ltX2 rfl) (ceX2 rfl) rfl) rfl rfl hl.1 rfl (lv_room (Nat.le_of_ble_eq_true rfl)) dX2_inReach_31 ⟨Nat.le_of_ble_eq_true rfl, Nat.le_of_ble_eq_true rfl⟩) hS (fun H locs hP hS => ?_)
      refine lv_istore (lv' := [(4, .int r31), (0, .ref (gB G 55)), (1, .int x1), (2, .int x2), (3, .int x3)]) hx hb dX2_inReach_34 hl (by decide) rfl (fun ls hl => ?_)
      refine lv_iload hx hb dX2_inReach_36 (lv_at hl 0 rfl) ?_
      refine lv_iconst (v := (-1)) hx hb dX2_inReach_38 (by decide) ?_
      refine lv_icmp_ne (tgt := 44) hx hb dX2_inReach_39 (by decide) (fun c39 => ?_) (fun c39 => ?_)
      · replace hf := if_f c39 hf
        refine lv_aload_n hx hb dX2_inReach_44 rfl (lv_at hl 1 rfl) ?_
        refine r_get (a := 55) (v := .ref (gB G 4)) (C := RX2) (T := TX2) (N := 4) hx hb hts hinX2 hown hK hP (ltX2 rfl) (ceX2 rfl) rfl 0 (by decide) wd285 rfl dX2_inReach_45 ?_
        refine lv_iload hx hb dX2_inReach_48 (lv_at hl 0 rfl) ?_
        refine lv_aload_n hx hb dX2_inReach_50 rfl (lv_at hl 1 rfl) ?_
        refine r_get (a := 55) (v := .ref (gB G 56)) (C := RX2) (T := TX2) (N := 4) hx hb hts hinX2 hown hK hP (ltX2 rfl) (ceX2 rfl) rfl 2 (by decide) wd288 rfl dX2_inReach_51 ?_
        refine lv_iconst (v := 0) hx hb dX2_inReach_54 (by decide) ?_
        obtain ⟨h55, eh55, hf⟩ := bO_s hf
        refine r_callV (va_runV (As := [.int r31, .ref (gB G 56), .int 0]) (rest := []) ⟨hx, hb, hml, hown, hts⟩ (k_X7_putOn l hG 4 (Or.inl rfl) 56 16 (arX2_2 rfl) eh55) (cwV 3 hts (gV wd767 wd555 wd556 wd76 wd557) rfl rfl rfl (by decide +kernel) ⟨Nat.le_of_ble_eq_true rfl, Nat.le_of_ble_eq_true rfl⟩) (r_pv hK hP hS (ltX7 (Or.inl rfl)) (ceX7 (Or.inl rfl)) rfl) rfl rfl hl.1 rfl (lv_room (Nat.le_of_ble_eq_true rfl)) dX2_inReach_55 ⟨Nat.le_of_ble_eq_true rfl, Nat.le_of_ble_eq_true rfl⟩) hS (fun H locs hP hS => ?_)
        refine lv_iload_n hx hb dX2_inReach_58 rfl (lv_at hl 3 rfl) ?_
        refine lv_iconst (v := 1) hx hb dX2_inReach_59 (by decide) ?_
        refine lv_iload hx hb dX2_inReach_60 (lv_at hl 0 rfl) ?_
        refine lv_ishl hx hb dX2_inReach_62 ?_
        refine lv_ior hx hb dX2_inReach_63 ?_
        refine lv_topi (fun x2_64 ex2_64 => ?_)
        replace hf := lt_at ex2_64 hf
        refine lv_istore_n (lv' := [(2, .int x2_64), (4, .int r31), (0, .ref (gB G 55)), (1, .int x1), (3, .int x3)]) hx hb dX2_inReach_64 rfl hl (by decide) rfl (fun ls hl => ?_)
        refine lv_iinc (v := (x3 + 1)) (lv' := [(3, .int (x3 + 1)), (2, .int x2_64), (4, .int r31), (0, .ref (gB G 55)), (1, .int x1)]) hx hb dX2_inReach_65 hl (k := 4) rfl rfl (by decide) rfl (fun ls hl => ?_)
        refine lv_goto (tgt := 13) hx hb dX2_inReach_68 (by decide) ?_
        exact ih x2_64 (x3 + 1) h55 _ _ _ (lv_sub hl [3, 4, 1, 0] rfl) hP hS hf
      · replace hf := if_t c39 hf
        refine lv_iload_n hx hb dX2_inReach_42 rfl (lv_at hl 3 rfl) ?_
        exact r_iret hx hb hr hlocks hP hS (re2 (Option.some.inj hf)) dX2_inReach_43
def f_X2_inReach (x1 : Int32) (h : PH) : Option (Int32 × PH) := bO (f_X2_lay 56 16 x1 h) (fun h6 => f_X2_inReach_13 x1 FU 0 0 h6)
set_option maxHeartbeats 4000000 in
set_option maxRecDepth 100000 in
theorem k_X2_inReach (l : Launch) {G : GC} (hG : GOK G) {x1 : Int32} {rr : Int32} {h hh : PH} (hf : f_X2_inReach x1 h = some (rr, hh)) : CI l yX2_inReach vX2_inReach rmX2_inReach G [.ref (gB G 55), .int x1] h rr hh := by
  refine Met.ofW (cc := cX2_inReach) (maxL := 5) (ret := (some .int)) (by decide +kernel) rfl ?_
  intro p e s m args below meth c s₁ B hml hv
  obtain ⟨rfl, hP, hK⟩ := hv
  have C : MC l G p s m _ meth c RX2 cX2_inReach 5 (some .int) := ⟨B.exec, B.bytes, B.returns, B.notSynchronized, hml, findClass_of_methodNamed B.named, fun w hw => atoms_spec (ws := vX2_inReach) B.pre w (List.mem_cons_of_mem _ hw), hK⟩
  obtain ⟨hx, hb, hr, hlocks, -, hown, hts, -⟩ := id C
  have hl := lv_entry ([.ref (gB G 55), .int x1]) (n := 5) (Nat.le_of_ble_eq_true rfl)
  rw [lg_entry_eq]
  generalize (lg_sl ([.ref (gB G 55), .int x1]) ++ List.replicate (5 - (lg_sl ([.ref (gB G 55), .int x1])).length) Slot.unset).toArray = ls at hl ⊢
  have hl : lv_has ls 5 [(0, .ref (gB G 55)), (1, .int x1)] := hl
  have hS : SP G s s.heap [] := va_S.rf
  replace hP : WP G h s.heap := hP
  rw [f_X2_inReach] at hf
  refine lv_aload_n hx hb dX2_inReach_0 rfl (lv_at hl 0 rfl) ?_
  refine lv_iload_n hx hb dX2_inReach_1 rfl (lv_at hl 1 rfl) ?_
  refine lv_aload_n hx hb dX2_inReach_2 rfl (lv_at hl 0 rfl) ?_
  refine r_get (a := 55) (v := .ref (gB G 56)) (C := RX2) (T := TX2) (N := 4) hx hb hts hinX2 hown hK hP (ltX2 rfl) (ceX2 rfl) rfl 2 (by decide) wd288 rfl dX2_inReach_3 ?_
  obtain ⟨h6, eh6, hf⟩ := bO_s hf
  refine r_callV (va_runV (As := [.int x1, .ref (gB G 56)]) (rest := []) ⟨hx, hb, hml, hown, hts⟩ (k_X2_lay l hG 56 16 (arX2_2 rfl) eh6) (cwV 2 hts (gV wd762 wd764 wd14 wd79 wd765) rfl rfl rfl (by decide +kernel) ⟨Nat.le_of_ble_eq_true rfl, Nat.le_of_ble_eq_true rfl⟩) (r_pv hK hP hS (ltX2 rfl) (ceX2 rfl) rfl) rfl rfl hl.1 rfl (lv_room (Nat.le_of_ble_eq_true rfl)) dX2_inReach_6 ⟨Nat.le_of_ble_eq_true rfl, Nat.le_of_ble_eq_true rfl⟩) hS (fun H locs hP hS => ?_)
  refine lv_iconst (v := 0) hx hb dX2_inReach_9 (by decide) ?_
  refine lv_istore_n (lv' := [(2, .int 0), (0, .ref (gB G 55)), (1, .int x1)]) hx hb dX2_inReach_10 rfl hl (by decide) rfl (fun ls hl => ?_)
  refine lv_iconst (v := 0) hx hb dX2_inReach_11 (by decide) ?_
  refine lv_istore_n (lv' := [(3, .int 0), (2, .int 0), (0, .ref (gB G 55)), (1, .int x1)]) hx hb dX2_inReach_12 rfl hl (by decide) rfl (fun ls hl => ?_)
  exact w_X2_inReach_13 hG C x1 FU 0 0 h6 _ _ _ (lv_sub hl [2, 3, 1, 0] rfl) hP hS hf
/-! CarriedBack$Picker.readyOn(I)I -/
abbrev rmX2_readyOn : Room := { frames := 2, cells := 0, slots := 0, locals := 47 }
abbrev vX2_readyOn : List Cond := Cond.code yX2_readyOn cX2_readyOn 4 (some .int) :: GW
def f_X2_readyOn_4 (x1 : Int32) : Nat → Int32 → Int32 → PH → Option (Int32 × PH)
  | 0, _, _, _ => none
  | n + 1, x2, x3, h => if (h.1 4 0) ≤ x3 then (some (x2, h)) else (bO (ag h 30 4 x1) (fun v23 => bO (f_X8_has v23 x3) (fun r25 => if r25 = 0 then (bP (f_X7_clashOf 4 32 64 x3 x1 h) (fun r44 h44 => if r44 = 0 then (lt' ((x2 ||| (1 <<< (x3 &&& 31)))) (fun x2_55 => (f_X2_readyOn_4 x1 n) x2_55 (x3 + 1) h44)) else ((f_X2_readyOn_4 x1 n) x2 (x3 + 1) h44))) else ((f_X2_readyOn_4 x1 n) x2 (x3 + 1) h))))
set_option maxHeartbeats 4000000 in
set_option maxRecDepth 100000 in
theorem w_X2_readyOn_4 {l : Launch} {G : GC} (hG : GOK G) {rr : Int32} {hh : PH} {p : Program} {e : Env} {s : State} {m : MethodId} {args : Array Value} {below : List Frame} {meth : Method} {c : Code} (C : MC l G p s m args meth c RX2 cX2_readyOn 4 (some .int)) (x1 : Int32) : ∀ (n : Nat) (x2 : Int32) (x3 : Int32) (h : PH) (H : Heap) (locs : List Loc) (ls : Array Slot), lv_has ls 4 [(0, .ref (gB G 55)), (1, .int x1), (2, .int x2), (3, .int x3)] → WP G h H → SP G s H locs → f_X2_readyOn_4 x1 n x2 x3 h = some (rr, hh) → W p l e rmX2_readyOn s m args below meth c H locs 0 0 (MQ below (QI G rr hh) args s 0 0 (gA G)) (F0 m 4 ls []) := by
  obtain ⟨hx, hb, hr, hlocks, hml, hown, hts, hK⟩ := id C
  intro n
  induction n with
  | zero => intro x2 x3 h H locs ls hl hP hS hf; rw [f_X2_readyOn_4] at hf; cases hf
  | succ n ih =>
    intro x2 x3 h H locs ls hl hP hS hf
    rw [f_X2_readyOn_4] at hf
    refine lv_iload_n hx hb dX2_readyOn_4 rfl (lv_at hl 3 rfl) ?_
    refine lv_aload_n hx hb dX2_readyOn_5 rfl (lv_at hl 0 rfl) ?_
    refine r_get (a := 55) (v := .ref (gB G 4)) (C := RX2) (T := TX2) (N := 4) hx hb hts hinX2 hown hK hP (ltX2 rfl) (ceX2 rfl) rfl 0 (by decide) wd285 rfl dX2_readyOn_6 ?_
    refine r_get (a := 4) (v := .int (h.1 4 0)) (C := RX7) (T := TX7) (N := 10) hx hb hts hinX7 hown hK hP (ltX7 (Or.inl rfl)) (ceX7 (Or.inl rfl)) rfl 0 (by decide) wd157 rfl dX2_readyOn_9 ?_
    refine lv_icmp_ge (tgt := 62) hx hb dX2_readyOn_12 (by decide) (fun c12 => ?_) (fun c12 => ?_)
    · replace hf := if_t c12 hf
      refine lv_iload_n hx hb dX2_readyOn_62 rfl (lv_at hl 2 rfl) ?_
      exact r_iret hx hb hr hlocks hP hS (re2 (Option.some.inj hf)) dX2_readyOn_63
    · replace hf := if_f c12 hf
      refine lv_aload_n hx hb dX2_readyOn_15 rfl (lv_at hl 0 rfl) ?_
      refine r_get (a := 55) (v := .ref (gB G 28)) (C := RX2) (T := TX2) (N := 4) hx hb hts hinX2 hown hK hP (ltX2 rfl) (ceX2 rfl) rfl 1 (by decide) wd286 rfl dX2_readyOn_16 ?_
      refine r_get (a := 28) (v := .ref (gB G 30)) (C := RX0) (T := TX0) (N := 10) hx hb hts hinX0 hown hK hP (ltX0 (Or.inl rfl)) (ceX0 (Or.inl rfl)) rfl 2 (by decide) wd241 rfl dX2_readyOn_19 ?_
      refine lv_iload_n hx hb dX2_readyOn_22 rfl (lv_at hl 1 rfl) ?_
      obtain ⟨v23, ev23, hf⟩ := bO_s hf
      refine r_iald hx hb hK hP (arX0_2 (Or.inl rfl)) ev23 dX2_readyOn_23 ?_
      refine lv_iload_n hx hb dX2_readyOn_24 rfl (lv_at hl 3 rfl) ?_
      obtain ⟨r25, er25, hf⟩ := bO_s hf
      refine r_callI (va_runSN (As := [.int v23, .int x3]) (rest := []) ⟨hx, hb, hml, hown, hts⟩ (k_X8_has l hG (h := h) er25) ⟨va_cnB 2 hts (gC wd523) rfl rfl rfl (host := "CarriedBack") (hK.2.1 _ (by decide +kernel)) (hts _ wd73) (by decide +kernel) ⟨Nat.le_of_ble_eq_true rfl, Nat.le_of_ble_eq_true rfl⟩, hts _ wd522, trivial⟩ (r_ps hK hP hS) rfl rfl hl.1 rfl (lv_room (Nat.le_of_ble_eq_true rfl)) dX2_readyOn_25 ⟨Nat.le_of_ble_eq_true rfl, Nat.le_of_ble_eq_true rfl⟩) hS (fun H locs hP hS => ?_)
      refine lv_if_ne (tgt := 56) hx hb dX2_readyOn_28 (by decide) (fun c28 => ?_) (fun c28 => ?_)
      · replace hf := if_f c28 hf
        refine lv_iinc (v := (x3 + 1)) (lv' := [(3, .int (x3 + 1)), (0, .ref (gB G 55)), (1, .int x1), (2, .int x2)]) hx hb dX2_readyOn_56 hl (k := 3) rfl rfl (by decide) rfl (fun ls hl => ?_)
        refine lv_goto (tgt := 4) hx hb dX2_readyOn_59 (by decide) ?_
        exact ih x2 (x3 + 1) h _ _ _ (lv_sub hl [1, 2, 3, 0] rfl) hP hS hf
      · replace hf := if_t c28 hf
        refine lv_aload_n hx hb dX2_readyOn_31 rfl (lv_at hl 0 rfl) ?_
        refine r_get (a := 55) (v := .ref (gB G 4)) (C := RX2) (T := TX2) (N := 4) hx hb hts hinX2 hown hK hP (ltX2 rfl) (ceX2 rfl) rfl 0 (by decide) wd285 rfl dX2_readyOn_32 ?_
        refine lv_iload_n hx hb dX2_readyOn_35 rfl (lv_at hl 3 rfl) ?_
        refine lv_aload_n hx hb dX2_readyOn_36 rfl (lv_at hl 0 rfl) ?_
        refine r_get (a := 55) (v := .ref (gB G 28)) (C := RX2) (T := TX2) (N := 4) hx hb hts hinX2 hown hK hP (ltX2 rfl) (ceX2 rfl) rfl 1 (by decide) wd286 rfl dX2_readyOn_37 ?_
        refine r_get (a := 28) (v := .ref (gB G 32)) (C := RX0) (T := TX0) (N := 10) hx hb hts hinX0 hown hK hP (ltX0 (Or.inl rfl)) (ceX0 (Or.inl rfl)) rfl 4 (by decide) wd246 rfl dX2_readyOn_40 ?_
        refine lv_iload_n hx hb dX2_readyOn_43 rfl (lv_at hl 1 rfl) ?_
        obtain ⟨r44, h44, er44, hf⟩ := bP_s hf
        refine r_callI (va_runV (As := [.int x3, .ref (gB G 32), .int x1]) (rest := []) ⟨hx, hb, hml, hown, hts⟩ (k_X7_clashOf l hG 4 (Or.inl rfl) 32 64 (arX0_4 (Or.inl rfl)) er44) (cwV 3 hts (gV wd749 wd706 wd707 wd76 wd708) rfl rfl rfl (by decide +kernel) ⟨Nat.le_of_ble_eq_true rfl, Nat.le_of_ble_eq_true rfl⟩) (r_pv hK hP hS (ltX7 (Or.inl rfl)) (ceX7 (Or.inl rfl)) rfl) rfl rfl hl.1 rfl (lv_room (Nat.le_of_ble_eq_true rfl)) dX2_readyOn_44 ⟨Nat.le_of_ble_eq_true rfl, Nat.le_of_ble_eq_true rfl⟩) hS (fun H locs hP hS => ?_)
        refine lv_if_ne (tgt := 56) hx hb dX2_readyOn_47 (by decide) (fun c47 => ?_) (fun c47 => ?_)
        · replace hf := if_f c47 hf
          refine lv_iinc (v := (x3 + 1)) (lv' := [(3, .int (x3 + 1)), (0, .ref (gB G 55)), (1, .int x1), (2, .int x2)]) hx hb dX2_readyOn_56 hl (k := 3) rfl rfl (by decide) rfl (fun ls hl => ?_)
          refine lv_goto (tgt := 4) hx hb dX2_readyOn_59 (by decide) ?_
          exact ih x2 (x3 + 1) h44 _ _ _ (lv_sub hl [1, 2, 3, 0] rfl) hP hS hf
        · replace hf := if_t c47 hf
          refine lv_iload_n hx hb dX2_readyOn_50 rfl (lv_at hl 2 rfl) ?_
          refine lv_iconst (v := 1) hx hb dX2_readyOn_51 (by decide) ?_
          refine lv_iload_n hx hb dX2_readyOn_52 rfl (lv_at hl 3 rfl) ?_
          refine lv_ishl hx hb dX2_readyOn_53 ?_
          refine lv_ior hx hb dX2_readyOn_54 ?_
          refine lv_topi (fun x2_55 ex2_55 => ?_)
          replace hf := lt_at ex2_55 hf
          refine lv_istore_n (lv' := [(2, .int x2_55), (0, .ref (gB G 55)), (1, .int x1), (3, .int x3)]) hx hb dX2_readyOn_55 rfl hl (by decide) rfl (fun ls hl => ?_)
          refine lv_iinc (v := (x3 + 1)) (lv' := [(3, .int (x3 + 1)), (2, .int x2_55), (0, .ref (gB G 55)), (1, .int x1)]) hx hb dX2_readyOn_56 hl (k := 3) rfl rfl (by decide) rfl (fun ls hl => ?_)
          refine lv_goto (tgt := 4) hx hb dX2_readyOn_59 (by decide) ?_
          exact ih x2_55 (x3 + 1) h44 _ _ _ (lv_sub hl [2, 3, 1, 0] rfl) hP hS hf
def f_X2_readyOn (x1 : Int32) (h : PH) : Option (Int32 × PH) := f_X2_readyOn_4 x1 FU 0 0 h
set_option maxHeartbeats 4000000 in
set_option maxRecDepth 100000 in
theorem k_X2_readyOn (l : Launch) {G : GC} (hG : GOK G) {x1 : Int32} {rr : Int32} {h hh : PH} (hf : f_X2_readyOn x1 h = some (rr, hh)) : CI l yX2_readyOn vX2_readyOn rmX2_readyOn G [.ref (gB G 55), .int x1] h rr hh := by
  refine Met.ofW (cc := cX2_readyOn) (maxL := 4) (ret := (some .int)) (by decide +kernel) rfl ?_
  intro p e s m args below meth c s₁ B hml hv
  obtain ⟨rfl, hP, hK⟩ := hv
  have C : MC l G p s m _ meth c RX2 cX2_readyOn 4 (some .int) := ⟨B.exec, B.bytes, B.returns, B.notSynchronized, hml, findClass_of_methodNamed B.named, fun w hw => atoms_spec (ws := vX2_readyOn) B.pre w (List.mem_cons_of_mem _ hw), hK⟩
  obtain ⟨hx, hb, hr, hlocks, -, hown, hts, -⟩ := id C
  have hl := lv_entry ([.ref (gB G 55), .int x1]) (n := 4) (Nat.le_of_ble_eq_true rfl)
  rw [lg_entry_eq]
  generalize (lg_sl ([.ref (gB G 55), .int x1]) ++ List.replicate (4 - (lg_sl ([.ref (gB G 55), .int x1])).length) Slot.unset).toArray = ls at hl ⊢
  have hl : lv_has ls 4 [(0, .ref (gB G 55)), (1, .int x1)] := hl
  have hS : SP G s s.heap [] := va_S.rf
  replace hP : WP G h s.heap := hP
  rw [f_X2_readyOn] at hf
  refine lv_iconst (v := 0) hx hb dX2_readyOn_0 (by decide) ?_
  refine lv_istore_n (lv' := [(2, .int 0), (0, .ref (gB G 55)), (1, .int x1)]) hx hb dX2_readyOn_1 rfl hl (by decide) rfl (fun ls hl => ?_)
  refine lv_iconst (v := 0) hx hb dX2_readyOn_2 (by decide) ?_
  refine lv_istore_n (lv' := [(3, .int 0), (2, .int 0), (0, .ref (gB G 55)), (1, .int x1)]) hx hb dX2_readyOn_3 rfl hl (by decide) rfl (fun ls hl => ?_)
  exact w_X2_readyOn_4 hG C x1 FU 0 0 h _ _ _ (lv_sub hl [2, 3, 1, 0] rfl) hP hS hf
/-! CarriedBack.ready(IZ)I -/
abbrev rmX8_ready : Room := { frames := 4, cells := 0, slots := 0, locals := 93 }
abbrev vX8_ready : List Cond := Cond.code yX8_ready cX8_ready 3 (some .int) :: GW
def f_X8_ready (x1 : Int32) (x2 : Int32) (h : PH) : Option (Int32 × PH) := bP (f_X0_hasLine 28 x1 h) (fun r5 h5 => if r5 = 0 then (some ((-1001), h5)) else (if x2 = 0 then (bP (f_X2_readyOn x1 h5) (fun r35 h35 => some (r35, h35))) else (bP (f_X2_inReach x1 h5) (fun r24 h24 => some (r24, h24)))))
set_option maxHeartbeats 4000000 in
set_option maxRecDepth 100000 in
theorem k_X8_ready (l : Launch) {G : GC} (hG : GOK G) {x1 : Int32} {x2 : Int32} {rr : Int32} {h hh : PH} (hf : f_X8_ready x1 x2 h = some (rr, hh)) : CI l yX8_ready vX8_ready rmX8_ready G [.ref (gB G 0), .int x1, .int x2] h rr hh := by
  refine Met.ofW (cc := cX8_ready) (maxL := 3) (ret := (some .int)) (by decide +kernel) rfl ?_
  intro p e s m args below meth c s₁ B hml hv
  obtain ⟨rfl, hP, hK⟩ := hv
  have C : MC l G p s m _ meth c RX8 cX8_ready 3 (some .int) := ⟨B.exec, B.bytes, B.returns, B.notSynchronized, hml, findClass_of_methodNamed B.named, fun w hw => atoms_spec (ws := vX8_ready) B.pre w (List.mem_cons_of_mem _ hw), hK⟩
  obtain ⟨hx, hb, hr, hlocks, -, hown, hts, -⟩ := id C
  have hl := lv_entry ([.ref (gB G 0), .int x1, .int x2]) (n := 3) (Nat.le_of_ble_eq_true rfl)
  rw [lg_entry_eq]
  generalize (lg_sl ([.ref (gB G 0), .int x1, .int x2]) ++ List.replicate (3 - (lg_sl ([.ref (gB G 0), .int x1, .int x2])).length) Slot.unset).toArray = ls at hl ⊢
  have hl : lv_has ls 3 [(0, .ref (gB G 0)), (1, .int x1), (2, .int x2)] := hl
  have hS : SP G s s.heap [] := va_S.rf
  replace hP : WP G h s.heap := hP
  rw [f_X8_ready] at hf
  refine lv_aload_n hx hb dX8_ready_0 rfl (lv_at hl 0 rfl) ?_
  refine r_get (a := 0) (v := .ref (gB G 28)) (C := RX8) (T := TX8) (N := 14) hx hb hts hinX8 hown hK hP (ltX8 rfl) (ceX8 rfl) rfl 6 (by decide) wd368 rfl dX8_ready_1 ?_
  refine lv_iload_n hx hb dX8_ready_4 rfl (lv_at hl 1 rfl) ?_
  obtain ⟨r5, h5, er5, hf⟩ := bP_s hf
  refine r_callI (va_runV (As := [.int x1]) (rest := []) ⟨hx, hb, hml, hown, hts⟩ (k_X0_hasLine l hG 28 (Or.inl rfl) er5) (cwV 1 hts (gV wd684 wd685 wd686 wd78 wd687) rfl rfl rfl (by decide +kernel) ⟨Nat.le_of_ble_eq_true rfl, Nat.le_of_ble_eq_true rfl⟩) (r_pv hK hP hS (ltX0 (Or.inl rfl)) (ceX0 (Or.inl rfl)) rfl) rfl rfl hl.1 rfl (lv_room (Nat.le_of_ble_eq_true rfl)) dX8_ready_5 ⟨Nat.le_of_ble_eq_true rfl, Nat.le_of_ble_eq_true rfl⟩) hS (fun H locs hP hS => ?_)
  refine lv_if_ne (tgt := 15) hx hb dX8_ready_8 (by decide) (fun c8 => ?_) (fun c8 => ?_)
  · replace hf := if_f c8 hf
    refine lv_iload_n hx hb dX8_ready_15 rfl (lv_at hl 2 rfl) ?_
    refine lv_if_eq (tgt := 30) hx hb dX8_ready_16 (by decide) (fun c16 => ?_) (fun c16 => ?_)
    · replace hf := if_t c16 hf
      refine lv_aload_n hx hb dX8_ready_30 rfl (lv_at hl 0 rfl) ?_
      refine r_get (a := 0) (v := .ref (gB G 55)) (C := RX8) (T := TX8) (N := 14) hx hb hts hinX8 hown hK hP (ltX8 rfl) (ceX8 rfl) rfl 9 (by decide) wd371 rfl dX8_ready_31 ?_
      refine lv_iload_n hx hb dX8_ready_34 rfl (lv_at hl 1 rfl) ?_
      obtain ⟨r35, h35, er35, hf⟩ := bP_s hf
      refine r_callI (va_runV (As := [.int x1]) (rest := []) ⟨hx, hb, hml, hown, hts⟩ (k_X2_readyOn l hG er35) (cwV 1 hts (gV wd917 wd918 wd919 wd79 wd920) rfl rfl rfl (by decide +kernel) ⟨Nat.le_of_ble_eq_true rfl, Nat.le_of_ble_eq_true rfl⟩) (r_pv hK hP hS (ltX2 rfl) (ceX2 rfl) rfl) rfl rfl hl.1 rfl (lv_room (Nat.le_of_ble_eq_true rfl)) dX8_ready_35 ⟨Nat.le_of_ble_eq_true rfl, Nat.le_of_ble_eq_true rfl⟩) hS (fun H locs hP hS => ?_)
      exact r_iret hx hb hr hlocks hP hS (re2 (Option.some.inj hf)) dX8_ready_38
    · replace hf := if_f c16 hf
      refine lv_aload_n hx hb dX8_ready_19 rfl (lv_at hl 0 rfl) ?_
      refine r_get (a := 0) (v := .ref (gB G 55)) (C := RX8) (T := TX8) (N := 14) hx hb hts hinX8 hown hK hP (ltX8 rfl) (ceX8 rfl) rfl 9 (by decide) wd371 rfl dX8_ready_20 ?_
      refine lv_iload_n hx hb dX8_ready_23 rfl (lv_at hl 1 rfl) ?_
      obtain ⟨r24, h24, er24, hf⟩ := bP_s hf
      refine r_callI (va_runV (As := [.int x1]) (rest := []) ⟨hx, hb, hml, hown, hts⟩ (k_X2_inReach l hG er24) (cwV 1 hts (gV wd909 wd910 wd911 wd79 wd912) rfl rfl rfl (by decide +kernel) ⟨Nat.le_of_ble_eq_true rfl, Nat.le_of_ble_eq_true rfl⟩) (r_pv hK hP hS (ltX2 rfl) (ceX2 rfl) rfl) rfl rfl hl.1 rfl (lv_room (Nat.le_of_ble_eq_true rfl)) dX8_ready_24 ⟨Nat.le_of_ble_eq_true rfl, Nat.le_of_ble_eq_true rfl⟩) hS (fun H locs hP hS => ?_)
      refine lv_goto (tgt := 38) hx hb dX8_ready_27 (by decide) ?_
      exact r_iret hx hb hr hlocks hP hS (re2 (Option.some.inj hf)) dX8_ready_38
  · replace hf := if_t c8 hf
    refine lv_sipush (v := (-1001)) hx hb dX8_ready_11 (by decide) ?_
    exact r_iret hx hb hr hlocks hP hS (re2 (Option.some.inj hf)) dX8_ready_14
/-! CarriedBack$Trunk.hasChanges(I)Z -/
abbrev rmX7_hasChanges : Room := { frames := 1, cells := 0, slots := 0, locals := 20 }
abbrev vX7_hasChanges : List Cond := Cond.code yX7_hasChanges cX7_hasChanges 2 (some .boolean) :: GW
def f_X7_hasChanges (a0 : Nat) (x1 : Int32) (h : PH) : Option (Int32 × PH) := bO (f_X8_firstOnes (h.1 a0 0)) (fun r5 => if (x1 &&& (r5 ^^^ (-1))) = 0 then (some (1, h)) else (some (0, h)))
set_option maxHeartbeats 4000000 in
set_option maxRecDepth 100000 in
theorem k_X7_hasChanges (l : Launch) {G : GC} (hG : GOK G) (a0 : Nat) (ha0 : kdX7 a0) {x1 : Int32} {rr : Int32} {h hh : PH} (hf : f_X7_hasChanges a0 x1 h = some (rr, hh)) : CI l yX7_hasChanges vX7_hasChanges rmX7_hasChanges G [.ref (gB G a0), .int x1] h rr hh := by
  refine Met.ofW (cc := cX7_hasChanges) (maxL := 2) (ret := (some .boolean)) (by decide +kernel) rfl ?_
  intro p e s m args below meth c s₁ B hml hv
  obtain ⟨rfl, hP, hK⟩ := hv
  have C : MC l G p s m _ meth c RX7 cX7_hasChanges 2 (some .boolean) := ⟨B.exec, B.bytes, B.returns, B.notSynchronized, hml, findClass_of_methodNamed B.named, fun w hw => atoms_spec (ws := vX7_hasChanges) B.pre w (List.mem_cons_of_mem _ hw), hK⟩
  obtain ⟨hx, hb, hr, hlocks, -, hown, hts, -⟩ := id C
  have hl := lv_entry ([.ref (gB G a0), .int x1]) (n := 2) (Nat.le_of_ble_eq_true rfl)
  rw [lg_entry_eq]
  generalize (lg_sl ([.ref (gB G a0), .int x1]) ++ List.replicate (2 - (lg_sl ([.ref (gB G a0), .int x1])).length) Slot.unset).toArray = ls at hl ⊢
  have hl : lv_has ls 2 [(0, .ref (gB G a0)), (1, .int x1)] := hl
  have hS : SP G s s.heap [] := va_S.rf
  replace hP : WP G h s.heap := hP
  rw [f_X7_hasChanges] at hf
  refine lv_iload_n hx hb dX7_hasChanges_0 rfl (lv_at hl 1 rfl) ?_
  refine lv_aload_n hx hb dX7_hasChanges_1 rfl (lv_at hl 0 rfl) ?_
  refine r_get (a := a0) (v := .int (h.1 a0 0)) (C := RX7) (T := TX7) (N := 10) hx hb hts hinX7 hown hK hP (ltX7 ha0) (ceX7 ha0) rfl 0 (by decide) wd154 rfl dX7_hasChanges_2 ?_
  obtain ⟨r5, er5, hf⟩ := bO_s hf
  refine r_callI (va_runSN (As := [.int (h.1 a0 0)]) (rest := [.int x1]) ⟨hx, hb, hml, hown, hts⟩ (k_X8_firstOnes l hG (h := h) er5) ⟨va_cnB 1 hts (gC wd678) rfl rfl rfl (host := "CarriedBack") (hK.2.1 _ (by decide +kernel)) (hts _ wd73) (by decide +kernel) ⟨Nat.le_of_ble_eq_true rfl, Nat.le_of_ble_eq_true rfl⟩, hts _ wd677, trivial⟩ (r_ps hK hP hS) rfl rfl hl.1 rfl (lv_room (Nat.le_of_ble_eq_true rfl)) dX7_hasChanges_5 ⟨Nat.le_of_ble_eq_true rfl, Nat.le_of_ble_eq_true rfl⟩) hS (fun H locs hP hS => ?_)
  refine lv_iconst (v := (-1)) hx hb dX7_hasChanges_8 (by decide) ?_
  refine lv_ixor hx hb dX7_hasChanges_9 ?_
  refine lv_iand hx hb dX7_hasChanges_10 ?_
  refine lv_if_ne (tgt := 18) hx hb dX7_hasChanges_11 (by decide) (fun c11 => ?_) (fun c11 => ?_)
  · replace hf := if_f c11 hf
    refine lv_iconst (v := 0) hx hb dX7_hasChanges_18 (by decide) ?_
    exact r_zret hx hb hr rfl hlocks hP hS (re2 (Option.some.inj hf)) dX7_hasChanges_19
  · replace hf := if_t c11 hf
    refine lv_iconst (v := 1) hx hb dX7_hasChanges_14 (by decide) ?_
    refine lv_goto (tgt := 19) hx hb dX7_hasChanges_15 (by decide) ?_
    exact r_zret hx hb hr rfl hlocks hP hS (re2 (Option.some.inj hf)) dX7_hasChanges_19
/-! CarriedBack.refusalOfRow(II)I -/
abbrev rmX8_refusalOfRow : Room := { frames := 2, cells := 0, slots := 0, locals := 41 }
abbrev vX8_refusalOfRow : List Cond := Cond.code yX8_refusalOfRow cX8_refusalOfRow 3 (some .int) :: GW
def f_X8_refusalOfRow (x1 : Int32) (x2 : Int32) (h : PH) : Option (Int32 × PH) := bP (f_X0_hasLine 28 x1 h) (fun r5 h5 => if r5 = 0 then (some ((-1001), h5)) else (bP (f_X7_hasChanges 4 x2 h5) (fun r16 h16 => if r16 = 0 then (some ((-1001), h16)) else (bO (ag h16 30 4 x1) (fun v34 => if (v34 &&& x2) = 0 then (bO (f_J6_bitCount_0f7a4 x2) (fun r41 => if r41 ≤ 8 then (some (0, h16)) else (some ((-1003), h16)))) else (some ((-1003), h16)))))))
set_option maxHeartbeats 4000000 in
set_option maxRecDepth 100000 in
theorem k_X8_refusalOfRow (l : Launch) {G : GC} (hG : GOK G) {x1 : Int32} {x2 : Int32} {rr : Int32} {h hh : PH} (hf : f_X8_refusalOfRow x1 x2 h = some (rr, hh)) : CI l yX8_refusalOfRow vX8_refusalOfRow rmX8_refusalOfRow G [.ref (gB G 0), .int x1, .int x2] h rr hh := by
  refine Met.ofW (cc := cX8_refusalOfRow) (maxL := 3) (ret := (some .int)) (by decide +kernel) rfl ?_
  intro p e s m args below meth c s₁ B hml hv
  obtain ⟨rfl, hP, hK⟩ := hv
  have C : MC l G p s m _ meth c RX8 cX8_refusalOfRow 3 (some .int) := ⟨B.exec, B.bytes, B.returns, B.notSynchronized, hml, findClass_of_methodNamed B.named, fun w hw => atoms_spec (ws := vX8_refusalOfRow) B.pre w (List.mem_cons_of_mem _ hw), hK⟩
  obtain ⟨hx, hb, hr, hlocks, -, hown, hts, -⟩ := id C
  have hl := lv_entry ([.ref (gB G 0), .int x1, .int x2]) (n := 3) (Nat.le_of_ble_eq_true rfl)
  rw [lg_entry_eq]
  generalize (lg_sl ([.ref (gB G 0), .int x1, .int x2]) ++ List.replicate (3 - (lg_sl ([.ref (gB G 0), .int x1, .int x2])).length) Slot.unset).toArray = ls at hl ⊢
  have hl : lv_has ls 3 [(0, .ref (gB G 0)), (1, .int x1), (2, .int x2)] := hl
  have hS : SP G s s.heap [] := va_S.rf
  replace hP : WP G h s.heap := hP
  rw [f_X8_refusalOfRow] at hf
  refine lv_aload_n hx hb dX8_refusalOfRow_0 rfl (lv_at hl 0 rfl) ?_
  refine r_get (a := 0) (v := .ref (gB G 28)) (C := RX8) (T := TX8) (N := 14) hx hb hts hinX8 hown hK hP (ltX8 rfl) (ceX8 rfl) rfl 6 (by decide) wd368 rfl dX8_refusalOfRow_1 ?_
  refine lv_iload_n hx hb dX8_refusalOfRow_4 rfl (lv_at hl 1 rfl) ?_
  obtain ⟨r5, h5, er5, hf⟩ := bP_s hf
  refine r_callI (va_runV (As := [.int x1]) (rest := []) ⟨hx, hb, hml, hown, hts⟩ (k_X0_hasLine l hG 28 (Or.inl rfl) er5) (cwV 1 hts (gV wd684 wd685 wd686 wd78 wd687) rfl rfl rfl (by decide +kernel) ⟨Nat.le_of_ble_eq_true rfl, Nat.le_of_ble_eq_true rfl⟩) (r_pv hK hP hS (ltX0 (Or.inl rfl)) (ceX0 (Or.inl rfl)) rfl) rfl rfl hl.1 rfl (lv_room (Nat.le_of_ble_eq_true rfl)) dX8_refusalOfRow_5 ⟨Nat.le_of_ble_eq_true rfl, Nat.le_of_ble_eq_true rfl⟩) hS (fun H locs hP hS => ?_)
  refine lv_if_eq (tgt := 22) hx hb dX8_refusalOfRow_8 (by decide) (fun c8 => ?_) (fun c8 => ?_)
  · replace hf := if_t c8 hf
    refine lv_sipush (v := (-1001)) hx hb dX8_refusalOfRow_22 (by decide) ?_
    exact r_iret hx hb hr hlocks hP hS (re2 (Option.some.inj hf)) dX8_refusalOfRow_25
  · replace hf := if_f c8 hf
    refine lv_aload_n hx hb dX8_refusalOfRow_11 rfl (lv_at hl 0 rfl) ?_
    refine r_get (a := 0) (v := .ref (gB G 4)) (C := RX8) (T := TX8) (N := 14) hx hb hts hinX8 hown hK hP (ltX8 rfl) (ceX8 rfl) rfl 2 (by decide) wd364 rfl dX8_refusalOfRow_12 ?_
    refine lv_iload_n hx hb dX8_refusalOfRow_15 rfl (lv_at hl 2 rfl) ?_
    obtain ⟨r16, h16, er16, hf⟩ := bP_s hf
    refine r_callI (va_runV (As := [.int x2]) (rest := []) ⟨hx, hb, hml, hown, hts⟩ (k_X7_hasChanges l hG 4 (Or.inl rfl) er16) (cwV 1 hts (gV wd929 wd930 wd931 wd76 wd932) rfl rfl rfl (by decide +kernel) ⟨Nat.le_of_ble_eq_true rfl, Nat.le_of_ble_eq_true rfl⟩) (r_pv hK hP hS (ltX7 (Or.inl rfl)) (ceX7 (Or.inl rfl)) rfl) rfl rfl hl.1 rfl (lv_room (Nat.le_of_ble_eq_true rfl)) dX8_refusalOfRow_16 ⟨Nat.le_of_ble_eq_true rfl, Nat.le_of_ble_eq_true rfl⟩) hS (fun H locs hP hS => ?_)
    refine lv_if_ne (tgt := 26) hx hb dX8_refusalOfRow_19 (by decide) (fun c19 => ?_) (fun c19 => ?_)
    · replace hf := if_f c19 hf
      refine lv_aload_n hx hb dX8_refusalOfRow_26 rfl (lv_at hl 0 rfl) ?_
      refine r_get (a := 0) (v := .ref (gB G 28)) (C := RX8) (T := TX8) (N := 14) hx hb hts hinX8 hown hK hP (ltX8 rfl) (ceX8 rfl) rfl 6 (by decide) wd368 rfl dX8_refusalOfRow_27 ?_
      refine r_get (a := 28) (v := .ref (gB G 30)) (C := RX0) (T := TX0) (N := 10) hx hb hts hinX0 hown hK hP (ltX0 (Or.inl rfl)) (ceX0 (Or.inl rfl)) rfl 2 (by decide) wd242 rfl dX8_refusalOfRow_30 ?_
      refine lv_iload_n hx hb dX8_refusalOfRow_33 rfl (lv_at hl 1 rfl) ?_
      obtain ⟨v34, ev34, hf⟩ := bO_s hf
      refine r_iald hx hb hK hP (arX0_2 (Or.inl rfl)) ev34 dX8_refusalOfRow_34 ?_
      refine lv_iload_n hx hb dX8_refusalOfRow_35 rfl (lv_at hl 2 rfl) ?_
      refine lv_iand hx hb dX8_refusalOfRow_36 ?_
      refine lv_if_ne (tgt := 49) hx hb dX8_refusalOfRow_37 (by decide) (fun c37 => ?_) (fun c37 => ?_)
      · replace hf := if_f c37 hf
        refine lv_sipush (v := (-1003)) hx hb dX8_refusalOfRow_49 (by decide) ?_
        exact r_iret hx hb hr hlocks hP hS (re2 (Option.some.inj hf)) dX8_refusalOfRow_52
      · replace hf := if_t c37 hf
        refine lv_iload_n hx hb dX8_refusalOfRow_40 rfl (lv_at hl 2 rfl) ?_
        obtain ⟨r41, er41, hf⟩ := bO_s hf
        refine r_callI (va_runS (As := [.int x2]) (rest := []) ⟨hx, hb, hml, hown, hts⟩ (k_J6_bitCount_0f7a4 l hG (h := h16) er41) (va_cwS 1 hts (gS wd718 wd719 wd88 wd720) rfl rfl rfl (by decide +kernel) ⟨Nat.le_of_ble_eq_true rfl, Nat.le_of_ble_eq_true rfl⟩) (r_ps hK hP hS) rfl rfl hl.1 rfl (lv_room (Nat.le_of_ble_eq_true rfl)) dX8_refusalOfRow_41 ⟨Nat.le_of_ble_eq_true rfl, Nat.le_of_ble_eq_true rfl⟩) hS (fun H locs hP hS => ?_)
        refine lv_bipush (v := 8) hx hb dX8_refusalOfRow_44 (by decide) ?_
        refine lv_icmp_le (tgt := 53) hx hb dX8_refusalOfRow_46 (by decide) (fun c46 => ?_) (fun c46 => ?_)
        · replace hf := if_t c46 hf
          refine lv_iconst (v := 0) hx hb dX8_refusalOfRow_53 (by decide) ?_
          exact r_iret hx hb hr hlocks hP hS (re2 (Option.some.inj hf)) dX8_refusalOfRow_54
        · replace hf := if_f c46 hf
          refine lv_sipush (v := (-1003)) hx hb dX8_refusalOfRow_49 (by decide) ?_
          exact r_iret hx hb hr hlocks hP hS (re2 (Option.some.inj hf)) dX8_refusalOfRow_52
    · replace hf := if_t c19 hf
      refine lv_sipush (v := (-1001)) hx hb dX8_refusalOfRow_22 (by decide) ?_
      exact r_iret hx hb hr hlocks hP hS (re2 (Option.some.inj hf)) dX8_refusalOfRow_25
/-! CarriedBack$Rows.goFurther(I)V -/
abbrev rmX4_goFurther : Room := { frames := 2, cells := 0, slots := 0, locals := 47 }
abbrev vX4_goFurther : List Cond := Cond.code yX4_goFurther cX4_goFurther 4 none :: GW
def f_X4_goFurther_2 (x1 : Int32) : Nat → Int32 → PH → Option PH
  | 0, _, _ => none
  | n + 1, x2, h => if (h.1 60 2) ≤ x2 then (some h) else (bO (f_X8_has x1 x2) (fun r12 => if r12 = 0 then (bO (ag h 61 8 x2) (fun v27 => bP (f_X7_clashOf 4 65 4096 v27 x1 h) (fun r33 h33 => if r33 = 0 then (lt' ((x1 ||| (1 <<< (x2 &&& 31)))) (fun x3_44 => bO (ag h33 63 256 x1) (fun v51 => bO (asg h33 63 256 x1 (v51 ||| (1 <<< (x2 &&& 31)))) (fun h56 => bO (ag h56 62 256 x3_44) (fun v62 => if v62 = 0 then (bO (asg h56 62 256 x3_44 (vp_nar .boolean 1)) (fun h72 => bO (cpy h72 65 4096 (x1 * 16) 65 4096 (x3_44 * 16) 16) (fun h91 => bO (ag h91 61 8 x2) (fun v103 => bO (f_X7_putOn 4 65 4096 v103 x3_44 h91) (fun h109 => (f_X4_goFurther_2 x1 n) (x2 + 1) h109))))) else ((f_X4_goFurther_2 x1 n) (x2 + 1) h56)))))) else ((f_X4_goFurther_2 x1 n) (x2 + 1) h33)))) else ((f_X4_goFurther_2 x1 n) (x2 + 1) h)))
set_option maxHeartbeats 4000000 in
set_option maxRecDepth 100000 in
theorem w_X4_goFurther_2 {l : Launch} {G : GC} (hG : GOK G) {hh : PH} {p : Program} {e : Env} {s : State} {m : MethodId} {args : Array Value} {below : List Frame} {meth : Method} {c : Code} (C : MC l G p s m args meth c RX4 cX4_goFurther 4 none) (x1 : Int32) : ∀ (n : Nat) (x2 : Int32) (h : PH) (H : Heap) (locs : List Loc) (ls : Array Slot), lv_has ls 4 [(0, .ref (gB G 60)), (1, .int x1), (2, .int x2)] → WP G h H → SP G s H locs → f_X4_goFurther_2 x1 n x2 h = some hh → W p l e rmX4_goFurther s m args below meth c H locs 0 0 (MQ below (QV G hh) args s 0 0 (gA G)) (F0 m 2 ls []) := by
  obtain ⟨hx, hb, hr, hlocks, hml, hown, hts, hK⟩ := id C
  intro n
  induction n with
  | zero => intro x2 h H locs ls hl hP hS hf; rw [f_X4_goFurther_2] at hf; cases hf
  | succ n ih =>
    intro x2 h H locs ls hl hP hS hf
    rw [f_X4_goFurther_2] at hf
    refine lv_iload_n hx hb dX4_goFurther_2 rfl (lv_at hl 2 rfl) ?_
    refine lv_aload_n hx hb dX4_goFurther_3 rfl (lv_at hl 0 rfl) ?_
    refine r_get (a := 60) (v := .int (h.1 60 2)) (C := RX4) (T := TX4) (N := 7) hx hb hts hinX4 hown hK hP (ltX4 rfl) (ceX4 rfl) rfl 2 (by decide) wd341 rfl dX4_goFurther_4 ?_
    refine lv_icmp_ge (tgt := 118) hx hb dX4_goFurther_7 (by decide) (fun c7 => ?_) (fun c7 => ?_)
    · replace hf := if_t c7 hf
      exact r_vret hx hb hr hlocks hP hS (Option.some.inj hf) dX4_goFurther_118
    · replace hf := if_f c7 hf
      refine lv_iload_n hx hb dX4_goFurther_10 rfl (lv_at hl 1 rfl) ?_
      refine lv_iload_n hx hb dX4_goFurther_11 rfl (lv_at hl 2 rfl) ?_
      obtain ⟨r12, er12, hf⟩ := bO_s hf
      refine r_callI (va_runSN (As := [.int x1, .int x2]) (rest := []) ⟨hx, hb, hml, hown, hts⟩ (k_X8_has l hG (h := h) er12) ⟨va_cnB 2 hts (gC wd523) rfl rfl rfl (host := "CarriedBack") (hK.2.1 _ (by decide +kernel)) (hts _ wd73) (by decide +kernel) ⟨Nat.le_of_ble_eq_true rfl, Nat.le_of_ble_eq_true rfl⟩, hts _ wd522, trivial⟩ (r_ps hK hP hS) rfl rfl hl.1 rfl (lv_room (Nat.le_of_ble_eq_true rfl)) dX4_goFurther_12 ⟨Nat.le_of_ble_eq_true rfl, Nat.le_of_ble_eq_true rfl⟩) hS (fun H locs hP hS => ?_)
      refine lv_if_ne (tgt := 112) hx hb dX4_goFurther_15 (by decide) (fun c15 => ?_) (fun c15 => ?_)
      · replace hf := if_f c15 hf
        refine lv_iinc (v := (x2 + 1)) (lv' := [(2, .int (x2 + 1)), (0, .ref (gB G 60)), (1, .int x1)]) hx hb dX4_goFurther_112 hl (k := 2) rfl rfl (by decide) rfl (fun ls hl => ?_)
        refine lv_goto (tgt := 2) hx hb dX4_goFurther_115 (by decide) ?_
        exact ih (x2 + 1) h _ _ _ (lv_sub hl [1, 2, 0] rfl) hP hS hf
      · replace hf := if_t c15 hf
        refine lv_aload_n hx hb dX4_goFurther_18 rfl (lv_at hl 0 rfl) ?_
        refine r_get (a := 60) (v := .ref (gB G 4)) (C := RX4) (T := TX4) (N := 7) hx hb hts hinX4 hown hK hP (ltX4 rfl) (ceX4 rfl) rfl 0 (by decide) wd339 rfl dX4_goFurther_19 ?_
        refine lv_aload_n hx hb dX4_goFurther_22 rfl (lv_at hl 0 rfl) ?_
        refine r_get (a := 60) (v := .ref (gB G 61)) (C := RX4) (T := TX4) (N := 7) hx hb hts hinX4 hown hK hP (ltX4 rfl) (ceX4 rfl) rfl 1 (by decide) wd340 rfl dX4_goFurther_23 ?_
        refine lv_iload_n hx hb dX4_goFurther_26 rfl (lv_at hl 2 rfl) ?_
        obtain ⟨v27, ev27, hf⟩ := bO_s hf
        refine r_iald hx hb hK hP (arX4_1 rfl) ev27 dX4_goFurther_27 ?_
        refine lv_aload_n hx hb dX4_goFurther_28 rfl (lv_at hl 0 rfl) ?_
        refine r_get (a := 60) (v := .ref (gB G 65)) (C := RX4) (T := TX4) (N := 7) hx hb hts hinX4 hown hK hP (ltX4 rfl) (ceX4 rfl) rfl 6 (by decide) wd345 rfl dX4_goFurther_29 ?_
        refine lv_iload_n hx hb dX4_goFurther_32 rfl (lv_at hl 1 rfl) ?_
        obtain ⟨r33, h33, er33, hf⟩ := bP_s hf
        refine r_callI (va_runV (As := [.int v27, .ref (gB G 65), .int x1]) (rest := []) ⟨hx, hb, hml, hown, hts⟩ (k_X7_clashOf l hG 4 (Or.inl rfl) 65 4096 (arX4_6 rfl) er33) (cwV 3 hts (gV wd944 wd706 wd707 wd76 wd708) rfl rfl rfl (by decide +kernel) ⟨Nat.le_of_ble_eq_true rfl, Nat.le_of_ble_eq_true rfl⟩) (r_pv hK hP hS (ltX7 (Or.inl rfl)) (ceX7 (Or.inl rfl)) rfl) rfl rfl hl.1 rfl (lv_room (Nat.le_of_ble_eq_true rfl)) dX4_goFurther_33 ⟨Nat.le_of_ble_eq_true rfl, Nat.le_of_ble_eq_true rfl⟩) hS (fun H locs hP hS => ?_)
        refine lv_if_ne (tgt := 112) hx hb dX4_goFurther_36 (by decide) (fun c36 => ?_) (fun c36 => ?_)
        · replace hf := if_f c36 hf
          refine lv_iinc (v := (x2 + 1)) (lv' := [(2, .int (x2 + 1)), (0, .ref (gB G 60)), (1, .int x1)]) hx hb dX4_goFurther_112 hl (k := 2) rfl rfl (by decide) rfl (fun ls hl => ?_)
          refine lv_goto (tgt := 2) hx hb dX4_goFurther_115 (by decide) ?_
          exact ih (x2 + 1) h33 _ _ _ (lv_sub hl [1, 2, 0] rfl) hP hS hf
        · replace hf := if_t c36 hf
          refine lv_iload_n hx hb dX4_goFurther_39 rfl (lv_at hl 1 rfl) ?_
          refine lv_iconst (v := 1) hx hb dX4_goFurther_40 (by decide) ?_
          refine lv_iload_n hx hb dX4_goFurther_41 rfl (lv_at hl 2 rfl) ?_
          refine lv_ishl hx hb dX4_goFurther_42 ?_
          refine lv_ior hx hb dX4_goFurther_43 ?_
          refine lv_topi (fun x3_44 ex3_44 => ?_)
          replace hf := lt_at ex3_44 hf
          refine lv_istore_n (lv' := [(3, .int x3_44), (0, .ref (gB G 60)), (1, .int x1), (2, .int x2)]) hx hb dX4_goFurther_44 rfl hl (by decide) rfl (fun ls hl => ?_)
          refine lv_aload_n hx hb dX4_goFurther_45 rfl (lv_at hl 1 rfl) ?_
          refine r_get (a := 60) (v := .ref (gB G 63)) (C := RX4) (T := TX4) (N := 7) hx hb hts hinX4 hown hK hP (ltX4 rfl) (ceX4 rfl) rfl 4 (by decide) wd343 rfl dX4_goFurther_46 ?_
          refine lv_iload_n hx hb dX4_goFurther_49 rfl (lv_at hl 2 rfl) ?_
          refine lv_dup2_11 hx hb dX4_goFurther_50 rfl rfl ?_
          obtain ⟨v51, ev51, hf⟩ := bO_s hf
          refine r_iald hx hb hK hP (arX4_4 rfl) ev51 dX4_goFurther_51 ?_
          refine lv_iconst (v := 1) hx hb dX4_goFurther_52 (by decide) ?_
          refine lv_iload_n hx hb dX4_goFurther_53 rfl (lv_at hl 3 rfl) ?_
          refine lv_ishl hx hb dX4_goFurther_54 ?_
          refine lv_ior hx hb dX4_goFurther_55 ?_
          obtain ⟨h56, eh56, hf⟩ := bO_s hf
          refine r_iast hG hx hb hK hP hS (arX4_4 rfl) eh56 dX4_goFurther_56 (fun H locs hP hS => ?_)
          refine lv_aload_n hx hb dX4_goFurther_57 rfl (lv_at hl 1 rfl) ?_
          refine r_get (a := 60) (v := .ref (gB G 62)) (C := RX4) (T := TX4) (N := 7) hx hb hts hinX4 hown hK hP (ltX4 rfl) (ceX4 rfl) rfl 3 (by decide) wd342 rfl dX4_goFurther_58 ?_
          refine lv_iload_n hx hb dX4_goFurther_61 rfl (lv_at hl 0 rfl) ?_
          obtain ⟨v62, ev62, hf⟩ := bO_s hf
          refine r_zald hx hb hK hP (arX4_3 rfl) ev62 dX4_goFurther_62 ?_
          refine lv_if_ne (tgt := 112) hx hb dX4_goFurther_63 (by decide) (fun c63 => ?_) (fun c63 => ?_)
          · replace hf := if_f c63 hf
            refine lv_iinc (v := (x2 + 1)) (lv' := [(2, .int (x2 + 1)), (3, .int x3_44), (0, .ref (gB G 60)), (1, .int x1)]) hx hb dX4_goFurther_112 hl (k := 3) rfl rfl (by decide) rfl (fun ls hl => ?_)
            refine lv_goto (tgt := 2) hx hb dX4_goFurther_115 (by decide) ?_
            exact ih (x2 + 1) h56 _ _ _ (lv_sub hl [2, 3, 0] rfl) hP hS hf
          · replace hf := if_t c63 hf
            refine lv_aload_n hx hb dX4_goFurther_66 rfl (lv_at hl 1 rfl) ?_
            refine r_get (a := 60) (v := .ref (gB G 62)) (C := RX4) (T := TX4) (N := 7) hx hb hts hinX4 hown hK hP (ltX4 rfl) (ceX4 rfl) rfl 3 (by decide) wd342 rfl dX4_goFurther_67 ?_
            refine lv_iload_n hx hb dX4_goFurther_70 rfl (lv_at hl 0 rfl) ?_
            refine lv_iconst (v := 1) hx hb dX4_goFurther_71 (by decide) ?_
            obtain ⟨h72, eh72, hf⟩ := bO_s hf
            refine r_zast hG hx hb hK hP hS (arX4_3 rfl) eh72 dX4_goFurther_72 (fun H locs hP hS => ?_)
            refine lv_aload_n hx hb dX4_goFurther_73 rfl (lv_at hl 1 rfl) ?_
            refine r_get (a := 60) (v := .ref (gB G 65)) (C := RX4) (T := TX4) (N := 7) hx hb hts hinX4 hown hK hP (ltX4 rfl) (ceX4 rfl) rfl 6 (by decide) wd345 rfl dX4_goFurther_74 ?_
            refine lv_iload_n hx hb dX4_goFurther_77 rfl (lv_at hl 2 rfl) ?_
            refine lv_bipush (v := 16) hx hb dX4_goFurther_78 (by decide) ?_
            refine lv_imul hx hb dX4_goFurther_80 ?_
            refine lv_aload_n hx hb dX4_goFurther_81 rfl (lv_at hl 1 rfl) ?_
            refine r_get (a := 60) (v := .ref (gB G 65)) (C := RX4) (T := TX4) (N := 7) hx hb hts hinX4 hown hK hP (ltX4 rfl) (ceX4 rfl) rfl 6 (by decide) wd345 rfl dX4_goFurther_82 ?_
            refine lv_iload_n hx hb dX4_goFurther_85 rfl (lv_at hl 0 rfl) ?_
            refine lv_bipush (v := 16) hx hb dX4_goFurther_86 (by decide) ?_
            refine lv_imul hx hb dX4_goFurther_88 ?_
            refine lv_bipush (v := 16) hx hb dX4_goFurther_89 (by decide) ?_
            obtain ⟨h91, eh91, hf⟩ := bO_s hf
            refine r_cpy hG hx hb (by rw [hml]; exact hl.1.symm) hown hts wd939 wd553 wd552 wd87 hK hP hS (arX4_6 rfl) (arX4_6 rfl) eh91 (Nat.le_of_ble_eq_true rfl) (Nat.le_of_ble_eq_true rfl) dX4_goFurther_91 (fun H locs hP hS => ?_)
            refine lv_aload_n hx hb dX4_goFurther_94 rfl (lv_at hl 1 rfl) ?_
            refine r_get (a := 60) (v := .ref (gB G 4)) (C := RX4) (T := TX4) (N := 7) hx hb hts hinX4 hown hK hP (ltX4 rfl) (ceX4 rfl) rfl 0 (by decide) wd339 rfl dX4_goFurther_95 ?_
            refine lv_aload_n hx hb dX4_goFurther_98 rfl (lv_at hl 1 rfl) ?_
            refine r_get (a := 60) (v := .ref (gB G 61)) (C := RX4) (T := TX4) (N := 7) hx hb hts hinX4 hown hK hP (ltX4 rfl) (ceX4 rfl) rfl 1 (by decide) wd340 rfl dX4_goFurther_99 ?_
            refine lv_iload_n hx hb dX4_goFurther_102 rfl (lv_at hl 3 rfl) ?_
            obtain ⟨v103, ev103, hf⟩ := bO_s hf
            refine r_iald hx hb hK hP (arX4_1 rfl) ev103 dX4_goFurther_103 ?_
            refine lv_aload_n hx hb dX4_goFurther_104 rfl (lv_at hl 1 rfl) ?_
            refine r_get (a := 60) (v := .ref (gB G 65)) (C := RX4) (T := TX4) (N := 7) hx hb hts hinX4 hown hK hP (ltX4 rfl) (ceX4 rfl) rfl 6 (by decide) wd345 rfl dX4_goFurther_105 ?_
            refine lv_iload_n hx hb dX4_goFurther_108 rfl (lv_at hl 0 rfl) ?_
            obtain ⟨h109, eh109, hf⟩ := bO_s hf
            refine r_callV (va_runV (As := [.int v103, .ref (gB G 65), .int x3_44]) (rest := []) ⟨hx, hb, hml, hown, hts⟩ (k_X7_putOn l hG 4 (Or.inl rfl) 65 4096 (arX4_6 rfl) eh109) (cwV 3 hts (gV wd945 wd555 wd556 wd76 wd557) rfl rfl rfl (by decide +kernel) ⟨Nat.le_of_ble_eq_true rfl, Nat.le_of_ble_eq_true rfl⟩) (r_pv hK hP hS (ltX7 (Or.inl rfl)) (ceX7 (Or.inl rfl)) rfl) rfl rfl hl.1 rfl (lv_room (Nat.le_of_ble_eq_true rfl)) dX4_goFurther_109 ⟨Nat.le_of_ble_eq_true rfl, Nat.le_of_ble_eq_true rfl⟩) hS (fun H locs hP hS => ?_)
            refine lv_iinc (v := (x2 + 1)) (lv' := [(2, .int (x2 + 1)), (3, .int x3_44), (0, .ref (gB G 60)), (1, .int x1)]) hx hb dX4_goFurther_112 hl (k := 3) rfl rfl (by decide) rfl (fun ls hl => ?_)
            refine lv_goto (tgt := 2) hx hb dX4_goFurther_115 (by decide) ?_
            exact ih (x2 + 1) h109 _ _ _ (lv_sub hl [2, 3, 0] rfl) hP hS hf
def f_X4_goFurther (x1 : Int32) (h : PH) : Option PH := f_X4_goFurther_2 x1 FU 0 h
set_option maxHeartbeats 4000000 in
set_option maxRecDepth 100000 in
theorem k_X4_goFurther (l : Launch) {G : GC} (hG : GOK G) {x1 : Int32} {h hh : PH} (hf : f_X4_goFurther x1 h = some hh) : CV l yX4_goFurther vX4_goFurther rmX4_goFurther G [.ref (gB G 60), .int x1] h hh := by
  refine Met.ofW (cc := cX4_goFurther) (maxL := 4) (ret := none) (by decide +kernel) rfl ?_
  intro p e s m args below meth c s₁ B hml hv
  obtain ⟨rfl, hP, hK⟩ := hv
  have C : MC l G p s m _ meth c RX4 cX4_goFurther 4 none := ⟨B.exec, B.bytes, B.returns, B.notSynchronized, hml, findClass_of_methodNamed B.named, fun w hw => atoms_spec (ws := vX4_goFurther) B.pre w (List.mem_cons_of_mem _ hw), hK⟩
  obtain ⟨hx, hb, hr, hlocks, -, hown, hts, -⟩ := id C
  have hl := lv_entry ([.ref (gB G 60), .int x1]) (n := 4) (Nat.le_of_ble_eq_true rfl)
  rw [lg_entry_eq]
  generalize (lg_sl ([.ref (gB G 60), .int x1]) ++ List.replicate (4 - (lg_sl ([.ref (gB G 60), .int x1])).length) Slot.unset).toArray = ls at hl ⊢
  have hl : lv_has ls 4 [(0, .ref (gB G 60)), (1, .int x1)] := hl
  have hS : SP G s s.heap [] := va_S.rf
  replace hP : WP G h s.heap := hP
  rw [f_X4_goFurther] at hf
  refine lv_iconst (v := 0) hx hb dX4_goFurther_0 (by decide) ?_
  refine lv_istore_n (lv' := [(2, .int 0), (0, .ref (gB G 60)), (1, .int x1)]) hx hb dX4_goFurther_1 rfl hl (by decide) rfl (fun ls hl => ?_)
  exact w_X4_goFurther_2 hG C x1 FU 0 h _ _ _ (lv_sub hl [1, 2, 0] rfl) hP hS hf
