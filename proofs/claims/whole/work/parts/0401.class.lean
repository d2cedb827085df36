/-! CarriedBack.policy()I -/
abbrev rmX8_policy : Room := { frames := 7, cells := 0, slots := 0, locals := 150 }
abbrev vX8_policy : List Cond := Cond.code yX8_policy cX8_policy 2 (some .int) :: GW
def f_X8_policy (h : PH) : Option (Int32 × PH) := if (h.1 1 1) ≤ 120 then (bO (f_X3_begin 3 h) (fun h21 => bP (f_X5_readFrom 25 h21) (fun r32 h32 => lt' (hU h32 1 1 0) (fun h41 => lt' (hU h41 0 13 (h41.1 3 7)) (fun h52 => if r32 = 0 then (some (((-10) - (h52.1 3 6)), h52)) else (bO (f_X5_become 22 25 h52) (fun h78 => some ((h78.1 22 0), h78)))))))) else (some ((-1003), h))
set_option maxHeartbeats 4000000 in
set_option maxRecDepth 100000 in
theorem k_X8_policy (l : Launch) {G : GC} (hG : GOK G) {rr : Int32} {h hh : PH} (hf : f_X8_policy h = some (rr, hh)) : CI l yX8_policy vX8_policy rmX8_policy G [.ref (gB G 0)] h rr hh := by
  refine Met.ofW (cc := cX8_policy) (maxL := 2) (ret := (some .int)) (by decide +kernel) rfl ?_
  intro p e s m args below meth c s₁ B hml hv
  obtain ⟨rfl, hP, hK⟩ := hv
  have C : MC l G p s m _ meth c RX8 cX8_policy 2 (some .int) := ⟨B.exec, B.bytes, B.returns, B.notSynchronized, hml, findClass_of_methodNamed B.named, fun w hw => atoms_spec (ws := vX8_policy) B.pre w (List.mem_cons_of_mem _ hw), hK⟩
  obtain ⟨hx, hb, hr, hlocks, -, hown, hts, -⟩ := id C
  have hl := lv_entry ([.ref (gB G 0)]) (n := 2) (Nat.le_of_ble_eq_true rfl)
  rw [lg_entry_eq]
  generalize (lg_sl ([.ref (gB G 0)]) ++ List.replicate (2 - (lg_sl ([.ref (gB G 0)])).length) Slot.unset).toArray = ls at hl ⊢
  have hl : lv_has ls 2 [(0, .ref (gB G 0))] := hl
  have hS : SP G s s.heap [] := va_S.rf
  replace hP : WP G h s.heap := hP
  rw [f_X8_policy] at hf
  refine lv_aload_n hx hb dX8_policy_0 rfl (lv_at hl 0 rfl) ?_
  refine r_get (a := 0) (v := .ref (gB G 1)) (C := RX8) (T := TX8) (N := 14) hx hb hts hinX8 hown hK hP (ltX8 rfl) (ceX8 rfl) rfl 0 (by decide) wd362 rfl dX8_policy_1 ?_
  refine r_get (a := 1) (v := .int (h.1 1 1)) (C := RX6) (T := TX6) (N := 2) hx hb hts hinX6 hown hK hP (ltX6 rfl) (ceX6 rfl) rfl 1 (by decide) wd107 rfl dX8_policy_4 ?_
  refine lv_bipush (v := 120) hx hb dX8_policy_7 (by decide) ?_
  refine lv_icmp_le (tgt := 16) hx hb dX8_policy_9 (by decide) (fun c9 => ?_) (fun c9 => ?_)
  · replace hf := if_t c9 hf
    refine lv_aload_n hx hb dX8_policy_16 rfl (lv_at hl 0 rfl) ?_
    refine r_get (a := 0) (v := .ref (gB G 3)) (C := RX8) (T := TX8) (N := 14) hx hb hts hinX8 hown hK hP (ltX8 rfl) (ceX8 rfl) rfl 1 (by decide) wd363 rfl dX8_policy_17 ?_
    refine lv_iconst (v := 3) hx hb dX8_policy_20 (by decide) ?_
    obtain ⟨h21, eh21, hf⟩ := bO_s hf
    refine r_callV (va_runV (As := [.int 3]) (rest := []) ⟨hx, hb, hml, hown, hts⟩ (k_X3_begin l hG eh21) (cwV 1 hts (gV wd417 wd418 wd419 wd75 wd420) rfl rfl rfl (by decide +kernel) ⟨Nat.le_of_ble_eq_true rfl, Nat.le_of_ble_eq_true rfl⟩) (r_pv hK hP hS (ltX3 rfl) (ceX3 rfl) rfl) rfl rfl hl.1 rfl (lv_room (Nat.le_of_ble_eq_true rfl)) dX8_policy_21 ⟨Nat.le_of_ble_eq_true rfl, Nat.le_of_ble_eq_true rfl⟩) hS (fun H locs hP hS => ?_)
    refine lv_aload_n hx hb dX8_policy_24 rfl (lv_at hl 0 rfl) ?_
    refine r_get (a := 0) (v := .ref (gB G 25)) (C := RX8) (T := TX8) (N := 14) hx hb hts hinX8 hown hK hP (ltX8 rfl) (ceX8 rfl) rfl 5 (by decide) wd367 rfl dX8_policy_25 ?_
    refine lv_aload_n hx hb dX8_policy_28 rfl (lv_at hl 0 rfl) ?_
    refine r_get (a := 0) (v := .ref (gB G 3)) (C := RX8) (T := TX8) (N := 14) hx hb hts hinX8 hown hK hP (ltX8 rfl) (ceX8 rfl) rfl 1 (by decide) wd363 rfl dX8_policy_29 ?_
    obtain ⟨r32, h32, er32, hf⟩ := bP_s hf
    refine r_callI (va_runV (As := [.ref (gB G 3)]) (rest := []) ⟨hx, hb, hml, hown, hts⟩ (k_X5_readFrom l hG 25 (Or.inr rfl) er32) (cwV 1 hts (gV wd580 wd581 wd582 wd77 wd583) rfl rfl rfl (by decide +kernel) ⟨Nat.le_of_ble_eq_true rfl, Nat.le_of_ble_eq_true rfl⟩) (r_pv hK hP hS (ltX5 (Or.inr rfl)) (ceX5 (Or.inr rfl)) rfl) rfl rfl hl.1 rfl (lv_room (Nat.le_of_ble_eq_true rfl)) dX8_policy_32 ⟨Nat.le_of_ble_eq_true rfl, Nat.le_of_ble_eq_true rfl⟩) hS (fun H locs hP hS => ?_)
    refine lv_istore_n (lv' := [(1, .int r32), (0, .ref (gB G 0))]) hx hb dX8_policy_35 rfl hl (by decide) rfl (fun ls hl => ?_)
    refine lv_aload_n hx hb dX8_policy_36 rfl (lv_at hl 1 rfl) ?_
    refine r_get (a := 0) (v := .ref (gB G 1)) (C := RX8) (T := TX8) (N := 14) hx hb hts hinX8 hown hK hP (ltX8 rfl) (ceX8 rfl) rfl 0 (by decide) wd362 rfl dX8_policy_37 ?_
    refine lv_iconst (v := 0) hx hb dX8_policy_40 (by decide) ?_
    obtain ⟨h41, eh41⟩ : ∃ y, y = hU h32 1 1 0 := ⟨_, rfl⟩
    replace hf := lt_at eh41 hf
    refine r_put (a := 1) (v := .int 0) (ty := .int) (h' := h41) (C := RX6) (T := TX6) (N := 2) hG hx hb hts hinX6 tyX6 tyX6_ok nmX6 hown hK hP hS (ltX6 rfl) (ceX6 rfl) rfl 1 (by decide) wd107 rfl (by decide +kernel) rfl rfl (Nat.le_of_ble_eq_true rfl) (by rw [eh41]; exact fun j hj => cE_U hj) (by rw [eh41]; exact puX6_1 rfl _) dX8_policy_41 (fun H locs hP hS => ?_)
    refine lv_aload_n hx hb dX8_policy_44 rfl (lv_at hl 1 rfl) ?_
    refine lv_aload_n hx hb dX8_policy_45 rfl (lv_at hl 1 rfl) ?_
    refine r_get (a := 0) (v := .ref (gB G 3)) (C := RX8) (T := TX8) (N := 14) hx hb hts hinX8 hown hK hP (ltX8 rfl) (ceX8 rfl) rfl 1 (by decide) wd363 rfl dX8_policy_46 ?_
    refine r_get (a := 3) (v := .int (h41.1 3 7)) (C := RX3) (T := TX3) (N := 8) hx hb hts hinX3 hown hK hP (ltX3 rfl) (ceX3 rfl) rfl 7 (by decide) wd130 rfl dX8_policy_49 ?_
    obtain ⟨h52, eh52⟩ : ∃ y, y = hU h41 0 13 (h41.1 3 7) := ⟨_, rfl⟩
    replace hf := lt_at eh52 hf
    refine r_put (a := 0) (v := .int (h41.1 3 7)) (ty := .int) (h' := h52) (C := RX8) (T := TX8) (N := 14) hG hx hb hts hinX8 tyX8 tyX8_ok nmX8 hown hK hP hS (ltX8 rfl) (ceX8 rfl) rfl 13 (by decide) wd375 rfl (by decide +kernel) rfl rfl (Nat.le_of_ble_eq_true rfl) (by rw [eh52]; exact fun j hj => cE_U hj) (by rw [eh52]; exact puX8_13 rfl _) dX8_policy_52 (fun H locs hP hS => ?_)
    refine lv_iload_n hx hb dX8_policy_55 rfl (lv_at hl 0 rfl) ?_
    refine lv_if_ne (tgt := 70) hx hb dX8_policy_56 (by decide) (fun c56 => ?_) (fun c56 => ?_)
    · replace hf := if_f c56 hf
      refine lv_aload_n hx hb dX8_policy_70 rfl (lv_at hl 1 rfl) ?_
      refine r_get (a := 0) (v := .ref (gB G 22)) (C := RX8) (T := TX8) (N := 14) hx hb hts hinX8 hown hK hP (ltX8 rfl) (ceX8 rfl) rfl 4 (by decide) wd366 rfl dX8_policy_71 ?_
      refine lv_aload_n hx hb dX8_policy_74 rfl (lv_at hl 1 rfl) ?_
      refine r_get (a := 0) (v := .ref (gB G 25)) (C := RX8) (T := TX8) (N := 14) hx hb hts hinX8 hown hK hP (ltX8 rfl) (ceX8 rfl) rfl 5 (by decide) wd367 rfl dX8_policy_75 ?_
      obtain ⟨h78, eh78, hf⟩ := bO_s hf
      refine r_callV (va_runV (As := [.ref (gB G 25)]) (rest := []) ⟨hx, hb, hml, hown, hts⟩ (k_X5_become l hG 22 (Or.inl rfl) 25 (Or.inr rfl) eh78) (cwV 1 hts (gV wd616 wd617 wd618 wd77 wd619) rfl rfl rfl (by decide +kernel) ⟨Nat.le_of_ble_eq_true rfl, Nat.le_of_ble_eq_true rfl⟩) (r_pv hK hP hS (ltX5 (Or.inl rfl)) (ceX5 (Or.inl rfl)) rfl) rfl rfl hl.1 rfl (lv_room (Nat.le_of_ble_eq_true rfl)) dX8_policy_78 ⟨Nat.le_of_ble_eq_true rfl, Nat.le_of_ble_eq_true rfl⟩) hS (fun H locs hP hS => ?_)
      refine lv_aload_n hx hb dX8_policy_81 rfl (lv_at hl 1 rfl) ?_
      refine r_get (a := 0) (v := .ref (gB G 22)) (C := RX8) (T := TX8) (N := 14) hx hb hts hinX8 hown hK hP (ltX8 rfl) (ceX8 rfl) rfl 4 (by decide) wd366 rfl dX8_policy_82 ?_
      refine r_get (a := 22) (v := .int (h78.1 22 0)) (C := RX5) (T := TX5) (N := 7) hx hb hts hinX5 hown hK hP (ltX5 (Or.inl rfl)) (ceX5 (Or.inl rfl)) rfl 0 (by decide) wd207 rfl dX8_policy_85 ?_
      exact r_iret hx hb hr hlocks hP hS (re2 (Option.some.inj hf)) dX8_policy_88
    · replace hf := if_t c56 hf
      refine lv_bipush (v := (-10)) hx hb dX8_policy_59 (by decide) ?_
      refine lv_aload_n hx hb dX8_policy_61 rfl (lv_at hl 1 rfl) ?_
      refine r_get (a := 0) (v := .ref (gB G 3)) (C := RX8) (T := TX8) (N := 14) hx hb hts hinX8 hown hK hP (ltX8 rfl) (ceX8 rfl) rfl 1 (by decide) wd363 rfl dX8_policy_62 ?_
      refine r_get (a := 3) (v := .int (h52.1 3 6)) (C := RX3) (T := TX3) (N := 8) hx hb hts hinX3 hown hK hP (ltX3 rfl) (ceX3 rfl) rfl 6 (by decide) wd128 rfl dX8_policy_65 ?_
      refine lv_isub hx hb dX8_policy_68 ?_
      exact r_iret hx hb hr hlocks hP hS (re2 (Option.some.inj hf)) dX8_policy_69
  · replace hf := if_f c9 hf
    refine lv_sipush (v := (-1003)) hx hb dX8_policy_12 (by decide) ?_
    exact r_iret hx hb hr hlocks hP hS (re2 (Option.some.inj hf)) dX8_policy_15
/-! CarriedBack.breach()I -/
abbrev rmX8_breach : Room := { frames := 0, cells := 0, slots := 0, locals := 0 }
abbrev vX8_breach : List Cond := Cond.code yX8_breach cX8_breach 1 (some .int) :: GW
def f_X8_breach (h : PH) : Option (Int32 × PH) := some ((h.1 0 13), h)
set_option maxHeartbeats 4000000 in
set_option maxRecDepth 100000 in
theorem k_X8_breach (l : Launch) {G : GC} (hG : GOK G) {rr : Int32} {h hh : PH} (hf : f_X8_breach h = some (rr, hh)) : CI l yX8_breach vX8_breach rmX8_breach G [.ref (gB G 0)] h rr hh := by
  refine Met.ofW (cc := cX8_breach) (maxL := 1) (ret := (some .int)) (by decide +kernel) rfl ?_
  intro p e s m args below meth c s₁ B hml hv
  obtain ⟨rfl, hP, hK⟩ := hv
  have C : MC l G p s m _ meth c RX8 cX8_breach 1 (some .int) := ⟨B.exec, B.bytes, B.returns, B.notSynchronized, hml, findClass_of_methodNamed B.named, fun w hw => atoms_spec (ws := vX8_breach) B.pre w (List.mem_cons_of_mem _ hw), hK⟩
  obtain ⟨hx, hb, hr, hlocks, -, hown, hts, -⟩ := id C
  have hl := lv_entry ([.ref (gB G 0)]) (n := 1) (Nat.le_of_ble_eq_true rfl)
  rw [lg_entry_eq]
  generalize (lg_sl ([.ref (gB G 0)]) ++ List.replicate (1 - (lg_sl ([.ref (gB G 0)])).length) Slot.unset).toArray = ls at hl ⊢
  have hl : lv_has ls 1 [(0, .ref (gB G 0))] := hl
  have hS : SP G s s.heap [] := va_S.rf
  replace hP : WP G h s.heap := hP
  rw [f_X8_breach] at hf
  refine lv_aload_n hx hb dX8_breach_0 rfl (lv_at hl 0 rfl) ?_
  refine r_get (a := 0) (v := .int (h.1 0 13)) (C := RX8) (T := TX8) (N := 14) hx hb hts hinX8 hown hK hP (ltX8 rfl) (ceX8 rfl) rfl 13 (by decide) wd375 rfl dX8_breach_1 ?_
  exact r_iret hx hb hr hlocks hP hS (re2 (Option.some.inj hf)) dX8_breach_4
/-! CarriedBack$Trunk.hasChange(I)Z -/
abbrev rmX7_hasChange : Room := { frames := 0, cells := 0, slots := 0, locals := 0 }
abbrev vX7_hasChange : List Cond := Cond.code yX7_hasChange cX7_hasChange 2 (some .boolean) :: GW
def f_X7_hasChange (a0 : Nat) (x1 : Int32) (h : PH) : Option (Int32 × PH) := if x1 < 0 then (some (0, h)) else (if (h.1 a0 0) ≤ x1 then (some (0, h)) else (some (1, h)))
set_option maxHeartbeats 4000000 in
set_option maxRecDepth 100000 in
theorem k_X7_hasChange (l : Launch) {G : GC} (hG : GOK G) (a0 : Nat) (ha0 : kdX7 a0) {x1 : Int32} {rr : Int32} {h hh : PH} (hf : f_X7_hasChange a0 x1 h = some (rr, hh)) : CI l yX7_hasChange vX7_hasChange rmX7_hasChange G [.ref (gB G a0), .int x1] h rr hh := by
  refine Met.ofW (cc := cX7_hasChange) (maxL := 2) (ret := (some .boolean)) (by decide +kernel) rfl ?_
  intro p e s m args below meth c s₁ B hml hv
  obtain ⟨rfl, hP, hK⟩ := hv
  have C : MC l G p s m _ meth c RX7 cX7_hasChange 2 (some .boolean) := ⟨B.exec, B.bytes, B.returns, B.notSynchronized, hml, findClass_of_methodNamed B.named, fun w hw => atoms_spec (ws := vX7_hasChange) B.pre w (List.mem_cons_of_mem _ hw), hK⟩
  obtain ⟨hx, hb, hr, hlocks, -, hown, hts, -⟩ := id C
  have hl := lv_entry ([.ref (gB G a0), .int x1]) (n := 2) (Nat.le_of_ble_eq_true rfl)
  rw [lg_entry_eq]
  generalize (lg_sl ([.ref (gB G a0), .int x1]) ++ List.replicate (2 - (lg_sl ([.ref (gB G a0), .int x1])).length) Slot.unset).toArray = ls at hl ⊢
  have hl : lv_has ls 2 [(0, .ref (gB G a0)), (1, .int x1)] := hl
  have hS : SP G s s.heap [] := va_S.rf
  replace hP : WP G h s.heap := hP
  rw [f_X7_hasChange] at hf
  refine lv_iload_n hx hb dX7_hasChange_0 rfl (lv_at hl 1 rfl) ?_
  refine lv_if_lt (tgt := 16) hx hb dX7_hasChange_1 (by decide) (fun c1 => ?_) (fun c1 => ?_)
  · replace hf := if_t c1 hf
    refine lv_iconst (v := 0) hx hb dX7_hasChange_16 (by decide) ?_
    exact r_zret hx hb hr rfl hlocks hP hS (re2 (Option.some.inj hf)) dX7_hasChange_17
  · replace hf := if_f c1 hf
    refine lv_iload_n hx hb dX7_hasChange_4 rfl (lv_at hl 1 rfl) ?_
    refine lv_aload_n hx hb dX7_hasChange_5 rfl (lv_at hl 0 rfl) ?_
    refine r_get (a := a0) (v := .int (h.1 a0 0)) (C := RX7) (T := TX7) (N := 10) hx hb hts hinX7 hown hK hP (ltX7 ha0) (ceX7 ha0) rfl 0 (by decide) wd154 rfl dX7_hasChange_6 ?_
    refine lv_icmp_ge (tgt := 16) hx hb dX7_hasChange_9 (by decide) (fun c9 => ?_) (fun c9 => ?_)
    · replace hf := if_t c9 hf
      refine lv_iconst (v := 0) hx hb dX7_hasChange_16 (by decide) ?_
      exact r_zret hx hb hr rfl hlocks hP hS (re2 (Option.some.inj hf)) dX7_hasChange_17
    · replace hf := if_f c9 hf
      refine lv_iconst (v := 1) hx hb dX7_hasChange_12 (by decide) ?_
      refine lv_goto (tgt := 17) hx hb dX7_hasChange_13 (by decide) ?_
      exact r_zret hx hb hr rfl hlocks hP hS (re2 (Option.some.inj hf)) dX7_hasChange_17
/-! CarriedBack$Trunk.comingWith(I)I -/
abbrev rmX7_comingWith : Room := { frames := 0, cells := 0, slots := 0, locals := 0 }
abbrev vX7_comingWith : List Cond := Cond.code yX7_comingWith cX7_comingWith 4 (some .int) :: GW
def f_X7_comingWith_4 (a0 : Nat) (x1 : Int32) : Nat → Int32 → Int32 → PH → Option (Int32 × PH)
  | 0, _, _, _ => none
  | n + 1, x2, x3, h => if (h.1 a0 6) ≤ x3 then (some (x2, h)) else (bO (ag h (a0 + 7) 10 x3) (fun v17 => if v17 = x1 then (lt' ((x2 ||| (1 <<< (x3 &&& 31)))) (fun x2_27 => (f_X7_comingWith_4 a0 x1 n) x2_27 (x3 + 1) h)) else ((f_X7_comingWith_4 a0 x1 n) x2 (x3 + 1) h)))
set_option maxHeartbeats 4000000 in
set_option maxRecDepth 100000 in
theorem w_X7_comingWith_4 {l : Launch} {G : GC} (hG : GOK G) {rr : Int32} {hh : PH} {p : Program} {e : Env} {s : State} {m : MethodId} {args : Array Value} {below : List Frame} {meth : Method} {c : Code} (C : MC l G p s m args meth c RX7 cX7_comingWith 4 (some .int)) (a0 : Nat) (ha0 : kdX7 a0) (x1 : Int32) : ∀ (n : Nat) (x2 : Int32) (x3 : Int32) (h : PH) (H : Heap) (locs : List Loc) (ls : Array Slot), lv_has ls 4 [(0, .ref (gB G a0)), (1, .int x1), (2, .int x2), (3, .int x3)] → WP G h H → SP G s H locs → f_X7_comingWith_4 a0 x1 n x2 x3 h = some (rr, hh) → W p l e rmX7_comingWith s m args below meth c H locs 0 0 (MQ below (QI G rr hh) args s 0 0 (gA G)) (F0 m 4 ls []) := by
  obtain ⟨hx, hb, hr, hlocks, hml, hown, hts, hK⟩ := id C
  intro n
  induction n with
  | zero => intro x2 x3 h H locs ls hl hP hS hf; rw [f_X7_comingWith_4] at hf; cases hf
  | succ n ih =>
    intro x2 x3 h H locs ls hl hP hS hf
    rw [f_X7_comingWith_4] at hf
    refine lv_iload_n hx hb dX7_comingWith_4 rfl (lv_at hl 3 rfl) ?_
    refine lv_aload_n hx hb dX7_comingWith_5 rfl (lv_at hl 0 rfl) ?_
    refine r_get (a := a0) (v := .int (h.1 a0 6)) (C := RX7) (T := TX7) (N := 10) hx hb hts hinX7 hown hK hP (ltX7 ha0) (ceX7 ha0) rfl 6 (by decide) wd169 rfl dX7_comingWith_6 ?_
    refine lv_icmp_ge (tgt := 34) hx hb dX7_comingWith_9 (by decide) (fun c9 => ?_) (fun c9 => ?_)
    · replace hf := if_t c9 hf
      refine lv_iload_n hx hb dX7_comingWith_34 rfl (lv_at hl 2 rfl) ?_
      exact r_iret hx hb hr hlocks hP hS (re2 (Option.some.inj hf)) dX7_comingWith_35
    · replace hf := if_f c9 hf
      refine lv_aload_n hx hb dX7_comingWith_12 rfl (lv_at hl 0 rfl) ?_
      refine r_get (a := a0) (v := .ref (gB G (a0 + 7))) (C := RX7) (T := TX7) (N := 10) hx hb hts hinX7 hown hK hP (ltX7 ha0) (ceX7 ha0) rfl 8 (by decide) wd174 rfl dX7_comingWith_13 ?_
      refine lv_iload_n hx hb dX7_comingWith_16 rfl (lv_at hl 3 rfl) ?_
      obtain ⟨v17, ev17, hf⟩ := bO_s hf
      refine r_iald hx hb hK hP (arX7_8 ha0) ev17 dX7_comingWith_17 ?_
      refine lv_iload_n hx hb dX7_comingWith_18 rfl (lv_at hl 1 rfl) ?_
      refine lv_icmp_ne (tgt := 28) hx hb dX7_comingWith_19 (by decide) (fun c19 => ?_) (fun c19 => ?_)
      · replace hf := if_f c19 hf
        refine lv_iinc (v := (x3 + 1)) (lv' := [(3, .int (x3 + 1)), (0, .ref (gB G a0)), (1, .int x1), (2, .int x2)]) hx hb dX7_comingWith_28 hl (k := 3) rfl rfl (by decide) rfl (fun ls hl => ?_)
        refine lv_goto (tgt := 4) hx hb dX7_comingWith_31 (by decide) ?_
        exact ih x2 (x3 + 1) h _ _ _ (lv_sub hl [1, 2, 3, 0] rfl) hP hS hf
      · replace hf := if_t c19 hf
        refine lv_iload_n hx hb dX7_comingWith_22 rfl (lv_at hl 2 rfl) ?_
        refine lv_iconst (v := 1) hx hb dX7_comingWith_23 (by decide) ?_
        refine lv_iload_n hx hb dX7_comingWith_24 rfl (lv_at hl 3 rfl) ?_
        refine lv_ishl hx hb dX7_comingWith_25 ?_
        refine lv_ior hx hb dX7_comingWith_26 ?_
        refine lv_topi (fun x2_27 ex2_27 => ?_)
        replace hf := lt_at ex2_27 hf
        refine lv_istore_n (lv' := [(2, .int x2_27), (0, .ref (gB G a0)), (1, .int x1), (3, .int x3)]) hx hb dX7_comingWith_27 rfl hl (by decide) rfl (fun ls hl => ?_)
        refine lv_iinc (v := (x3 + 1)) (lv' := [(3, .int (x3 + 1)), (2, .int x2_27), (0, .ref (gB G a0)), (1, .int x1)]) hx hb dX7_comingWith_28 hl (k := 3) rfl rfl (by decide) rfl (fun ls hl => ?_)
        refine lv_goto (tgt := 4) hx hb dX7_comingWith_31 (by decide) ?_
        exact ih x2_27 (x3 + 1) h _ _ _ (lv_sub hl [2, 3, 1, 0] rfl) hP hS hf
def f_X7_comingWith (a0 : Nat) (x1 : Int32) (h : PH) : Option (Int32 × PH) := f_X7_comingWith_4 a0 x1 FU 0 0 h
set_option maxHeartbeats 4000000 in
set_option maxRecDepth 100000 in
theorem k_X7_comingWith (l : Launch) {G : GC} (hG : GOK G) (a0 : Nat) (ha0 : kdX7 a0) {x1 : Int32} {rr : Int32} {h hh : PH} (hf : f_X7_comingWith a0 x1 h = some (rr, hh)) : CI l yX7_comingWith vX7_comingWith rmX7_comingWith G [.ref (gB G a0), .int x1] h rr hh := by
  refine Met.ofW (cc := cX7_comingWith) (maxL := 4) (ret := (some .int)) (by decide +kernel) rfl ?_
  intro p e s m args below meth c s₁ B hml hv
  obtain ⟨rfl, hP, hK⟩ := hv
  have C : MC l G p s m _ meth c RX7 cX7_comingWith 4 (some .int) := ⟨B.exec, B.bytes, B.returns, B.notSynchronized, hml, findClass_of_methodNamed B.named, fun w hw => atoms_spec (ws := vX7_comingWith) B.pre w (List.mem_cons_of_mem _ hw), hK⟩
  obtain ⟨hx, hb, hr, hlocks, -, hown, hts, -⟩ := id C
  have hl := lv_entry ([.ref (gB G a0), .int x1]) (n := 4) (Nat.le_of_ble_eq_true rfl)
  rw [lg_entry_eq]
  generalize (lg_sl ([.ref (gB G a0), .int x1]) ++ List.replicate (4 - (lg_sl ([.ref (gB G a0), .int x1])).length) Slot.unset).toArray = ls at hl ⊢
  have hl : lv_has ls 4 [(0, .ref (gB G a0)), (1, .int x1)] := hl
  have hS : SP G s s.heap [] := va_S.rf
  replace hP : WP G h s.heap := hP
  rw [f_X7_comingWith] at hf
  refine lv_iconst (v := 0) hx hb dX7_comingWith_0 (by decide) ?_
  refine lv_istore_n (lv' := [(2, .int 0), (0, .ref (gB G a0)), (1, .int x1)]) hx hb dX7_comingWith_1 rfl hl (by decide) rfl (fun ls hl => ?_)
  refine lv_iconst (v := 0) hx hb dX7_comingWith_2 (by decide) ?_
  refine lv_istore_n (lv' := [(3, .int 0), (2, .int 0), (0, .ref (gB G a0)), (1, .int x1)]) hx hb dX7_comingWith_3 rfl hl (by decide) rfl (fun ls hl => ?_)
  exact w_X7_comingWith_4 hG C a0 ha0 x1 FU 0 0 h _ _ _ (lv_sub hl [2, 3, 1, 0] rfl) hP hS hf
/-! CarriedBack$Trunk.removedBy(I)I -/
abbrev rmX7_removedBy : Room := { frames := 1, cells := 0, slots := 0, locals := 21 }
abbrev vX7_removedBy : List Cond := Cond.code yX7_removedBy cX7_removedBy 4 (some .int) :: GW
def f_X7_removedBy_4 (a0 : Nat) (x1 : Int32) : Nat → Int32 → Int32 → PH → Option (Int32 × PH)
  | 0, _, _, _ => none
  | n + 1, x2, x3, h => if (h.1 a0 6) ≤ x3 then (some (x2, h)) else (bO (ag h (a0 + 8) 10 x3) (fun v17 => if v17 = (-1) then ((f_X7_removedBy_4 a0 x1 n) x2 (x3 + 1) h) else (bO (ag h (a0 + 8) 10 x3) (fun v28 => bO (f_X8_has x1 v28) (fun r29 => if r29 = 0 then ((f_X7_removedBy_4 a0 x1 n) x2 (x3 + 1) h) else (lt' ((x2 ||| (1 <<< (x3 &&& 31)))) (fun x2_40 => (f_X7_removedBy_4 a0 x1 n) x2_40 (x3 + 1) h)))))))
set_option maxHeartbeats 4000000 in
set_option maxRecDepth 100000 in
theorem w_X7_removedBy_4 {l : Launch} {G : GC} (hG : GOK G) {rr : Int32} {hh : PH} {p : Program} {e : Env} {s : State} {m : MethodId} {args : Array Value} {below : List Frame} {meth : Method} {c : Code} (C : MC l G p s m args meth c RX7 cX7_removedBy 4 (some .int)) (a0 : Nat) (ha0 : kdX7 a0) (x1 : Int32) : ∀ (n : Nat) (x2 : Int32) (x3 : Int32) (h : PH) (H : Heap) (locs : List Loc) (ls : Array Slot), lv_has ls 4 [(0, .ref (gB G a0)), (1, .int x1), (2, .int x2), (3, .int x3)] → WP G h H → SP G s H locs → f_X7_removedBy_4 a0 x1 n x2 x3 h = some (rr, hh) → W p l e rmX7_removedBy s m args below meth c H locs 0 0 (MQ below (QI G rr hh) args s 0 0 (gA G)) (F0 m 4 ls []) := by
  obtain ⟨hx, hb, hr, hlocks, hml, hown, hts, hK⟩ := id C
  intro n
  induction n with
  | zero => intro x2 x3 h H locs ls hl hP hS hf; rw [f_X7_removedBy_4] at hf; cases hf
  | succ n ih =>
    intro x2 x3 h H locs ls hl hP hS hf
    rw [f_X7_removedBy_4] at hf
    refine lv_iload_n hx hb dX7_removedBy_4 rfl (lv_at hl 3 rfl) ?_
    refine lv_aload_n hx hb dX7_removedBy_5 rfl (lv_at hl 0 rfl) ?_
    refine r_get (a := a0) (v := .int (h.1 a0 6)) (C := RX7) (T := TX7) (N := 10) hx hb hts hinX7 hown hK hP (ltX7 ha0) (ceX7 ha0) rfl 6 (by decide) wd169 rfl dX7_removedBy_6 ?_
    refine lv_icmp_ge (tgt := 47) hx hb dX7_removedBy_9 (by decide) (fun c9 => ?_) (fun c9 => ?_)
    · replace hf := if_t c9 hf
      refine lv_iload_n hx hb dX7_removedBy_47 rfl (lv_at hl 2 rfl) ?_
      exact r_iret hx hb hr hlocks hP hS (re2 (Option.some.inj hf)) dX7_removedBy_48
    · replace hf := if_f c9 hf
      refine lv_aload_n hx hb dX7_removedBy_12 rfl (lv_at hl 0 rfl) ?_
      refine r_get (a := a0) (v := .ref (gB G (a0 + 8))) (C := RX7) (T := TX7) (N := 10) hx hb hts hinX7 hown hK hP (ltX7 ha0) (ceX7 ha0) rfl 9 (by decide) wd176 rfl dX7_removedBy_13 ?_
      refine lv_iload_n hx hb dX7_removedBy_16 rfl (lv_at hl 3 rfl) ?_
      obtain ⟨v17, ev17, hf⟩ := bO_s hf
      refine r_iald hx hb hK hP (arX7_9 ha0) ev17 dX7_removedBy_17 ?_
      refine lv_iconst (v := (-1)) hx hb dX7_removedBy_18 (by decide) ?_
      refine lv_icmp_eq (tgt := 41) hx hb dX7_removedBy_19 (by decide) (fun c19 => ?_) (fun c19 => ?_)
      · replace hf := if_t c19 hf
        refine lv_iinc (v := (x3 + 1)) (lv' := [(3, .int (x3 + 1)), (0, .ref (gB G a0)), (1, .int x1), (2, .int x2)]) hx hb dX7_removedBy_41 hl (k := 3) rfl rfl (by decide) rfl (fun ls hl => ?_)
        refine lv_goto (tgt := 4) hx hb dX7_removedBy_44 (by decide) ?_
        exact ih x2 (x3 + 1) h _ _ _ (lv_sub hl [1, 2, 3, 0] rfl) hP hS hf
      · replace hf := if_f c19 hf
        refine lv_iload_n hx hb dX7_removedBy_22 rfl (lv_at hl 1 rfl) ?_
        refine lv_aload_n hx hb dX7_removedBy_23 rfl (lv_at hl 0 rfl) ?_
        refine r_get (a := a0) (v := .ref (gB G (a0 + 8))) (C := RX7) (T := TX7) (N := 10) hx hb hts hinX7 hown hK hP (ltX7 ha0) (ceX7 ha0) rfl 9 (by decide) wd176 rfl dX7_removedBy_24 ?_
        refine lv_iload_n hx hb dX7_removedBy_27 rfl (lv_at hl 3 rfl) ?_
        obtain ⟨v28, ev28, hf⟩ := bO_s hf
        refine r_iald hx hb hK hP (arX7_9 ha0) ev28 dX7_removedBy_28 ?_
        obtain ⟨r29, er29, hf⟩ := bO_s hf
        refine r_callI (va_runSN (As := [.int x1, .int v28]) (rest := []) ⟨hx, hb, hml, hown, hts⟩ (k_X8_has l hG (h := h) er29) ⟨va_cnB 2 hts (gC wd523) rfl rfl rfl (host := "CarriedBack") (hK.2.1 _ (by decide +kernel)) (hts _ wd73) (by decide +kernel) ⟨Nat.le_of_ble_eq_true rfl, Nat.le_of_ble_eq_true rfl⟩, hts _ wd522, trivial⟩ (r_ps hK hP hS) rfl rfl hl.1 rfl (lv_room (Nat.le_of_ble_eq_true rfl)) dX7_removedBy_29 ⟨Nat.le_of_ble_eq_true rfl, Nat.le_of_ble_eq_true rfl⟩) hS (fun H locs hP hS => ?_)
        refine lv_if_eq (tgt := 41) hx hb dX7_removedBy_32 (by decide) (fun c32 => ?_) (fun c32 => ?_)
        · replace hf := if_t c32 hf
          refine lv_iinc (v := (x3 + 1)) (lv' := [(3, .int (x3 + 1)), (0, .ref (gB G a0)), (1, .int x1), (2, .int x2)]) hx hb dX7_removedBy_41 hl (k := 3) rfl rfl (by decide) rfl (fun ls hl => ?_)
          refine lv_goto (tgt := 4) hx hb dX7_removedBy_44 (by decide) ?_
          exact ih x2 (x3 + 1) h _ _ _ (lv_sub hl [1, 2, 3, 0] rfl) hP hS hf
        · replace hf := if_f c32 hf
          refine lv_iload_n hx hb dX7_removedBy_35 rfl (lv_at hl 2 rfl) ?_
          refine lv_iconst (v := 1) hx hb dX7_removedBy_36 (by decide) ?_
          refine lv_iload_n hx hb dX7_removedBy_37 rfl (lv_at hl 3 rfl) ?_
          refine lv_ishl hx hb dX7_removedBy_38 ?_
          refine lv_ior hx hb dX7_removedBy_39 ?_
          refine lv_topi (fun x2_40 ex2_40 => ?_)
          replace hf := lt_at ex2_40 hf
          refine lv_istore_n (lv' := [(2, .int x2_40), (0, .ref (gB G a0)), (1, .int x1), (3, .int x3)]) hx hb dX7_removedBy_40 rfl hl (by decide) rfl (fun ls hl => ?_)
          refine lv_iinc (v := (x3 + 1)) (lv' := [(3, .int (x3 + 1)), (2, .int x2_40), (0, .ref (gB G a0)), (1, .int x1)]) hx hb dX7_removedBy_41 hl (k := 3) rfl rfl (by decide) rfl (fun ls hl => ?_)
          refine lv_goto (tgt := 4) hx hb dX7_removedBy_44 (by decide) ?_
          exact ih x2_40 (x3 + 1) h _ _ _ (lv_sub hl [2, 3, 1, 0] rfl) hP hS hf
def f_X7_removedBy (a0 : Nat) (x1 : Int32) (h : PH) : Option (Int32 × PH) := f_X7_removedBy_4 a0 x1 FU 0 0 h
set_option maxHeartbeats 4000000 in
set_option maxRecDepth 100000 in
theorem k_X7_removedBy (l : Launch) {G : GC} (hG : GOK G) (a0 : Nat) (ha0 : kdX7 a0) {x1 : Int32} {rr : Int32} {h hh : PH} (hf : f_X7_removedBy a0 x1 h = some (rr, hh)) : CI l yX7_removedBy vX7_removedBy rmX7_removedBy G [.ref (gB G a0), .int x1] h rr hh := by
  refine Met.ofW (cc := cX7_removedBy) (maxL := 4) (ret := (some .int)) (by decide +kernel) rfl ?_
  intro p e s m args below meth c s₁ B hml hv
  obtain ⟨rfl, hP, hK⟩ := hv
  have C : MC l G p s m _ meth c RX7 cX7_removedBy 4 (some .int) := ⟨B.exec, B.bytes, B.returns, B.notSynchronized, hml, findClass_of_methodNamed B.named, fun w hw => atoms_spec (ws := vX7_removedBy) B.pre w (List.mem_cons_of_mem _ hw), hK⟩
  obtain ⟨hx, hb, hr, hlocks, -, hown, hts, -⟩ := id C
  have hl := lv_entry ([.ref (gB G a0), .int x1]) (n := 4) (Nat.le_of_ble_eq_true rfl)
  rw [lg_entry_eq]
  generalize (lg_sl ([.ref (gB G a0), .int x1]) ++ List.replicate (4 - (lg_sl ([.ref (gB G a0), .int x1])).length) Slot.unset).toArray = ls at hl ⊢
  have hl : lv_has ls 4 [(0, .ref (gB G a0)), (1, .int x1)] := hl
  have hS : SP G s s.heap [] := va_S.rf
  replace hP : WP G h s.heap := hP
  rw [f_X7_removedBy] at hf
  refine lv_iconst (v := 0) hx hb dX7_removedBy_0 (by decide) ?_
  refine lv_istore_n (lv' := [(2, .int 0), (0, .ref (gB G a0)), (1, .int x1)]) hx hb dX7_removedBy_1 rfl hl (by decide) rfl (fun ls hl => ?_)
  refine lv_iconst (v := 0) hx hb dX7_removedBy_2 (by decide) ?_
  refine lv_istore_n (lv' := [(3, .int 0), (2, .int 0), (0, .ref (gB G a0)), (1, .int x1)]) hx hb dX7_removedBy_3 rfl hl (by decide) rfl (fun ls hl => ?_)
  exact w_X7_removedBy_4 hG C a0 ha0 x1 FU 0 0 h _ _ _ (lv_sub hl [2, 3, 1, 0] rfl) hP hS hf
/-! CarriedBack$Trunk.goingWith(I)I -/
abbrev rmX7_goingWith : Room := { frames := 2, cells := 0, slots := 0, locals := 44 }
abbrev vX7_goingWith : List Cond := Cond.code yX7_goingWith cX7_goingWith 2 (some .int) :: GW
def f_X7_goingWith (a0 : Nat) (x1 : Int32) (h : PH) : Option (Int32 × PH) := bP (f_X7_removedBy a0 (1 <<< (x1 &&& 31)) h) (fun r4 h4 => some (r4, h4))
set_option maxHeartbeats 4000000 in
set_option maxRecDepth 100000 in
theorem k_X7_goingWith (l : Launch) {G : GC} (hG : GOK G) (a0 : Nat) (ha0 : kdX7 a0) {x1 : Int32} {rr : Int32} {h hh : PH} (hf : f_X7_goingWith a0 x1 h = some (rr, hh)) : CI l yX7_goingWith vX7_goingWith rmX7_goingWith G [.ref (gB G a0), .int x1] h rr hh := by
  refine Met.ofW (cc := cX7_goingWith) (maxL := 2) (ret := (some .int)) (by decide +kernel) rfl ?_
  intro p e s m args below meth c s₁ B hml hv
  obtain ⟨rfl, hP, hK⟩ := hv
  have C : MC l G p s m _ meth c RX7 cX7_goingWith 2 (some .int) := ⟨B.exec, B.bytes, B.returns, B.notSynchronized, hml, findClass_of_methodNamed B.named, fun w hw => atoms_spec (ws := vX7_goingWith) B.pre w (List.mem_cons_of_mem _ hw), hK⟩
  obtain ⟨hx, hb, hr, hlocks, -, hown, hts, -⟩ := id C
  have hl := lv_entry ([.ref (gB G a0), .int x1]) (n := 2) (Nat.le_of_ble_eq_true rfl)
  rw [lg_entry_eq]
  generalize (lg_sl ([.ref (gB G a0), .int x1]) ++ List.replicate (2 - (lg_sl ([.ref (gB G a0), .int x1])).length) Slot.unset).toArray = ls at hl ⊢
  have hl : lv_has ls 2 [(0, .ref (gB G a0)), (1, .int x1)] := hl
  have hS : SP G s s.heap [] := va_S.rf
  replace hP : WP G h s.heap := hP
  rw [f_X7_goingWith] at hf
  refine lv_aload_n hx hb dX7_goingWith_0 rfl (lv_at hl 0 rfl) ?_
  refine lv_iconst (v := 1) hx hb dX7_goingWith_1 (by decide) ?_
  refine lv_iload_n hx hb dX7_goingWith_2 rfl (lv_at hl 1 rfl) ?_
  refine lv_ishl hx hb dX7_goingWith_3 ?_
  obtain ⟨r4, h4, er4, hf⟩ := bP_s hf
  refine r_callI (va_runV (As := [.int (1 <<< (x1 &&& 31))]) (rest := []) ⟨hx, hb, hml, hown, hts⟩ (k_X7_removedBy l hG a0 ha0 er4) (cwV 1 hts (gV wd641 wd642 wd643 wd76 wd644) rfl rfl rfl (by decide +kernel) ⟨Nat.le_of_ble_eq_true rfl, Nat.le_of_ble_eq_true rfl⟩) (r_pv hK hP hS (ltX7 ha0) (ceX7 ha0) rfl) rfl rfl hl.1 rfl (lv_room (Nat.le_of_ble_eq_true rfl)) dX7_goingWith_4 ⟨Nat.le_of_ble_eq_true rfl, Nat.le_of_ble_eq_true rfl⟩) hS (fun H locs hP hS => ?_)
  exact r_iret hx hb hr hlocks hP hS (re2 (Option.some.inj hf)) dX7_goingWith_7
/-! CarriedBack.change(II)I -/
abbrev rmX8_change : Room := { frames := 3, cells := 0, slots := 0, locals := 65 }
abbrev vX8_change : List Cond := Cond.code yX8_change cX8_change 3 (some .int) :: GW
def f_X8_change (x1 : Int32) (x2 : Int32) (h : PH) : Option (Int32 × PH) := bP (f_X7_hasChange 4 x1 h) (fun r5 h5 => if r5 = 0 then (some ((-1001), h5)) else (if x2 = 0 then (bO (ag h5 5 24 x1) (fun v60 => some (v60, h5))) else (if x2 = 1 then (bO (ag h5 6 24 x1) (fun v70 => some (v70, h5))) else (if x2 = 2 then (bO (ag h5 7 24 x1) (fun v80 => some (v80, h5))) else (if x2 = 3 then (bP (f_X7_comingWith 4 x1 h5) (fun r87 h87 => some (r87, h87))) else (if x2 = 4 then (bP (f_X7_goingWith 4 x1 h5) (fun r96 h96 => some (r96, h96))) else (some ((-1002), h5))))))))
set_option maxHeartbeats 4000000 in
set_option maxRecDepth 100000 in
theorem k_X8_change (l : Launch) {G : GC} (hG : GOK G) {x1 : Int32} {x2 : Int32} {rr : Int32} {h hh : PH} (hf : f_X8_change x1 x2 h = some (rr, hh)) : CI l yX8_change vX8_change rmX8_change G [.ref (gB G 0), .int x1, .int x2] h rr hh := by
  refine Met.ofW (cc := cX8_change) (maxL := 3) (ret := (some .int)) (by decide +kernel) rfl ?_
  intro p e s m args below meth c s₁ B hml hv
  obtain ⟨rfl, hP, hK⟩ := hv
  have C : MC l G p s m _ meth c RX8 cX8_change 3 (some .int) := ⟨B.exec, B.bytes, B.returns, B.notSynchronized, hml, findClass_of_methodNamed B.named, fun w hw => atoms_spec (ws := vX8_change) B.pre w (List.mem_cons_of_mem _ hw), hK⟩
  obtain ⟨hx, hb, hr, hlocks, -, hown, hts, -⟩ := id C
  have hl := lv_entry ([.ref (gB G 0), .int x1, .int x2]) (n := 3) (Nat.le_of_ble_eq_true rfl)
  rw [lg_entry_eq]
  generalize (lg_sl ([.ref (gB G 0), .int x1, .int x2]) ++ List.replicate (3 - (lg_sl ([.ref (gB G 0), .int x1, .int x2])).length) Slot.unset).toArray = ls at hl ⊢
  have hl : lv_has ls 3 [(0, .ref (gB G 0)), (1, .int x1), (2, .int x2)] := hl
  have hS : SP G s s.heap [] := va_S.rf
  replace hP : WP G h s.heap := hP
  rw [f_X8_change] at hf
  refine lv_aload_n hx hb dX8_change_0 rfl (lv_at hl 0 rfl) ?_
  refine r_get (a := 0) (v := .ref (gB G 4)) (C := RX8) (T := TX8) (N := 14) hx hb hts hinX8 hown hK hP (ltX8 rfl) (ceX8 rfl) rfl 2 (by decide) wd364 rfl dX8_change_1 ?_
  refine lv_iload_n hx hb dX8_change_4 rfl (lv_at hl 1 rfl) ?_
  obtain ⟨r5, h5, er5, hf⟩ := bP_s hf
  refine r_callI (va_runV (As := [.int x1]) (rest := []) ⟨hx, hb, hml, hown, hts⟩ (k_X7_hasChange l hG 4 (Or.inl rfl) er5) (cwV 1 hts (gV wd629 wd630 wd631 wd76 wd632) rfl rfl rfl (by decide +kernel) ⟨Nat.le_of_ble_eq_true rfl, Nat.le_of_ble_eq_true rfl⟩) (r_pv hK hP hS (ltX7 (Or.inl rfl)) (ceX7 (Or.inl rfl)) rfl) rfl rfl hl.1 rfl (lv_room (Nat.le_of_ble_eq_true rfl)) dX8_change_5 ⟨Nat.le_of_ble_eq_true rfl, Nat.le_of_ble_eq_true rfl⟩) hS (fun H locs hP hS => ?_)
  refine lv_if_ne (tgt := 15) hx hb dX8_change_8 (by decide) (fun c8 => ?_) (fun c8 => ?_)
  · replace hf := if_f c8 hf
    refine lv_iload_n hx hb dX8_change_15 rfl (lv_at hl 2 rfl) ?_
    by_cases s16_0 : x2 = 0
    · replace hf := if_t s16_0 hf
      refine lv_tableIn (tgt := 52) hx hb dX8_change_16 (by rw [s16_0]; decide) (by rw [s16_0]; decide) (by rw [s16_0]; rfl) (by decide) ?_
      refine lv_aload_n hx hb dX8_change_52 rfl (lv_at hl 0 rfl) ?_
      refine r_get (a := 0) (v := .ref (gB G 4)) (C := RX8) (T := TX8) (N := 14) hx hb hts hinX8 hown hK hP (ltX8 rfl) (ceX8 rfl) rfl 2 (by decide) wd364 rfl dX8_change_53 ?_
      refine r_get (a := 4) (v := .ref (gB G 5)) (C := RX7) (T := TX7) (N := 10) hx hb hts hinX7 hown hK hP (ltX7 (Or.inl rfl)) (ceX7 (Or.inl rfl)) rfl 1 (by decide) wd159 rfl dX8_change_56 ?_
      refine lv_iload_n hx hb dX8_change_59 rfl (lv_at hl 1 rfl) ?_
      obtain ⟨v60, ev60, hf⟩ := bO_s hf
      refine r_iald hx hb hK hP (arX7_1 (Or.inl rfl)) ev60 dX8_change_60 ?_
      exact r_iret hx hb hr hlocks hP hS (re2 (Option.some.inj hf)) dX8_change_61
    replace hf := if_f s16_0 hf
    by_cases s16_1 : x2 = 1
    · replace hf := if_t s16_1 hf
      refine lv_tableIn (tgt := 62) hx hb dX8_change_16 (by rw [s16_1]; decide) (by rw [s16_1]; decide) (by rw [s16_1]; rfl) (by decide) ?_
      refine lv_aload_n hx hb dX8_change_62 rfl (lv_at hl 0 rfl) ?_
      refine r_get (a := 0) (v := .ref (gB G 4)) (C := RX8) (T := TX8) (N := 14) hx hb hts hinX8 hown hK hP (ltX8 rfl) (ceX8 rfl) rfl 2 (by decide) wd364 rfl dX8_change_63 ?_
      refine r_get (a := 4) (v := .ref (gB G 6)) (C := RX7) (T := TX7) (N := 10) hx hb hts hinX7 hown hK hP (ltX7 (Or.inl rfl)) (ceX7 (Or.inl rfl)) rfl 2 (by decide) wd161 rfl dX8_change_66 ?_
      refine lv_iload_n hx hb dX8_change_69 rfl (lv_at hl 1 rfl) ?_
      obtain ⟨v70, ev70, hf⟩ := bO_s hf
      refine r_iald hx hb hK hP (arX7_2 (Or.inl rfl)) ev70 dX8_change_70 ?_
      exact r_iret hx hb hr hlocks hP hS (re2 (Option.some.inj hf)) dX8_change_71
    replace hf := if_f s16_1 hf
    by_cases s16_2 : x2 = 2
    · replace hf := if_t s16_2 hf
      refine lv_tableIn (tgt := 72) hx hb dX8_change_16 (by rw [s16_2]; decide) (by rw [s16_2]; decide) (by rw [s16_2]; rfl) (by decide) ?_
      refine lv_aload_n hx hb dX8_change_72 rfl (lv_at hl 0 rfl) ?_
      refine r_get (a := 0) (v := .ref (gB G 4)) (C := RX8) (T := TX8) (N := 14) hx hb hts hinX8 hown hK hP (ltX8 rfl) (ceX8 rfl) rfl 2 (by decide) wd364 rfl dX8_change_73 ?_
      refine r_get (a := 4) (v := .ref (gB G 7)) (C := RX7) (T := TX7) (N := 10) hx hb hts hinX7 hown hK hP (ltX7 (Or.inl rfl)) (ceX7 (Or.inl rfl)) rfl 3 (by decide) wd163 rfl dX8_change_76 ?_
      refine lv_iload_n hx hb dX8_change_79 rfl (lv_at hl 1 rfl) ?_
      obtain ⟨v80, ev80, hf⟩ := bO_s hf
      refine r_iald hx hb hK hP (arX7_3 (Or.inl rfl)) ev80 dX8_change_80 ?_
      exact r_iret hx hb hr hlocks hP hS (re2 (Option.some.inj hf)) dX8_change_81
    replace hf := if_f s16_2 hf
    by_cases s16_3 : x2 = 3
    · replace hf := if_t s16_3 hf
      refine lv_tableIn (tgt := 82) hx hb dX8_change_16 (by rw [s16_3]; decide) (by rw [s16_3]; decide) (by rw [s16_3]; rfl) (by decide) ?_
      refine lv_aload_n hx hb dX8_change_82 rfl (lv_at hl 0 rfl) ?_
      refine r_get (a := 0) (v := .ref (gB G 4)) (C := RX8) (T := TX8) (N := 14) hx hb hts hinX8 hown hK hP (ltX8 rfl) (ceX8 rfl) rfl 2 (by decide) wd364 rfl dX8_change_83 ?_
      refine lv_iload_n hx hb dX8_change_86 rfl (lv_at hl 1 rfl) ?_
      obtain ⟨r87, h87, er87, hf⟩ := bP_s hf
      refine r_callI (va_runV (As := [.int x1]) (rest := []) ⟨hx, hb, hml, hown, hts⟩ (k_X7_comingWith l hG 4 (Or.inl rfl) er87) (cwV 1 hts (gV wd633 wd634 wd635 wd76 wd636) rfl rfl rfl (by decide +kernel) ⟨Nat.le_of_ble_eq_true rfl, Nat.le_of_ble_eq_true rfl⟩) (r_pv hK hP hS (ltX7 (Or.inl rfl)) (ceX7 (Or.inl rfl)) rfl) rfl rfl hl.1 rfl (lv_room (Nat.le_of_ble_eq_true rfl)) dX8_change_87 ⟨Nat.le_of_ble_eq_true rfl, Nat.le_of_ble_eq_true rfl⟩) hS (fun H locs hP hS => ?_)
      exact r_iret hx hb hr hlocks hP hS (re2 (Option.some.inj hf)) dX8_change_90
    replace hf := if_f s16_3 hf
    by_cases s16_4 : x2 = 4
    · replace hf := if_t s16_4 hf
      refine lv_tableIn (tgt := 91) hx hb dX8_change_16 (by rw [s16_4]; decide) (by rw [s16_4]; decide) (by rw [s16_4]; rfl) (by decide) ?_
      refine lv_aload_n hx hb dX8_change_91 rfl (lv_at hl 0 rfl) ?_
      refine r_get (a := 0) (v := .ref (gB G 4)) (C := RX8) (T := TX8) (N := 14) hx hb hts hinX8 hown hK hP (ltX8 rfl) (ceX8 rfl) rfl 2 (by decide) wd364 rfl dX8_change_92 ?_
      refine lv_iload_n hx hb dX8_change_95 rfl (lv_at hl 1 rfl) ?_
      obtain ⟨r96, h96, er96, hf⟩ := bP_s hf
      refine r_callI (va_runV (As := [.int x1]) (rest := []) ⟨hx, hb, hml, hown, hts⟩ (k_X7_goingWith l hG 4 (Or.inl rfl) er96) (cwV 1 hts (gV wd637 wd638 wd639 wd76 wd640) rfl rfl rfl (by decide +kernel) ⟨Nat.le_of_ble_eq_true rfl, Nat.le_of_ble_eq_true rfl⟩) (r_pv hK hP hS (ltX7 (Or.inl rfl)) (ceX7 (Or.inl rfl)) rfl) rfl rfl hl.1 rfl (lv_room (Nat.le_of_ble_eq_true rfl)) dX8_change_96 ⟨Nat.le_of_ble_eq_true rfl, Nat.le_of_ble_eq_true rfl⟩) hS (fun H locs hP hS => ?_)
      exact r_iret hx hb hr hlocks hP hS (re2 (Option.some.inj hf)) dX8_change_99
    replace hf := if_f s16_4 hf
    refine lv_tableOut (tgt := 100) hx hb dX8_change_16 (sw_out (x := x2) 4 (by decide) (fun k hk => by
      rcases (show k = 0 ∨ k = 1 ∨ k = 2 ∨ k = 3 ∨ k = 4 by omega) with rfl | rfl | rfl | rfl | rfl
      · exact s16_0
      · exact s16_1
      · exact s16_2
      · exact s16_3
      · exact s16_4
      )) (by decide) ?_
    refine lv_sipush (v := (-1002)) hx hb dX8_change_100 (by decide) ?_
    exact r_iret hx hb hr hlocks hP hS (re2 (Option.some.inj hf)) dX8_change_103
  · replace hf := if_t c8 hf
    refine lv_sipush (v := (-1001)) hx hb dX8_change_11 (by decide) ?_
    exact r_iret hx hb hr hlocks hP hS (re2 (Option.some.inj hf)) dX8_change_14
/-! CarriedBack.isSlot(I)Z -/
abbrev rmX8_isSlot : Room := { frames := 0, cells := 0, slots := 0, locals := 0 }
abbrev vX8_isSlot : List Cond := Cond.code yX8_isSlot cX8_isSlot 1 (some .boolean) :: GW
def f_X8_isSlot (x0 : Int32) : Option Int32 := if x0 < 0 then (some 0) else (if (16 : Int32) ≤ x0 then (some 0) else (some 1))
set_option maxHeartbeats 4000000 in
set_option maxRecDepth 100000 in
theorem k_X8_isSlot (l : Launch) {G : GC} (hG : GOK G) {x0 : Int32} {rr : Int32} {h : PH} (hf : f_X8_isSlot x0 = some rr) : CI l yX8_isSlot vX8_isSlot rmX8_isSlot G [.int x0] h rr h := by
  refine Met.ofW (cc := cX8_isSlot) (maxL := 1) (ret := (some .boolean)) (by decide +kernel) rfl ?_
  intro p e s m args below meth c s₁ B hml hv
  obtain ⟨rfl, hP, hK⟩ := hv
  have C : MC l G p s m _ meth c RX8 cX8_isSlot 1 (some .boolean) := ⟨B.exec, B.bytes, B.returns, B.notSynchronized, hml, findClass_of_methodNamed B.named, fun w hw => atoms_spec (ws := vX8_isSlot) B.pre w (List.mem_cons_of_mem _ hw), hK⟩
  obtain ⟨hx, hb, hr, hlocks, -, hown, hts, -⟩ := id C
  have hl := lv_entry ([.int x0]) (n := 1) (Nat.le_of_ble_eq_true rfl)
  rw [lg_entry_eq]
  generalize (lg_sl ([.int x0]) ++ List.replicate (1 - (lg_sl ([.int x0])).length) Slot.unset).toArray = ls at hl ⊢
  have hl : lv_has ls 1 [(0, .int x0)] := hl
  have hS : SP G s s.heap [] := va_S.rf
  replace hP : WP G h s.heap := hP
  rw [f_X8_isSlot] at hf
  refine lv_iload_n hx hb dX8_isSlot_0 rfl (lv_at hl 0 rfl) ?_
  refine lv_if_lt (tgt := 14) hx hb dX8_isSlot_1 (by decide) (fun c1 => ?_) (fun c1 => ?_)
  · replace hf := if_t c1 hf
    refine lv_iconst (v := 0) hx hb dX8_isSlot_14 (by decide) ?_
    exact r_zret hx hb hr rfl hlocks hP hS ⟨Option.some.inj hf, rfl⟩ dX8_isSlot_15
  · replace hf := if_f c1 hf
    refine lv_iload_n hx hb dX8_isSlot_4 rfl (lv_at hl 0 rfl) ?_
    refine lv_bipush (v := 16) hx hb dX8_isSlot_5 (by decide) ?_
    refine lv_icmp_ge (tgt := 14) hx hb dX8_isSlot_7 (by decide) (fun c7 => ?_) (fun c7 => ?_)
    · replace hf := if_t c7 hf
      refine lv_iconst (v := 0) hx hb dX8_isSlot_14 (by decide) ?_
      exact r_zret hx hb hr rfl hlocks hP hS ⟨Option.some.inj hf, rfl⟩ dX8_isSlot_15
    · replace hf := if_f c7 hf
      refine lv_iconst (v := 1) hx hb dX8_isSlot_10 (by decide) ?_
      refine lv_goto (tgt := 15) hx hb dX8_isSlot_11 (by decide) ?_
      exact r_zret hx hb hr rfl hlocks hP hS ⟨Option.some.inj hf, rfl⟩ dX8_isSlot_15
/-! CarriedBack.sets(II)I -/
abbrev rmX8_sets : Room := { frames := 1, cells := 0, slots := 0, locals := 21 }
abbrev vX8_sets : List Cond := Cond.code yX8_sets cX8_sets 3 (some .int) :: GW
def f_X8_sets (x1 : Int32) (x2 : Int32) (h : PH) : Option (Int32 × PH) := bP (f_X7_hasChange 4 x1 h) (fun r5 h5 => if r5 = 0 then (some ((-1001), h5)) else (bO (f_X8_isSlot x2) (fun r12 => if r12 = 0 then (some ((-1001), h5)) else (bO (ag h5 8 384 ((x1 * 16) + x2)) (fun v35 => some (v35, h5))))))
set_option maxHeartbeats 4000000 in
set_option maxRecDepth 100000 in
theorem k_X8_sets (l : Launch) {G : GC} (hG : GOK G) {x1 : Int32} {x2 : Int32} {rr : Int32} {h hh : PH} (hf : f_X8_sets x1 x2 h = some (rr, hh)) : CI l yX8_sets vX8_sets rmX8_sets G [.ref (gB G 0), .int x1, .int x2] h rr hh := by
  refine Met.ofW (cc := cX8_sets) (maxL := 3) (ret := (some .int)) (by decide +kernel) rfl ?_
  intro p e s m args below meth c s₁ B hml hv
  obtain ⟨rfl, hP, hK⟩ := hv
  have C : MC l G p s m _ meth c RX8 cX8_sets 3 (some .int) := ⟨B.exec, B.bytes, B.returns, B.notSynchronized, hml, findClass_of_methodNamed B.named, fun w hw => atoms_spec (ws := vX8_sets) B.pre w (List.mem_cons_of_mem _ hw), hK⟩
  obtain ⟨hx, hb, hr, hlocks, -, hown, hts, -⟩ := id C
  have hl := lv_entry ([.ref (gB G 0), .int x1, .int x2]) (n := 3) (Nat.le_of_ble_eq_true rfl)
  rw [lg_entry_eq]
  generalize (lg_sl ([.ref (gB G 0), .int x1, .int x2]) ++ List.replicate (3 - (lg_sl ([.ref (gB G 0), .int x1, .int x2])).length) Slot.unset).toArray = ls at hl ⊢
  have hl : lv_has ls 3 [(0, .ref (gB G 0)), (1, .int x1), (2, .int x2)] := hl
  have hS : SP G s s.heap [] := va_S.rf
  replace hP : WP G h s.heap := hP
  rw [f_X8_sets] at hf
  refine lv_aload_n hx hb dX8_sets_0 rfl (lv_at hl 0 rfl) ?_
  refine r_get (a := 0) (v := .ref (gB G 4)) (C := RX8) (T := TX8) (N := 14) hx hb hts hinX8 hown hK hP (ltX8 rfl) (ceX8 rfl) rfl 2 (by decide) wd364 rfl dX8_sets_1 ?_
  refine lv_iload_n hx hb dX8_sets_4 rfl (lv_at hl 1 rfl) ?_
  obtain ⟨r5, h5, er5, hf⟩ := bP_s hf
  refine r_callI (va_runV (As := [.int x1]) (rest := []) ⟨hx, hb, hml, hown, hts⟩ (k_X7_hasChange l hG 4 (Or.inl rfl) er5) (cwV 1 hts (gV wd629 wd630 wd631 wd76 wd632) rfl rfl rfl (by decide +kernel) ⟨Nat.le_of_ble_eq_true rfl, Nat.le_of_ble_eq_true rfl⟩) (r_pv hK hP hS (ltX7 (Or.inl rfl)) (ceX7 (Or.inl rfl)) rfl) rfl rfl hl.1 rfl (lv_room (Nat.le_of_ble_eq_true rfl)) dX8_sets_5 ⟨Nat.le_of_ble_eq_true rfl, Nat.le_of_ble_eq_true rfl⟩) hS (fun H locs hP hS => ?_)
  refine lv_if_eq (tgt := 18) hx hb dX8_sets_8 (by decide) (fun c8 => ?_) (fun c8 => ?_)
  · replace hf := if_t c8 hf
    refine lv_sipush (v := (-1001)) hx hb dX8_sets_18 (by decide) ?_
    exact r_iret hx hb hr hlocks hP hS (re2 (Option.some.inj hf)) dX8_sets_21
  · replace hf := if_f c8 hf
    refine lv_iload_n hx hb dX8_sets_11 rfl (lv_at hl 2 rfl) ?_
    obtain ⟨r12, er12, hf⟩ := bO_s hf
    refine r_callI (va_runS (As := [.int x2]) (rest := []) ⟨hx, hb, hml, hown, hts⟩ (k_X8_isSlot l hG (h := h5) er12) (va_cwS 1 hts (gS wd649 wd650 wd73 wd651) rfl rfl rfl (by decide +kernel) ⟨Nat.le_of_ble_eq_true rfl, Nat.le_of_ble_eq_true rfl⟩) (r_ps hK hP hS) rfl rfl hl.1 rfl (lv_room (Nat.le_of_ble_eq_true rfl)) dX8_sets_12 ⟨Nat.le_of_ble_eq_true rfl, Nat.le_of_ble_eq_true rfl⟩) hS (fun H locs hP hS => ?_)
    refine lv_if_ne (tgt := 22) hx hb dX8_sets_15 (by decide) (fun c15 => ?_) (fun c15 => ?_)
    · replace hf := if_f c15 hf
      refine lv_aload_n hx hb dX8_sets_22 rfl (lv_at hl 0 rfl) ?_
      refine r_get (a := 0) (v := .ref (gB G 4)) (C := RX8) (T := TX8) (N := 14) hx hb hts hinX8 hown hK hP (ltX8 rfl) (ceX8 rfl) rfl 2 (by decide) wd364 rfl dX8_sets_23 ?_
      refine r_get (a := 4) (v := .ref (gB G 8)) (C := RX7) (T := TX7) (N := 10) hx hb hts hinX7 hown hK hP (ltX7 (Or.inl rfl)) (ceX7 (Or.inl rfl)) rfl 4 (by decide) wd165 rfl dX8_sets_26 ?_
      refine lv_iload_n hx hb dX8_sets_29 rfl (lv_at hl 1 rfl) ?_
      refine lv_bipush (v := 16) hx hb dX8_sets_30 (by decide) ?_
      refine lv_imul hx hb dX8_sets_32 ?_
      refine lv_iload_n hx hb dX8_sets_33 rfl (lv_at hl 2 rfl) ?_
      refine lv_iadd hx hb dX8_sets_34 ?_
      obtain ⟨v35, ev35, hf⟩ := bO_s hf
      refine r_iald hx hb hK hP (arX7_4 (Or.inl rfl)) ev35 dX8_sets_35 ?_
      exact r_iret hx hb hr hlocks hP hS (re2 (Option.some.inj hf)) dX8_sets_36
    · replace hf := if_t c15 hf
      refine lv_sipush (v := (-1001)) hx hb dX8_sets_18 (by decide) ?_
      exact r_iret hx hb hr hlocks hP hS (re2 (Option.some.inj hf)) dX8_sets_21
/-! CarriedBack.ahead(II)I -/
abbrev rmX8_ahead : Room := { frames := 1, cells := 0, slots := 0, locals := 20 }
abbrev vX8_ahead : List Cond := Cond.code yX8_ahead cX8_ahead 3 (some .int) :: GW
def f_X8_ahead (x1 : Int32) (x2 : Int32) (h : PH) : Option (Int32 × PH) := if x1 < 0 then (some ((-1001), h)) else (if (h.1 4 0) < x1 then (some ((-1001), h)) else (bO (f_X8_isSlot x2) (fun r16 => if r16 = 0 then (some ((-1001), h)) else (bO (ag h 9 400 ((x1 * 16) + x2)) (fun v39 => some (v39, h))))))
set_option maxHeartbeats 4000000 in
set_option maxRecDepth 100000 in
theorem k_X8_ahead (l : Launch) {G : GC} (hG : GOK G) {x1 : Int32} {x2 : Int32} {rr : Int32} {h hh : PH} (hf : f_X8_ahead x1 x2 h = some (rr, hh)) : CI l yX8_ahead vX8_ahead rmX8_ahead G [.ref (gB G 0), .int x1, .int x2] h rr hh := by
  refine Met.ofW (cc := cX8_ahead) (maxL := 3) (ret := (some .int)) (by decide +kernel) rfl ?_
  intro p e s m args below meth c s₁ B hml hv
  obtain ⟨rfl, hP, hK⟩ := hv
  have C : MC l G p s m _ meth c RX8 cX8_ahead 3 (some .int) := ⟨B.exec, B.bytes, B.returns, B.notSynchronized, hml, findClass_of_methodNamed B.named, fun w hw => atoms_spec (ws := vX8_ahead) B.pre w (List.mem_cons_of_mem _ hw), hK⟩
  obtain ⟨hx, hb, hr, hlocks, -, hown, hts, -⟩ := id C
  have hl := lv_entry ([.ref (gB G 0), .int x1, .int x2]) (n := 3) (Nat.le_of_ble_eq_true rfl)
  rw [lg_entry_eq]
  generalize (lg_sl ([.ref (gB G 0), .int x1, .int x2]) ++ List.replicate (3 - (lg_sl ([.ref (gB G 0), .int x1, .int x2])).length) Slot.unset).toArray = ls at hl ⊢
  have hl : lv_has ls 3 [(0, .ref (gB G 0)), (1, .int x1), (2, .int x2)] := hl
  have hS : SP G s s.heap [] := va_S.rf
  replace hP : WP G h s.heap := hP
  rw [f_X8_ahead] at hf
  refine lv_iload_n hx hb dX8_ahead_0 rfl (lv_at hl 1 rfl) ?_
  refine lv_if_lt (tgt := 22) hx hb dX8_ahead_1 (by decide) (fun c1 => ?_) (fun c1 => ?_)
  · replace hf := if_t c1 hf
    refine lv_sipush (v := (-1001)) hx hb dX8_ahead_22 (by decide) ?_
    exact r_iret hx hb hr hlocks hP hS (re2 (Option.some.inj hf)) dX8_ahead_25
  · replace hf := if_f c1 hf
    refine lv_iload_n hx hb dX8_ahead_4 rfl (lv_at hl 1 rfl) ?_
    refine lv_aload_n hx hb dX8_ahead_5 rfl (lv_at hl 0 rfl) ?_
    refine r_get (a := 0) (v := .ref (gB G 4)) (C := RX8) (T := TX8) (N := 14) hx hb hts hinX8 hown hK hP (ltX8 rfl) (ceX8 rfl) rfl 2 (by decide) wd364 rfl dX8_ahead_6 ?_
    refine r_get (a := 4) (v := .int (h.1 4 0)) (C := RX7) (T := TX7) (N := 10) hx hb hts hinX7 hown hK hP (ltX7 (Or.inl rfl)) (ceX7 (Or.inl rfl)) rfl 0 (by decide) wd156 rfl dX8_ahead_9 ?_
    refine lv_icmp_gt (tgt := 22) hx hb dX8_ahead_12 (by decide) (fun c12 => ?_) (fun c12 => ?_)
    · replace hf := if_t c12 hf
      refine lv_sipush (v := (-1001)) hx hb dX8_ahead_22 (by decide) ?_
      exact r_iret hx hb hr hlocks hP hS (re2 (Option.some.inj hf)) dX8_ahead_25
    · replace hf := if_f c12 hf
      refine lv_iload_n hx hb dX8_ahead_15 rfl (lv_at hl 2 rfl) ?_
      obtain ⟨r16, er16, hf⟩ := bO_s hf
      refine r_callI (va_runS (As := [.int x2]) (rest := []) ⟨hx, hb, hml, hown, hts⟩ (k_X8_isSlot l hG (h := h) er16) (va_cwS 1 hts (gS wd649 wd650 wd73 wd651) rfl rfl rfl (by decide +kernel) ⟨Nat.le_of_ble_eq_true rfl, Nat.le_of_ble_eq_true rfl⟩) (r_ps hK hP hS) rfl rfl hl.1 rfl (lv_room (Nat.le_of_ble_eq_true rfl)) dX8_ahead_16 ⟨Nat.le_of_ble_eq_true rfl, Nat.le_of_ble_eq_true rfl⟩) hS (fun H locs hP hS => ?_)
      refine lv_if_ne (tgt := 26) hx hb dX8_ahead_19 (by decide) (fun c19 => ?_) (fun c19 => ?_)
      · replace hf := if_f c19 hf
        refine lv_aload_n hx hb dX8_ahead_26 rfl (lv_at hl 0 rfl) ?_
        refine r_get (a := 0) (v := .ref (gB G 4)) (C := RX8) (T := TX8) (N := 14) hx hb hts hinX8 hown hK hP (ltX8 rfl) (ceX8 rfl) rfl 2 (by decide) wd364 rfl dX8_ahead_27 ?_
        refine r_get (a := 4) (v := .ref (gB G 9)) (C := RX7) (T := TX7) (N := 10) hx hb hts hinX7 hown hK hP (ltX7 (Or.inl rfl)) (ceX7 (Or.inl rfl)) rfl 5 (by decide) wd168 rfl dX8_ahead_30 ?_
        refine lv_iload_n hx hb dX8_ahead_33 rfl (lv_at hl 1 rfl) ?_
        refine lv_bipush (v := 16) hx hb dX8_ahead_34 (by decide) ?_
        refine lv_imul hx hb dX8_ahead_36 ?_
        refine lv_iload_n hx hb dX8_ahead_37 rfl (lv_at hl 2 rfl) ?_
        refine lv_iadd hx hb dX8_ahead_38 ?_
        obtain ⟨v39, ev39, hf⟩ := bO_s hf
        refine r_iald hx hb hK hP (arX7_5 (Or.inl rfl)) ev39 dX8_ahead_39 ?_
        exact r_iret hx hb hr hlocks hP hS (re2 (Option.some.inj hf)) dX8_ahead_40
      · replace hf := if_t c19 hf
        refine lv_sipush (v := (-1001)) hx hb dX8_ahead_22 (by decide) ?_
        exact r_iret hx hb hr hlocks hP hS (re2 (Option.some.inj hf)) dX8_ahead_25
/-! CarriedBack$Trunk.hasFault(I)Z -/
abbrev rmX7_hasFault : Room := { frames := 0, cells := 0, slots := 0, locals := 0 }
abbrev vX7_hasFault : List Cond := Cond.code yX7_hasFault cX7_hasFault 2 (some .boolean) :: GW
def f_X7_hasFault (a0 : Nat) (x1 : Int32) (h : PH) : Option (Int32 × PH) := if x1 < 0 then (some (0, h)) else (if (h.1 a0 6) ≤ x1 then (some (0, h)) else (some (1, h)))
set_option maxHeartbeats 4000000 in
set_option maxRecDepth 100000 in
theorem k_X7_hasFault (l : Launch) {G : GC} (hG : GOK G) (a0 : Nat) (ha0 : kdX7 a0) {x1 : Int32} {rr : Int32} {h hh : PH} (hf : f_X7_hasFault a0 x1 h = some (rr, hh)) : CI l yX7_hasFault vX7_hasFault rmX7_hasFault G [.ref (gB G a0), .int x1] h rr hh := by
  refine Met.ofW (cc := cX7_hasFault) (maxL := 2) (ret := (some .boolean)) (by decide +kernel) rfl ?_
  intro p e s m args below meth c s₁ B hml hv
  obtain ⟨rfl, hP, hK⟩ := hv
  have C : MC l G p s m _ meth c RX7 cX7_hasFault 2 (some .boolean) := ⟨B.exec, B.bytes, B.returns, B.notSynchronized, hml, findClass_of_methodNamed B.named, fun w hw => atoms_spec (ws := vX7_hasFault) B.pre w (List.mem_cons_of_mem _ hw), hK⟩
  obtain ⟨hx, hb, hr, hlocks, -, hown, hts, -⟩ := id C
  have hl := lv_entry ([.ref (gB G a0), .int x1]) (n := 2) (Nat.le_of_ble_eq_true rfl)
  rw [lg_entry_eq]
  generalize (lg_sl ([.ref (gB G a0), .int x1]) ++ List.replicate (2 - (lg_sl ([.ref (gB G a0), .int x1])).length) Slot.unset).toArray = ls at hl ⊢
  have hl : lv_has ls 2 [(0, .ref (gB G a0)), (1, .int x1)] := hl
  have hS : SP G s s.heap [] := va_S.rf
  replace hP : WP G h s.heap := hP
  rw [f_X7_hasFault] at hf
  refine lv_iload_n hx hb dX7_hasFault_0 rfl (lv_at hl 1 rfl) ?_
  refine lv_if_lt (tgt := 16) hx hb dX7_hasFault_1 (by decide) (fun c1 => ?_) (fun c1 => ?_)
  · replace hf := if_t c1 hf
    refine lv_iconst (v := 0) hx hb dX7_hasFault_16 (by decide) ?_
    exact r_zret hx hb hr rfl hlocks hP hS (re2 (Option.some.inj hf)) dX7_hasFault_17
  · replace hf := if_f c1 hf
    refine lv_iload_n hx hb dX7_hasFault_4 rfl (lv_at hl 1 rfl) ?_
    refine lv_aload_n hx hb dX7_hasFault_5 rfl (lv_at hl 0 rfl) ?_
    refine r_get (a := a0) (v := .int (h.1 a0 6)) (C := RX7) (T := TX7) (N := 10) hx hb hts hinX7 hown hK hP (ltX7 ha0) (ceX7 ha0) rfl 6 (by decide) wd169 rfl dX7_hasFault_6 ?_
    refine lv_icmp_ge (tgt := 16) hx hb dX7_hasFault_9 (by decide) (fun c9 => ?_) (fun c9 => ?_)
    · replace hf := if_t c9 hf
      refine lv_iconst (v := 0) hx hb dX7_hasFault_16 (by decide) ?_
      exact r_zret hx hb hr rfl hlocks hP hS (re2 (Option.some.inj hf)) dX7_hasFault_17
    · replace hf := if_f c9 hf
      refine lv_iconst (v := 1) hx hb dX7_hasFault_12 (by decide) ?_
      refine lv_goto (tgt := 17) hx hb dX7_hasFault_13 (by decide) ?_
      exact r_zret hx hb hr rfl hlocks hP hS (re2 (Option.some.inj hf)) dX7_hasFault_17
/-! CarriedBack.fault(II)I -/
abbrev rmX8_fault : Room := { frames := 1, cells := 0, slots := 0, locals := 21 }
abbrev vX8_fault : List Cond := Cond.code yX8_fault cX8_fault 3 (some .int) :: GW
def f_X8_fault (x1 : Int32) (x2 : Int32) (h : PH) : Option (Int32 × PH) := bP (f_X7_hasFault 4 x1 h) (fun r5 h5 => if r5 = 0 then (some ((-1001), h5)) else (if x2 = 0 then (bO (ag h5 10 10 x1) (fun v52 => some (v52, h5))) else (if x2 = 1 then (bO (ag h5 11 10 x1) (fun v62 => some (v62, h5))) else (if x2 = 2 then (bO (ag h5 12 10 x1) (fun v72 => some (v72, h5))) else (some ((-1002), h5))))))
set_option maxHeartbeats 4000000 in
set_option maxRecDepth 100000 in
theorem k_X8_fault (l : Launch) {G : GC} (hG : GOK G) {x1 : Int32} {x2 : Int32} {rr : Int32} {h hh : PH} (hf : f_X8_fault x1 x2 h = some (rr, hh)) : CI l yX8_fault vX8_fault rmX8_fault G [.ref (gB G 0), .int x1, .int x2] h rr hh := by
  refine Met.ofW (cc := cX8_fault) (maxL := 3) (ret := (some .int)) (by decide +kernel) rfl ?_
  intro p e s m args below meth c s₁ B hml hv
  obtain ⟨rfl, hP, hK⟩ := hv
  have C : MC l G p s m _ meth c RX8 cX8_fault 3 (some .int) := ⟨B.exec, B.bytes, B.returns, B.notSynchronized, hml, findClass_of_methodNamed B.named, fun w hw => atoms_spec (ws := vX8_fault) B.pre w (List.mem_cons_of_mem _ hw), hK⟩
  obtain ⟨hx, hb, hr, hlocks, -, hown, hts, -⟩ := id C
  have hl := lv_entry ([.ref (gB G 0), .int x1, .int x2]) (n := 3) (Nat.le_of_ble_eq_true rfl)
  rw [lg_entry_eq]
  generalize (lg_sl ([.ref (gB G 0), .int x1, .int x2]) ++ List.replicate (3 - (lg_sl ([.ref (gB G 0), .int x1, .int x2])).length) Slot.unset).toArray = ls at hl ⊢
  have hl : lv_has ls 3 [(0, .ref (gB G 0)), (1, .int x1), (2, .int x2)] := hl
  have hS : SP G s s.heap [] := va_S.rf
  replace hP : WP G h s.heap := hP
  rw [f_X8_fault] at hf
  refine lv_aload_n hx hb dX8_fault_0 rfl (lv_at hl 0 rfl) ?_
  refine r_get (a := 0) (v := .ref (gB G 4)) (C := RX8) (T := TX8) (N := 14) hx hb hts hinX8 hown hK hP (ltX8 rfl) (ceX8 rfl) rfl 2 (by decide) wd364 rfl dX8_fault_1 ?_
  refine lv_iload_n hx hb dX8_fault_4 rfl (lv_at hl 1 rfl) ?_
  obtain ⟨r5, h5, er5, hf⟩ := bP_s hf
  refine r_callI (va_runV (As := [.int x1]) (rest := []) ⟨hx, hb, hml, hown, hts⟩ (k_X7_hasFault l hG 4 (Or.inl rfl) er5) (cwV 1 hts (gV wd660 wd661 wd662 wd76 wd663) rfl rfl rfl (by decide +kernel) ⟨Nat.le_of_ble_eq_true rfl, Nat.le_of_ble_eq_true rfl⟩) (r_pv hK hP hS (ltX7 (Or.inl rfl)) (ceX7 (Or.inl rfl)) rfl) rfl rfl hl.1 rfl (lv_room (Nat.le_of_ble_eq_true rfl)) dX8_fault_5 ⟨Nat.le_of_ble_eq_true rfl, Nat.le_of_ble_eq_true rfl⟩) hS (fun H locs hP hS => ?_)
  refine lv_if_ne (tgt := 15) hx hb dX8_fault_8 (by decide) (fun c8 => ?_) (fun c8 => ?_)
  · replace hf := if_f c8 hf
    refine lv_iload_n hx hb dX8_fault_15 rfl (lv_at hl 2 rfl) ?_
    by_cases s16_0 : x2 = 0
    · replace hf := if_t s16_0 hf
      refine lv_tableIn (tgt := 44) hx hb dX8_fault_16 (by rw [s16_0]; decide) (by rw [s16_0]; decide) (by rw [s16_0]; rfl) (by decide) ?_
      refine lv_aload_n hx hb dX8_fault_44 rfl (lv_at hl 0 rfl) ?_
      refine r_get (a := 0) (v := .ref (gB G 4)) (C := RX8) (T := TX8) (N := 14) hx hb hts hinX8 hown hK hP (ltX8 rfl) (ceX8 rfl) rfl 2 (by decide) wd364 rfl dX8_fault_45 ?_
      refine r_get (a := 4) (v := .ref (gB G 10)) (C := RX7) (T := TX7) (N := 10) hx hb hts hinX7 hown hK hP (ltX7 (Or.inl rfl)) (ceX7 (Or.inl rfl)) rfl 7 (by decide) wd173 rfl dX8_fault_48 ?_
      refine lv_iload_n hx hb dX8_fault_51 rfl (lv_at hl 1 rfl) ?_
      obtain ⟨v52, ev52, hf⟩ := bO_s hf
      refine r_iald hx hb hK hP (arX7_7 (Or.inl rfl)) ev52 dX8_fault_52 ?_
      exact r_iret hx hb hr hlocks hP hS (re2 (Option.some.inj hf)) dX8_fault_53
    replace hf := if_f s16_0 hf
    by_cases s16_1 : x2 = 1
    · replace hf := if_t s16_1 hf
      refine lv_tableIn (tgt := 54) hx hb dX8_fault_16 (by rw [s16_1]; decide) (by rw [s16_1]; decide) (by rw [s16_1]; rfl) (by decide) ?_
      refine lv_aload_n hx hb dX8_fault_54 rfl (lv_at hl 0 rfl) ?_
      refine r_get (a := 0) (v := .ref (gB G 4)) (C := RX8) (T := TX8) (N := 14) hx hb hts hinX8 hown hK hP (ltX8 rfl) (ceX8 rfl) rfl 2 (by decide) wd364 rfl dX8_fault_55 ?_
      refine r_get (a := 4) (v := .ref (gB G 11)) (C := RX7) (T := TX7) (N := 10) hx hb hts hinX7 hown hK hP (ltX7 (Or.inl rfl)) (ceX7 (Or.inl rfl)) rfl 8 (by decide) wd175 rfl dX8_fault_58 ?_
      refine lv_iload_n hx hb dX8_fault_61 rfl (lv_at hl 1 rfl) ?_
      obtain ⟨v62, ev62, hf⟩ := bO_s hf
      refine r_iald hx hb hK hP (arX7_8 (Or.inl rfl)) ev62 dX8_fault_62 ?_
      exact r_iret hx hb hr hlocks hP hS (re2 (Option.some.inj hf)) dX8_fault_63
    replace hf := if_f s16_1 hf
    by_cases s16_2 : x2 = 2
    · replace hf := if_t s16_2 hf
      refine lv_tableIn (tgt := 64) hx hb dX8_fault_16 (by rw [s16_2]; decide) (by rw [s16_2]; decide) (by rw [s16_2]; rfl) (by decide) ?_
      refine lv_aload_n hx hb dX8_fault_64 rfl (lv_at hl 0 rfl) ?_
      refine r_get (a := 0) (v := .ref (gB G 4)) (C := RX8) (T := TX8) (N := 14) hx hb hts hinX8 hown hK hP (ltX8 rfl) (ceX8 rfl) rfl 2 (by decide) wd364 rfl dX8_fault_65 ?_
      refine r_get (a := 4) (v := .ref (gB G 12)) (C := RX7) (T := TX7) (N := 10) hx hb hts hinX7 hown hK hP (ltX7 (Or.inl rfl)) (ceX7 (Or.inl rfl)) rfl 9 (by decide) wd178 rfl dX8_fault_68 ?_
      refine lv_iload_n hx hb dX8_fault_71 rfl (lv_at hl 1 rfl) ?_
      obtain ⟨v72, ev72, hf⟩ := bO_s hf
      refine r_iald hx hb hK hP (arX7_9 (Or.inl rfl)) ev72 dX8_fault_72 ?_
      exact r_iret hx hb hr hlocks hP hS (re2 (Option.some.inj hf)) dX8_fault_73
    replace hf := if_f s16_2 hf
    refine lv_tableOut (tgt := 74) hx hb dX8_fault_16 (sw_out (x := x2) 2 (by decide) (fun k hk => by
      rcases (show k = 0 ∨ k = 1 ∨ k = 2 by omega) with rfl | rfl | rfl
      · exact s16_0
      · exact s16_1
      · exact s16_2
      )) (by decide) ?_
    refine lv_sipush (v := (-1002)) hx hb dX8_fault_74 (by decide) ?_
    exact r_iret hx hb hr hlocks hP hS (re2 (Option.some.inj hf)) dX8_fault_77
  · replace hf := if_t c8 hf
    refine lv_sipush (v := (-1001)) hx hb dX8_fault_11 (by decide) ?_
    exact r_iret hx hb hr hlocks hP hS (re2 (Option.some.inj hf)) dX8_fault_14
/-! CarriedBack.count(I)I -/
abbrev rmX8_count : Room := { frames := 0, cells := 0, slots := 0, locals := 0 }
abbrev vX8_count : List Cond := Cond.code yX8_count cX8_count 2 (some .int) :: GW
def f_X8_count (x1 : Int32) (h : PH) : Option (Int32 × PH) := if x1 = 0 then (some ((h.1 4 0), h)) else (if x1 = 1 then (some ((h.1 4 6), h)) else (if x1 = 2 then (some ((h.1 28 0), h)) else (if x1 = 3 then (some ((h.1 28 5), h)) else (if x1 = 4 then (some ((h.1 1 1), h)) else (some ((-1002), h))))))
set_option maxHeartbeats 4000000 in
set_option maxRecDepth 100000 in
theorem k_X8_count (l : Launch) {G : GC} (hG : GOK G) {x1 : Int32} {rr : Int32} {h hh : PH} (hf : f_X8_count x1 h = some (rr, hh)) : CI l yX8_count vX8_count rmX8_count G [.ref (gB G 0), .int x1] h rr hh := by
  refine Met.ofW (cc := cX8_count) (maxL := 2) (ret := (some .int)) (by decide +kernel) rfl ?_
  intro p e s m args below meth c s₁ B hml hv
  obtain ⟨rfl, hP, hK⟩ := hv
  have C : MC l G p s m _ meth c RX8 cX8_count 2 (some .int) := ⟨B.exec, B.bytes, B.returns, B.notSynchronized, hml, findClass_of_methodNamed B.named, fun w hw => atoms_spec (ws := vX8_count) B.pre w (List.mem_cons_of_mem _ hw), hK⟩
  obtain ⟨hx, hb, hr, hlocks, -, hown, hts, -⟩ := id C
  have hl := lv_entry ([.ref (gB G 0), .int x1]) (n := 2) (Nat.le_of_ble_eq_true rfl)
  rw [lg_entry_eq]
  generalize (lg_sl ([.ref (gB G 0), .int x1]) ++ List.replicate (2 - (lg_sl ([.ref (gB G 0), .int x1])).length) Slot.unset).toArray = ls at hl ⊢
  have hl : lv_has ls 2 [(0, .ref (gB G 0)), (1, .int x1)] := hl
  have hS : SP G s s.heap [] := va_S.rf
  replace hP : WP G h s.heap := hP
  rw [f_X8_count] at hf
  refine lv_iload_n hx hb dX8_count_0 rfl (lv_at hl 1 rfl) ?_
  by_cases s1_0 : x1 = 0
  · replace hf := if_t s1_0 hf
    refine lv_tableIn (tgt := 36) hx hb dX8_count_1 (by rw [s1_0]; decide) (by rw [s1_0]; decide) (by rw [s1_0]; rfl) (by decide) ?_
    refine lv_aload_n hx hb dX8_count_36 rfl (lv_at hl 0 rfl) ?_
    refine r_get (a := 0) (v := .ref (gB G 4)) (C := RX8) (T := TX8) (N := 14) hx hb hts hinX8 hown hK hP (ltX8 rfl) (ceX8 rfl) rfl 2 (by decide) wd364 rfl dX8_count_37 ?_
    refine r_get (a := 4) (v := .int (h.1 4 0)) (C := RX7) (T := TX7) (N := 10) hx hb hts hinX7 hown hK hP (ltX7 (Or.inl rfl)) (ceX7 (Or.inl rfl)) rfl 0 (by decide) wd156 rfl dX8_count_40 ?_
    exact r_iret hx hb hr hlocks hP hS (re2 (Option.some.inj hf)) dX8_count_43
  replace hf := if_f s1_0 hf
  by_cases s1_1 : x1 = 1
  · replace hf := if_t s1_1 hf
    refine lv_tableIn (tgt := 44) hx hb dX8_count_1 (by rw [s1_1]; decide) (by rw [s1_1]; decide) (by rw [s1_1]; rfl) (by decide) ?_
    refine lv_aload_n hx hb dX8_count_44 rfl (lv_at hl 0 rfl) ?_
    refine r_get (a := 0) (v := .ref (gB G 4)) (C := RX8) (T := TX8) (N := 14) hx hb hts hinX8 hown hK hP (ltX8 rfl) (ceX8 rfl) rfl 2 (by decide) wd364 rfl dX8_count_45 ?_
    refine r_get (a := 4) (v := .int (h.1 4 6)) (C := RX7) (T := TX7) (N := 10) hx hb hts hinX7 hown hK hP (ltX7 (Or.inl rfl)) (ceX7 (Or.inl rfl)) rfl 6 (by decide) wd171 rfl dX8_count_48 ?_
    exact r_iret hx hb hr hlocks hP hS (re2 (Option.some.inj hf)) dX8_count_51
  replace hf := if_f s1_1 hf
  by_cases s1_2 : x1 = 2
  · replace hf := if_t s1_2 hf
    refine lv_tableIn (tgt := 52) hx hb dX8_count_1 (by rw [s1_2]; decide) (by rw [s1_2]; decide) (by rw [s1_2]; rfl) (by decide) ?_
    refine lv_aload_n hx hb dX8_count_52 rfl (lv_at hl 0 rfl) ?_
    refine r_get (a := 0) (v := .ref (gB G 28)) (C := RX8) (T := TX8) (N := 14) hx hb hts hinX8 hown hK hP (ltX8 rfl) (ceX8 rfl) rfl 6 (by decide) wd368 rfl dX8_count_53 ?_
    refine r_get (a := 28) (v := .int (h.1 28 0)) (C := RX0) (T := TX0) (N := 10) hx hb hts hinX0 hown hK hP (ltX0 (Or.inl rfl)) (ceX0 (Or.inl rfl)) rfl 0 (by decide) wd236 rfl dX8_count_56 ?_
    exact r_iret hx hb hr hlocks hP hS (re2 (Option.some.inj hf)) dX8_count_59
  replace hf := if_f s1_2 hf
  by_cases s1_3 : x1 = 3
  · replace hf := if_t s1_3 hf
    refine lv_tableIn (tgt := 60) hx hb dX8_count_1 (by rw [s1_3]; decide) (by rw [s1_3]; decide) (by rw [s1_3]; rfl) (by decide) ?_
    refine lv_aload_n hx hb dX8_count_60 rfl (lv_at hl 0 rfl) ?_
    refine r_get (a := 0) (v := .ref (gB G 28)) (C := RX8) (T := TX8) (N := 14) hx hb hts hinX8 hown hK hP (ltX8 rfl) (ceX8 rfl) rfl 6 (by decide) wd368 rfl dX8_count_61 ?_
    refine r_get (a := 28) (v := .int (h.1 28 5)) (C := RX0) (T := TX0) (N := 10) hx hb hts hinX0 hown hK hP (ltX0 (Or.inl rfl)) (ceX0 (Or.inl rfl)) rfl 5 (by decide) wd249 rfl dX8_count_64 ?_
    exact r_iret hx hb hr hlocks hP hS (re2 (Option.some.inj hf)) dX8_count_67
  replace hf := if_f s1_3 hf
  by_cases s1_4 : x1 = 4
  · replace hf := if_t s1_4 hf
    refine lv_tableIn (tgt := 68) hx hb dX8_count_1 (by rw [s1_4]; decide) (by rw [s1_4]; decide) (by rw [s1_4]; rfl) (by decide) ?_
    refine lv_aload_n hx hb dX8_count_68 rfl (lv_at hl 0 rfl) ?_
    refine r_get (a := 0) (v := .ref (gB G 1)) (C := RX8) (T := TX8) (N := 14) hx hb hts hinX8 hown hK hP (ltX8 rfl) (ceX8 rfl) rfl 0 (by decide) wd362 rfl dX8_count_69 ?_
    refine r_get (a := 1) (v := .int (h.1 1 1)) (C := RX6) (T := TX6) (N := 2) hx hb hts hinX6 hown hK hP (ltX6 rfl) (ceX6 rfl) rfl 1 (by decide) wd107 rfl dX8_count_72 ?_
    exact r_iret hx hb hr hlocks hP hS (re2 (Option.some.inj hf)) dX8_count_75
  replace hf := if_f s1_4 hf
  refine lv_tableOut (tgt := 76) hx hb dX8_count_1 (sw_out (x := x1) 4 (by decide) (fun k hk => by
    rcases (show k = 0 ∨ k = 1 ∨ k = 2 ∨ k = 3 ∨ k = 4 by omega) with rfl | rfl | rfl | rfl | rfl
    · exact s1_0
    · exact s1_1
    · exact s1_2
    · exact s1_3
    · exact s1_4
    )) (by decide) ?_
  refine lv_sipush (v := (-1002)) hx hb dX8_count_76 (by decide) ?_
  exact r_iret hx hb hr hlocks hP hS (re2 (Option.some.inj hf)) dX8_count_79
/-! CarriedBack.firstOnes(I)I -/
abbrev rmX8_firstOnes : Room := { frames := 0, cells := 0, slots := 0, locals := 0 }
abbrev vX8_firstOnes : List Cond := Cond.code yX8_firstOnes cX8_firstOnes 1 (some .int) :: GW
def f_X8_firstOnes (x0 : Int32) : Option Int32 := some ((1 <<< (x0 &&& 31)) - 1)
set_option maxHeartbeats 4000000 in
set_option maxRecDepth 100000 in
theorem k_X8_firstOnes (l : Launch) {G : GC} (hG : GOK G) {x0 : Int32} {rr : Int32} {h : PH} (hf : f_X8_firstOnes x0 = some rr) : CI l yX8_firstOnes vX8_firstOnes rmX8_firstOnes G [.int x0] h rr h := by
  refine Met.ofW (cc := cX8_firstOnes) (maxL := 1) (ret := (some .int)) (by decide +kernel) rfl ?_
  intro p e s m args below meth c s₁ B hml hv
  obtain ⟨rfl, hP, hK⟩ := hv
  have C : MC l G p s m _ meth c RX8 cX8_firstOnes 1 (some .int) := ⟨B.exec, B.bytes, B.returns, B.notSynchronized, hml, findClass_of_methodNamed B.named, fun w hw => atoms_spec (ws := vX8_firstOnes) B.pre w (List.mem_cons_of_mem _ hw), hK⟩
  obtain ⟨hx, hb, hr, hlocks, -, hown, hts, -⟩ := id C
  have hl := lv_entry ([.int x0]) (n := 1) (Nat.le_of_ble_eq_true rfl)
  rw [lg_entry_eq]
  generalize (lg_sl ([.int x0]) ++ List.replicate (1 - (lg_sl ([.int x0])).length) Slot.unset).toArray = ls at hl ⊢
  have hl : lv_has ls 1 [(0, .int x0)] := hl
  have hS : SP G s s.heap [] := va_S.rf
  replace hP : WP G h s.heap := hP
  rw [f_X8_firstOnes] at hf
  refine lv_iconst (v := 1) hx hb dX8_firstOnes_0 (by decide) ?_
  refine lv_iload_n hx hb dX8_firstOnes_1 rfl (lv_at hl 0 rfl) ?_
  refine lv_ishl hx hb dX8_firstOnes_2 ?_
  refine lv_iconst (v := 1) hx hb dX8_firstOnes_3 (by decide) ?_
  refine lv_isub hx hb dX8_firstOnes_4 ?_
  exact r_iret hx hb hr hlocks hP hS ⟨Option.some.inj hf, rfl⟩ dX8_firstOnes_5
/-! CarriedBack$Book.addLine(ILCarriedBack$Trunk;)I -/
abbrev rmX0_addLine : Room := { frames := 1, cells := 0, slots := 0, locals := 30 }
abbrev vX0_addLine : List Cond := Cond.code yX0_addLine cX0_addLine 4 (some .int) :: GW
def f_X0_addLine (a0 : Nat) (a2 : Nat) (x1 : Int32) (h : PH) : Option (Int32 × PH) := lt' ((h.1 a0 0)) (fun x3_4 => bO (asg h (a0 + 1) 4 x3_4 x1) (fun h11 => bO (f_X8_firstOnes x1) (fun r18 => bO (asg h11 (a0 + 2) 4 x3_4 r18) (fun h21 => bO (asg h21 (a0 + 3) 4 x3_4 0) (fun h28 => bO (cpy h28 (a2 + 5) 400 (x1 * 16) (a0 + 4) 64 (x3_4 * 16) 16) (fun h47 => lt' (hU h47 a0 0 (x3_4 + 1)) (fun h54 => some (x3_4, h54))))))))
set_option maxHeartbeats 4000000 in
set_option maxRecDepth 100000 in
theorem k_X0_addLine (l : Launch) {G : GC} (hG : GOK G) (a0 : Nat) (ha0 : kdX0 a0) (a2 : Nat) (ha2 : kdX7 a2) {x1 : Int32} {rr : Int32} {h hh : PH} (hf : f_X0_addLine a0 a2 x1 h = some (rr, hh)) : CI l yX0_addLine vX0_addLine rmX0_addLine G [.ref (gB G a0), .int x1, .ref (gB G a2)] h rr hh := by
  refine Met.ofW (cc := cX0_addLine) (maxL := 4) (ret := (some .int)) (by decide +kernel) rfl ?_
  intro p e s m args below meth c s₁ B hml hv
  obtain ⟨rfl, hP, hK⟩ := hv
  have C : MC l G p s m _ meth c RX0 cX0_addLine 4 (some .int) := ⟨B.exec, B.bytes, B.returns, B.notSynchronized, hml, findClass_of_methodNamed B.named, fun w hw => atoms_spec (ws := vX0_addLine) B.pre w (List.mem_cons_of_mem _ hw), hK⟩
  obtain ⟨hx, hb, hr, hlocks, -, hown, hts, -⟩ := id C
  have hl := lv_entry ([.ref (gB G a0), .int x1, .ref (gB G a2)]) (n := 4) (Nat.le_of_ble_eq_true rfl)
  rw [lg_entry_eq]
  generalize (lg_sl ([.ref (gB G a0), .int x1, .ref (gB G a2)]) ++ List.replicate (4 - (lg_sl ([.ref (gB G a0), .int x1, .ref (gB G a2)])).length) Slot.unset).toArray = ls at hl ⊢
  have hl : lv_has ls 4 [(0, .ref (gB G a0)), (1, .int x1), (2, .ref (gB G a2))] := hl
  have hS : SP G s s.heap [] := va_S.rf
  replace hP : WP G h s.heap := hP
  rw [f_X0_addLine] at hf
  refine lv_aload_n hx hb dX0_addLine_0 rfl (lv_at hl 0 rfl) ?_
  refine r_get (a := a0) (v := .int (h.1 a0 0)) (C := RX0) (T := TX0) (N := 10) hx hb hts hinX0 hown hK hP (ltX0 ha0) (ceX0 ha0) rfl 0 (by decide) wd235 rfl dX0_addLine_1 ?_
  refine lv_topi (fun x3_4 ex3_4 => ?_)
  replace hf := lt_at ex3_4 hf
  refine lv_istore_n (lv' := [(3, .int x3_4), (0, .ref (gB G a0)), (1, .int x1), (2, .ref (gB G a2))]) hx hb dX0_addLine_4 rfl hl (by decide) rfl (fun ls hl => ?_)
  refine lv_aload_n hx hb dX0_addLine_5 rfl (lv_at hl 1 rfl) ?_
  refine r_get (a := a0) (v := .ref (gB G (a0 + 1))) (C := RX0) (T := TX0) (N := 10) hx hb hts hinX0 hown hK hP (ltX0 ha0) (ceX0 ha0) rfl 1 (by decide) wd237 rfl dX0_addLine_6 ?_
  refine lv_iload_n hx hb dX0_addLine_9 rfl (lv_at hl 0 rfl) ?_
  refine lv_iload_n hx hb dX0_addLine_10 rfl (lv_at hl 2 rfl) ?_
  obtain ⟨h11, eh11, hf⟩ := bO_s hf
  refine r_iast hG hx hb hK hP hS (arX0_1 ha0) eh11 dX0_addLine_11 (fun H locs hP hS => ?_)
  refine lv_aload_n hx hb dX0_addLine_12 rfl (lv_at hl 1 rfl) ?_
  refine r_get (a := a0) (v := .ref (gB G (a0 + 2))) (C := RX0) (T := TX0) (N := 10) hx hb hts hinX0 hown hK hP (ltX0 ha0) (ceX0 ha0) rfl 2 (by decide) wd239 rfl dX0_addLine_13 ?_
  refine lv_iload_n hx hb dX0_addLine_16 rfl (lv_at hl 0 rfl) ?_
  refine lv_iload_n hx hb dX0_addLine_17 rfl (lv_at hl 2 rfl) ?_
  obtain ⟨r18, er18, hf⟩ := bO_s hf
  refine r_callI (va_runSN (As := [.int x1]) (rest := [.int x3_4, .ref (gB G (a0 + 2))]) ⟨hx, hb, hml, hown, hts⟩ (k_X8_firstOnes l hG (h := h11) er18) ⟨va_cnB 1 hts (gC wd678) rfl rfl rfl (host := "CarriedBack") (hK.2.1 _ (by decide +kernel)) (hts _ wd73) (by decide +kernel) ⟨Nat.le_of_ble_eq_true rfl, Nat.le_of_ble_eq_true rfl⟩, hts _ wd677, trivial⟩ (r_ps hK hP hS) rfl rfl hl.1 rfl (lv_room (Nat.le_of_ble_eq_true rfl)) dX0_addLine_18 ⟨Nat.le_of_ble_eq_true rfl, Nat.le_of_ble_eq_true rfl⟩) hS (fun H locs hP hS => ?_)
  obtain ⟨h21, eh21, hf⟩ := bO_s hf
  refine r_iast hG hx hb hK hP hS (arX0_2 ha0) eh21 dX0_addLine_21 (fun H locs hP hS => ?_)
  refine lv_aload_n hx hb dX0_addLine_22 rfl (lv_at hl 1 rfl) ?_
  refine r_get (a := a0) (v := .ref (gB G (a0 + 3))) (C := RX0) (T := TX0) (N := 10) hx hb hts hinX0 hown hK hP (ltX0 ha0) (ceX0 ha0) rfl 3 (by decide) wd243 rfl dX0_addLine_23 ?_
  refine lv_iload_n hx hb dX0_addLine_26 rfl (lv_at hl 0 rfl) ?_
  refine lv_iconst (v := 0) hx hb dX0_addLine_27 (by decide) ?_
  obtain ⟨h28, eh28, hf⟩ := bO_s hf
  refine r_iast hG hx hb hK hP hS (arX0_3 ha0) eh28 dX0_addLine_28 (fun H locs hP hS => ?_)
  refine lv_aload_n hx hb dX0_addLine_29 rfl (lv_at hl 3 rfl) ?_
  refine r_get (a := a2) (v := .ref (gB G (a2 + 5))) (C := RX7) (T := TX7) (N := 10) hx hb hts hinX7 hown hK hP (ltX7 ha2) (ceX7 ha2) rfl 5 (by decide) wd167 rfl dX0_addLine_30 ?_
  refine lv_iload_n hx hb dX0_addLine_33 rfl (lv_at hl 2 rfl) ?_
  refine lv_bipush (v := 16) hx hb dX0_addLine_34 (by decide) ?_
  refine lv_imul hx hb dX0_addLine_36 ?_
  refine lv_aload_n hx hb dX0_addLine_37 rfl (lv_at hl 1 rfl) ?_
  refine r_get (a := a0) (v := .ref (gB G (a0 + 4))) (C := RX0) (T := TX0) (N := 10) hx hb hts hinX0 hown hK hP (ltX0 ha0) (ceX0 ha0) rfl 4 (by decide) wd245 rfl dX0_addLine_38 ?_
  refine lv_iload_n hx hb dX0_addLine_41 rfl (lv_at hl 0 rfl) ?_
  refine lv_bipush (v := 16) hx hb dX0_addLine_42 (by decide) ?_
  refine lv_imul hx hb dX0_addLine_44 ?_
  refine lv_bipush (v := 16) hx hb dX0_addLine_45 (by decide) ?_
  obtain ⟨h47, eh47, hf⟩ := bO_s hf
  refine r_cpy hG hx hb (by rw [hml]; exact hl.1.symm) hown hts wd679 wd553 wd552 wd87 hK hP hS (arX7_5 ha2) (arX0_4 ha0) eh47 (Nat.le_of_ble_eq_true rfl) (Nat.le_of_ble_eq_true rfl) dX0_addLine_47 (fun H locs hP hS => ?_)
  refine lv_aload_n hx hb dX0_addLine_50 rfl (lv_at hl 1 rfl) ?_
  refine lv_iload_n hx hb dX0_addLine_51 rfl (lv_at hl 0 rfl) ?_
  refine lv_iconst (v := 1) hx hb dX0_addLine_52 (by decide) ?_
  refine lv_iadd hx hb dX0_addLine_53 ?_
  obtain ⟨h54, eh54⟩ : ∃ y, y = hU h47 a0 0 (x3_4 + 1) := ⟨_, rfl⟩
  replace hf := lt_at eh54 hf
  refine r_put (a := a0) (v := .int (x3_4 + 1)) (ty := .int) (h' := h54) (C := RX0) (T := TX0) (N := 10) hG hx hb hts hinX0 tyX0 tyX0_ok nmX0 hown hK hP hS (ltX0 ha0) (ceX0 ha0) rfl 0 (by decide) wd235 rfl (by decide +kernel) rfl rfl (Nat.le_of_ble_eq_true rfl) (by rw [eh54]; exact fun j hj => cE_U hj) (by rw [eh54]; exact puX0_0 ha0 _) dX0_addLine_54 (fun H locs hP hS => ?_)
  refine lv_iload_n hx hb dX0_addLine_57 rfl (lv_at hl 0 rfl) ?_
  exact r_iret hx hb hr hlocks hP hS (re2 (Option.some.inj hf)) dX0_addLine_58
/-! CarriedBack.cut(I)I -/
abbrev rmX8_cut : Room := { frames := 2, cells := 0, slots := 0, locals := 53 }
abbrev vX8_cut : List Cond := Cond.code yX8_cut cX8_cut 2 (some .int) :: GW
def f_X8_cut (x1 : Int32) (h : PH) : Option (Int32 × PH) := if x1 < 0 then (some ((-1002), h)) else (if x1 ≤ (h.1 4 0) then (if (h.1 28 0) < 4 then (bP (f_X0_addLine 28 4 x1 h) (fun r43 h43 => some (r43, h43))) else (some ((-1004), h))) else (some ((-1002), h)))
set_option maxHeartbeats 4000000 in
set_option maxRecDepth 100000 in
theorem k_X8_cut (l : Launch) {G : GC} (hG : GOK G) {x1 : Int32} {rr : Int32} {h hh : PH} (hf : f_X8_cut x1 h = some (rr, hh)) : CI l yX8_cut vX8_cut rmX8_cut G [.ref (gB G 0), .int x1] h rr hh := by
  refine Met.ofW (cc := cX8_cut) (maxL := 2) (ret := (some .int)) (by decide +kernel) rfl ?_
  intro p e s m args below meth c s₁ B hml hv
  obtain ⟨rfl, hP, hK⟩ := hv
  have C : MC l G p s m _ meth c RX8 cX8_cut 2 (some .int) := ⟨B.exec, B.bytes, B.returns, B.notSynchronized, hml, findClass_of_methodNamed B.named, fun w hw => atoms_spec (ws := vX8_cut) B.pre w (List.mem_cons_of_mem _ hw), hK⟩
  obtain ⟨hx, hb, hr, hlocks, -, hown, hts, -⟩ := id C
  have hl := lv_entry ([.ref (gB G 0), .int x1]) (n := 2) (Nat.le_of_ble_eq_true rfl)
  rw [lg_entry_eq]
  generalize (lg_sl ([.ref (gB G 0), .int x1]) ++ List.replicate (2 - (lg_sl ([.ref (gB G 0), .int x1])).length) Slot.unset).toArray = ls at hl ⊢
  have hl : lv_has ls 2 [(0, .ref (gB G 0)), (1, .int x1)] := hl
  have hS : SP G s s.heap [] := va_S.rf
  replace hP : WP G h s.heap := hP
  rw [f_X8_cut] at hf
  refine lv_iload_n hx hb dX8_cut_0 rfl (lv_at hl 1 rfl) ?_
  refine lv_if_lt (tgt := 15) hx hb dX8_cut_1 (by decide) (fun c1 => ?_) (fun c1 => ?_)
  · replace hf := if_t c1 hf
    refine lv_sipush (v := (-1002)) hx hb dX8_cut_15 (by decide) ?_
    exact r_iret hx hb hr hlocks hP hS (re2 (Option.some.inj hf)) dX8_cut_18
  · replace hf := if_f c1 hf
    refine lv_iload_n hx hb dX8_cut_4 rfl (lv_at hl 1 rfl) ?_
    refine lv_aload_n hx hb dX8_cut_5 rfl (lv_at hl 0 rfl) ?_
    refine r_get (a := 0) (v := .ref (gB G 4)) (C := RX8) (T := TX8) (N := 14) hx hb hts hinX8 hown hK hP (ltX8 rfl) (ceX8 rfl) rfl 2 (by decide) wd364 rfl dX8_cut_6 ?_
    refine r_get (a := 4) (v := .int (h.1 4 0)) (C := RX7) (T := TX7) (N := 10) hx hb hts hinX7 hown hK hP (ltX7 (Or.inl rfl)) (ceX7 (Or.inl rfl)) rfl 0 (by decide) wd156 rfl dX8_cut_9 ?_
    refine lv_icmp_le (tgt := 19) hx hb dX8_cut_12 (by decide) (fun c12 => ?_) (fun c12 => ?_)
    · replace hf := if_t c12 hf
      refine lv_aload_n hx hb dX8_cut_19 rfl (lv_at hl 0 rfl) ?_
      refine r_get (a := 0) (v := .ref (gB G 28)) (C := RX8) (T := TX8) (N := 14) hx hb hts hinX8 hown hK hP (ltX8 rfl) (ceX8 rfl) rfl 6 (by decide) wd368 rfl dX8_cut_20 ?_
      refine r_get (a := 28) (v := .int (h.1 28 0)) (C := RX0) (T := TX0) (N := 10) hx hb hts hinX0 hown hK hP (ltX0 (Or.inl rfl)) (ceX0 (Or.inl rfl)) rfl 0 (by decide) wd236 rfl dX8_cut_23 ?_
      refine lv_iconst (v := 4) hx hb dX8_cut_26 (by decide) ?_
      refine lv_icmp_lt (tgt := 34) hx hb dX8_cut_27 (by decide) (fun c27 => ?_) (fun c27 => ?_)
      · replace hf := if_t c27 hf
        refine lv_aload_n hx hb dX8_cut_34 rfl (lv_at hl 0 rfl) ?_
        refine r_get (a := 0) (v := .ref (gB G 28)) (C := RX8) (T := TX8) (N := 14) hx hb hts hinX8 hown hK hP (ltX8 rfl) (ceX8 rfl) rfl 6 (by decide) wd368 rfl dX8_cut_35 ?_
        refine lv_iload_n hx hb dX8_cut_38 rfl (lv_at hl 1 rfl) ?_
        refine lv_aload_n hx hb dX8_cut_39 rfl (lv_at hl 0 rfl) ?_
        refine r_get (a := 0) (v := .ref (gB G 4)) (C := RX8) (T := TX8) (N := 14) hx hb hts hinX8 hown hK hP (ltX8 rfl) (ceX8 rfl) rfl 2 (by decide) wd364 rfl dX8_cut_40 ?_
        obtain ⟨r43, h43, er43, hf⟩ := bP_s hf
        refine r_callI (va_runV (As := [.int x1, .ref (gB G 4)]) (rest := []) ⟨hx, hb, hml, hown, hts⟩ (k_X0_addLine l hG 28 (Or.inl rfl) 4 (Or.inl rfl) er43) (cwV 2 hts (gV wd672 wd673 wd674 wd78 wd675) rfl rfl rfl (by decide +kernel) ⟨Nat.le_of_ble_eq_true rfl, Nat.le_of_ble_eq_true rfl⟩) (r_pv hK hP hS (ltX0 (Or.inl rfl)) (ceX0 (Or.inl rfl)) rfl) rfl rfl hl.1 rfl (lv_room (Nat.le_of_ble_eq_true rfl)) dX8_cut_43 ⟨Nat.le_of_ble_eq_true rfl, Nat.le_of_ble_eq_true rfl⟩) hS (fun H locs hP hS => ?_)
        exact r_iret hx hb hr hlocks hP hS (re2 (Option.some.inj hf)) dX8_cut_46
      · replace hf := if_f c27 hf
        refine lv_sipush (v := (-1004)) hx hb dX8_cut_30 (by decide) ?_
        exact r_iret hx hb hr hlocks hP hS (re2 (Option.some.inj hf)) dX8_cut_33
    · replace hf := if_f c12 hf
      refine lv_sipush (v := (-1002)) hx hb dX8_cut_15 (by decide) ?_
      exact r_iret hx hb hr hlocks hP hS (re2 (Option.some.inj hf)) dX8_cut_18
/-! CarriedBack$Book.hasLine(I)Z -/
abbrev rmX0_hasLine : Room := { frames := 0, cells := 0, slots := 0, locals := 0 }
abbrev vX0_hasLine : List Cond := Cond.code yX0_hasLine cX0_hasLine 2 (some .boolean) :: GW
def f_X0_hasLine (a0 : Nat) (x1 : Int32) (h : PH) : Option (Int32 × PH) := if x1 < 0 then (some (0, h)) else (if (h.1 a0 0) ≤ x1 then (some (0, h)) else (some (1, h)))
set_option maxHeartbeats 4000000 in
set_option maxRecDepth 100000 in
theorem k_X0_hasLine (l : Launch) {G : GC} (hG : GOK G) (a0 : Nat) (ha0 : kdX0 a0) {x1 : Int32} {rr : Int32} {h hh : PH} (hf : f_X0_hasLine a0 x1 h = some (rr, hh)) : CI l yX0_hasLine vX0_hasLine rmX0_hasLine G [.ref (gB G a0), .int x1] h rr hh := by
  refine Met.ofW (cc := cX0_hasLine) (maxL := 2) (ret := (some .boolean)) (by decide +kernel) rfl ?_
  intro p e s m args below meth c s₁ B hml hv
  obtain ⟨rfl, hP, hK⟩ := hv
  have C : MC l G p s m _ meth c RX0 cX0_hasLine 2 (some .boolean) := ⟨B.exec, B.bytes, B.returns, B.notSynchronized, hml, findClass_of_methodNamed B.named, fun w hw => atoms_spec (ws := vX0_hasLine) B.pre w (List.mem_cons_of_mem _ hw), hK⟩
  obtain ⟨hx, hb, hr, hlocks, -, hown, hts, -⟩ := id C
  have hl := lv_entry ([.ref (gB G a0), .int x1]) (n := 2) (Nat.le_of_ble_eq_true rfl)
  rw [lg_entry_eq]
  generalize (lg_sl ([.ref (gB G a0), .int x1]) ++ List.replicate (2 - (lg_sl ([.ref (gB G a0), .int x1])).length) Slot.unset).toArray = ls at hl ⊢
  have hl : lv_has ls 2 [(0, .ref (gB G a0)), (1, .int x1)] := hl
  have hS : SP G s s.heap [] := va_S.rf
  replace hP : WP G h s.heap := hP
  rw [f_X0_hasLine] at hf
  refine lv_iload_n hx hb dX0_hasLine_0 rfl (lv_at hl 1 rfl) ?_
  refine lv_if_lt (tgt := 16) hx hb dX0_hasLine_1 (by decide) (fun c1 => ?_) (fun c1 => ?_)
  · replace hf := if_t c1 hf
    refine lv_iconst (v := 0) hx hb dX0_hasLine_16 (by decide) ?_
    exact r_zret hx hb hr rfl hlocks hP hS (re2 (Option.some.inj hf)) dX0_hasLine_17
  · replace hf := if_f c1 hf
    refine lv_iload_n hx hb dX0_hasLine_4 rfl (lv_at hl 1 rfl) ?_
    refine lv_aload_n hx hb dX0_hasLine_5 rfl (lv_at hl 0 rfl) ?_
    refine r_get (a := a0) (v := .int (h.1 a0 0)) (C := RX0) (T := TX0) (N := 10) hx hb hts hinX0 hown hK hP (ltX0 ha0) (ceX0 ha0) rfl 0 (by decide) wd235 rfl dX0_hasLine_6 ?_
    refine lv_icmp_ge (tgt := 16) hx hb dX0_hasLine_9 (by decide) (fun c9 => ?_) (fun c9 => ?_)
    · replace hf := if_t c9 hf
      refine lv_iconst (v := 0) hx hb dX0_hasLine_16 (by decide) ?_
      exact r_zret hx hb hr rfl hlocks hP hS (re2 (Option.some.inj hf)) dX0_hasLine_17
    · replace hf := if_f c9 hf
      refine lv_iconst (v := 1) hx hb dX0_hasLine_12 (by decide) ?_
      refine lv_goto (tgt := 17) hx hb dX0_hasLine_13 (by decide) ?_
      exact r_zret hx hb hr rfl hlocks hP hS (re2 (Option.some.inj hf)) dX0_hasLine_17
/-! CarriedBack$Trunk.faultsIn(I)I -/
abbrev rmX7_faultsIn : Room := { frames := 2, cells := 0, slots := 0, locals := 44 }
abbrev vX7_faultsIn : List Cond := Cond.code yX7_faultsIn cX7_faultsIn 4 (some .int) :: GW
def f_X7_faultsIn_4 (a0 : Nat) (x1 : Int32) : Nat → Int32 → Int32 → PH → Option (Int32 × PH)
  | 0, _, _, _ => none
  | n + 1, x2, x3, h => if (h.1 a0 6) ≤ x3 then (bP (f_X7_removedBy a0 x1 h) (fun r40 h40 => some ((x2 &&& (r40 ^^^ (-1))), h40))) else (bO (ag h (a0 + 7) 10 x3) (fun v18 => bO (f_X8_has x1 v18) (fun r19 => if r19 = 0 then ((f_X7_faultsIn_4 a0 x1 n) x2 (x3 + 1) h) else (lt' ((x2 ||| (1 <<< (x3 &&& 31)))) (fun x2_30 => (f_X7_faultsIn_4 a0 x1 n) x2_30 (x3 + 1) h)))))
set_option maxHeartbeats 4000000 in
set_option maxRecDepth 100000 in
theorem w_X7_faultsIn_4 {l : Launch} {G : GC} (hG : GOK G) {rr : Int32} {hh : PH} {p : Program} {e : Env} {s : State} {m : MethodId} {args : Array Value} {below : List Frame} {meth : Method} {c : Code} (C : MC l G p s m args meth c RX7 cX7_faultsIn 4 (some .int)) (a0 : Nat) (ha0 : kdX7 a0) (x1 : Int32) : ∀ (n : Nat) (x2 : Int32) (x3 : Int32) (h : PH) (H : Heap) (locs : List Loc) (ls : Array Slot), lv_has ls 4 [(0, .ref (gB G a0)), (1, .int x1), (2, .int x2), (3, .int x3)] → WP G h H → SP G s H locs → f_X7_faultsIn_4 a0 x1 n x2 x3 h = some (rr, hh) → W p l e rmX7_faultsIn s m args below meth c H locs 0 0 (MQ below (QI G rr hh) args s 0 0 (gA G)) (F0 m 4 ls []) := by
  obtain ⟨hx, hb, hr, hlocks, hml, hown, hts, hK⟩ := id C
  intro n
  induction n with
  | zero => intro x2 x3 h H locs ls hl hP hS hf; rw [f_X7_faultsIn_4] at hf; cases hf
  | succ n ih =>
    intro x2 x3 h H locs ls hl hP hS hf
    rw [f_X7_faultsIn_4] at hf
    refine lv_iload_n hx hb dX7_faultsIn_4 rfl (lv_at hl 3 rfl) ?_
    refine lv_aload_n hx hb dX7_faultsIn_5 rfl (lv_at hl 0 rfl) ?_
    refine r_get (a := a0) (v := .int (h.1 a0 6)) (C := RX7) (T := TX7) (N := 10) hx hb hts hinX7 hown hK hP (ltX7 ha0) (ceX7 ha0) rfl 6 (by decide) wd169 rfl dX7_faultsIn_6 ?_
    refine lv_icmp_ge (tgt := 37) hx hb dX7_faultsIn_9 (by decide) (fun c9 => ?_) (fun c9 => ?_)
    · replace hf := if_t c9 hf
      refine lv_iload_n hx hb dX7_faultsIn_37 rfl (lv_at hl 2 rfl) ?_
      refine lv_aload_n hx hb dX7_faultsIn_38 rfl (lv_at hl 0 rfl) ?_
      refine lv_iload_n hx hb dX7_faultsIn_39 rfl (lv_at hl 1 rfl) ?_
      obtain ⟨r40, h40, er40, hf⟩ := bP_s hf
      refine r_callI (va_runV (As := [.int x1]) (rest := [.int x2]) ⟨hx, hb, hml, hown, hts⟩ (k_X7_removedBy l hG a0 ha0 er40) (cwV 1 hts (gV wd641 wd642 wd643 wd76 wd644) rfl rfl rfl (by decide +kernel) ⟨Nat.le_of_ble_eq_true rfl, Nat.le_of_ble_eq_true rfl⟩) (r_pv hK hP hS (ltX7 ha0) (ceX7 ha0) rfl) rfl rfl hl.1 rfl (lv_room (Nat.le_of_ble_eq_true rfl)) dX7_faultsIn_40 ⟨Nat.le_of_ble_eq_true rfl, Nat.le_of_ble_eq_true rfl⟩) hS (fun H locs hP hS => ?_)
      refine lv_iconst (v := (-1)) hx hb dX7_faultsIn_43 (by decide) ?_
      refine lv_ixor hx hb dX7_faultsIn_44 ?_
      refine lv_iand hx hb dX7_faultsIn_45 ?_
      exact r_iret hx hb hr hlocks hP hS (re2 (Option.some.inj hf)) dX7_faultsIn_46
    · replace hf := if_f c9 hf
      refine lv_iload_n hx hb dX7_faultsIn_12 rfl (lv_at hl 1 rfl) ?_
      refine lv_aload_n hx hb dX7_faultsIn_13 rfl (lv_at hl 0 rfl) ?_
      refine r_get (a := a0) (v := .ref (gB G (a0 + 7))) (C := RX7) (T := TX7) (N := 10) hx hb hts hinX7 hown hK hP (ltX7 ha0) (ceX7 ha0) rfl 8 (by decide) wd174 rfl dX7_faultsIn_14 ?_
      refine lv_iload_n hx hb dX7_faultsIn_17 rfl (lv_at hl 3 rfl) ?_
      obtain ⟨v18, ev18, hf⟩ := bO_s hf
      refine r_iald hx hb hK hP (arX7_8 ha0) ev18 dX7_faultsIn_18 ?_
      obtain ⟨r19, er19, hf⟩ := bO_s hf
      refine r_callI (va_runSN (As := [.int x1, .int v18]) (rest := []) ⟨hx, hb, hml, hown, hts⟩ (k_X8_has l hG (h := h) er19) ⟨va_cnB 2 hts (gC wd523) rfl rfl rfl (host := "CarriedBack") (hK.2.1 _ (by decide +kernel)) (hts _ wd73) (by decide +kernel) ⟨Nat.le_of_ble_eq_true rfl, Nat.le_of_ble_eq_true rfl⟩, hts _ wd522, trivial⟩ (r_ps hK hP hS) rfl rfl hl.1 rfl (lv_room (Nat.le_of_ble_eq_true rfl)) dX7_faultsIn_19 ⟨Nat.le_of_ble_eq_true rfl, Nat.le_of_ble_eq_true rfl⟩) hS (fun H locs hP hS => ?_)
      refine lv_if_eq (tgt := 31) hx hb dX7_faultsIn_22 (by decide) (fun c22 => ?_) (fun c22 => ?_)
      · replace hf := if_t c22 hf
        refine lv_iinc (v := (x3 + 1)) (lv' := [(3, .int (x3 + 1)), (0, .ref (gB G a0)), (1, .int x1), (2, .int x2)]) hx hb dX7_faultsIn_31 hl (k := 3) rfl rfl (by decide) rfl (fun ls hl => ?_)
        refine lv_goto (tgt := 4) hx hb dX7_faultsIn_34 (by decide) ?_
        exact ih x2 (x3 + 1) h _ _ _ (lv_sub hl [1, 2, 3, 0] rfl) hP hS hf
      · replace hf := if_f c22 hf
        refine lv_iload_n hx hb dX7_faultsIn_25 rfl (lv_at hl 2 rfl) ?_
        refine lv_iconst (v := 1) hx hb dX7_faultsIn_26 (by decide) ?_
        refine lv_iload_n hx hb dX7_faultsIn_27 rfl (lv_at hl 3 rfl) ?_
        refine lv_ishl hx hb dX7_faultsIn_28 ?_
        refine lv_ior hx hb dX7_faultsIn_29 ?_
        refine lv_topi (fun x2_30 ex2_30 => ?_)
        replace hf := lt_at ex2_30 hf
        refine lv_istore_n (lv' := [(2, .int x2_30), (0, .ref (gB G a0)), (1, .int x1), (3, .int x3)]) hx hb dX7_faultsIn_30 rfl hl (by decide) rfl (fun ls hl => ?_)
        refine lv_iinc (v := (x3 + 1)) (lv' := [(3, .int (x3 + 1)), (2, .int x2_30), (0, .ref (gB G a0)), (1, .int x1)]) hx hb dX7_faultsIn_31 hl (k := 3) rfl rfl (by decide) rfl (fun ls hl => ?_)
        refine lv_goto (tgt := 4) hx hb dX7_faultsIn_34 (by decide) ?_
        exact ih x2_30 (x3 + 1) h _ _ _ (lv_sub hl [2, 3, 1, 0] rfl) hP hS hf
def f_X7_faultsIn (a0 : Nat) (x1 : Int32) (h : PH) : Option (Int32 × PH) := f_X7_faultsIn_4 a0 x1 FU 0 0 h
set_option maxHeartbeats 4000000 in
set_option maxRecDepth 100000 in
theorem k_X7_faultsIn (l : Launch) {G : GC} (hG : GOK G) (a0 : Nat) (ha0 : kdX7 a0) {x1 : Int32} {rr : Int32} {h hh : PH} (hf : f_X7_faultsIn a0 x1 h = some (rr, hh)) : CI l yX7_faultsIn vX7_faultsIn rmX7_faultsIn G [.ref (gB G a0), .int x1] h rr hh := by
  refine Met.ofW (cc := cX7_faultsIn) (maxL := 4) (ret := (some .int)) (by decide +kernel) rfl ?_
  intro p e s m args below meth c s₁ B hml hv
  obtain ⟨rfl, hP, hK⟩ := hv
  have C : MC l G p s m _ meth c RX7 cX7_faultsIn 4 (some .int) := ⟨B.exec, B.bytes, B.returns, B.notSynchronized, hml, findClass_of_methodNamed B.named, fun w hw => atoms_spec (ws := vX7_faultsIn) B.pre w (List.mem_cons_of_mem _ hw), hK⟩
  obtain ⟨hx, hb, hr, hlocks, -, hown, hts, -⟩ := id C
  have hl := lv_entry ([.ref (gB G a0), .int x1]) (n := 4) (Nat.le_of_ble_eq_true rfl)
  rw [lg_entry_eq]
  generalize (lg_sl ([.ref (gB G a0), .int x1]) ++ List.replicate (4 - (lg_sl ([.ref (gB G a0), .int x1])).length) Slot.unset).toArray = ls at hl ⊢
  have hl : lv_has ls 4 [(0, .ref (gB G a0)), (1, .int x1)] := hl
  have hS : SP G s s.heap [] := va_S.rf
  replace hP : WP G h s.heap := hP
  rw [f_X7_faultsIn] at hf
  refine lv_iconst (v := 0) hx hb dX7_faultsIn_0 (by decide) ?_
  refine lv_istore_n (lv' := [(2, .int 0), (0, .ref (gB G a0)), (1, .int x1)]) hx hb dX7_faultsIn_1 rfl hl (by decide) rfl (fun ls hl => ?_)
  refine lv_iconst (v := 0) hx hb dX7_faultsIn_2 (by decide) ?_
  refine lv_istore_n (lv' := [(3, .int 0), (2, .int 0), (0, .ref (gB G a0)), (1, .int x1)]) hx hb dX7_faultsIn_3 rfl hl (by decide) rfl (fun ls hl => ?_)
  exact w_X7_faultsIn_4 hG C a0 ha0 x1 FU 0 0 h _ _ _ (lv_sub hl [2, 3, 1, 0] rfl) hP hS hf
/-! CarriedBack$Trunk.riskOf(I)I -/
abbrev rmX7_riskOf : Room := { frames := 1, cells := 0, slots := 0, locals := 21 }
abbrev vX7_riskOf : List Cond := Cond.code yX7_riskOf cX7_riskOf 4 (some .int) :: GW
def f_X7_riskOf_4 (a0 : Nat) (x1 : Int32) : Nat → Int32 → Int32 → PH → Option (Int32 × PH)
  | 0, _, _, _ => none
  | n + 1, x2, x3, h => if (h.1 a0 0) ≤ x3 then (some (x2, h)) else (bO (f_X8_has x1 x3) (fun r14 => if r14 = 0 then ((f_X7_riskOf_4 a0 x1 n) x2 (x3 + 1) h) else (bO (ag h (a0 + 3) 24 x3) (fun v26 => lt' ((x2 + v26)) (fun x2_28 => (f_X7_riskOf_4 a0 x1 n) x2_28 (x3 + 1) h)))))
set_option maxHeartbeats 4000000 in
set_option maxRecDepth 100000 in
theorem w_X7_riskOf_4 {l : Launch} {G : GC} (hG : GOK G) {rr : Int32} {hh : PH} {p : Program} {e : Env} {s : State} {m : MethodId} {args : Array Value} {below : List Frame} {meth : Method} {c : Code} (C : MC l G p s m args meth c RX7 cX7_riskOf 4 (some .int)) (a0 : Nat) (ha0 : kdX7 a0) (x1 : Int32) : ∀ (n : Nat) (x2 : Int32) (x3 : Int32) (h : PH) (H : Heap) (locs : List Loc) (ls : Array Slot), lv_has ls 4 [(0, .ref (gB G a0)), (1, .int x1), (2, .int x2), (3, .int x3)] → WP G h H → SP G s H locs → f_X7_riskOf_4 a0 x1 n x2 x3 h = some (rr, hh) → W p l e rmX7_riskOf s m args below meth c H locs 0 0 (MQ below (QI G rr hh) args s 0 0 (gA G)) (F0 m 4 ls []) := by
  obtain ⟨hx, hb, hr, hlocks, hml, hown, hts, hK⟩ := id C
  intro n
  induction n with
  | zero => intro x2 x3 h H locs ls hl hP hS hf; rw [f_X7_riskOf_4] at hf; cases hf
  | succ n ih =>
    intro x2 x3 h H locs ls hl hP hS hf
    rw [f_X7_riskOf_4] at hf
    refine lv_iload_n hx hb dX7_riskOf_4 rfl (lv_at hl 3 rfl) ?_
    refine lv_aload_n hx hb dX7_riskOf_5 rfl (lv_at hl 0 rfl) ?_
    refine r_get (a := a0) (v := .int (h.1 a0 0)) (C := RX7) (T := TX7) (N := 10) hx hb hts hinX7 hown hK hP (ltX7 ha0) (ceX7 ha0) rfl 0 (by decide) wd154 rfl dX7_riskOf_6 ?_
    refine lv_icmp_ge (tgt := 35) hx hb dX7_riskOf_9 (by decide) (fun c9 => ?_) (fun c9 => ?_)
    · replace hf := if_t c9 hf
      refine lv_iload_n hx hb dX7_riskOf_35 rfl (lv_at hl 2 rfl) ?_
      exact r_iret hx hb hr hlocks hP hS (re2 (Option.some.inj hf)) dX7_riskOf_36
    · replace hf := if_f c9 hf
      refine lv_iload_n hx hb dX7_riskOf_12 rfl (lv_at hl 1 rfl) ?_
      refine lv_iload_n hx hb dX7_riskOf_13 rfl (lv_at hl 3 rfl) ?_
      obtain ⟨r14, er14, hf⟩ := bO_s hf
      refine r_callI (va_runSN (As := [.int x1, .int x3]) (rest := []) ⟨hx, hb, hml, hown, hts⟩ (k_X8_has l hG (h := h) er14) ⟨va_cnB 2 hts (gC wd523) rfl rfl rfl (host := "CarriedBack") (hK.2.1 _ (by decide +kernel)) (hts _ wd73) (by decide +kernel) ⟨Nat.le_of_ble_eq_true rfl, Nat.le_of_ble_eq_true rfl⟩, hts _ wd522, trivial⟩ (r_ps hK hP hS) rfl rfl hl.1 rfl (lv_room (Nat.le_of_ble_eq_true rfl)) dX7_riskOf_14 ⟨Nat.le_of_ble_eq_true rfl, Nat.le_of_ble_eq_true rfl⟩) hS (fun H locs hP hS => ?_)
      refine lv_if_eq (tgt := 29) hx hb dX7_riskOf_17 (by decide) (fun c17 => ?_) (fun c17 => ?_)
      · replace hf := if_t c17 hf
        refine lv_iinc (v := (x3 + 1)) (lv' := [(3, .int (x3 + 1)), (0, .ref (gB G a0)), (1, .int x1), (2, .int x2)]) hx hb dX7_riskOf_29 hl (k := 3) rfl rfl (by decide) rfl (fun ls hl => ?_)
        refine lv_goto (tgt := 4) hx hb dX7_riskOf_32 (by decide) ?_
        exact ih x2 (x3 + 1) h _ _ _ (lv_sub hl [1, 2, 3, 0] rfl) hP hS hf
      · replace hf := if_f c17 hf
        refine lv_iload_n hx hb dX7_riskOf_20 rfl (lv_at hl 2 rfl) ?_
        refine lv_aload_n hx hb dX7_riskOf_21 rfl (lv_at hl 0 rfl) ?_
        refine r_get (a := a0) (v := .ref (gB G (a0 + 3))) (C := RX7) (T := TX7) (N := 10) hx hb hts hinX7 hown hK hP (ltX7 ha0) (ceX7 ha0) rfl 3 (by decide) wd162 rfl dX7_riskOf_22 ?_
        refine lv_iload_n hx hb dX7_riskOf_25 rfl (lv_at hl 3 rfl) ?_
        obtain ⟨v26, ev26, hf⟩ := bO_s hf
        refine r_iald hx hb hK hP (arX7_3 ha0) ev26 dX7_riskOf_26 ?_
        refine lv_iadd hx hb dX7_riskOf_27 ?_
        refine lv_topi (fun x2_28 ex2_28 => ?_)
        replace hf := lt_at ex2_28 hf
        refine lv_istore_n (lv' := [(2, .int x2_28), (0, .ref (gB G a0)), (1, .int x1), (3, .int x3)]) hx hb dX7_riskOf_28 rfl hl (by decide) rfl (fun ls hl => ?_)
        refine lv_iinc (v := (x3 + 1)) (lv' := [(3, .int (x3 + 1)), (2, .int x2_28), (0, .ref (gB G a0)), (1, .int x1)]) hx hb dX7_riskOf_29 hl (k := 3) rfl rfl (by decide) rfl (fun ls hl => ?_)
        refine lv_goto (tgt := 4) hx hb dX7_riskOf_32 (by decide) ?_
        exact ih x2_28 (x3 + 1) h _ _ _ (lv_sub hl [2, 3, 1, 0] rfl) hP hS hf
def f_X7_riskOf (a0 : Nat) (x1 : Int32) (h : PH) : Option (Int32 × PH) := f_X7_riskOf_4 a0 x1 FU 0 0 h
set_option maxHeartbeats 4000000 in
set_option maxRecDepth 100000 in
theorem k_X7_riskOf (l : Launch) {G : GC} (hG : GOK G) (a0 : Nat) (ha0 : kdX7 a0) {x1 : Int32} {rr : Int32} {h hh : PH} (hf : f_X7_riskOf a0 x1 h = some (rr, hh)) : CI l yX7_riskOf vX7_riskOf rmX7_riskOf G [.ref (gB G a0), .int x1] h rr hh := by
  refine Met.ofW (cc := cX7_riskOf) (maxL := 4) (ret := (some .int)) (by decide +kernel) rfl ?_
  intro p e s m args below meth c s₁ B hml hv
  obtain ⟨rfl, hP, hK⟩ := hv
  have C : MC l G p s m _ meth c RX7 cX7_riskOf 4 (some .int) := ⟨B.exec, B.bytes, B.returns, B.notSynchronized, hml, findClass_of_methodNamed B.named, fun w hw => atoms_spec (ws := vX7_riskOf) B.pre w (List.mem_cons_of_mem _ hw), hK⟩
  obtain ⟨hx, hb, hr, hlocks, -, hown, hts, -⟩ := id C
  have hl := lv_entry ([.ref (gB G a0), .int x1]) (n := 4) (Nat.le_of_ble_eq_true rfl)
  rw [lg_entry_eq]
  generalize (lg_sl ([.ref (gB G a0), .int x1]) ++ List.replicate (4 - (lg_sl ([.ref (gB G a0), .int x1])).length) Slot.unset).toArray = ls at hl ⊢
  have hl : lv_has ls 4 [(0, .ref (gB G a0)), (1, .int x1)] := hl
  have hS : SP G s s.heap [] := va_S.rf
  replace hP : WP G h s.heap := hP
  rw [f_X7_riskOf] at hf
  refine lv_iconst (v := 0) hx hb dX7_riskOf_0 (by decide) ?_
  refine lv_istore_n (lv' := [(2, .int 0), (0, .ref (gB G a0)), (1, .int x1)]) hx hb dX7_riskOf_1 rfl hl (by decide) rfl (fun ls hl => ?_)
  refine lv_iconst (v := 0) hx hb dX7_riskOf_2 (by decide) ?_
  refine lv_istore_n (lv' := [(3, .int 0), (2, .int 0), (0, .ref (gB G a0)), (1, .int x1)]) hx hb dX7_riskOf_3 rfl hl (by decide) rfl (fun ls hl => ?_)
  exact w_X7_riskOf_4 hG C a0 ha0 x1 FU 0 0 h _ _ _ (lv_sub hl [2, 3, 1, 0] rfl) hP hS hf
/-! CarriedBack.line(II)I -/
abbrev rmX8_line : Room := { frames := 3, cells := 0, slots := 0, locals := 67 }
abbrev vX8_line : List Cond := Cond.code yX8_line cX8_line 3 (some .int) :: GW
def f_X8_line (x1 : Int32) (x2 : Int32) (h : PH) : Option (Int32 × PH) := bP (f_X0_hasLine 28 x1 h) (fun r5 h5 => if r5 = 0 then (some ((-1001), h5)) else (if x2 = 0 then (bO (ag h5 29 4 x1) (fun v60 => some (v60, h5))) else (if x2 = 1 then (bO (ag h5 30 4 x1) (fun v70 => some (v70, h5))) else (if x2 = 2 then (bO (ag h5 30 4 x1) (fun v84 => bP (f_X7_faultsIn 4 v84 h5) (fun r85 h85 => some (r85, h85)))) else (if x2 = 3 then (bO (ag h5 30 4 x1) (fun v101 => bP (f_X7_riskOf 4 v101 h5) (fun r102 h102 => some (r102, h102)))) else (if x2 = 4 then (bO (ag h5 31 4 x1) (fun v114 => some (v114, h5))) else (some ((-1002), h5))))))))
set_option maxHeartbeats 4000000 in
set_option maxRecDepth 100000 in
theorem k_X8_line (l : Launch) {G : GC} (hG : GOK G) {x1 : Int32} {x2 : Int32} {rr : Int32} {h hh : PH} (hf : f_X8_line x1 x2 h = some (rr, hh)) : CI l yX8_line vX8_line rmX8_line G [.ref (gB G 0), .int x1, .int x2] h rr hh := by
  refine Met.ofW (cc := cX8_line) (maxL := 3) (ret := (some .int)) (by decide +kernel) rfl ?_
  intro p e s m args below meth c s₁ B hml hv
  obtain ⟨rfl, hP, hK⟩ := hv
  have C : MC l G p s m _ meth c RX8 cX8_line 3 (some .int) := ⟨B.exec, B.bytes, B.returns, B.notSynchronized, hml, findClass_of_methodNamed B.named, fun w hw => atoms_spec (ws := vX8_line) B.pre w (List.mem_cons_of_mem _ hw), hK⟩
  obtain ⟨hx, hb, hr, hlocks, -, hown, hts, -⟩ := id C
  have hl := lv_entry ([.ref (gB G 0), .int x1, .int x2]) (n := 3) (Nat.le_of_ble_eq_true rfl)
  rw [lg_entry_eq]
  generalize (lg_sl ([.ref (gB G 0), .int x1, .int x2]) ++ List.replicate (3 - (lg_sl ([.ref (gB G 0), .int x1, .int x2])).length) Slot.unset).toArray = ls at hl ⊢
  have hl : lv_has ls 3 [(0, .ref (gB G 0)), (1, .int x1), (2, .int x2)] := hl
  have hS : SP G s s.heap [] := va_S.rf
  replace hP : WP G h s.heap := hP
  rw [f_X8_line] at hf
  refine lv_aload_n hx hb dX8_line_0 rfl (lv_at hl 0 rfl) ?_
  refine r_get (a := 0) (v := .ref (gB G 28)) (C := RX8) (T := TX8) (N := 14) hx hb hts hinX8 hown hK hP (ltX8 rfl) (ceX8 rfl) rfl 6 (by decide) wd368 rfl dX8_line_1 ?_
  refine lv_iload_n hx hb dX8_line_4 rfl (lv_at hl 1 rfl) ?_
  obtain ⟨r5, h5, er5, hf⟩ := bP_s hf
  refine r_callI (va_runV (As := [.int x1]) (rest := []) ⟨hx, hb, hml, hown, hts⟩ (k_X0_hasLine l hG 28 (Or.inl rfl) er5) (cwV 1 hts (gV wd684 wd685 wd686 wd78 wd687) rfl rfl rfl (by decide +kernel) ⟨Nat.le_of_ble_eq_true rfl, Nat.le_of_ble_eq_true rfl⟩) (r_pv hK hP hS (ltX0 (Or.inl rfl)) (ceX0 (Or.inl rfl)) rfl) rfl rfl hl.1 rfl (lv_room (Nat.le_of_ble_eq_true rfl)) dX8_line_5 ⟨Nat.le_of_ble_eq_true rfl, Nat.le_of_ble_eq_true rfl⟩) hS (fun H locs hP hS => ?_)
  refine lv_if_ne (tgt := 15) hx hb dX8_line_8 (by decide) (fun c8 => ?_) (fun c8 => ?_)
  · replace hf := if_f c8 hf
    refine lv_iload_n hx hb dX8_line_15 rfl (lv_at hl 2 rfl) ?_
    by_cases s16_0 : x2 = 0
    · replace hf := if_t s16_0 hf
      refine lv_tableIn (tgt := 52) hx hb dX8_line_16 (by rw [s16_0]; decide) (by rw [s16_0]; decide) (by rw [s16_0]; rfl) (by decide) ?_
      refine lv_aload_n hx hb dX8_line_52 rfl (lv_at hl 0 rfl) ?_
      refine r_get (a := 0) (v := .ref (gB G 28)) (C := RX8) (T := TX8) (N := 14) hx hb hts hinX8 hown hK hP (ltX8 rfl) (ceX8 rfl) rfl 6 (by decide) wd368 rfl dX8_line_53 ?_
      refine r_get (a := 28) (v := .ref (gB G 29)) (C := RX0) (T := TX0) (N := 10) hx hb hts hinX0 hown hK hP (ltX0 (Or.inl rfl)) (ceX0 (Or.inl rfl)) rfl 1 (by decide) wd238 rfl dX8_line_56 ?_
      refine lv_iload_n hx hb dX8_line_59 rfl (lv_at hl 1 rfl) ?_
      obtain ⟨v60, ev60, hf⟩ := bO_s hf
      refine r_iald hx hb hK hP (arX0_1 (Or.inl rfl)) ev60 dX8_line_60 ?_
      exact r_iret hx hb hr hlocks hP hS (re2 (Option.some.inj hf)) dX8_line_61
    replace hf := if_f s16_0 hf
    by_cases s16_1 : x2 = 1
    · replace hf := if_t s16_1 hf
      refine lv_tableIn (tgt := 62) hx hb dX8_line_16 (by rw [s16_1]; decide) (by rw [s16_1]; decide) (by rw [s16_1]; rfl) (by decide) ?_
      refine lv_aload_n hx hb dX8_line_62 rfl (lv_at hl 0 rfl) ?_
      refine r_get (a := 0) (v := .ref (gB G 28)) (C := RX8) (T := TX8) (N := 14) hx hb hts hinX8 hown hK hP (ltX8 rfl) (ceX8 rfl) rfl 6 (by decide) wd368 rfl dX8_line_63 ?_
      refine r_get (a := 28) (v := .ref (gB G 30)) (C := RX0) (T := TX0) (N := 10) hx hb hts hinX0 hown hK hP (ltX0 (Or.inl rfl)) (ceX0 (Or.inl rfl)) rfl 2 (by decide) wd242 rfl dX8_line_66 ?_
      refine lv_iload_n hx hb dX8_line_69 rfl (lv_at hl 1 rfl) ?_
      obtain ⟨v70, ev70, hf⟩ := bO_s hf
      refine r_iald hx hb hK hP (arX0_2 (Or.inl rfl)) ev70 dX8_line_70 ?_
      exact r_iret hx hb hr hlocks hP hS (re2 (Option.some.inj hf)) dX8_line_71
    replace hf := if_f s16_1 hf
    by_cases s16_2 : x2 = 2
    · replace hf := if_t s16_2 hf
      refine lv_tableIn (tgt := 72) hx hb dX8_line_16 (by rw [s16_2]; decide) (by rw [s16_2]; decide) (by rw [s16_2]; rfl) (by decide) ?_
      refine lv_aload_n hx hb dX8_line_72 rfl (lv_at hl 0 rfl) ?_
      refine r_get (a := 0) (v := .ref (gB G 4)) (C := RX8) (T := TX8) (N := 14) hx hb hts hinX8 hown hK hP (ltX8 rfl) (ceX8 rfl) rfl 2 (by decide) wd364 rfl dX8_line_73 ?_
      refine lv_aload_n hx hb dX8_line_76 rfl (lv_at hl 0 rfl) ?_
      refine r_get (a := 0) (v := .ref (gB G 28)) (C := RX8) (T := TX8) (N := 14) hx hb hts hinX8 hown hK hP (ltX8 rfl) (ceX8 rfl) rfl 6 (by decide) wd368 rfl dX8_line_77 ?_
      refine r_get (a := 28) (v := .ref (gB G 30)) (C := RX0) (T := TX0) (N := 10) hx hb hts hinX0 hown hK hP (ltX0 (Or.inl rfl)) (ceX0 (Or.inl rfl)) rfl 2 (by decide) wd242 rfl dX8_line_80 ?_
      refine lv_iload_n hx hb dX8_line_83 rfl (lv_at hl 1 rfl) ?_
      obtain ⟨v84, ev84, hf⟩ := bO_s hf
      refine r_iald hx hb hK hP (arX0_2 (Or.inl rfl)) ev84 dX8_line_84 ?_
      obtain ⟨r85, h85, er85, hf⟩ := bP_s hf
      refine r_callI (va_runV (As := [.int v84]) (rest := []) ⟨hx, hb, hml, hown, hts⟩ (k_X7_faultsIn l hG 4 (Or.inl rfl) er85) (cwV 1 hts (gV wd688 wd689 wd690 wd76 wd691) rfl rfl rfl (by decide +kernel) ⟨Nat.le_of_ble_eq_true rfl, Nat.le_of_ble_eq_true rfl⟩) (r_pv hK hP hS (ltX7 (Or.inl rfl)) (ceX7 (Or.inl rfl)) rfl) rfl rfl hl.1 rfl (lv_room (Nat.le_of_ble_eq_true rfl)) dX8_line_85 ⟨Nat.le_of_ble_eq_true rfl, Nat.le_of_ble_eq_true rfl⟩) hS (fun H locs hP hS => ?_)
      exact r_iret hx hb hr hlocks hP hS (re2 (Option.some.inj hf)) dX8_line_88
    replace hf := if_f s16_2 hf
    by_cases s16_3 : x2 = 3
    · replace hf := if_t s16_3 hf
      refine lv_tableIn (tgt := 89) hx hb dX8_line_16 (by rw [s16_3]; decide) (by rw [s16_3]; decide) (by rw [s16_3]; rfl) (by decide) ?_
      refine lv_aload_n hx hb dX8_line_89 rfl (lv_at hl 0 rfl) ?_
      refine r_get (a := 0) (v := .ref (gB G 4)) (C := RX8) (T := TX8) (N := 14) hx hb hts hinX8 hown hK hP (ltX8 rfl) (ceX8 rfl) rfl 2 (by decide) wd364 rfl dX8_line_90 ?_
      refine lv_aload_n hx hb dX8_line_93 rfl (lv_at hl 0 rfl) ?_
      refine r_get (a := 0) (v := .ref (gB G 28)) (C := RX8) (T := TX8) (N := 14) hx hb hts hinX8 hown hK hP (ltX8 rfl) (ceX8 rfl) rfl 6 (by decide) wd368 rfl dX8_line_94 ?_
      refine r_get (a := 28) (v := .ref (gB G 30)) (C := RX0) (T := TX0) (N := 10) hx hb hts hinX0 hown hK hP (ltX0 (Or.inl rfl)) (ceX0 (Or.inl rfl)) rfl 2 (by decide) wd242 rfl dX8_line_97 ?_
      refine lv_iload_n hx hb dX8_line_100 rfl (lv_at hl 1 rfl) ?_
      obtain ⟨v101, ev101, hf⟩ := bO_s hf
      refine r_iald hx hb hK hP (arX0_2 (Or.inl rfl)) ev101 dX8_line_101 ?_
      obtain ⟨r102, h102, er102, hf⟩ := bP_s hf
      refine r_callI (va_runV (As := [.int v101]) (rest := []) ⟨hx, hb, hml, hown, hts⟩ (k_X7_riskOf l hG 4 (Or.inl rfl) er102) (cwV 1 hts (gV wd692 wd693 wd694 wd76 wd695) rfl rfl rfl (by decide +kernel) ⟨Nat.le_of_ble_eq_true rfl, Nat.le_of_ble_eq_true rfl⟩) (r_pv hK hP hS (ltX7 (Or.inl rfl)) (ceX7 (Or.inl rfl)) rfl) rfl rfl hl.1 rfl (lv_room (Nat.le_of_ble_eq_true rfl)) dX8_line_102 ⟨Nat.le_of_ble_eq_true rfl, Nat.le_of_ble_eq_true rfl⟩) hS (fun H locs hP hS => ?_)
      exact r_iret hx hb hr hlocks hP hS (re2 (Option.some.inj hf)) dX8_line_105
    replace hf := if_f s16_3 hf
    by_cases s16_4 : x2 = 4
    · replace hf := if_t s16_4 hf
      refine lv_tableIn (tgt := 106) hx hb dX8_line_16 (by rw [s16_4]; decide) (by rw [s16_4]; decide) (by rw [s16_4]; rfl) (by decide) ?_
      refine lv_aload_n hx hb dX8_line_106 rfl (lv_at hl 0 rfl) ?_
      refine r_get (a := 0) (v := .ref (gB G 28)) (C := RX8) (T := TX8) (N := 14) hx hb hts hinX8 hown hK hP (ltX8 rfl) (ceX8 rfl) rfl 6 (by decide) wd368 rfl dX8_line_107 ?_
      refine r_get (a := 28) (v := .ref (gB G 31)) (C := RX0) (T := TX0) (N := 10) hx hb hts hinX0 hown hK hP (ltX0 (Or.inl rfl)) (ceX0 (Or.inl rfl)) rfl 3 (by decide) wd244 rfl dX8_line_110 ?_
      refine lv_iload_n hx hb dX8_line_113 rfl (lv_at hl 1 rfl) ?_
      obtain ⟨v114, ev114, hf⟩ := bO_s hf
      refine r_iald hx hb hK hP (arX0_3 (Or.inl rfl)) ev114 dX8_line_114 ?_
      exact r_iret hx hb hr hlocks hP hS (re2 (Option.some.inj hf)) dX8_line_115
    replace hf := if_f s16_4 hf
    refine lv_tableOut (tgt := 116) hx hb dX8_line_16 (sw_out (x := x2) 4 (by decide) (fun k hk => by
      rcases (show k = 0 ∨ k = 1 ∨ k = 2 ∨ k = 3 ∨ k = 4 by omega) with rfl | rfl | rfl | rfl | rfl
      · exact s16_0
      · exact s16_1
      · exact s16_2
      · exact s16_3
      · exact s16_4
      )) (by decide) ?_
    refine lv_sipush (v := (-1002)) hx hb dX8_line_116 (by decide) ?_
    exact r_iret hx hb hr hlocks hP hS (re2 (Option.some.inj hf)) dX8_line_119
  · replace hf := if_t c8 hf
    refine lv_sipush (v := (-1001)) hx hb dX8_line_11 (by decide) ?_
    exact r_iret hx hb hr hlocks hP hS (re2 (Option.some.inj hf)) dX8_line_14
/-! CarriedBack.value(II)I -/
abbrev rmX8_value : Room := { frames := 1, cells := 0, slots := 0, locals := 21 }
abbrev vX8_value : List Cond := Cond.code yX8_value cX8_value 3 (some .int) :: GW
def f_X8_value (x1 : Int32) (x2 : Int32) (h : PH) : Option (Int32 × PH) := bP (f_X0_hasLine 28 x1 h) (fun r5 h5 => if r5 = 0 then (some ((-1001), h5)) else (bO (f_X8_isSlot x2) (fun r12 => if r12 = 0 then (some ((-1001), h5)) else (bO (ag h5 32 64 ((x1 * 16) + x2)) (fun v35 => some (v35, h5))))))
set_option maxHeartbeats 4000000 in
set_option maxRecDepth 100000 in
theorem k_X8_value (l : Launch) {G : GC} (hG : GOK G) {x1 : Int32} {x2 : Int32} {rr : Int32} {h hh : PH} (hf : f_X8_value x1 x2 h = some (rr, hh)) : CI l yX8_value vX8_value rmX8_value G [.ref (gB G 0), .int x1, .int x2] h rr hh := by
  refine Met.ofW (cc := cX8_value) (maxL := 3) (ret := (some .int)) (by decide +kernel) rfl ?_
  intro p e s m args below meth c s₁ B hml hv
  obtain ⟨rfl, hP, hK⟩ := hv
  have C : MC l G p s m _ meth c RX8 cX8_value 3 (some .int) := ⟨B.exec, B.bytes, B.returns, B.notSynchronized, hml, findClass_of_methodNamed B.named, fun w hw => atoms_spec (ws := vX8_value) B.pre w (List.mem_cons_of_mem _ hw), hK⟩
  obtain ⟨hx, hb, hr, hlocks, -, hown, hts, -⟩ := id C
  have hl := lv_entry ([.ref (gB G 0), .int x1, .int x2]) (n := 3) (Nat.le_of_ble_eq_true rfl)
  rw [lg_entry_eq]
  generalize (lg_sl ([.ref (gB G 0), .int x1, .int x2]) ++ List.replicate (3 - (lg_sl ([.ref (gB G 0), .int x1, .int x2])).length) Slot.unset).toArray = ls at hl ⊢
  have hl : lv_has ls 3 [(0, .ref (gB G 0)), (1, .int x1), (2, .int x2)] := hl
  have hS : SP G s s.heap [] := va_S.rf
  replace hP : WP G h s.heap := hP
  rw [f_X8_value] at hf
  refine lv_aload_n hx hb dX8_value_0 rfl (lv_at hl 0 rfl) ?_
  refine r_get (a := 0) (v := .ref (gB G 28)) (C := RX8) (T := TX8) (N := 14) hx hb hts hinX8 hown hK hP (ltX8 rfl) (ceX8 rfl) rfl 6 (by decide) wd368 rfl dX8_value_1 ?_
  refine lv_iload_n hx hb dX8_value_4 rfl (lv_at hl 1 rfl) ?_
  obtain ⟨r5, h5, er5, hf⟩ := bP_s hf
  refine r_callI (va_runV (As := [.int x1]) (rest := []) ⟨hx, hb, hml, hown, hts⟩ (k_X0_hasLine l hG 28 (Or.inl rfl) er5) (cwV 1 hts (gV wd684 wd685 wd686 wd78 wd687) rfl rfl rfl (by decide +kernel) ⟨Nat.le_of_ble_eq_true rfl, Nat.le_of_ble_eq_true rfl⟩) (r_pv hK hP hS (ltX0 (Or.inl rfl)) (ceX0 (Or.inl rfl)) rfl) rfl rfl hl.1 rfl (lv_room (Nat.le_of_ble_eq_true rfl)) dX8_value_5 ⟨Nat.le_of_ble_eq_true rfl, Nat.le_of_ble_eq_true rfl⟩) hS (fun H locs hP hS => ?_)
  refine lv_if_eq (tgt := 18) hx hb dX8_value_8 (by decide) (fun c8 => ?_) (fun c8 => ?_)
  · replace hf := if_t c8 hf
    refine lv_sipush (v := (-1001)) hx hb dX8_value_18 (by decide) ?_
    exact r_iret hx hb hr hlocks hP hS (re2 (Option.some.inj hf)) dX8_value_21
  · replace hf := if_f c8 hf
    refine lv_iload_n hx hb dX8_value_11 rfl (lv_at hl 2 rfl) ?_
    obtain ⟨r12, er12, hf⟩ := bO_s hf
    refine r_callI (va_runS (As := [.int x2]) (rest := []) ⟨hx, hb, hml, hown, hts⟩ (k_X8_isSlot l hG (h := h5) er12) (va_cwS 1 hts (gS wd649 wd650 wd73 wd651) rfl rfl rfl (by decide +kernel) ⟨Nat.le_of_ble_eq_true rfl, Nat.le_of_ble_eq_true rfl⟩) (r_ps hK hP hS) rfl rfl hl.1 rfl (lv_room (Nat.le_of_ble_eq_true rfl)) dX8_value_12 ⟨Nat.le_of_ble_eq_true rfl, Nat.le_of_ble_eq_true rfl⟩) hS (fun H locs hP hS => ?_)
    refine lv_if_ne (tgt := 22) hx hb dX8_value_15 (by decide) (fun c15 => ?_) (fun c15 => ?_)
    · replace hf := if_f c15 hf
      refine lv_aload_n hx hb dX8_value_22 rfl (lv_at hl 0 rfl) ?_
      refine r_get (a := 0) (v := .ref (gB G 28)) (C := RX8) (T := TX8) (N := 14) hx hb hts hinX8 hown hK hP (ltX8 rfl) (ceX8 rfl) rfl 6 (by decide) wd368 rfl dX8_value_23 ?_
      refine r_get (a := 28) (v := .ref (gB G 32)) (C := RX0) (T := TX0) (N := 10) hx hb hts hinX0 hown hK hP (ltX0 (Or.inl rfl)) (ceX0 (Or.inl rfl)) rfl 4 (by decide) wd247 rfl dX8_value_26 ?_
      refine lv_iload_n hx hb dX8_value_29 rfl (lv_at hl 1 rfl) ?_
      refine lv_bipush (v := 16) hx hb dX8_value_30 (by decide) ?_
      refine lv_imul hx hb dX8_value_32 ?_
      refine lv_iload_n hx hb dX8_value_33 rfl (lv_at hl 2 rfl) ?_
      refine lv_iadd hx hb dX8_value_34 ?_
      obtain ⟨v35, ev35, hf⟩ := bO_s hf
      refine r_iald hx hb hK hP (arX0_4 (Or.inl rfl)) ev35 dX8_value_35 ?_
      exact r_iret hx hb hr hlocks hP hS (re2 (Option.some.inj hf)) dX8_value_36
    · replace hf := if_t c15 hf
      refine lv_sipush (v := (-1001)) hx hb dX8_value_18 (by decide) ?_
      exact r_iret hx hb hr hlocks hP hS (re2 (Option.some.inj hf)) dX8_value_21
/-! CarriedBack$Trunk.clashOf(I[II)I -/
abbrev rmX7_clashOf : Room := { frames := 1, cells := 0, slots := 0, locals := 21 }
abbrev vX7_clashOf : List Cond := Cond.code yX7_clashOf cX7_clashOf 7 (some .int) :: GW
def f_X7_clashOf_21 (a0 : Nat) (V2 n2 : Nat) (x1 : Int32) (x3 : Int32) (x4 : Int32) : Nat → Int32 → Int32 → PH → Option (Int32 × PH)
  | 0, _, _, _ => none
  | n + 1, x5, x6, h => if (16 : Int32) ≤ x6 then (some (x5, h)) else (bO (f_X8_has x4 x6) (fun r32 => if r32 = 0 then ((f_X7_clashOf_21 a0 V2 n2 x1 x3 x4 n) x5 (x6 + 1) h) else (bO (ag h V2 n2 ((x3 * 16) + x6)) (fun v46 => bO (ag h (a0 + 5) 400 ((x1 * 16) + x6)) (fun v58 => if v46 = v58 then ((f_X7_clashOf_21 a0 V2 n2 x1 x3 x4 n) x5 (x6 + 1) h) else (lt' ((x5 ||| (1 <<< (x6 &&& 31)))) (fun x5_69 => (f_X7_clashOf_21 a0 V2 n2 x1 x3 x4 n) x5_69 (x6 + 1) h)))))))
set_option maxHeartbeats 4000000 in
set_option maxRecDepth 100000 in
theorem w_X7_clashOf_21 {l : Launch} {G : GC} (hG : GOK G) {rr : Int32} {hh : PH} {p : Program} {e : Env} {s : State} {m : MethodId} {args : Array Value} {below : List Frame} {meth : Method} {c : Code} (C : MC l G p s m args meth c RX7 cX7_clashOf 7 (some .int)) (a0 : Nat) (ha0 : kdX7 a0) (V2 n2 : Nat) (hV2 : isA V2 n2) (x1 : Int32) (x3 : Int32) (x4 : Int32) : ∀ (n : Nat) (x5 : Int32) (x6 : Int32) (h : PH) (H : Heap) (locs : List Loc) (ls : Array Slot), lv_has ls 7 [(0, .ref (gB G a0)), (1, .int x1), (2, .ref (gB G V2)), (3, .int x3), (4, .int x4), (5, .int x5), (6, .int x6)] → WP G h H → SP G s H locs → f_X7_clashOf_21 a0 V2 n2 x1 x3 x4 n x5 x6 h = some (rr, hh) → W p l e rmX7_clashOf s m args below meth c H locs 0 0 (MQ below (QI G rr hh) args s 0 0 (gA G)) (F0 m 21 ls []) := by
  obtain ⟨hx, hb, hr, hlocks, hml, hown, hts, hK⟩ := id C
  intro n
  induction n with
  | zero => intro x5 x6 h H locs ls hl hP hS hf; rw [f_X7_clashOf_21] at hf; cases hf
  | succ n ih =>
    intro x5 x6 h H locs ls hl hP hS hf
    rw [f_X7_clashOf_21] at hf
    refine lv_iload hx hb dX7_clashOf_21 (lv_at hl 6 rfl) ?_
    refine lv_bipush (v := 16) hx hb dX7_clashOf_23 (by decide) ?_
    refine lv_icmp_ge (tgt := 77) hx hb dX7_clashOf_25 (by decide) (fun c25 => ?_) (fun c25 => ?_)
    · replace hf := if_t c25 hf
      refine lv_iload hx hb dX7_clashOf_77 (lv_at hl 5 rfl) ?_
      exact r_iret hx hb hr hlocks hP hS (re2 (Option.some.inj hf)) dX7_clashOf_79
    · replace hf := if_f c25 hf
      refine lv_iload hx hb dX7_clashOf_28 (lv_at hl 4 rfl) ?_
      refine lv_iload hx hb dX7_clashOf_30 (lv_at hl 6 rfl) ?_
      obtain ⟨r32, er32, hf⟩ := bO_s hf
      refine r_callI (va_runSN (As := [.int x4, .int x6]) (rest := []) ⟨hx, hb, hml, hown, hts⟩ (k_X8_has l hG (h := h) er32) ⟨va_cnB 2 hts (gC wd523) rfl rfl rfl (host := "CarriedBack") (hK.2.1 _ (by decide +kernel)) (hts _ wd73) (by decide +kernel) ⟨Nat.le_of_ble_eq_true rfl, Nat.le_of_ble_eq_true rfl⟩, hts _ wd522, trivial⟩ (r_ps hK hP hS) rfl rfl hl.1 rfl (lv_room (Nat.le_of_ble_eq_true rfl)) dX7_clashOf_32 ⟨Nat.le_of_ble_eq_true rfl, Nat.le_of_ble_eq_true rfl⟩) hS (fun H locs hP hS => ?_)
      refine lv_if_eq (tgt := 71) hx hb dX7_clashOf_35 (by decide) (fun c35 => ?_) (fun c35 => ?_)
      · replace hf := if_t c35 hf
        refine lv_iinc (v := (x6 + 1)) (lv' := [(6, .int (x6 + 1)), (0, .ref (gB G a0)), (1, .int x1), (2, .ref (gB G V2)), (3, .int x3), (4, .int x4), (5, .int x5)]) hx hb dX7_clashOf_71 hl (k := 6) rfl rfl (by decide) rfl (fun ls hl => ?_)
        refine lv_goto (tgt := 21) hx hb dX7_clashOf_74 (by decide) ?_
        exact ih x5 (x6 + 1) h _ _ _ (lv_sub hl [1, 2, 3, 4, 5, 6, 0] rfl) hP hS hf
      · replace hf := if_f c35 hf
        refine lv_aload_n hx hb dX7_clashOf_38 rfl (lv_at hl 2 rfl) ?_
        refine lv_iload_n hx hb dX7_clashOf_39 rfl (lv_at hl 3 rfl) ?_
        refine lv_bipush (v := 16) hx hb dX7_clashOf_40 (by decide) ?_
        refine lv_imul hx hb dX7_clashOf_42 ?_
        refine lv_iload hx hb dX7_clashOf_43 (lv_at hl 6 rfl) ?_
        refine lv_iadd hx hb dX7_clashOf_45 ?_
        obtain ⟨v46, ev46, hf⟩ := bO_s hf
        refine r_iald hx hb hK hP hV2 ev46 dX7_clashOf_46 ?_
        refine lv_aload_n hx hb dX7_clashOf_47 rfl (lv_at hl 0 rfl) ?_
        refine r_get (a := a0) (v := .ref (gB G (a0 + 5))) (C := RX7) (T := TX7) (N := 10) hx hb hts hinX7 hown hK hP (ltX7 ha0) (ceX7 ha0) rfl 5 (by decide) wd166 rfl dX7_clashOf_48 ?_
        refine lv_iload_n hx hb dX7_clashOf_51 rfl (lv_at hl 1 rfl) ?_
        refine lv_bipush (v := 16) hx hb dX7_clashOf_52 (by decide) ?_
        refine lv_imul hx hb dX7_clashOf_54 ?_
        refine lv_iload hx hb dX7_clashOf_55 (lv_at hl 6 rfl) ?_
        refine lv_iadd hx hb dX7_clashOf_57 ?_
        obtain ⟨v58, ev58, hf⟩ := bO_s hf
        refine r_iald hx hb hK hP (arX7_5 ha0) ev58 dX7_clashOf_58 ?_
        refine lv_icmp_eq (tgt := 71) hx hb dX7_clashOf_59 (by decide) (fun c59 => ?_) (fun c59 => ?_)
        · replace hf := if_t c59 hf
          refine lv_iinc (v := (x6 + 1)) (lv' := [(6, .int (x6 + 1)), (0, .ref (gB G a0)), (1, .int x1), (2, .ref (gB G V2)), (3, .int x3), (4, .int x4), (5, .int x5)]) hx hb dX7_clashOf_71 hl (k := 6) rfl rfl (by decide) rfl (fun ls hl => ?_)
          refine lv_goto (tgt := 21) hx hb dX7_clashOf_74 (by decide) ?_
          exact ih x5 (x6 + 1) h _ _ _ (lv_sub hl [1, 2, 3, 4, 5, 6, 0] rfl) hP hS hf
        · replace hf := if_f c59 hf
          refine lv_iload hx hb dX7_clashOf_62 (lv_at hl 5 rfl) ?_
          refine lv_iconst (v := 1) hx hb dX7_clashOf_64 (by decide) ?_
          refine lv_iload hx hb dX7_clashOf_65 (lv_at hl 6 rfl) ?_
          refine lv_ishl hx hb dX7_clashOf_67 ?_
          refine lv_ior hx hb dX7_clashOf_68 ?_
          refine lv_topi (fun x5_69 ex5_69 => ?_)
          replace hf := lt_at ex5_69 hf
          refine lv_istore (lv' := [(5, .int x5_69), (0, .ref (gB G a0)), (1, .int x1), (2, .ref (gB G V2)), (3, .int x3), (4, .int x4), (6, .int x6)]) hx hb dX7_clashOf_69 hl (by decide) rfl (fun ls hl => ?_)
          refine lv_iinc (v := (x6 + 1)) (lv' := [(6, .int (x6 + 1)), (5, .int x5_69), (0, .ref (gB G a0)), (1, .int x1), (2, .ref (gB G V2)), (3, .int x3), (4, .int x4)]) hx hb dX7_clashOf_71 hl (k := 6) rfl rfl (by decide) rfl (fun ls hl => ?_)
          refine lv_goto (tgt := 21) hx hb dX7_clashOf_74 (by decide) ?_
          exact ih x5_69 (x6 + 1) h _ _ _ (lv_sub hl [2, 3, 4, 5, 6, 1, 0] rfl) hP hS hf
def f_X7_clashOf (a0 : Nat) (V2 n2 : Nat) (x1 : Int32) (x3 : Int32) (h : PH) : Option (Int32 × PH) := bO (ag h (a0 + 1) 24 x1) (fun v5 => bO (ag h (a0 + 2) 24 x1) (fun v11 => lt' ((v5 ||| v11)) (fun x4_13 => f_X7_clashOf_21 a0 V2 n2 x1 x3 x4_13 FU 0 0 h)))
set_option maxHeartbeats 4000000 in
set_option maxRecDepth 100000 in
theorem k_X7_clashOf (l : Launch) {G : GC} (hG : GOK G) (a0 : Nat) (ha0 : kdX7 a0) (V2 n2 : Nat) (hV2 : isA V2 n2) {x1 : Int32} {x3 : Int32} {rr : Int32} {h hh : PH} (hf : f_X7_clashOf a0 V2 n2 x1 x3 h = some (rr, hh)) : CI l yX7_clashOf vX7_clashOf rmX7_clashOf G [.ref (gB G a0), .int x1, .ref (gB G V2), .int x3] h rr hh := by
  refine Met.ofW (cc := cX7_clashOf) (maxL := 7) (ret := (some .int)) (by decide +kernel) rfl ?_
  intro p e s m args below meth c s₁ B hml hv
  obtain ⟨rfl, hP, hK⟩ := hv
  have C : MC l G p s m _ meth c RX7 cX7_clashOf 7 (some .int) := ⟨B.exec, B.bytes, B.returns, B.notSynchronized, hml, findClass_of_methodNamed B.named, fun w hw => atoms_spec (ws := vX7_clashOf) B.pre w (List.mem_cons_of_mem _ hw), hK⟩
  obtain ⟨hx, hb, hr, hlocks, -, hown, hts, -⟩ := id C
  have hl := lv_entry ([.ref (gB G a0), .int x1, .ref (gB G V2), .int x3]) (n := 7) (Nat.le_of_ble_eq_true rfl)
  rw [lg_entry_eq]
  generalize (lg_sl ([.ref (gB G a0), .int x1, .ref (gB G V2), .int x3]) ++ List.replicate (7 - (lg_sl ([.ref (gB G a0), .int x1, .ref (gB G V2), .int x3])).length) Slot.unset).toArray = ls at hl ⊢
  have hl : lv_has ls 7 [(0, .ref (gB G a0)), (1, .int x1), (2, .ref (gB G V2)), (3, .int x3)] := hl
  have hS : SP G s s.heap [] := va_S.rf
  replace hP : WP G h s.heap := hP
  rw [f_X7_clashOf] at hf
  refine lv_aload_n hx hb dX7_clashOf_0 rfl (lv_at hl 0 rfl) ?_
  refine r_get (a := a0) (v := .ref (gB G (a0 + 1))) (C := RX7) (T := TX7) (N := 10) hx hb hts hinX7 hown hK hP (ltX7 ha0) (ceX7 ha0) rfl 1 (by decide) wd158 rfl dX7_clashOf_1 ?_
  refine lv_iload_n hx hb dX7_clashOf_4 rfl (lv_at hl 1 rfl) ?_
  obtain ⟨v5, ev5, hf⟩ := bO_s hf
  refine r_iald hx hb hK hP (arX7_1 ha0) ev5 dX7_clashOf_5 ?_
  refine lv_aload_n hx hb dX7_clashOf_6 rfl (lv_at hl 0 rfl) ?_
  refine r_get (a := a0) (v := .ref (gB G (a0 + 2))) (C := RX7) (T := TX7) (N := 10) hx hb hts hinX7 hown hK hP (ltX7 ha0) (ceX7 ha0) rfl 2 (by decide) wd160 rfl dX7_clashOf_7 ?_
  refine lv_iload_n hx hb dX7_clashOf_10 rfl (lv_at hl 1 rfl) ?_
  obtain ⟨v11, ev11, hf⟩ := bO_s hf
  refine r_iald hx hb hK hP (arX7_2 ha0) ev11 dX7_clashOf_11 ?_
  refine lv_ior hx hb dX7_clashOf_12 ?_
  refine lv_topi (fun x4_13 ex4_13 => ?_)
  replace hf := lt_at ex4_13 hf
  refine lv_istore (lv' := [(4, .int x4_13), (0, .ref (gB G a0)), (1, .int x1), (2, .ref (gB G V2)), (3, .int x3)]) hx hb dX7_clashOf_13 hl (by decide) rfl (fun ls hl => ?_)
  refine lv_iconst (v := 0) hx hb dX7_clashOf_15 (by decide) ?_
  refine lv_istore (lv' := [(5, .int 0), (4, .int x4_13), (0, .ref (gB G a0)), (1, .int x1), (2, .ref (gB G V2)), (3, .int x3)]) hx hb dX7_clashOf_16 hl (by decide) rfl (fun ls hl => ?_)
  refine lv_iconst (v := 0) hx hb dX7_clashOf_18 (by decide) ?_
  refine lv_istore (lv' := [(6, .int 0), (5, .int 0), (4, .int x4_13), (0, .ref (gB G a0)), (1, .int x1), (2, .ref (gB G V2)), (3, .int x3)]) hx hb dX7_clashOf_19 hl (by decide) rfl (fun ls hl => ?_)
  exact w_X7_clashOf_21 hG C a0 ha0 V2 n2 hV2 x1 x3 x4_13 FU 0 0 h _ _ _ (lv_sub hl [3, 4, 5, 6, 2, 1, 0] rfl) hP hS hf
/-! CarriedBack.clash(II)I -/
abbrev rmX8_clash : Room := { frames := 2, cells := 0, slots := 0, locals := 47 }
abbrev vX8_clash : List Cond := Cond.code yX8_clash cX8_clash 3 (some .int) :: GW
def f_X8_clash (x1 : Int32) (x2 : Int32) (h : PH) : Option (Int32 × PH) := bP (f_X0_hasLine 28 x1 h) (fun r5 h5 => if r5 = 0 then (some ((-1001), h5)) else (bP (f_X7_hasChange 4 x2 h5) (fun r16 h16 => if r16 = 0 then (some ((-1001), h16)) else (bO (ag h16 30 4 x1) (fun v34 => bO (f_X8_has v34 x2) (fun r36 => if r36 = 0 then (bP (f_X7_clashOf 4 32 64 x2 x1 h16) (fun r59 h59 => some (r59, h59))) else (some ((-1003), h16))))))))
set_option maxHeartbeats 4000000 in
set_option maxRecDepth 100000 in
theorem k_X8_clash (l : Launch) {G : GC} (hG : GOK G) {x1 : Int32} {x2 : Int32} {rr : Int32} {h hh : PH} (hf : f_X8_clash x1 x2 h = some (rr, hh)) : CI l yX8_clash vX8_clash rmX8_clash G [.ref (gB G 0), .int x1, .int x2] h rr hh := by
  refine Met.ofW (cc := cX8_clash) (maxL := 3) (ret := (some .int)) (by decide +kernel) rfl ?_
  intro p e s m args below meth c s₁ B hml hv
  obtain ⟨rfl, hP, hK⟩ := hv
  have C : MC l G p s m _ meth c RX8 cX8_clash 3 (some .int) := ⟨B.exec, B.bytes, B.returns, B.notSynchronized, hml, findClass_of_methodNamed B.named, fun w hw => atoms_spec (ws := vX8_clash) B.pre w (List.mem_cons_of_mem _ hw), hK⟩
  obtain ⟨hx, hb, hr, hlocks, -, hown, hts, -⟩ := id C
  have hl := lv_entry ([.ref (gB G 0), .int x1, .int x2]) (n := 3) (Nat.le_of_ble_eq_true rfl)
  rw [lg_entry_eq]
  generalize (lg_sl ([.ref (gB G 0), .int x1, .int x2]) ++ List.replicate (3 - (lg_sl ([.ref (gB G 0), .int x1, .int x2])).length) Slot.unset).toArray = ls at hl ⊢
  have hl : lv_has ls 3 [(0, .ref (gB G 0)), (1, .int x1), (2, .int x2)] := hl
  have hS : SP G s s.heap [] := va_S.rf
  replace hP : WP G h s.heap := hP
  rw [f_X8_clash] at hf
  refine lv_aload_n hx hb dX8_clash_0 rfl (lv_at hl 0 rfl) ?_
  refine r_get (a := 0) (v := .ref (gB G 28)) (C := RX8) (T := TX8) (N := 14) hx hb hts hinX8 hown hK hP (ltX8 rfl) (ceX8 rfl) rfl 6 (by decide) wd368 rfl dX8_clash_1 ?_
  refine lv_iload_n hx hb dX8_clash_4 rfl (lv_at hl 1 rfl) ?_
  obtain ⟨r5, h5, er5, hf⟩ := bP_s hf
  refine r_callI (va_runV (As := [.int x1]) (rest := []) ⟨hx, hb, hml, hown, hts⟩ (k_X0_hasLine l hG 28 (Or.inl rfl) er5) (cwV 1 hts (gV wd684 wd685 wd686 wd78 wd687) rfl rfl rfl (by decide +kernel) ⟨Nat.le_of_ble_eq_true rfl, Nat.le_of_ble_eq_true rfl⟩) (r_pv hK hP hS (ltX0 (Or.inl rfl)) (ceX0 (Or.inl rfl)) rfl) rfl rfl hl.1 rfl (lv_room (Nat.le_of_ble_eq_true rfl)) dX8_clash_5 ⟨Nat.le_of_ble_eq_true rfl, Nat.le_of_ble_eq_true rfl⟩) hS (fun H locs hP hS => ?_)
  refine lv_if_eq (tgt := 22) hx hb dX8_clash_8 (by decide) (fun c8 => ?_) (fun c8 => ?_)
  · replace hf := if_t c8 hf
    refine lv_sipush (v := (-1001)) hx hb dX8_clash_22 (by decide) ?_
    exact r_iret hx hb hr hlocks hP hS (re2 (Option.some.inj hf)) dX8_clash_25
  · replace hf := if_f c8 hf
    refine lv_aload_n hx hb dX8_clash_11 rfl (lv_at hl 0 rfl) ?_
    refine r_get (a := 0) (v := .ref (gB G 4)) (C := RX8) (T := TX8) (N := 14) hx hb hts hinX8 hown hK hP (ltX8 rfl) (ceX8 rfl) rfl 2 (by decide) wd364 rfl dX8_clash_12 ?_
    refine lv_iload_n hx hb dX8_clash_15 rfl (lv_at hl 2 rfl) ?_
    obtain ⟨r16, h16, er16, hf⟩ := bP_s hf
    refine r_callI (va_runV (As := [.int x2]) (rest := []) ⟨hx, hb, hml, hown, hts⟩ (k_X7_hasChange l hG 4 (Or.inl rfl) er16) (cwV 1 hts (gV wd629 wd630 wd631 wd76 wd632) rfl rfl rfl (by decide +kernel) ⟨Nat.le_of_ble_eq_true rfl, Nat.le_of_ble_eq_true rfl⟩) (r_pv hK hP hS (ltX7 (Or.inl rfl)) (ceX7 (Or.inl rfl)) rfl) rfl rfl hl.1 rfl (lv_room (Nat.le_of_ble_eq_true rfl)) dX8_clash_16 ⟨Nat.le_of_ble_eq_true rfl, Nat.le_of_ble_eq_true rfl⟩) hS (fun H locs hP hS => ?_)
    refine lv_if_ne (tgt := 26) hx hb dX8_clash_19 (by decide) (fun c19 => ?_) (fun c19 => ?_)
    · replace hf := if_f c19 hf
      refine lv_aload_n hx hb dX8_clash_26 rfl (lv_at hl 0 rfl) ?_
      refine r_get (a := 0) (v := .ref (gB G 28)) (C := RX8) (T := TX8) (N := 14) hx hb hts hinX8 hown hK hP (ltX8 rfl) (ceX8 rfl) rfl 6 (by decide) wd368 rfl dX8_clash_27 ?_
      refine r_get (a := 28) (v := .ref (gB G 30)) (C := RX0) (T := TX0) (N := 10) hx hb hts hinX0 hown hK hP (ltX0 (Or.inl rfl)) (ceX0 (Or.inl rfl)) rfl 2 (by decide) wd242 rfl dX8_clash_30 ?_
      refine lv_iload_n hx hb dX8_clash_33 rfl (lv_at hl 1 rfl) ?_
      obtain ⟨v34, ev34, hf⟩ := bO_s hf
      refine r_iald hx hb hK hP (arX0_2 (Or.inl rfl)) ev34 dX8_clash_34 ?_
      refine lv_iload_n hx hb dX8_clash_35 rfl (lv_at hl 2 rfl) ?_
      obtain ⟨r36, er36, hf⟩ := bO_s hf
      refine r_callI (va_runS (As := [.int v34, .int x2]) (rest := []) ⟨hx, hb, hml, hown, hts⟩ (k_X8_has l hG (h := h16) er36) (va_cwS 2 hts (gS wd704 wd522 wd73 wd523) rfl rfl rfl (by decide +kernel) ⟨Nat.le_of_ble_eq_true rfl, Nat.le_of_ble_eq_true rfl⟩) (r_ps hK hP hS) rfl rfl hl.1 rfl (lv_room (Nat.le_of_ble_eq_true rfl)) dX8_clash_36 ⟨Nat.le_of_ble_eq_true rfl, Nat.le_of_ble_eq_true rfl⟩) hS (fun H locs hP hS => ?_)
      refine lv_if_eq (tgt := 46) hx hb dX8_clash_39 (by decide) (fun c39 => ?_) (fun c39 => ?_)
      · replace hf := if_t c39 hf
        refine lv_aload_n hx hb dX8_clash_46 rfl (lv_at hl 0 rfl) ?_
        refine r_get (a := 0) (v := .ref (gB G 4)) (C := RX8) (T := TX8) (N := 14) hx hb hts hinX8 hown hK hP (ltX8 rfl) (ceX8 rfl) rfl 2 (by decide) wd364 rfl dX8_clash_47 ?_
        refine lv_iload_n hx hb dX8_clash_50 rfl (lv_at hl 2 rfl) ?_
        refine lv_aload_n hx hb dX8_clash_51 rfl (lv_at hl 0 rfl) ?_
        refine r_get (a := 0) (v := .ref (gB G 28)) (C := RX8) (T := TX8) (N := 14) hx hb hts hinX8 hown hK hP (ltX8 rfl) (ceX8 rfl) rfl 6 (by decide) wd368 rfl dX8_clash_52 ?_
        refine r_get (a := 28) (v := .ref (gB G 32)) (C := RX0) (T := TX0) (N := 10) hx hb hts hinX0 hown hK hP (ltX0 (Or.inl rfl)) (ceX0 (Or.inl rfl)) rfl 4 (by decide) wd247 rfl dX8_clash_55 ?_
        refine lv_iload_n hx hb dX8_clash_58 rfl (lv_at hl 1 rfl) ?_
        obtain ⟨r59, h59, er59, hf⟩ := bP_s hf
        refine r_callI (va_runV (As := [.int x2, .ref (gB G 32), .int x1]) (rest := []) ⟨hx, hb, hml, hown, hts⟩ (k_X7_clashOf l hG 4 (Or.inl rfl) 32 64 (arX0_4 (Or.inl rfl)) er59) (cwV 3 hts (gV wd705 wd706 wd707 wd76 wd708) rfl rfl rfl (by decide +kernel) ⟨Nat.le_of_ble_eq_true rfl, Nat.le_of_ble_eq_true rfl⟩) (r_pv hK hP hS (ltX7 (Or.inl rfl)) (ceX7 (Or.inl rfl)) rfl) rfl rfl hl.1 rfl (lv_room (Nat.le_of_ble_eq_true rfl)) dX8_clash_59 ⟨Nat.le_of_ble_eq_true rfl, Nat.le_of_ble_eq_true rfl⟩) hS (fun H locs hP hS => ?_)
        exact r_iret hx hb hr hlocks hP hS (re2 (Option.some.inj hf)) dX8_clash_62
      · replace hf := if_f c39 hf
        refine lv_sipush (v := (-1003)) hx hb dX8_clash_42 (by decide) ?_
        exact r_iret hx hb hr hlocks hP hS (re2 (Option.some.inj hf)) dX8_clash_45
    · replace hf := if_t c19 hf
      refine lv_sipush (v := (-1001)) hx hb dX8_clash_22 (by decide) ?_
      exact r_iret hx hb hr hlocks hP hS (re2 (Option.some.inj hf)) dX8_clash_25
/-! CarriedBack$Book.putOn(IILCarriedBack$Trunk;)V -/
abbrev rmX0_putOn : Room := { frames := 2, cells := 0, slots := 0, locals := 45 }
abbrev vX0_putOn : List Cond := Cond.code yX0_putOn cX0_putOn 4 none :: GW
def f_X0_putOn (a0 : Nat) (a3 : Nat) (x1 : Int32) (x2 : Int32) (h : PH) : Option PH := bO (f_X7_putOn a3 (a0 + 4) 64 x2 x1 h) (fun h7 => bO (ag h7 (a0 + 2) 4 x1) (fun v16 => bO (asg h7 (a0 + 2) 4 x1 (v16 ||| (1 <<< (x2 &&& 31)))) (fun h21 => some h21)))
set_option maxHeartbeats 4000000 in
set_option maxRecDepth 100000 in
theorem k_X0_putOn (l : Launch) {G : GC} (hG : GOK G) (a0 : Nat) (ha0 : kdX0 a0) (a3 : Nat) (ha3 : kdX7 a3) {x1 : Int32} {x2 : Int32} {h hh : PH} (hf : f_X0_putOn a0 a3 x1 x2 h = some hh) : CV l yX0_putOn vX0_putOn rmX0_putOn G [.ref (gB G a0), .int x1, .int x2, .ref (gB G a3)] h hh := by
  refine Met.ofW (cc := cX0_putOn) (maxL := 4) (ret := none) (by decide +kernel) rfl ?_
  intro p e s m args below meth c s₁ B hml hv
  obtain ⟨rfl, hP, hK⟩ := hv
  have C : MC l G p s m _ meth c RX0 cX0_putOn 4 none := ⟨B.exec, B.bytes, B.returns, B.notSynchronized, hml, findClass_of_methodNamed B.named, fun w hw => atoms_spec (ws := vX0_putOn) B.pre w (List.mem_cons_of_mem _ hw), hK⟩
  obtain ⟨hx, hb, hr, hlocks, -, hown, hts, -⟩ := id C
  have hl := lv_entry ([.ref (gB G a0), .int x1, .int x2, .ref (gB G a3)]) (n := 4) (Nat.le_of_ble_eq_true rfl)
  rw [lg_entry_eq]
  generalize (lg_sl ([.ref (gB G a0), .int x1, .int x2, .ref (gB G a3)]) ++ List.replicate (4 - (lg_sl ([.ref (gB G a0), .int x1, .int x2, .ref (gB G a3)])).length) Slot.unset).toArray = ls at hl ⊢
  have hl : lv_has ls 4 [(0, .ref (gB G a0)), (1, .int x1), (2, .int x2), (3, .ref (gB G a3))] := hl
  have hS : SP G s s.heap [] := va_S.rf
  replace hP : WP G h s.heap := hP
  rw [f_X0_putOn] at hf
  refine lv_aload_n hx hb dX0_putOn_0 rfl (lv_at hl 3 rfl) ?_
  refine lv_iload_n hx hb dX0_putOn_1 rfl (lv_at hl 2 rfl) ?_
  refine lv_aload_n hx hb dX0_putOn_2 rfl (lv_at hl 0 rfl) ?_
  refine r_get (a := a0) (v := .ref (gB G (a0 + 4))) (C := RX0) (T := TX0) (N := 10) hx hb hts hinX0 hown hK hP (ltX0 ha0) (ceX0 ha0) rfl 4 (by decide) wd245 rfl dX0_putOn_3 ?_
  refine lv_iload_n hx hb dX0_putOn_6 rfl (lv_at hl 1 rfl) ?_
  obtain ⟨h7, eh7, hf⟩ := bO_s hf
  refine r_callV (va_runV (As := [.int x2, .ref (gB G (a0 + 4)), .int x1]) (rest := []) ⟨hx, hb, hml, hown, hts⟩ (k_X7_putOn l hG a3 ha3 (a0 + 4) 64 (arX0_4 ha0) eh7) (cwV 3 hts (gV wd717 wd555 wd556 wd76 wd557) rfl rfl rfl (by decide +kernel) ⟨Nat.le_of_ble_eq_true rfl, Nat.le_of_ble_eq_true rfl⟩) (r_pv hK hP hS (ltX7 ha3) (ceX7 ha3) rfl) rfl rfl hl.1 rfl (lv_room (Nat.le_of_ble_eq_true rfl)) dX0_putOn_7 ⟨Nat.le_of_ble_eq_true rfl, Nat.le_of_ble_eq_true rfl⟩) hS (fun H locs hP hS => ?_)
  refine lv_aload_n hx hb dX0_putOn_10 rfl (lv_at hl 0 rfl) ?_
  refine r_get (a := a0) (v := .ref (gB G (a0 + 2))) (C := RX0) (T := TX0) (N := 10) hx hb hts hinX0 hown hK hP (ltX0 ha0) (ceX0 ha0) rfl 2 (by decide) wd239 rfl dX0_putOn_11 ?_
  refine lv_iload_n hx hb dX0_putOn_14 rfl (lv_at hl 1 rfl) ?_
  refine lv_dup2_11 hx hb dX0_putOn_15 rfl rfl ?_
  obtain ⟨v16, ev16, hf⟩ := bO_s hf
  refine r_iald hx hb hK hP (arX0_2 ha0) ev16 dX0_putOn_16 ?_
  refine lv_iconst (v := 1) hx hb dX0_putOn_17 (by decide) ?_
  refine lv_iload_n hx hb dX0_putOn_18 rfl (lv_at hl 2 rfl) ?_
  refine lv_ishl hx hb dX0_putOn_19 ?_
  refine lv_ior hx hb dX0_putOn_20 ?_
  obtain ⟨h21, eh21, hf⟩ := bO_s hf
  refine r_iast hG hx hb hK hP hS (arX0_2 ha0) eh21 dX0_putOn_21 (fun H locs hP hS => ?_)
  exact r_vret hx hb hr hlocks hP hS (Option.some.inj hf) dX0_putOn_22
/-! java/lang/Integer.bitCount(I)I -/
abbrev rmJ6_bitCount_0f7a4 : Room := { frames := 0, cells := 0, slots := 0, locals := 0 }
abbrev vJ6_bitCount_0f7a4 : List Cond := Cond.code yJ6_bitCount_0f7a4 cJ6_bitCount_0f7a4 1 (some .int) :: GW
def f_J6_bitCount_0f7a4 (x0 : Int32) : Option Int32 := lt' ((x0 - (((x0 : Int32).toUInt32 >>> ((1 : Int32).toUInt32 &&& Int32.toUInt32 31)).toInt32 &&& 1431655765))) (fun x0_9 => lt' (((x0_9 &&& 858993459) + (((x0_9 : Int32).toUInt32 >>> ((2 : Int32).toUInt32 &&& Int32.toUInt32 31)).toInt32 &&& 858993459))) (fun x0_23 => lt' (((x0_23 + ((x0_23 : Int32).toUInt32 >>> ((4 : Int32).toUInt32 &&& Int32.toUInt32 31)).toInt32) &&& 252645135)) (fun x0_33 => lt' ((x0_33 + ((x0_33 : Int32).toUInt32 >>> ((8 : Int32).toUInt32 &&& Int32.toUInt32 31)).toInt32)) (fun x0_40 => lt' ((x0_40 + ((x0_40 : Int32).toUInt32 >>> ((16 : Int32).toUInt32 &&& Int32.toUInt32 31)).toInt32)) (fun x0_47 => some (x0_47 &&& 63))))))
set_option maxHeartbeats 4000000 in
set_option maxRecDepth 100000 in
theorem k_J6_bitCount_0f7a4 (l : Launch) {G : GC} (hG : GOK G) {x0 : Int32} {rr : Int32} {h : PH} (hf : f_J6_bitCount_0f7a4 x0 = some rr) : CI l yJ6_bitCount_0f7a4 vJ6_bitCount_0f7a4 rmJ6_bitCount_0f7a4 G [.int x0] h rr h := by
  refine Met.ofW (cc := cJ6_bitCount_0f7a4) (maxL := 1) (ret := (some .int)) (by decide +kernel) rfl ?_
  intro p e s m args below meth c s₁ B hml hv
  obtain ⟨rfl, hP, hK⟩ := hv
  have C : MC l G p s m _ meth c RJ6 cJ6_bitCount_0f7a4 1 (some .int) := ⟨B.exec, B.bytes, B.returns, B.notSynchronized, hml, findClass_of_methodNamed B.named, fun w hw => atoms_spec (ws := vJ6_bitCount_0f7a4) B.pre w (List.mem_cons_of_mem _ hw), hK⟩
  obtain ⟨hx, hb, hr, hlocks, -, hown, hts, -⟩ := id C
  have hl := lv_entry ([.int x0]) (n := 1) (Nat.le_of_ble_eq_true rfl)
  rw [lg_entry_eq]
  generalize (lg_sl ([.int x0]) ++ List.replicate (1 - (lg_sl ([.int x0])).length) Slot.unset).toArray = ls at hl ⊢
  have hl : lv_has ls 1 [(0, .int x0)] := hl
  have hS : SP G s s.heap [] := va_S.rf
  replace hP : WP G h s.heap := hP
  rw [f_J6_bitCount_0f7a4] at hf
  refine lv_iload_n hx hb dJ6_bitCount_0f7a4_0 rfl (lv_at hl 0 rfl) ?_
  refine lv_iload_n hx hb dJ6_bitCount_0f7a4_1 rfl (lv_at hl 0 rfl) ?_
  refine lv_iconst (v := 1) hx hb dJ6_bitCount_0f7a4_2 (by decide) ?_
  refine lv_iushr hx hb dJ6_bitCount_0f7a4_3 rfl ?_
  refine lv_ldcw (v := 1431655765) hx hb hown (hts _ wd721) dJ6_bitCount_0f7a4_4 ?_
  refine lv_iand hx hb dJ6_bitCount_0f7a4_7 ?_
  refine lv_isub hx hb dJ6_bitCount_0f7a4_8 ?_
  refine lv_topi (fun x0_9 ex0_9 => ?_)
  replace hf := lt_at ex0_9 hf
  refine lv_istore_n (lv' := [(0, .int x0_9)]) hx hb dJ6_bitCount_0f7a4_9 rfl hl (by decide) rfl (fun ls hl => ?_)
  refine lv_iload_n hx hb dJ6_bitCount_0f7a4_10 rfl (lv_at hl 0 rfl) ?_
  refine lv_ldcw (v := 858993459) hx hb hown (hts _ wd722) dJ6_bitCount_0f7a4_11 ?_
  refine lv_iand hx hb dJ6_bitCount_0f7a4_14 ?_
  refine lv_iload_n hx hb dJ6_bitCount_0f7a4_15 rfl (lv_at hl 0 rfl) ?_
  refine lv_iconst (v := 2) hx hb dJ6_bitCount_0f7a4_16 (by decide) ?_
  refine lv_iushr hx hb dJ6_bitCount_0f7a4_17 rfl ?_
  refine lv_ldcw (v := 858993459) hx hb hown (hts _ wd722) dJ6_bitCount_0f7a4_18 ?_
  refine lv_iand hx hb dJ6_bitCount_0f7a4_21 ?_
  refine lv_iadd hx hb dJ6_bitCount_0f7a4_22 ?_
  refine lv_topi (fun x0_23 ex0_23 => ?_)
  replace hf := lt_at ex0_23 hf
  refine lv_istore_n (lv' := [(0, .int x0_23)]) hx hb dJ6_bitCount_0f7a4_23 rfl hl (by decide) rfl (fun ls hl => ?_)
  refine lv_iload_n hx hb dJ6_bitCount_0f7a4_24 rfl (lv_at hl 0 rfl) ?_
  refine lv_iload_n hx hb dJ6_bitCount_0f7a4_25 rfl (lv_at hl 0 rfl) ?_
  refine lv_iconst (v := 4) hx hb dJ6_bitCount_0f7a4_26 (by decide) ?_
  refine lv_iushr hx hb dJ6_bitCount_0f7a4_27 rfl ?_
  refine lv_iadd hx hb dJ6_bitCount_0f7a4_28 ?_
  refine lv_ldcw (v := 252645135) hx hb hown (hts _ wd723) dJ6_bitCount_0f7a4_29 ?_
  refine lv_iand hx hb dJ6_bitCount_0f7a4_32 ?_
  refine lv_topi (fun x0_33 ex0_33 => ?_)
  replace hf := lt_at ex0_33 hf
  refine lv_istore_n (lv' := [(0, .int x0_33)]) hx hb dJ6_bitCount_0f7a4_33 rfl hl (by decide) rfl (fun ls hl => ?_)
  refine lv_iload_n hx hb dJ6_bitCount_0f7a4_34 rfl (lv_at hl 0 rfl) ?_
  refine lv_iload_n hx hb dJ6_bitCount_0f7a4_35 rfl (lv_at hl 0 rfl) ?_
  refine lv_bipush (v := 8) hx hb dJ6_bitCount_0f7a4_36 (by decide) ?_
  refine lv_iushr hx hb dJ6_bitCount_0f7a4_38 rfl ?_
  refine lv_iadd hx hb dJ6_bitCount_0f7a4_39 ?_
  refine lv_topi (fun x0_40 ex0_40 => ?_)
  replace hf := lt_at ex0_40 hf
  refine lv_istore_n (lv' := [(0, .int x0_40)]) hx hb dJ6_bitCount_0f7a4_40 rfl hl (by decide) rfl (fun ls hl => ?_)
  refine lv_iload_n hx hb dJ6_bitCount_0f7a4_41 rfl (lv_at hl 0 rfl) ?_
  refine lv_iload_n hx hb dJ6_bitCount_0f7a4_42 rfl (lv_at hl 0 rfl) ?_
  refine lv_bipush (v := 16) hx hb dJ6_bitCount_0f7a4_43 (by decide) ?_
  refine lv_iushr hx hb dJ6_bitCount_0f7a4_45 rfl ?_
  refine lv_iadd hx hb dJ6_bitCount_0f7a4_46 ?_
  refine lv_topi (fun x0_47 ex0_47 => ?_)
  replace hf := lt_at ex0_47 hf
  refine lv_istore_n (lv' := [(0, .int x0_47)]) hx hb dJ6_bitCount_0f7a4_47 rfl hl (by decide) rfl (fun ls hl => ?_)
  refine lv_iload_n hx hb dJ6_bitCount_0f7a4_48 rfl (lv_at hl 0 rfl) ?_
  refine lv_bipush (v := 63) hx hb dJ6_bitCount_0f7a4_49 (by decide) ?_
  refine lv_iand hx hb dJ6_bitCount_0f7a4_51 ?_
  exact r_iret hx hb hr hlocks hP hS ⟨Option.some.inj hf, rfl⟩ dJ6_bitCount_0f7a4_52
/-! CarriedBack.pick(II)I -/
abbrev rmX8_pick : Room := { frames := 3, cells := 0, slots := 0, locals := 68 }
abbrev vX8_pick : List Cond := Cond.code yX8_pick cX8_pick 3 (some .int) :: GW
def f_X8_pick (x1 : Int32) (x2 : Int32) (h : PH) : Option (Int32 × PH) := bP (f_X0_hasLine 28 x1 h) (fun r5 h5 => if r5 = 0 then (some ((-1001), h5)) else (bP (f_X7_hasChange 4 x2 h5) (fun r16 h16 => if r16 = 0 then (some ((-1001), h16)) else (bO (ag h16 30 4 x1) (fun v34 => bO (f_X8_has v34 x2) (fun r36 => if r36 = 0 then (bP (f_X7_clashOf 4 32 64 x2 x1 h16) (fun r55 h55 => if r55 = 0 then (bO (f_X0_putOn 28 4 x1 x2 h55) (fun h75 => bO (ag h75 30 4 x1) (fun v86 => bO (f_J6_bitCount_0f7a4 v86) (fun r87 => some (r87, h75))))) else (some ((-1003), h55)))) else (some ((-1003), h16))))))))
set_option maxHeartbeats 4000000 in
set_option maxRecDepth 100000 in
theorem k_X8_pick (l : Launch) {G : GC} (hG : GOK G) {x1 : Int32} {x2 : Int32} {rr : Int32} {h hh : PH} (hf : f_X8_pick x1 x2 h = some (rr, hh)) : CI l yX8_pick vX8_pick rmX8_pick G [.ref (gB G 0), .int x1, .int x2] h rr hh := by
  refine Met.ofW (cc := cX8_pick) (maxL := 3) (ret := (some .int)) (by decide +kernel) rfl ?_
  intro p e s m args below meth c s₁ B hml hv
  obtain ⟨rfl, hP, hK⟩ := hv
  have C : MC l G p s m _ meth c RX8 cX8_pick 3 (some .int) := ⟨B.exec, B.bytes, B.returns, B.notSynchronized, hml, findClass_of_methodNamed B.named, fun w hw => atoms_spec (ws := vX8_pick) B.pre w (List.mem_cons_of_mem _ hw), hK⟩
  obtain ⟨hx, hb, hr, hlocks, -, hown, hts, -⟩ := id C
  have hl := lv_entry ([.ref (gB G 0), .int x1, .int x2]) (n := 3) (Nat.le_of_ble_eq_true rfl)
  rw [lg_entry_eq]
  generalize (lg_sl ([.ref (gB G 0), .int x1, .int x2]) ++ List.replicate (3 - (lg_sl ([.ref (gB G 0), .int x1, .int x2])).length) Slot.unset).toArray = ls at hl ⊢
  have hl : lv_has ls 3 [(0, .ref (gB G 0)), (1, .int x1), (2, .int x2)] := hl
  have hS : SP G s s.heap [] := va_S.rf
  replace hP : WP G h s.heap := hP
  rw [f_X8_pick] at hf
  refine lv_aload_n hx hb dX8_pick_0 rfl (lv_at hl 0 rfl) ?_
  refine r_get (a := 0) (v := .ref (gB G 28)) (C := RX8) (T := TX8) (N := 14) hx hb hts hinX8 hown hK hP (ltX8 rfl) (ceX8 rfl) rfl 6 (by decide) wd368 rfl dX8_pick_1 ?_
  refine lv_iload_n hx hb dX8_pick_4 rfl (lv_at hl 1 rfl) ?_
  obtain ⟨r5, h5, er5, hf⟩ := bP_s hf
  refine r_callI (va_runV (As := [.int x1]) (rest := []) ⟨hx, hb, hml, hown, hts⟩ (k_X0_hasLine l hG 28 (Or.inl rfl) er5) (cwV 1 hts (gV wd684 wd685 wd686 wd78 wd687) rfl rfl rfl (by decide +kernel) ⟨Nat.le_of_ble_eq_true rfl, Nat.le_of_ble_eq_true rfl⟩) (r_pv hK hP hS (ltX0 (Or.inl rfl)) (ceX0 (Or.inl rfl)) rfl) rfl rfl hl.1 rfl (lv_room (Nat.le_of_ble_eq_true rfl)) dX8_pick_5 ⟨Nat.le_of_ble_eq_true rfl, Nat.le_of_ble_eq_true rfl⟩) hS (fun H locs hP hS => ?_)
  refine lv_if_eq (tgt := 22) hx hb dX8_pick_8 (by decide) (fun c8 => ?_) (fun c8 => ?_)
  · replace hf := if_t c8 hf
    refine lv_sipush (v := (-1001)) hx hb dX8_pick_22 (by decide) ?_
    exact r_iret hx hb hr hlocks hP hS (re2 (Option.some.inj hf)) dX8_pick_25
  · replace hf := if_f c8 hf
    refine lv_aload_n hx hb dX8_pick_11 rfl (lv_at hl 0 rfl) ?_
    refine r_get (a := 0) (v := .ref (gB G 4)) (C := RX8) (T := TX8) (N := 14) hx hb hts hinX8 hown hK hP (ltX8 rfl) (ceX8 rfl) rfl 2 (by decide) wd364 rfl dX8_pick_12 ?_
    refine lv_iload_n hx hb dX8_pick_15 rfl (lv_at hl 2 rfl) ?_
    obtain ⟨r16, h16, er16, hf⟩ := bP_s hf
    refine r_callI (va_runV (As := [.int x2]) (rest := []) ⟨hx, hb, hml, hown, hts⟩ (k_X7_hasChange l hG 4 (Or.inl rfl) er16) (cwV 1 hts (gV wd629 wd630 wd631 wd76 wd632) rfl rfl rfl (by decide +kernel) ⟨Nat.le_of_ble_eq_true rfl, Nat.le_of_ble_eq_true rfl⟩) (r_pv hK hP hS (ltX7 (Or.inl rfl)) (ceX7 (Or.inl rfl)) rfl) rfl rfl hl.1 rfl (lv_room (Nat.le_of_ble_eq_true rfl)) dX8_pick_16 ⟨Nat.le_of_ble_eq_true rfl, Nat.le_of_ble_eq_true rfl⟩) hS (fun H locs hP hS => ?_)
    refine lv_if_ne (tgt := 26) hx hb dX8_pick_19 (by decide) (fun c19 => ?_) (fun c19 => ?_)
    · replace hf := if_f c19 hf
      refine lv_aload_n hx hb dX8_pick_26 rfl (lv_at hl 0 rfl) ?_
      refine r_get (a := 0) (v := .ref (gB G 28)) (C := RX8) (T := TX8) (N := 14) hx hb hts hinX8 hown hK hP (ltX8 rfl) (ceX8 rfl) rfl 6 (by decide) wd368 rfl dX8_pick_27 ?_
      refine r_get (a := 28) (v := .ref (gB G 30)) (C := RX0) (T := TX0) (N := 10) hx hb hts hinX0 hown hK hP (ltX0 (Or.inl rfl)) (ceX0 (Or.inl rfl)) rfl 2 (by decide) wd242 rfl dX8_pick_30 ?_
      refine lv_iload_n hx hb dX8_pick_33 rfl (lv_at hl 1 rfl) ?_
      obtain ⟨v34, ev34, hf⟩ := bO_s hf
      refine r_iald hx hb hK hP (arX0_2 (Or.inl rfl)) ev34 dX8_pick_34 ?_
      refine lv_iload_n hx hb dX8_pick_35 rfl (lv_at hl 2 rfl) ?_
      obtain ⟨r36, er36, hf⟩ := bO_s hf
      refine r_callI (va_runS (As := [.int v34, .int x2]) (rest := []) ⟨hx, hb, hml, hown, hts⟩ (k_X8_has l hG (h := h16) er36) (va_cwS 2 hts (gS wd704 wd522 wd73 wd523) rfl rfl rfl (by decide +kernel) ⟨Nat.le_of_ble_eq_true rfl, Nat.le_of_ble_eq_true rfl⟩) (r_ps hK hP hS) rfl rfl hl.1 rfl (lv_room (Nat.le_of_ble_eq_true rfl)) dX8_pick_36 ⟨Nat.le_of_ble_eq_true rfl, Nat.le_of_ble_eq_true rfl⟩) hS (fun H locs hP hS => ?_)
      refine lv_if_ne (tgt := 61) hx hb dX8_pick_39 (by decide) (fun c39 => ?_) (fun c39 => ?_)
      · replace hf := if_f c39 hf
        refine lv_sipush (v := (-1003)) hx hb dX8_pick_61 (by decide) ?_
        exact r_iret hx hb hr hlocks hP hS (re2 (Option.some.inj hf)) dX8_pick_64
      · replace hf := if_t c39 hf
        refine lv_aload_n hx hb dX8_pick_42 rfl (lv_at hl 0 rfl) ?_
        refine r_get (a := 0) (v := .ref (gB G 4)) (C := RX8) (T := TX8) (N := 14) hx hb hts hinX8 hown hK hP (ltX8 rfl) (ceX8 rfl) rfl 2 (by decide) wd364 rfl dX8_pick_43 ?_
        refine lv_iload_n hx hb dX8_pick_46 rfl (lv_at hl 2 rfl) ?_
        refine lv_aload_n hx hb dX8_pick_47 rfl (lv_at hl 0 rfl) ?_
        refine r_get (a := 0) (v := .ref (gB G 28)) (C := RX8) (T := TX8) (N := 14) hx hb hts hinX8 hown hK hP (ltX8 rfl) (ceX8 rfl) rfl 6 (by decide) wd368 rfl dX8_pick_48 ?_
        refine r_get (a := 28) (v := .ref (gB G 32)) (C := RX0) (T := TX0) (N := 10) hx hb hts hinX0 hown hK hP (ltX0 (Or.inl rfl)) (ceX0 (Or.inl rfl)) rfl 4 (by decide) wd247 rfl dX8_pick_51 ?_
        refine lv_iload_n hx hb dX8_pick_54 rfl (lv_at hl 1 rfl) ?_
        obtain ⟨r55, h55, er55, hf⟩ := bP_s hf
        refine r_callI (va_runV (As := [.int x2, .ref (gB G 32), .int x1]) (rest := []) ⟨hx, hb, hml, hown, hts⟩ (k_X7_clashOf l hG 4 (Or.inl rfl) 32 64 (arX0_4 (Or.inl rfl)) er55) (cwV 3 hts (gV wd705 wd706 wd707 wd76 wd708) rfl rfl rfl (by decide +kernel) ⟨Nat.le_of_ble_eq_true rfl, Nat.le_of_ble_eq_true rfl⟩) (r_pv hK hP hS (ltX7 (Or.inl rfl)) (ceX7 (Or.inl rfl)) rfl) rfl rfl hl.1 rfl (lv_room (Nat.le_of_ble_eq_true rfl)) dX8_pick_55 ⟨Nat.le_of_ble_eq_true rfl, Nat.le_of_ble_eq_true rfl⟩) hS (fun H locs hP hS => ?_)
        refine lv_if_eq (tgt := 65) hx hb dX8_pick_58 (by decide) (fun c58 => ?_) (fun c58 => ?_)
        · replace hf := if_t c58 hf
          refine lv_aload_n hx hb dX8_pick_65 rfl (lv_at hl 0 rfl) ?_
          refine r_get (a := 0) (v := .ref (gB G 28)) (C := RX8) (T := TX8) (N := 14) hx hb hts hinX8 hown hK hP (ltX8 rfl) (ceX8 rfl) rfl 6 (by decide) wd368 rfl dX8_pick_66 ?_
          refine lv_iload_n hx hb dX8_pick_69 rfl (lv_at hl 1 rfl) ?_
          refine lv_iload_n hx hb dX8_pick_70 rfl (lv_at hl 2 rfl) ?_
          refine lv_aload_n hx hb dX8_pick_71 rfl (lv_at hl 0 rfl) ?_
          refine r_get (a := 0) (v := .ref (gB G 4)) (C := RX8) (T := TX8) (N := 14) hx hb hts hinX8 hown hK hP (ltX8 rfl) (ceX8 rfl) rfl 2 (by decide) wd364 rfl dX8_pick_72 ?_
          obtain ⟨h75, eh75, hf⟩ := bO_s hf
          refine r_callV (va_runV (As := [.int x1, .int x2, .ref (gB G 4)]) (rest := []) ⟨hx, hb, hml, hown, hts⟩ (k_X0_putOn l hG 28 (Or.inl rfl) 4 (Or.inl rfl) eh75) (cwV 3 hts (gV wd713 wd714 wd715 wd78 wd716) rfl rfl rfl (by decide +kernel) ⟨Nat.le_of_ble_eq_true rfl, Nat.le_of_ble_eq_true rfl⟩) (r_pv hK hP hS (ltX0 (Or.inl rfl)) (ceX0 (Or.inl rfl)) rfl) rfl rfl hl.1 rfl (lv_room (Nat.le_of_ble_eq_true rfl)) dX8_pick_75 ⟨Nat.le_of_ble_eq_true rfl, Nat.le_of_ble_eq_true rfl⟩) hS (fun H locs hP hS => ?_)
          refine lv_aload_n hx hb dX8_pick_78 rfl (lv_at hl 0 rfl) ?_
          refine r_get (a := 0) (v := .ref (gB G 28)) (C := RX8) (T := TX8) (N := 14) hx hb hts hinX8 hown hK hP (ltX8 rfl) (ceX8 rfl) rfl 6 (by decide) wd368 rfl dX8_pick_79 ?_
          refine r_get (a := 28) (v := .ref (gB G 30)) (C := RX0) (T := TX0) (N := 10) hx hb hts hinX0 hown hK hP (ltX0 (Or.inl rfl)) (ceX0 (Or.inl rfl)) rfl 2 (by decide) wd242 rfl dX8_pick_82 ?_
          refine lv_iload_n hx hb dX8_pick_85 rfl (lv_at hl 1 rfl) ?_
          obtain ⟨v86, ev86, hf⟩ := bO_s hf
          refine r_iald hx hb hK hP (arX0_2 (Or.inl rfl)) ev86 dX8_pick_86 ?_
          obtain ⟨r87, er87, hf⟩ := bO_s hf
          refine r_callI (va_runS (As := [.int v86]) (rest := []) ⟨hx, hb, hml, hown, hts⟩ (k_J6_bitCount_0f7a4 l hG (h := h75) er87) (va_cwS 1 hts (gS wd718 wd719 wd88 wd720) rfl rfl rfl (by decide +kernel) ⟨Nat.le_of_ble_eq_true rfl, Nat.le_of_ble_eq_true rfl⟩) (r_ps hK hP hS) rfl rfl hl.1 rfl (lv_room (Nat.le_of_ble_eq_true rfl)) dX8_pick_87 ⟨Nat.le_of_ble_eq_true rfl, Nat.le_of_ble_eq_true rfl⟩) hS (fun H locs hP hS => ?_)
          exact r_iret hx hb hr hlocks hP hS (re2 (Option.some.inj hf)) dX8_pick_90
        · replace hf := if_f c58 hf
          refine lv_sipush (v := (-1003)) hx hb dX8_pick_61 (by decide) ?_
          exact r_iret hx hb hr hlocks hP hS (re2 (Option.some.inj hf)) dX8_pick_64
    · replace hf := if_t c19 hf
      refine lv_sipush (v := (-1001)) hx hb dX8_pick_22 (by decide) ?_
      exact r_iret hx hb hr hlocks hP hS (re2 (Option.some.inj hf)) dX8_pick_25
/-! CarriedBack$Trunk.stillSet(I[II)Z -/
abbrev rmX7_stillSet : Room := { frames := 1, cells := 0, slots := 0, locals := 21 }
abbrev vX7_stillSet : List Cond := Cond.code yX7_stillSet cX7_stillSet 5 (some .boolean) :: GW
def f_X7_stillSet_3 (a0 : Nat) (V2 n2 : Nat) (x1 : Int32) (x3 : Int32) : Nat → Int32 → PH → Option (Int32 × PH)
  | 0, _, _ => none
  | n + 1, x4, h => if (16 : Int32) ≤ x4 then (some (1, h)) else (bO (ag h (a0 + 1) 24 x1) (fun v15 => bO (f_X8_has v15 x4) (fun r18 => if r18 = 0 then ((f_X7_stillSet_3 a0 V2 n2 x1 x3 n) (x4 + 1) h) else (bO (ag h V2 n2 ((x3 * 16) + x4)) (fun v32 => bO (ag h (a0 + 4) 384 ((x1 * 16) + x4)) (fun v44 => if v32 = v44 then ((f_X7_stillSet_3 a0 V2 n2 x1 x3 n) (x4 + 1) h) else (some (0, h))))))))
set_option maxHeartbeats 4000000 in
set_option maxRecDepth 100000 in
theorem w_X7_stillSet_3 {l : Launch} {G : GC} (hG : GOK G) {rr : Int32} {hh : PH} {p : Program} {e : Env} {s : State} {m : MethodId} {args : Array Value} {below : List Frame} {meth : Method} {c : Code} (C : MC l G p s m args meth c RX7 cX7_stillSet 5 (some .boolean)) (a0 : Nat) (ha0 : kdX7 a0) (V2 n2 : Nat) (hV2 : isA V2 n2) (x1 : Int32) (x3 : Int32) : ∀ (n : Nat) (x4 : Int32) (h : PH) (H : Heap) (locs : List Loc) (ls : Array Slot), lv_has ls 5 [(0, .ref (gB G a0)), (1, .int x1), (2, .ref (gB G V2)), (3, .int x3), (4, .int x4)] → WP G h H → SP G s H locs → f_X7_stillSet_3 a0 V2 n2 x1 x3 n x4 h = some (rr, hh) → W p l e rmX7_stillSet s m args below meth c H locs 0 0 (MQ below (QI G rr hh) args s 0 0 (gA G)) (F0 m 3 ls []) := by
  obtain ⟨hx, hb, hr, hlocks, hml, hown, hts, hK⟩ := id C
  intro n
  induction n with
  | zero => intro x4 h H locs ls hl hP hS hf; rw [f_X7_stillSet_3] at hf; cases hf
  | succ n ih =>
    intro x4 h H locs ls hl hP hS hf
    rw [f_X7_stillSet_3] at hf
    refine lv_iload hx hb dX7_stillSet_3 (lv_at hl 4 rfl) ?_
    refine lv_bipush (v := 16) hx hb dX7_stillSet_5 (by decide) ?_
    refine lv_icmp_ge (tgt := 56) hx hb dX7_stillSet_7 (by decide) (fun c7 => ?_) (fun c7 => ?_)
    · replace hf := if_t c7 hf
      refine lv_iconst (v := 1) hx hb dX7_stillSet_56 (by decide) ?_
      exact r_zret hx hb hr rfl hlocks hP hS (re2 (Option.some.inj hf)) dX7_stillSet_57
    · replace hf := if_f c7 hf
      refine lv_aload_n hx hb dX7_stillSet_10 rfl (lv_at hl 0 rfl) ?_
      refine r_get (a := a0) (v := .ref (gB G (a0 + 1))) (C := RX7) (T := TX7) (N := 10) hx hb hts hinX7 hown hK hP (ltX7 ha0) (ceX7 ha0) rfl 1 (by decide) wd158 rfl dX7_stillSet_11 ?_
      refine lv_iload_n hx hb dX7_stillSet_14 rfl (lv_at hl 1 rfl) ?_
      obtain ⟨v15, ev15, hf⟩ := bO_s hf
      refine r_iald hx hb hK hP (arX7_1 ha0) ev15 dX7_stillSet_15 ?_
      refine lv_iload hx hb dX7_stillSet_16 (lv_at hl 4 rfl) ?_
      obtain ⟨r18, er18, hf⟩ := bO_s hf
      refine r_callI (va_runSN (As := [.int v15, .int x4]) (rest := []) ⟨hx, hb, hml, hown, hts⟩ (k_X8_has l hG (h := h) er18) ⟨va_cnB 2 hts (gC wd523) rfl rfl rfl (host := "CarriedBack") (hK.2.1 _ (by decide +kernel)) (hts _ wd73) (by decide +kernel) ⟨Nat.le_of_ble_eq_true rfl, Nat.le_of_ble_eq_true rfl⟩, hts _ wd522, trivial⟩ (r_ps hK hP hS) rfl rfl hl.1 rfl (lv_room (Nat.le_of_ble_eq_true rfl)) dX7_stillSet_18 ⟨Nat.le_of_ble_eq_true rfl, Nat.le_of_ble_eq_true rfl⟩) hS (fun H locs hP hS => ?_)
      refine lv_if_eq (tgt := 50) hx hb dX7_stillSet_21 (by decide) (fun c21 => ?_) (fun c21 => ?_)
      · replace hf := if_t c21 hf
        refine lv_iinc (v := (x4 + 1)) (lv' := [(4, .int (x4 + 1)), (0, .ref (gB G a0)), (1, .int x1), (2, .ref (gB G V2)), (3, .int x3)]) hx hb dX7_stillSet_50 hl (k := 4) rfl rfl (by decide) rfl (fun ls hl => ?_)
        refine lv_goto (tgt := 3) hx hb dX7_stillSet_53 (by decide) ?_
        exact ih (x4 + 1) h _ _ _ (lv_sub hl [1, 2, 3, 4, 0] rfl) hP hS hf
      · replace hf := if_f c21 hf
        refine lv_aload_n hx hb dX7_stillSet_24 rfl (lv_at hl 2 rfl) ?_
        refine lv_iload_n hx hb dX7_stillSet_25 rfl (lv_at hl 3 rfl) ?_
        refine lv_bipush (v := 16) hx hb dX7_stillSet_26 (by decide) ?_
        refine lv_imul hx hb dX7_stillSet_28 ?_
        refine lv_iload hx hb dX7_stillSet_29 (lv_at hl 4 rfl) ?_
        refine lv_iadd hx hb dX7_stillSet_31 ?_
        obtain ⟨v32, ev32, hf⟩ := bO_s hf
        refine r_iald hx hb hK hP hV2 ev32 dX7_stillSet_32 ?_
        refine lv_aload_n hx hb dX7_stillSet_33 rfl (lv_at hl 0 rfl) ?_
        refine r_get (a := a0) (v := .ref (gB G (a0 + 4))) (C := RX7) (T := TX7) (N := 10) hx hb hts hinX7 hown hK hP (ltX7 ha0) (ceX7 ha0) rfl 4 (by decide) wd164 rfl dX7_stillSet_34 ?_
        refine lv_iload_n hx hb dX7_stillSet_37 rfl (lv_at hl 1 rfl) ?_
        refine lv_bipush (v := 16) hx hb dX7_stillSet_38 (by decide) ?_
        refine lv_imul hx hb dX7_stillSet_40 ?_
        refine lv_iload hx hb dX7_stillSet_41 (lv_at hl 4 rfl) ?_
        refine lv_iadd hx hb dX7_stillSet_43 ?_
        obtain ⟨v44, ev44, hf⟩ := bO_s hf
        refine r_iald hx hb hK hP (arX7_4 ha0) ev44 dX7_stillSet_44 ?_
        refine lv_icmp_eq (tgt := 50) hx hb dX7_stillSet_45 (by decide) (fun c45 => ?_) (fun c45 => ?_)
        · replace hf := if_t c45 hf
          refine lv_iinc (v := (x4 + 1)) (lv' := [(4, .int (x4 + 1)), (0, .ref (gB G a0)), (1, .int x1), (2, .ref (gB G V2)), (3, .int x3)]) hx hb dX7_stillSet_50 hl (k := 4) rfl rfl (by decide) rfl (fun ls hl => ?_)
          refine lv_goto (tgt := 3) hx hb dX7_stillSet_53 (by decide) ?_
          exact ih (x4 + 1) h _ _ _ (lv_sub hl [1, 2, 3, 4, 0] rfl) hP hS hf
        · replace hf := if_f c45 hf
          refine lv_iconst (v := 0) hx hb dX7_stillSet_48 (by decide) ?_
          exact r_zret hx hb hr rfl hlocks hP hS (re2 (Option.some.inj hf)) dX7_stillSet_49
def f_X7_stillSet (a0 : Nat) (V2 n2 : Nat) (x1 : Int32) (x3 : Int32) (h : PH) : Option (Int32 × PH) := f_X7_stillSet_3 a0 V2 n2 x1 x3 FU 0 h
set_option maxHeartbeats 4000000 in
set_option maxRecDepth 100000 in
theorem k_X7_stillSet (l : Launch) {G : GC} (hG : GOK G) (a0 : Nat) (ha0 : kdX7 a0) (V2 n2 : Nat) (hV2 : isA V2 n2) {x1 : Int32} {x3 : Int32} {rr : Int32} {h hh : PH} (hf : f_X7_stillSet a0 V2 n2 x1 x3 h = some (rr, hh)) : CI l yX7_stillSet vX7_stillSet rmX7_stillSet G [.ref (gB G a0), .int x1, .ref (gB G V2), .int x3] h rr hh := by
  refine Met.ofW (cc := cX7_stillSet) (maxL := 5) (ret := (some .boolean)) (by decide +kernel) rfl ?_
  intro p e s m args below meth c s₁ B hml hv
  obtain ⟨rfl, hP, hK⟩ := hv
  have C : MC l G p s m _ meth c RX7 cX7_stillSet 5 (some .boolean) := ⟨B.exec, B.bytes, B.returns, B.notSynchronized, hml, findClass_of_methodNamed B.named, fun w hw => atoms_spec (ws := vX7_stillSet) B.pre w (List.mem_cons_of_mem _ hw), hK⟩
  obtain ⟨hx, hb, hr, hlocks, -, hown, hts, -⟩ := id C
  have hl := lv_entry ([.ref (gB G a0), .int x1, .ref (gB G V2), .int x3]) (n := 5) (Nat.le_of_ble_eq_true rfl)
  rw [lg_entry_eq]
  generalize (lg_sl ([.ref (gB G a0), .int x1, .ref (gB G V2), .int x3]) ++ List.replicate (5 - (lg_sl ([.ref (gB G a0), .int x1, .ref (gB G V2), .int x3])).length) Slot.unset).toArray = ls at hl ⊢
  have hl : lv_has ls 5 [(0, .ref (gB G a0)), (1, .int x1), (2, .ref (gB G V2)), (3, .int x3)] := hl
  have hS : SP G s s.heap [] := va_S.rf
  replace hP : WP G h s.heap := hP
  rw [f_X7_stillSet] at hf
  refine lv_iconst (v := 0) hx hb dX7_stillSet_0 (by decide) ?_
  refine lv_istore (lv' := [(4, .int 0), (0, .ref (gB G a0)), (1, .int x1), (2, .ref (gB G V2)), (3, .int x3)]) hx hb dX7_stillSet_1 hl (by decide) rfl (fun ls hl => ?_)
  exact w_X7_stillSet_3 hG C a0 ha0 V2 n2 hV2 x1 x3 FU 0 h _ _ _ (lv_sub hl [1, 2, 3, 4, 0] rfl) hP hS hf
/-! CarriedBack$Trunk.takeOff(I[II)V -/
abbrev rmX7_takeOff : Room := { frames := 1, cells := 0, slots := 0, locals := 21 }
abbrev vX7_takeOff : List Cond := Cond.code yX7_takeOff cX7_takeOff 5 none :: GW
def f_X7_takeOff_3 (a0 : Nat) (V2 n2 : Nat) (x1 : Int32) (x3 : Int32) : Nat → Int32 → PH → Option PH
  | 0, _, _ => none
  | n + 1, x4, h => if (16 : Int32) ≤ x4 then (some h) else (bO (ag h (a0 + 1) 24 x1) (fun v15 => bO (f_X8_has v15 x4) (fun r18 => if r18 = 0 then ((f_X7_takeOff_3 a0 V2 n2 x1 x3 n) (x4 + 1) h) else (bO (ag h (a0 + 5) 400 ((x1 * 16) + x4)) (fun v43 => bO (asg h V2 n2 ((x3 * 16) + x4) v43) (fun h44 => (f_X7_takeOff_3 a0 V2 n2 x1 x3 n) (x4 + 1) h44))))))
set_option maxHeartbeats 4000000 in
set_option maxRecDepth 100000 in
theorem w_X7_takeOff_3 {l : Launch} {G : GC} (hG : GOK G) {hh : PH} {p : Program} {e : Env} {s : State} {m : MethodId} {args : Array Value} {below : List Frame} {meth : Method} {c : Code} (C : MC l G p s m args meth c RX7 cX7_takeOff 5 none) (a0 : Nat) (ha0 : kdX7 a0) (V2 n2 : Nat) (hV2 : isA V2 n2) (x1 : Int32) (x3 : Int32) : ∀ (n : Nat) (x4 : Int32) (h : PH) (H : Heap) (locs : List Loc) (ls : Array Slot), lv_has ls 5 [(0, .ref (gB G a0)), (1, .int x1), (2, .ref (gB G V2)), (3, .int x3), (4, .int x4)] → WP G h H → SP G s H locs → f_X7_takeOff_3 a0 V2 n2 x1 x3 n x4 h = some hh → W p l e rmX7_takeOff s m args below meth c H locs 0 0 (MQ below (QV G hh) args s 0 0 (gA G)) (F0 m 3 ls []) := by
  obtain ⟨hx, hb, hr, hlocks, hml, hown, hts, hK⟩ := id C
  intro n
  induction n with
  | zero => intro x4 h H locs ls hl hP hS hf; rw [f_X7_takeOff_3] at hf; cases hf
  | succ n ih =>
    intro x4 h H locs ls hl hP hS hf
    rw [f_X7_takeOff_3] at hf
    refine lv_iload hx hb dX7_takeOff_3 (lv_at hl 4 rfl) ?_
    refine lv_bipush (v := 16) hx hb dX7_takeOff_5 (by decide) ?_
    refine lv_icmp_ge (tgt := 51) hx hb dX7_takeOff_7 (by decide) (fun c7 => ?_) (fun c7 => ?_)
    · replace hf := if_t c7 hf
      exact r_vret hx hb hr hlocks hP hS (Option.some.inj hf) dX7_takeOff_51
    · replace hf := if_f c7 hf
      refine lv_aload_n hx hb dX7_takeOff_10 rfl (lv_at hl 0 rfl) ?_
      refine r_get (a := a0) (v := .ref (gB G (a0 + 1))) (C := RX7) (T := TX7) (N := 10) hx hb hts hinX7 hown hK hP (ltX7 ha0) (ceX7 ha0) rfl 1 (by decide) wd158 rfl dX7_takeOff_11 ?_
      refine lv_iload_n hx hb dX7_takeOff_14 rfl (lv_at hl 1 rfl) ?_
      obtain ⟨v15, ev15, hf⟩ := bO_s hf
      refine r_iald hx hb hK hP (arX7_1 ha0) ev15 dX7_takeOff_15 ?_
      refine lv_iload hx hb dX7_takeOff_16 (lv_at hl 4 rfl) ?_
      obtain ⟨r18, er18, hf⟩ := bO_s hf
      refine r_callI (va_runSN (As := [.int v15, .int x4]) (rest := []) ⟨hx, hb, hml, hown, hts⟩ (k_X8_has l hG (h := h) er18) ⟨va_cnB 2 hts (gC wd523) rfl rfl rfl (host := "CarriedBack") (hK.2.1 _ (by decide +kernel)) (hts _ wd73) (by decide +kernel) ⟨Nat.le_of_ble_eq_true rfl, Nat.le_of_ble_eq_true rfl⟩, hts _ wd522, trivial⟩ (r_ps hK hP hS) rfl rfl hl.1 rfl (lv_room (Nat.le_of_ble_eq_true rfl)) dX7_takeOff_18 ⟨Nat.le_of_ble_eq_true rfl, Nat.le_of_ble_eq_true rfl⟩) hS (fun H locs hP hS => ?_)
      refine lv_if_eq (tgt := 45) hx hb dX7_takeOff_21 (by decide) (fun c21 => ?_) (fun c21 => ?_)
      · replace hf := if_t c21 hf
        refine lv_iinc (v := (x4 + 1)) (lv' := [(4, .int (x4 + 1)), (0, .ref (gB G a0)), (1, .int x1), (2, .ref (gB G V2)), (3, .int x3)]) hx hb dX7_takeOff_45 hl (k := 4) rfl rfl (by decide) rfl (fun ls hl => ?_)
        refine lv_goto (tgt := 3) hx hb dX7_takeOff_48 (by decide) ?_
        exact ih (x4 + 1) h _ _ _ (lv_sub hl [1, 2, 3, 4, 0] rfl) hP hS hf
      · replace hf := if_f c21 hf
        refine lv_aload_n hx hb dX7_takeOff_24 rfl (lv_at hl 2 rfl) ?_
        refine lv_iload_n hx hb dX7_takeOff_25 rfl (lv_at hl 3 rfl) ?_
        refine lv_bipush (v := 16) hx hb dX7_takeOff_26 (by decide) ?_
        refine lv_imul hx hb dX7_takeOff_28 ?_
        refine lv_iload hx hb dX7_takeOff_29 (lv_at hl 4 rfl) ?_
        refine lv_iadd hx hb dX7_takeOff_31 ?_
        refine lv_aload_n hx hb dX7_takeOff_32 rfl (lv_at hl 0 rfl) ?_
        refine r_get (a := a0) (v := .ref (gB G (a0 + 5))) (C := RX7) (T := TX7) (N := 10) hx hb hts hinX7 hown hK hP (ltX7 ha0) (ceX7 ha0) rfl 5 (by decide) wd166 rfl dX7_takeOff_33 ?_
        refine lv_iload_n hx hb dX7_takeOff_36 rfl (lv_at hl 1 rfl) ?_
        refine lv_bipush (v := 16) hx hb dX7_takeOff_37 (by decide) ?_
        refine lv_imul hx hb dX7_takeOff_39 ?_
        refine lv_iload hx hb dX7_takeOff_40 (lv_at hl 4 rfl) ?_
        refine lv_iadd hx hb dX7_takeOff_42 ?_
        obtain ⟨v43, ev43, hf⟩ := bO_s hf
        refine r_iald hx hb hK hP (arX7_5 ha0) ev43 dX7_takeOff_43 ?_
        obtain ⟨h44, eh44, hf⟩ := bO_s hf
        refine r_iast hG hx hb hK hP hS hV2 eh44 dX7_takeOff_44 (fun H locs hP hS => ?_)
        refine lv_iinc (v := (x4 + 1)) (lv' := [(4, .int (x4 + 1)), (0, .ref (gB G a0)), (1, .int x1), (2, .ref (gB G V2)), (3, .int x3)]) hx hb dX7_takeOff_45 hl (k := 4) rfl rfl (by decide) rfl (fun ls hl => ?_)
        refine lv_goto (tgt := 3) hx hb dX7_takeOff_48 (by decide) ?_
        exact ih (x4 + 1) h44 _ _ _ (lv_sub hl [1, 2, 3, 4, 0] rfl) hP hS hf
def f_X7_takeOff (a0 : Nat) (V2 n2 : Nat) (x1 : Int32) (x3 : Int32) (h : PH) : Option PH := f_X7_takeOff_3 a0 V2 n2 x1 x3 FU 0 h
set_option maxHeartbeats 4000000 in
set_option maxRecDepth 100000 in
theorem k_X7_takeOff (l : Launch) {G : GC} (hG : GOK G) (a0 : Nat) (ha0 : kdX7 a0) (V2 n2 : Nat) (hV2 : isA V2 n2) {x1 : Int32} {x3 : Int32} {h hh : PH} (hf : f_X7_takeOff a0 V2 n2 x1 x3 h = some hh) : CV l yX7_takeOff vX7_takeOff rmX7_takeOff G [.ref (gB G a0), .int x1, .ref (gB G V2), .int x3] h hh := by
  refine Met.ofW (cc := cX7_takeOff) (maxL := 5) (ret := none) (by decide +kernel) rfl ?_
  intro p e s m args below meth c s₁ B hml hv
  obtain ⟨rfl, hP, hK⟩ := hv
  have C : MC l G p s m _ meth c RX7 cX7_takeOff 5 none := ⟨B.exec, B.bytes, B.returns, B.notSynchronized, hml, findClass_of_methodNamed B.named, fun w hw => atoms_spec (ws := vX7_takeOff) B.pre w (List.mem_cons_of_mem _ hw), hK⟩
  obtain ⟨hx, hb, hr, hlocks, -, hown, hts, -⟩ := id C
  have hl := lv_entry ([.ref (gB G a0), .int x1, .ref (gB G V2), .int x3]) (n := 5) (Nat.le_of_ble_eq_true rfl)
  rw [lg_entry_eq]
  generalize (lg_sl ([.ref (gB G a0), .int x1, .ref (gB G V2), .int x3]) ++ List.replicate (5 - (lg_sl ([.ref (gB G a0), .int x1, .ref (gB G V2), .int x3])).length) Slot.unset).toArray = ls at hl ⊢
  have hl : lv_has ls 5 [(0, .ref (gB G a0)), (1, .int x1), (2, .ref (gB G V2)), (3, .int x3)] := hl
  have hS : SP G s s.heap [] := va_S.rf
  replace hP : WP G h s.heap := hP
  rw [f_X7_takeOff] at hf
  refine lv_iconst (v := 0) hx hb dX7_takeOff_0 (by decide) ?_
  refine lv_istore (lv' := [(4, .int 0), (0, .ref (gB G a0)), (1, .int x1), (2, .ref (gB G V2)), (3, .int x3)]) hx hb dX7_takeOff_1 hl (by decide) rfl (fun ls hl => ?_)
  exact w_X7_takeOff_3 hG C a0 ha0 V2 n2 hV2 x1 x3 FU 0 h _ _ _ (lv_sub hl [1, 2, 3, 4, 0] rfl) hP hS hf
/-! CarriedBack$Book.takeOff(IILCarriedBack$Trunk;)V -/
abbrev rmX0_takeOff : Room := { frames := 2, cells := 0, slots := 0, locals := 45 }
abbrev vX0_takeOff : List Cond := Cond.code yX0_takeOff cX0_takeOff 4 none :: GW
def f_X0_takeOff (a0 : Nat) (a3 : Nat) (x1 : Int32) (x2 : Int32) (h : PH) : Option PH := bO (f_X7_takeOff a3 (a0 + 4) 64 x2 x1 h) (fun h7 => bO (ag h7 (a0 + 2) 4 x1) (fun v16 => bO (asg h7 (a0 + 2) 4 x1 (v16 &&& ((1 <<< (x2 &&& 31)) ^^^ (-1)))) (fun h23 => some h23)))
set_option maxHeartbeats 4000000 in
set_option maxRecDepth 100000 in
theorem k_X0_takeOff (l : Launch) {G : GC} (hG : GOK G) (a0 : Nat) (ha0 : kdX0 a0) (a3 : Nat) (ha3 : kdX7 a3) {x1 : Int32} {x2 : Int32} {h hh : PH} (hf : f_X0_takeOff a0 a3 x1 x2 h = some hh) : CV l yX0_takeOff vX0_takeOff rmX0_takeOff G [.ref (gB G a0), .int x1, .int x2, .ref (gB G a3)] h hh := by
  refine Met.ofW (cc := cX0_takeOff) (maxL := 4) (ret := none) (by decide +kernel) rfl ?_
  intro p e s m args below meth c s₁ B hml hv
  obtain ⟨rfl, hP, hK⟩ := hv
  have C : MC l G p s m _ meth c RX0 cX0_takeOff 4 none := ⟨B.exec, B.bytes, B.returns, B.notSynchronized, hml, findClass_of_methodNamed B.named, fun w hw => atoms_spec (ws := vX0_takeOff) B.pre w (List.mem_cons_of_mem _ hw), hK⟩
  obtain ⟨hx, hb, hr, hlocks, -, hown, hts, -⟩ := id C
  have hl := lv_entry ([.ref (gB G a0), .int x1, .int x2, .ref (gB G a3)]) (n := 4) (Nat.le_of_ble_eq_true rfl)
  rw [lg_entry_eq]
  generalize (lg_sl ([.ref (gB G a0), .int x1, .int x2, .ref (gB G a3)]) ++ List.replicate (4 - (lg_sl ([.ref (gB G a0), .int x1, .int x2, .ref (gB G a3)])).length) Slot.unset).toArray = ls at hl ⊢
  have hl : lv_has ls 4 [(0, .ref (gB G a0)), (1, .int x1), (2, .int x2), (3, .ref (gB G a3))] := hl
  have hS : SP G s s.heap [] := va_S.rf
  replace hP : WP G h s.heap := hP
  rw [f_X0_takeOff] at hf
  refine lv_aload_n hx hb dX0_takeOff_0 rfl (lv_at hl 3 rfl) ?_
  refine lv_iload_n hx hb dX0_takeOff_1 rfl (lv_at hl 2 rfl) ?_
  refine lv_aload_n hx hb dX0_takeOff_2 rfl (lv_at hl 0 rfl) ?_
  refine r_get (a := a0) (v := .ref (gB G (a0 + 4))) (C := RX0) (T := TX0) (N := 10) hx hb hts hinX0 hown hK hP (ltX0 ha0) (ceX0 ha0) rfl 4 (by decide) wd245 rfl dX0_takeOff_3 ?_
  refine lv_iload_n hx hb dX0_takeOff_6 rfl (lv_at hl 1 rfl) ?_
  obtain ⟨h7, eh7, hf⟩ := bO_s hf
  refine r_callV (va_runV (As := [.int x2, .ref (gB G (a0 + 4)), .int x1]) (rest := []) ⟨hx, hb, hml, hown, hts⟩ (k_X7_takeOff l hG a3 ha3 (a0 + 4) 64 (arX0_4 ha0) eh7) (cwV 3 hts (gV wd736 wd737 wd738 wd76 wd739) rfl rfl rfl (by decide +kernel) ⟨Nat.le_of_ble_eq_true rfl, Nat.le_of_ble_eq_true rfl⟩) (r_pv hK hP hS (ltX7 ha3) (ceX7 ha3) rfl) rfl rfl hl.1 rfl (lv_room (Nat.le_of_ble_eq_true rfl)) dX0_takeOff_7 ⟨Nat.le_of_ble_eq_true rfl, Nat.le_of_ble_eq_true rfl⟩) hS (fun H locs hP hS => ?_)
  refine lv_aload_n hx hb dX0_takeOff_10 rfl (lv_at hl 0 rfl) ?_
  refine r_get (a := a0) (v := .ref (gB G (a0 + 2))) (C := RX0) (T := TX0) (N := 10) hx hb hts hinX0 hown hK hP (ltX0 ha0) (ceX0 ha0) rfl 2 (by decide) wd239 rfl dX0_takeOff_11 ?_
  refine lv_iload_n hx hb dX0_takeOff_14 rfl (lv_at hl 1 rfl) ?_
  refine lv_dup2_11 hx hb dX0_takeOff_15 rfl rfl ?_
  obtain ⟨v16, ev16, hf⟩ := bO_s hf
  refine r_iald hx hb hK hP (arX0_2 ha0) ev16 dX0_takeOff_16 ?_
  refine lv_iconst (v := 1) hx hb dX0_takeOff_17 (by decide) ?_
  refine lv_iload_n hx hb dX0_takeOff_18 rfl (lv_at hl 2 rfl) ?_
  refine lv_ishl hx hb dX0_takeOff_19 ?_
  refine lv_iconst (v := (-1)) hx hb dX0_takeOff_20 (by decide) ?_
  refine lv_ixor hx hb dX0_takeOff_21 ?_
  refine lv_iand hx hb dX0_takeOff_22 ?_
  obtain ⟨h23, eh23, hf⟩ := bO_s hf
  refine r_iast hG hx hb hK hP hS (arX0_2 ha0) eh23 dX0_takeOff_23 (fun H locs hP hS => ?_)
  exact r_vret hx hb hr hlocks hP hS (Option.some.inj hf) dX0_takeOff_24
/-! CarriedBack.undo(II)I -/
abbrev rmX8_undo : Room := { frames := 3, cells := 0, slots := 0, locals := 68 }
abbrev vX8_undo : List Cond := Cond.code yX8_undo cX8_undo 3 (some .int) :: GW
def f_X8_undo (x1 : Int32) (x2 : Int32) (h : PH) : Option (Int32 × PH) := bP (f_X0_hasLine 28 x1 h) (fun r5 h5 => if r5 = 0 then (some ((-1001), h5)) else (bP (f_X7_hasChange 4 x2 h5) (fun r16 h16 => if r16 = 0 then (some ((-1001), h16)) else (bO (ag h16 30 4 x1) (fun v34 => bO (f_X8_has v34 x2) (fun r36 => if r36 = 0 then (some ((-1003), h16)) else (bP (f_X7_stillSet 4 32 64 x2 x1 h16) (fun r55 h55 => if r55 = 0 then (some ((-1003), h55)) else (bO (f_X0_takeOff 28 4 x1 x2 h55) (fun h75 => bO (ag h75 30 4 x1) (fun v86 => bO (f_J6_bitCount_0f7a4 v86) (fun r87 => some (r87, h75)))))))))))))
set_option maxHeartbeats 4000000 in
set_option maxRecDepth 100000 in
theorem k_X8_undo (l : Launch) {G : GC} (hG : GOK G) {x1 : Int32} {x2 : Int32} {rr : Int32} {h hh : PH} (hf : f_X8_undo x1 x2 h = some (rr, hh)) : CI l yX8_undo vX8_undo rmX8_undo G [.ref (gB G 0), .int x1, .int x2] h rr hh := by
  refine Met.ofW (cc := cX8_undo) (maxL := 3) (ret := (some .int)) (by decide +kernel) rfl ?_
  intro p e s m args below meth c s₁ B hml hv
  obtain ⟨rfl, hP, hK⟩ := hv
  have C : MC l G p s m _ meth c RX8 cX8_undo 3 (some .int) := ⟨B.exec, B.bytes, B.returns, B.notSynchronized, hml, findClass_of_methodNamed B.named, fun w hw => atoms_spec (ws := vX8_undo) B.pre w (List.mem_cons_of_mem _ hw), hK⟩
  obtain ⟨hx, hb, hr, hlocks, -, hown, hts, -⟩ := id C
  have hl := lv_entry ([.ref (gB G 0), .int x1, .int x2]) (n := 3) (Nat.le_of_ble_eq_true rfl)
  rw [lg_entry_eq]
  generalize (lg_sl ([.ref (gB G 0), .int x1, .int x2]) ++ List.replicate (3 - (lg_sl ([.ref (gB G 0), .int x1, .int x2])).length) Slot.unset).toArray = ls at hl ⊢
  have hl : lv_has ls 3 [(0, .ref (gB G 0)), (1, .int x1), (2, .int x2)] := hl
  have hS : SP G s s.heap [] := va_S.rf
  replace hP : WP G h s.heap := hP
  rw [f_X8_undo] at hf
  refine lv_aload_n hx hb dX8_undo_0 rfl (lv_at hl 0 rfl) ?_
  refine r_get (a := 0) (v := .ref (gB G 28)) (C := RX8) (T := TX8) (N := 14) hx hb hts hinX8 hown hK hP (ltX8 rfl) (ceX8 rfl) rfl 6 (by decide) wd368 rfl dX8_undo_1 ?_
  refine lv_iload_n hx hb dX8_undo_4 rfl (lv_at hl 1 rfl) ?_
  obtain ⟨r5, h5, er5, hf⟩ := bP_s hf
  refine r_callI (va_runV (As := [.int x1]) (rest := []) ⟨hx, hb, hml, hown, hts⟩ (k_X0_hasLine l hG 28 (Or.inl rfl) er5) (cwV 1 hts (gV wd684 wd685 wd686 wd78 wd687) rfl rfl rfl (by decide +kernel) ⟨Nat.le_of_ble_eq_true rfl, Nat.le_of_ble_eq_true rfl⟩) (r_pv hK hP hS (ltX0 (Or.inl rfl)) (ceX0 (Or.inl rfl)) rfl) rfl rfl hl.1 rfl (lv_room (Nat.le_of_ble_eq_true rfl)) dX8_undo_5 ⟨Nat.le_of_ble_eq_true rfl, Nat.le_of_ble_eq_true rfl⟩) hS (fun H locs hP hS => ?_)
  refine lv_if_eq (tgt := 22) hx hb dX8_undo_8 (by decide) (fun c8 => ?_) (fun c8 => ?_)
  · replace hf := if_t c8 hf
    refine lv_sipush (v := (-1001)) hx hb dX8_undo_22 (by decide) ?_
    exact r_iret hx hb hr hlocks hP hS (re2 (Option.some.inj hf)) dX8_undo_25
  · replace hf := if_f c8 hf
    refine lv_aload_n hx hb dX8_undo_11 rfl (lv_at hl 0 rfl) ?_
    refine r_get (a := 0) (v := .ref (gB G 4)) (C := RX8) (T := TX8) (N := 14) hx hb hts hinX8 hown hK hP (ltX8 rfl) (ceX8 rfl) rfl 2 (by decide) wd364 rfl dX8_undo_12 ?_
    refine lv_iload_n hx hb dX8_undo_15 rfl (lv_at hl 2 rfl) ?_
    obtain ⟨r16, h16, er16, hf⟩ := bP_s hf
    refine r_callI (va_runV (As := [.int x2]) (rest := []) ⟨hx, hb, hml, hown, hts⟩ (k_X7_hasChange l hG 4 (Or.inl rfl) er16) (cwV 1 hts (gV wd629 wd630 wd631 wd76 wd632) rfl rfl rfl (by decide +kernel) ⟨Nat.le_of_ble_eq_true rfl, Nat.le_of_ble_eq_true rfl⟩) (r_pv hK hP hS (ltX7 (Or.inl rfl)) (ceX7 (Or.inl rfl)) rfl) rfl rfl hl.1 rfl (lv_room (Nat.le_of_ble_eq_true rfl)) dX8_undo_16 ⟨Nat.le_of_ble_eq_true rfl, Nat.le_of_ble_eq_true rfl⟩) hS (fun H locs hP hS => ?_)
    refine lv_if_ne (tgt := 26) hx hb dX8_undo_19 (by decide) (fun c19 => ?_) (fun c19 => ?_)
    · replace hf := if_f c19 hf
      refine lv_aload_n hx hb dX8_undo_26 rfl (lv_at hl 0 rfl) ?_
      refine r_get (a := 0) (v := .ref (gB G 28)) (C := RX8) (T := TX8) (N := 14) hx hb hts hinX8 hown hK hP (ltX8 rfl) (ceX8 rfl) rfl 6 (by decide) wd368 rfl dX8_undo_27 ?_
      refine r_get (a := 28) (v := .ref (gB G 30)) (C := RX0) (T := TX0) (N := 10) hx hb hts hinX0 hown hK hP (ltX0 (Or.inl rfl)) (ceX0 (Or.inl rfl)) rfl 2 (by decide) wd242 rfl dX8_undo_30 ?_
      refine lv_iload_n hx hb dX8_undo_33 rfl (lv_at hl 1 rfl) ?_
      obtain ⟨v34, ev34, hf⟩ := bO_s hf
      refine r_iald hx hb hK hP (arX0_2 (Or.inl rfl)) ev34 dX8_undo_34 ?_
      refine lv_iload_n hx hb dX8_undo_35 rfl (lv_at hl 2 rfl) ?_
      obtain ⟨r36, er36, hf⟩ := bO_s hf
      refine r_callI (va_runS (As := [.int v34, .int x2]) (rest := []) ⟨hx, hb, hml, hown, hts⟩ (k_X8_has l hG (h := h16) er36) (va_cwS 2 hts (gS wd704 wd522 wd73 wd523) rfl rfl rfl (by decide +kernel) ⟨Nat.le_of_ble_eq_true rfl, Nat.le_of_ble_eq_true rfl⟩) (r_ps hK hP hS) rfl rfl hl.1 rfl (lv_room (Nat.le_of_ble_eq_true rfl)) dX8_undo_36 ⟨Nat.le_of_ble_eq_true rfl, Nat.le_of_ble_eq_true rfl⟩) hS (fun H locs hP hS => ?_)
      refine lv_if_eq (tgt := 61) hx hb dX8_undo_39 (by decide) (fun c39 => ?_) (fun c39 => ?_)
      · replace hf := if_t c39 hf
        refine lv_sipush (v := (-1003)) hx hb dX8_undo_61 (by decide) ?_
        exact r_iret hx hb hr hlocks hP hS (re2 (Option.some.inj hf)) dX8_undo_64
      · replace hf := if_f c39 hf
        refine lv_aload_n hx hb dX8_undo_42 rfl (lv_at hl 0 rfl) ?_
        refine r_get (a := 0) (v := .ref (gB G 4)) (C := RX8) (T := TX8) (N := 14) hx hb hts hinX8 hown hK hP (ltX8 rfl) (ceX8 rfl) rfl 2 (by decide) wd364 rfl dX8_undo_43 ?_
        refine lv_iload_n hx hb dX8_undo_46 rfl (lv_at hl 2 rfl) ?_
        refine lv_aload_n hx hb dX8_undo_47 rfl (lv_at hl 0 rfl) ?_
        refine r_get (a := 0) (v := .ref (gB G 28)) (C := RX8) (T := TX8) (N := 14) hx hb hts hinX8 hown hK hP (ltX8 rfl) (ceX8 rfl) rfl 6 (by decide) wd368 rfl dX8_undo_48 ?_
        refine r_get (a := 28) (v := .ref (gB G 32)) (C := RX0) (T := TX0) (N := 10) hx hb hts hinX0 hown hK hP (ltX0 (Or.inl rfl)) (ceX0 (Or.inl rfl)) rfl 4 (by decide) wd247 rfl dX8_undo_51 ?_
        refine lv_iload_n hx hb dX8_undo_54 rfl (lv_at hl 1 rfl) ?_
        obtain ⟨r55, h55, er55, hf⟩ := bP_s hf
        refine r_callI (va_runV (As := [.int x2, .ref (gB G 32), .int x1]) (rest := []) ⟨hx, hb, hml, hown, hts⟩ (k_X7_stillSet l hG 4 (Or.inl rfl) 32 64 (arX0_4 (Or.inl rfl)) er55) (cwV 3 hts (gV wd728 wd729 wd730 wd76 wd731) rfl rfl rfl (by decide +kernel) ⟨Nat.le_of_ble_eq_true rfl, Nat.le_of_ble_eq_true rfl⟩) (r_pv hK hP hS (ltX7 (Or.inl rfl)) (ceX7 (Or.inl rfl)) rfl) rfl rfl hl.1 rfl (lv_room (Nat.le_of_ble_eq_true rfl)) dX8_undo_55 ⟨Nat.le_of_ble_eq_true rfl, Nat.le_of_ble_eq_true rfl⟩) hS (fun H locs hP hS => ?_)
        refine lv_if_ne (tgt := 65) hx hb dX8_undo_58 (by decide) (fun c58 => ?_) (fun c58 => ?_)
        · replace hf := if_f c58 hf
          refine lv_aload_n hx hb dX8_undo_65 rfl (lv_at hl 0 rfl) ?_
          refine r_get (a := 0) (v := .ref (gB G 28)) (C := RX8) (T := TX8) (N := 14) hx hb hts hinX8 hown hK hP (ltX8 rfl) (ceX8 rfl) rfl 6 (by decide) wd368 rfl dX8_undo_66 ?_
          refine lv_iload_n hx hb dX8_undo_69 rfl (lv_at hl 1 rfl) ?_
          refine lv_iload_n hx hb dX8_undo_70 rfl (lv_at hl 2 rfl) ?_
          refine lv_aload_n hx hb dX8_undo_71 rfl (lv_at hl 0 rfl) ?_
          refine r_get (a := 0) (v := .ref (gB G 4)) (C := RX8) (T := TX8) (N := 14) hx hb hts hinX8 hown hK hP (ltX8 rfl) (ceX8 rfl) rfl 2 (by decide) wd364 rfl dX8_undo_72 ?_
          obtain ⟨h75, eh75, hf⟩ := bO_s hf
          refine r_callV (va_runV (As := [.int x1, .int x2, .ref (gB G 4)]) (rest := []) ⟨hx, hb, hml, hown, hts⟩ (k_X0_takeOff l hG 28 (Or.inl rfl) 4 (Or.inl rfl) eh75) (cwV 3 hts (gV wd732 wd733 wd734 wd78 wd735) rfl rfl rfl (by decide +kernel) ⟨Nat.le_of_ble_eq_true rfl, Nat.le_of_ble_eq_true rfl⟩) (r_pv hK hP hS (ltX0 (Or.inl rfl)) (ceX0 (Or.inl rfl)) rfl) rfl rfl hl.1 rfl (lv_room (Nat.le_of_ble_eq_true rfl)) dX8_undo_75 ⟨Nat.le_of_ble_eq_true rfl, Nat.le_of_ble_eq_true rfl⟩) hS (fun H locs hP hS => ?_)
          refine lv_aload_n hx hb dX8_undo_78 rfl (lv_at hl 0 rfl) ?_
          refine r_get (a := 0) (v := .ref (gB G 28)) (C := RX8) (T := TX8) (N := 14) hx hb hts hinX8 hown hK hP (ltX8 rfl) (ceX8 rfl) rfl 6 (by decide) wd368 rfl dX8_undo_79 ?_
          refine r_get (a := 28) (v := .ref (gB G 30)) (C := RX0) (T := TX0) (N := 10) hx hb hts hinX0 hown hK hP (ltX0 (Or.inl rfl)) (ceX0 (Or.inl rfl)) rfl 2 (by decide) wd242 rfl dX8_undo_82 ?_
          refine lv_iload_n hx hb dX8_undo_85 rfl (lv_at hl 1 rfl) ?_
          obtain ⟨v86, ev86, hf⟩ := bO_s hf
          refine r_iald hx hb hK hP (arX0_2 (Or.inl rfl)) ev86 dX8_undo_86 ?_
          obtain ⟨r87, er87, hf⟩ := bO_s hf
          refine r_callI (va_runS (As := [.int v86]) (rest := []) ⟨hx, hb, hml, hown, hts⟩ (k_J6_bitCount_0f7a4 l hG (h := h75) er87) (va_cwS 1 hts (gS wd718 wd719 wd88 wd720) rfl rfl rfl (by decide +kernel) ⟨Nat.le_of_ble_eq_true rfl, Nat.le_of_ble_eq_true rfl⟩) (r_ps hK hP hS) rfl rfl hl.1 rfl (lv_room (Nat.le_of_ble_eq_true rfl)) dX8_undo_87 ⟨Nat.le_of_ble_eq_true rfl, Nat.le_of_ble_eq_true rfl⟩) hS (fun H locs hP hS => ?_)
          exact r_iret hx hb hr hlocks hP hS (re2 (Option.some.inj hf)) dX8_undo_90
        · replace hf := if_t c58 hf
          refine lv_sipush (v := (-1003)) hx hb dX8_undo_61 (by decide) ?_
          exact r_iret hx hb hr hlocks hP hS (re2 (Option.some.inj hf)) dX8_undo_64
    · replace hf := if_t c19 hf
      refine lv_sipush (v := (-1001)) hx hb dX8_undo_22 (by decide) ?_
      exact r_iret hx hb hr hlocks hP hS (re2 (Option.some.inj hf)) dX8_undo_25
/-! CarriedBack$Trunk.lastSetter(II)I -/
abbrev rmX7_lastSetter : Room := { frames := 1, cells := 0, slots := 0, locals := 21 }
abbrev vX7_lastSetter : List Cond := Cond.code yX7_lastSetter cX7_lastSetter 4 (some .int) :: GW
def f_X7_lastSetter_4 (a0 : Nat) (x2 : Int32) : Nat → Int32 → PH → Option (Int32 × PH)
  | 0, _, _ => none
  | n + 1, x3, h => if x3 < 0 then (some ((-1), h)) else (bO (ag h (a0 + 1) 24 x3) (fun v13 => bO (f_X8_has v13 x2) (fun r15 => if r15 = 0 then ((f_X7_lastSetter_4 a0 x2 n) (x3 + (-1)) h) else (some (x3, h)))))
set_option maxHeartbeats 4000000 in
set_option maxRecDepth 100000 in
theorem w_X7_lastSetter_4 {l : Launch} {G : GC} (hG : GOK G) {rr : Int32} {hh : PH} {p : Program} {e : Env} {s : State} {m : MethodId} {args : Array Value} {below : List Frame} {meth : Method} {c : Code} (C : MC l G p s m args meth c RX7 cX7_lastSetter 4 (some .int)) (a0 : Nat) (ha0 : kdX7 a0) (x2 : Int32) : ∀ (n : Nat) (x3 : Int32) (h : PH) (H : Heap) (locs : List Loc) (ls : Array Slot), lv_has ls 4 [(0, .ref (gB G a0)), (2, .int x2), (3, .int x3)] → WP G h H → SP G s H locs → f_X7_lastSetter_4 a0 x2 n x3 h = some (rr, hh) → W p l e rmX7_lastSetter s m args below meth c H locs 0 0 (MQ below (QI G rr hh) args s 0 0 (gA G)) (F0 m 4 ls []) := by
  obtain ⟨hx, hb, hr, hlocks, hml, hown, hts, hK⟩ := id C
  intro n
  induction n with
  | zero => intro x3 h H locs ls hl hP hS hf; rw [f_X7_lastSetter_4] at hf; cases hf
  | succ n ih =>
    intro x3 h H locs ls hl hP hS hf
    rw [f_X7_lastSetter_4] at hf
    refine lv_iload_n hx hb dX7_lastSetter_4 rfl (lv_at hl 2 rfl) ?_
    refine lv_if_lt (tgt := 29) hx hb dX7_lastSetter_5 (by decide) (fun c5 => ?_) (fun c5 => ?_)
    · replace hf := if_t c5 hf
      refine lv_iconst (v := (-1)) hx hb dX7_lastSetter_29 (by decide) ?_
      exact r_iret hx hb hr hlocks hP hS (re2 (Option.some.inj hf)) dX7_lastSetter_30
    · replace hf := if_f c5 hf
      refine lv_aload_n hx hb dX7_lastSetter_8 rfl (lv_at hl 0 rfl) ?_
      refine r_get (a := a0) (v := .ref (gB G (a0 + 1))) (C := RX7) (T := TX7) (N := 10) hx hb hts hinX7 hown hK hP (ltX7 ha0) (ceX7 ha0) rfl 1 (by decide) wd158 rfl dX7_lastSetter_9 ?_
      refine lv_iload_n hx hb dX7_lastSetter_12 rfl (lv_at hl 2 rfl) ?_
      obtain ⟨v13, ev13, hf⟩ := bO_s hf
      refine r_iald hx hb hK hP (arX7_1 ha0) ev13 dX7_lastSetter_13 ?_
      refine lv_iload_n hx hb dX7_lastSetter_14 rfl (lv_at hl 1 rfl) ?_
      obtain ⟨r15, er15, hf⟩ := bO_s hf
      refine r_callI (va_runSN (As := [.int v13, .int x2]) (rest := []) ⟨hx, hb, hml, hown, hts⟩ (k_X8_has l hG (h := h) er15) ⟨va_cnB 2 hts (gC wd523) rfl rfl rfl (host := "CarriedBack") (hK.2.1 _ (by decide +kernel)) (hts _ wd73) (by decide +kernel) ⟨Nat.le_of_ble_eq_true rfl, Nat.le_of_ble_eq_true rfl⟩, hts _ wd522, trivial⟩ (r_ps hK hP hS) rfl rfl hl.1 rfl (lv_room (Nat.le_of_ble_eq_true rfl)) dX7_lastSetter_15 ⟨Nat.le_of_ble_eq_true rfl, Nat.le_of_ble_eq_true rfl⟩) hS (fun H locs hP hS => ?_)
      refine lv_if_eq (tgt := 23) hx hb dX7_lastSetter_18 (by decide) (fun c18 => ?_) (fun c18 => ?_)
      · replace hf := if_t c18 hf
        refine lv_iinc (v := (x3 + (-1))) (lv' := [(3, .int (x3 + (-1))), (0, .ref (gB G a0)), (2, .int x2)]) hx hb dX7_lastSetter_23 hl (k := 2) rfl rfl (by decide) rfl (fun ls hl => ?_)
        refine lv_goto (tgt := 4) hx hb dX7_lastSetter_26 (by decide) ?_
        exact ih (x3 + (-1)) h _ _ _ (lv_sub hl [1, 2, 0] rfl) hP hS hf
      · replace hf := if_f c18 hf
        refine lv_iload_n hx hb dX7_lastSetter_21 rfl (lv_at hl 2 rfl) ?_
        exact r_iret hx hb hr hlocks hP hS (re2 (Option.some.inj hf)) dX7_lastSetter_22
def f_X7_lastSetter (a0 : Nat) (x1 : Int32) (x2 : Int32) (h : PH) : Option (Int32 × PH) := lt' ((x1 - 1)) (fun x3_3 => f_X7_lastSetter_4 a0 x2 FU x3_3 h)
set_option maxHeartbeats 4000000 in
set_option maxRecDepth 100000 in
theorem k_X7_lastSetter (l : Launch) {G : GC} (hG : GOK G) (a0 : Nat) (ha0 : kdX7 a0) {x1 : Int32} {x2 : Int32} {rr : Int32} {h hh : PH} (hf : f_X7_lastSetter a0 x1 x2 h = some (rr, hh)) : CI l yX7_lastSetter vX7_lastSetter rmX7_lastSetter G [.ref (gB G a0), .int x1, .int x2] h rr hh := by
  refine Met.ofW (cc := cX7_lastSetter) (maxL := 4) (ret := (some .int)) (by decide +kernel) rfl ?_
  intro p e s m args below meth c s₁ B hml hv
  obtain ⟨rfl, hP, hK⟩ := hv
  have C : MC l G p s m _ meth c RX7 cX7_lastSetter 4 (some .int) := ⟨B.exec, B.bytes, B.returns, B.notSynchronized, hml, findClass_of_methodNamed B.named, fun w hw => atoms_spec (ws := vX7_lastSetter) B.pre w (List.mem_cons_of_mem _ hw), hK⟩
  obtain ⟨hx, hb, hr, hlocks, -, hown, hts, -⟩ := id C
  have hl := lv_entry ([.ref (gB G a0), .int x1, .int x2]) (n := 4) (Nat.le_of_ble_eq_true rfl)
  rw [lg_entry_eq]
  generalize (lg_sl ([.ref (gB G a0), .int x1, .int x2]) ++ List.replicate (4 - (lg_sl ([.ref (gB G a0), .int x1, .int x2])).length) Slot.unset).toArray = ls at hl ⊢
  have hl : lv_has ls 4 [(0, .ref (gB G a0)), (1, .int x1), (2, .int x2)] := hl
  have hS : SP G s s.heap [] := va_S.rf
  replace hP : WP G h s.heap := hP
  rw [f_X7_lastSetter] at hf
  refine lv_iload_n hx hb dX7_lastSetter_0 rfl (lv_at hl 1 rfl) ?_
  refine lv_iconst (v := 1) hx hb dX7_lastSetter_1 (by decide) ?_
  refine lv_isub hx hb dX7_lastSetter_2 ?_
  refine lv_topi (fun x3_3 ex3_3 => ?_)
  replace hf := lt_at ex3_3 hf
  refine lv_istore_n (lv' := [(3, .int x3_3), (0, .ref (gB G a0)), (1, .int x1), (2, .int x2)]) hx hb dX7_lastSetter_3 rfl hl (by decide) rfl (fun ls hl => ?_)
  exact w_X7_lastSetter_4 hG C a0 ha0 x2 FU x3_3 h _ _ _ (lv_sub hl [1, 3, 0] rfl) hP hS hf
/-! CarriedBack$Picker.settersOf(II)I -/
abbrev rmX2_settersOf : Room := { frames := 2, cells := 0, slots := 0, locals := 44 }
abbrev vX2_settersOf : List Cond := Cond.code yX2_settersOf cX2_settersOf 6 (some .int) :: GW
def f_X2_settersOf_5 (x1 : Int32) (x2 : Int32) : Nat → Int32 → Int32 → PH → Option (Int32 × PH)
  | 0, _, _, _ => none
  | n + 1, x3, x4, h => if (16 : Int32) ≤ x4 then (some (x3, h)) else (bO (f_X8_has x2 x4) (fun r15 => if r15 = 0 then ((f_X2_settersOf_5 x1 x2 n) x3 (x4 + 1) h) else (bP (f_X7_lastSetter 4 x1 x4 h) (fun r28 h28 => if r28 = (-1) then (some ((-1), h28)) else (lt' ((x3 ||| (1 <<< (r28 &&& 31)))) (fun x3_47 => (f_X2_settersOf_5 x1 x2 n) x3_47 (x4 + 1) h28))))))
set_option maxHeartbeats 4000000 in
set_option maxRecDepth 100000 in
theorem w_X2_settersOf_5 {l : Launch} {G : GC} (hG : GOK G) {rr : Int32} {hh : PH} {p : Program} {e : Env} {s : State} {m : MethodId} {args : Array Value} {below : List Frame} {meth : Method} {c : Code} (C : MC l G p s m args meth c RX2 cX2_settersOf 6 (some .int)) (x1 : Int32) (x2 : Int32) : ∀ (n : Nat) (x3 : Int32) (x4 : Int32) (h : PH) (H : Heap) (locs : List Loc) (ls : Array Slot), lv_has ls 6 [(0, .ref (gB G 55)), (1, .int x1), (2, .int x2), (3, .int x3), (4, .int x4)] → WP G h H → SP G s H locs → f_X2_settersOf_5 x1 x2 n x3 x4 h = some (rr, hh) → W p l e rmX2_settersOf s m args below meth c H locs 0 0 (MQ below (QI G rr hh) args s 0 0 (gA G)) (F0 m 5 ls []) := by
  obtain ⟨hx, hb, hr, hlocks, hml, hown, hts, hK⟩ := id C
  intro n
  induction n with
  | zero => intro x3 x4 h H locs ls hl hP hS hf; rw [f_X2_settersOf_5] at hf; cases hf
  | succ n ih =>
    intro x3 x4 h H locs ls hl hP hS hf
    rw [f_X2_settersOf_5] at hf
    refine lv_iload hx hb dX2_settersOf_5 (lv_at hl 4 rfl) ?_
    refine lv_bipush (v := 16) hx hb dX2_settersOf_7 (by decide) ?_
    refine lv_icmp_ge (tgt := 54) hx hb dX2_settersOf_9 (by decide) (fun c9 => ?_) (fun c9 => ?_)
    · replace hf := if_t c9 hf
      refine lv_iload_n hx hb dX2_settersOf_54 rfl (lv_at hl 3 rfl) ?_
      exact r_iret hx hb hr hlocks hP hS (re2 (Option.some.inj hf)) dX2_settersOf_55
    · replace hf := if_f c9 hf
      refine lv_iload_n hx hb dX2_settersOf_12 rfl (lv_at hl 2 rfl) ?_
      refine lv_iload hx hb dX2_settersOf_13 (lv_at hl 4 rfl) ?_
      obtain ⟨r15, er15, hf⟩ := bO_s hf
      refine r_callI (va_runSN (As := [.int x2, .int x4]) (rest := []) ⟨hx, hb, hml, hown, hts⟩ (k_X8_has l hG (h := h) er15) ⟨va_cnB 2 hts (gC wd523) rfl rfl rfl (host := "CarriedBack") (hK.2.1 _ (by decide +kernel)) (hts _ wd73) (by decide +kernel) ⟨Nat.le_of_ble_eq_true rfl, Nat.le_of_ble_eq_true rfl⟩, hts _ wd522, trivial⟩ (r_ps hK hP hS) rfl rfl hl.1 rfl (lv_room (Nat.le_of_ble_eq_true rfl)) dX2_settersOf_15 ⟨Nat.le_of_ble_eq_true rfl, Nat.le_of_ble_eq_true rfl⟩) hS (fun H locs hP hS => ?_)
      refine lv_if_eq (tgt := 48) hx hb dX2_settersOf_18 (by decide) (fun c18 => ?_) (fun c18 => ?_)
      · replace hf := if_t c18 hf
        refine lv_iinc (v := (x4 + 1)) (lv' := [(4, .int (x4 + 1)), (0, .ref (gB G 55)), (1, .int x1), (2, .int x2), (3, .int x3)]) hx hb dX2_settersOf_48 hl (k := 4) rfl rfl (by decide) rfl (fun ls hl => ?_)
        refine lv_goto (tgt := 5) hx hb dX2_settersOf_51 (by decide) ?_
        exact ih x3 (x4 + 1) h _ _ _ (lv_sub hl [1, 2, 3, 4, 0] rfl) hP hS hf
      · replace hf := if_f c18 hf
        refine lv_aload_n hx hb dX2_settersOf_21 rfl (lv_at hl 0 rfl) ?_
        refine r_get (a := 55) (v := .ref (gB G 4)) (C := RX2) (T := TX2) (N := 4) hx hb hts hinX2 hown hK hP (ltX2 rfl) (ceX2 rfl) rfl 0 (by decide) wd285 rfl dX2_settersOf_22 ?_
        refine lv_iload_n hx hb dX2_settersOf_25 rfl (lv_at hl 1 rfl) ?_
        refine lv_iload hx hb dX2_settersOf_26 (lv_at hl 4 rfl) ?_
        obtain ⟨r28, h28, er28, hf⟩ := bP_s hf
        refine r_callI (va_runV (As := [.int x1, .int x4]) (rest := []) ⟨hx, hb, hml, hown, hts⟩ (k_X7_lastSetter l hG 4 (Or.inl rfl) er28) (cwV 2 hts (gV wd754 wd755 wd756 wd76 wd757) rfl rfl rfl (by decide +kernel) ⟨Nat.le_of_ble_eq_true rfl, Nat.le_of_ble_eq_true rfl⟩) (r_pv hK hP hS (ltX7 (Or.inl rfl)) (ceX7 (Or.inl rfl)) rfl) rfl rfl hl.1 rfl (lv_room (Nat.le_of_ble_eq_true rfl)) dX2_settersOf_28 ⟨Nat.le_of_ble_eq_true rfl, Nat.le_of_ble_eq_true rfl⟩) hS (fun H locs hP hS => ?_)
        refine lv_istore (lv' := [(5, .int r28), (0, .ref (gB G 55)), (1, .int x1), (2, .int x2), (3, .int x3), (4, .int x4)]) hx hb dX2_settersOf_31 hl (by decide) rfl (fun ls hl => ?_)
        refine lv_iload hx hb dX2_settersOf_33 (lv_at hl 0 rfl) ?_
        refine lv_iconst (v := (-1)) hx hb dX2_settersOf_35 (by decide) ?_
        refine lv_icmp_ne (tgt := 41) hx hb dX2_settersOf_36 (by decide) (fun c36 => ?_) (fun c36 => ?_)
        · replace hf := if_f c36 hf
          refine lv_iload_n hx hb dX2_settersOf_41 rfl (lv_at hl 4 rfl) ?_
          refine lv_iconst (v := 1) hx hb dX2_settersOf_42 (by decide) ?_
          refine lv_iload hx hb dX2_settersOf_43 (lv_at hl 0 rfl) ?_
          refine lv_ishl hx hb dX2_settersOf_45 ?_
          refine lv_ior hx hb dX2_settersOf_46 ?_
          refine lv_topi (fun x3_47 ex3_47 => ?_)
          replace hf := lt_at ex3_47 hf
          refine lv_istore_n (lv' := [(3, .int x3_47), (5, .int r28), (0, .ref (gB G 55)), (1, .int x1), (2, .int x2), (4, .int x4)]) hx hb dX2_settersOf_47 rfl hl (by decide) rfl (fun ls hl => ?_)
          refine lv_iinc (v := (x4 + 1)) (lv' := [(4, .int (x4 + 1)), (3, .int x3_47), (5, .int r28), (0, .ref (gB G 55)), (1, .int x1), (2, .int x2)]) hx hb dX2_settersOf_48 hl (k := 5) rfl rfl (by decide) rfl (fun ls hl => ?_)
          refine lv_goto (tgt := 5) hx hb dX2_settersOf_51 (by decide) ?_
          exact ih x3_47 (x4 + 1) h28 _ _ _ (lv_sub hl [3, 4, 5, 1, 0] rfl) hP hS hf
        · replace hf := if_t c36 hf
          refine lv_iconst (v := (-1)) hx hb dX2_settersOf_39 (by decide) ?_
          exact r_iret hx hb hr hlocks hP hS (re2 (Option.some.inj hf)) dX2_settersOf_40
def f_X2_settersOf (x1 : Int32) (x2 : Int32) (h : PH) : Option (Int32 × PH) := f_X2_settersOf_5 x1 x2 FU 0 0 h
set_option maxHeartbeats 4000000 in
set_option maxRecDepth 100000 in
theorem k_X2_settersOf (l : Launch) {G : GC} (hG : GOK G) {x1 : Int32} {x2 : Int32} {rr : Int32} {h hh : PH} (hf : f_X2_settersOf x1 x2 h = some (rr, hh)) : CI l yX2_settersOf vX2_settersOf rmX2_settersOf G [.ref (gB G 55), .int x1, .int x2] h rr hh := by
  refine Met.ofW (cc := cX2_settersOf) (maxL := 6) (ret := (some .int)) (by decide +kernel) rfl ?_
  intro p e s m args below meth c s₁ B hml hv
  obtain ⟨rfl, hP, hK⟩ := hv
  have C : MC l G p s m _ meth c RX2 cX2_settersOf 6 (some .int) := ⟨B.exec, B.bytes, B.returns, B.notSynchronized, hml, findClass_of_methodNamed B.named, fun w hw => atoms_spec (ws := vX2_settersOf) B.pre w (List.mem_cons_of_mem _ hw), hK⟩
  obtain ⟨hx, hb, hr, hlocks, -, hown, hts, -⟩ := id C
  have hl := lv_entry ([.ref (gB G 55), .int x1, .int x2]) (n := 6) (Nat.le_of_ble_eq_true rfl)
  rw [lg_entry_eq]
  generalize (lg_sl ([.ref (gB G 55), .int x1, .int x2]) ++ List.replicate (6 - (lg_sl ([.ref (gB G 55), .int x1, .int x2])).length) Slot.unset).toArray = ls at hl ⊢
  have hl : lv_has ls 6 [(0, .ref (gB G 55)), (1, .int x1), (2, .int x2)] := hl
  have hS : SP G s s.heap [] := va_S.rf
  replace hP : WP G h s.heap := hP
  rw [f_X2_settersOf] at hf
  refine lv_iconst (v := 0) hx hb dX2_settersOf_0 (by decide) ?_
  refine lv_istore_n (lv' := [(3, .int 0), (0, .ref (gB G 55)), (1, .int x1), (2, .int x2)]) hx hb dX2_settersOf_1 rfl hl (by decide) rfl (fun ls hl => ?_)
  refine lv_iconst (v := 0) hx hb dX2_settersOf_2 (by decide) ?_
  refine lv_istore (lv' := [(4, .int 0), (3, .int 0), (0, .ref (gB G 55)), (1, .int x1), (2, .int x2)]) hx hb dX2_settersOf_3 hl (by decide) rfl (fun ls hl => ?_)
  exact w_X2_settersOf_5 hG C x1 x2 FU 0 0 h _ _ _ (lv_sub hl [2, 3, 4, 1, 0] rfl) hP hS hf
/-! CarriedBack$Picker.lay(I[I)V -/
abbrev rmX2_lay : Room := { frames := 1, cells := 0, slots := 0, locals := 30 }
abbrev vX2_lay : List Cond := Cond.code yX2_lay cX2_lay 3 none :: GW
def f_X2_lay (V2 n2 : Nat) (x1 : Int32) (h : PH) : Option PH := bO (cpy h 32 64 (x1 * 16) V2 n2 0 16) (fun h15 => some h15)
set_option maxHeartbeats 4000000 in
set_option maxRecDepth 100000 in
theorem k_X2_lay (l : Launch) {G : GC} (hG : GOK G) (V2 n2 : Nat) (hV2 : isA V2 n2) {x1 : Int32} {h hh : PH} (hf : f_X2_lay V2 n2 x1 h = some hh) : CV l yX2_lay vX2_lay rmX2_lay G [.ref (gB G 55), .int x1, .ref (gB G V2)] h hh := by
  refine Met.ofW (cc := cX2_lay) (maxL := 3) (ret := none) (by decide +kernel) rfl ?_
  intro p e s m args below meth c s₁ B hml hv
  obtain ⟨rfl, hP, hK⟩ := hv
  have C : MC l G p s m _ meth c RX2 cX2_lay 3 none := ⟨B.exec, B.bytes, B.returns, B.notSynchronized, hml, findClass_of_methodNamed B.named, fun w hw => atoms_spec (ws := vX2_lay) B.pre w (List.mem_cons_of_mem _ hw), hK⟩
  obtain ⟨hx, hb, hr, hlocks, -, hown, hts, -⟩ := id C
  have hl := lv_entry ([.ref (gB G 55), .int x1, .ref (gB G V2)]) (n := 3) (Nat.le_of_ble_eq_true rfl)
  rw [lg_entry_eq]
  generalize (lg_sl ([.ref (gB G 55), .int x1, .ref (gB G V2)]) ++ List.replicate (3 - (lg_sl ([.ref (gB G 55), .int x1, .ref (gB G V2)])).length) Slot.unset).toArray = ls at hl ⊢
  have hl : lv_has ls 3 [(0, .ref (gB G 55)), (1, .int x1), (2, .ref (gB G V2))] := hl
  have hS : SP G s s.heap [] := va_S.rf
  replace hP : WP G h s.heap := hP
  rw [f_X2_lay] at hf
  refine lv_aload_n hx hb dX2_lay_0 rfl (lv_at hl 0 rfl) ?_
  refine r_get (a := 55) (v := .ref (gB G 28)) (C := RX2) (T := TX2) (N := 4) hx hb hts hinX2 hown hK hP (ltX2 rfl) (ceX2 rfl) rfl 1 (by decide) wd286 rfl dX2_lay_1 ?_
  refine r_get (a := 28) (v := .ref (gB G 32)) (C := RX0) (T := TX0) (N := 10) hx hb hts hinX0 hown hK hP (ltX0 (Or.inl rfl)) (ceX0 (Or.inl rfl)) rfl 4 (by decide) wd246 rfl dX2_lay_4 ?_
  refine lv_iload_n hx hb dX2_lay_7 rfl (lv_at hl 1 rfl) ?_
  refine lv_bipush (v := 16) hx hb dX2_lay_8 (by decide) ?_
  refine lv_imul hx hb dX2_lay_10 ?_
  refine lv_aload_n hx hb dX2_lay_11 rfl (lv_at hl 2 rfl) ?_
  refine lv_iconst (v := 0) hx hb dX2_lay_12 (by decide) ?_
  refine lv_bipush (v := 16) hx hb dX2_lay_13 (by decide) ?_
  obtain ⟨h15, eh15, hf⟩ := bO_s hf
  refine r_cpy hG hx hb (by rw [hml]; exact hl.1.symm) hown hts wd766 wd553 wd552 wd87 hK hP hS (arX0_4 (Or.inl rfl)) hV2 eh15 (Nat.le_of_ble_eq_true rfl) (Nat.le_of_ble_eq_true rfl) dX2_lay_15 (fun H locs hP hS => ?_)
  exact r_vret hx hb hr hlocks hP hS (Option.some.inj hf) dX2_lay_18
/-! CarriedBack$Picker.allGoOn(II)Z -/
abbrev rmX2_allGoOn : Room := { frames := 2, cells := 0, slots := 0, locals := 52 }
abbrev vX2_allGoOn : List Cond := Cond.code yX2_allGoOn cX2_allGoOn 4 (some .boolean) :: GW
def f_X2_allGoOn_11 (x2 : Int32) : Nat → Int32 → PH → Option (Int32 × PH)
  | 0, _, _ => none
  | n + 1, x3, h => if (h.1 4 0) ≤ x3 then (some (1, h)) else (bO (f_X8_has x2 x3) (fun r24 => if r24 = 0 then ((f_X2_allGoOn_11 x2 n) (x3 + 1) h) else (bP (f_X7_clashOf 4 56 16 x3 0 h) (fun r40 h40 => if r40 = 0 then (bO (f_X7_putOn 4 56 16 x3 0 h40) (fun h58 => (f_X2_allGoOn_11 x2 n) (x3 + 1) h58)) else (some (0, h40))))))
set_option maxHeartbeats 4000000 in
set_option maxRecDepth 100000 in
theorem w_X2_allGoOn_11 {l : Launch} {G : GC} (hG : GOK G) {rr : Int32} {hh : PH} {p : Program} {e : Env} {s : State} {m : MethodId} {args : Array Value} {below : List Frame} {meth : Method} {c : Code} (C : MC l G p s m args meth c RX2 cX2_allGoOn 4 (some .boolean)) (x2 : Int32) : ∀ (n : Nat) (x3 : Int32) (h : PH) (H : Heap) (locs : List Loc) (ls : Array Slot), lv_has ls 4 [(0, .ref (gB G 55)), (2, .int x2), (3, .int x3)] → WP G h H → SP G s H locs → f_X2_allGoOn_11 x2 n x3 h = some (rr, hh) → W p l e rmX2_allGoOn s m args below meth c H locs 0 0 (MQ below (QI G rr hh) args s 0 0 (gA G)) (F0 m 11 ls []) := by
  obtain ⟨hx, hb, hr, hlocks, hml, hown, hts, hK⟩ := id C
  intro n
  induction n with
  | zero => intro x3 h H locs ls hl hP hS hf; rw [f_X2_allGoOn_11] at hf; cases hf
  | succ n ih =>
    intro x3 h H locs ls hl hP hS hf
    rw [f_X2_allGoOn_11] at hf
    refine lv_iload_n hx hb dX2_allGoOn_11 rfl (lv_at hl 2 rfl) ?_
    refine lv_aload_n hx hb dX2_allGoOn_12 rfl (lv_at hl 0 rfl) ?_
    refine r_get (a := 55) (v := .ref (gB G 4)) (C := RX2) (T := TX2) (N := 4) hx hb hts hinX2 hown hK hP (ltX2 rfl) (ceX2 rfl) rfl 0 (by decide) wd285 rfl dX2_allGoOn_13 ?_
    refine r_get (a := 4) (v := .int (h.1 4 0)) (C := RX7) (T := TX7) (N := 10) hx hb hts hinX7 hown hK hP (ltX7 (Or.inl rfl)) (ceX7 (Or.inl rfl)) rfl 0 (by decide) wd157 rfl dX2_allGoOn_16 ?_
    refine lv_icmp_ge (tgt := 67) hx hb dX2_allGoOn_19 (by decide) (fun c19 => ?_) (fun c19 => ?_)
    · replace hf := if_t c19 hf
      refine lv_iconst (v := 1) hx hb dX2_allGoOn_67 (by decide) ?_
      exact r_zret hx hb hr rfl hlocks hP hS (re2 (Option.some.inj hf)) dX2_allGoOn_68
    · replace hf := if_f c19 hf
      refine lv_iload_n hx hb dX2_allGoOn_22 rfl (lv_at hl 1 rfl) ?_
      refine lv_iload_n hx hb dX2_allGoOn_23 rfl (lv_at hl 2 rfl) ?_
      obtain ⟨r24, er24, hf⟩ := bO_s hf
      refine r_callI (va_runSN (As := [.int x2, .int x3]) (rest := []) ⟨hx, hb, hml, hown, hts⟩ (k_X8_has l hG (h := h) er24) ⟨va_cnB 2 hts (gC wd523) rfl rfl rfl (host := "CarriedBack") (hK.2.1 _ (by decide +kernel)) (hts _ wd73) (by decide +kernel) ⟨Nat.le_of_ble_eq_true rfl, Nat.le_of_ble_eq_true rfl⟩, hts _ wd522, trivial⟩ (r_ps hK hP hS) rfl rfl hl.1 rfl (lv_room (Nat.le_of_ble_eq_true rfl)) dX2_allGoOn_24 ⟨Nat.le_of_ble_eq_true rfl, Nat.le_of_ble_eq_true rfl⟩) hS (fun H locs hP hS => ?_)
      refine lv_if_eq (tgt := 61) hx hb dX2_allGoOn_27 (by decide) (fun c27 => ?_) (fun c27 => ?_)
      · replace hf := if_t c27 hf
        refine lv_iinc (v := (x3 + 1)) (lv' := [(3, .int (x3 + 1)), (0, .ref (gB G 55)), (2, .int x2)]) hx hb dX2_allGoOn_61 hl (k := 2) rfl rfl (by decide) rfl (fun ls hl => ?_)
        refine lv_goto (tgt := 11) hx hb dX2_allGoOn_64 (by decide) ?_
        exact ih (x3 + 1) h _ _ _ (lv_sub hl [1, 2, 0] rfl) hP hS hf
      · replace hf := if_f c27 hf
        refine lv_aload_n hx hb dX2_allGoOn_30 rfl (lv_at hl 0 rfl) ?_
        refine r_get (a := 55) (v := .ref (gB G 4)) (C := RX2) (T := TX2) (N := 4) hx hb hts hinX2 hown hK hP (ltX2 rfl) (ceX2 rfl) rfl 0 (by decide) wd285 rfl dX2_allGoOn_31 ?_
        refine lv_iload_n hx hb dX2_allGoOn_34 rfl (lv_at hl 2 rfl) ?_
        refine lv_aload_n hx hb dX2_allGoOn_35 rfl (lv_at hl 0 rfl) ?_
        refine r_get (a := 55) (v := .ref (gB G 56)) (C := RX2) (T := TX2) (N := 4) hx hb hts hinX2 hown hK hP (ltX2 rfl) (ceX2 rfl) rfl 2 (by decide) wd288 rfl dX2_allGoOn_36 ?_
        refine lv_iconst (v := 0) hx hb dX2_allGoOn_39 (by decide) ?_
        obtain ⟨r40, h40, er40, hf⟩ := bP_s hf
        refine r_callI (va_runV (As := [.int x3, .ref (gB G 56), .int 0]) (rest := []) ⟨hx, hb, hml, hown, hts⟩ (k_X7_clashOf l hG 4 (Or.inl rfl) 56 16 (arX2_2 rfl) er40) (cwV 3 hts (gV wd749 wd706 wd707 wd76 wd708) rfl rfl rfl (by decide +kernel) ⟨Nat.le_of_ble_eq_true rfl, Nat.le_of_ble_eq_true rfl⟩) (r_pv hK hP hS (ltX7 (Or.inl rfl)) (ceX7 (Or.inl rfl)) rfl) rfl rfl hl.1 rfl (lv_room (Nat.le_of_ble_eq_true rfl)) dX2_allGoOn_40 ⟨Nat.le_of_ble_eq_true rfl, Nat.le_of_ble_eq_true rfl⟩) hS (fun H locs hP hS => ?_)
        refine lv_if_eq (tgt := 48) hx hb dX2_allGoOn_43 (by decide) (fun c43 => ?_) (fun c43 => ?_)
        · replace hf := if_t c43 hf
          refine lv_aload_n hx hb dX2_allGoOn_48 rfl (lv_at hl 0 rfl) ?_
          refine r_get (a := 55) (v := .ref (gB G 4)) (C := RX2) (T := TX2) (N := 4) hx hb hts hinX2 hown hK hP (ltX2 rfl) (ceX2 rfl) rfl 0 (by decide) wd285 rfl dX2_allGoOn_49 ?_
          refine lv_iload_n hx hb dX2_allGoOn_52 rfl (lv_at hl 2 rfl) ?_
          refine lv_aload_n hx hb dX2_allGoOn_53 rfl (lv_at hl 0 rfl) ?_
          refine r_get (a := 55) (v := .ref (gB G 56)) (C := RX2) (T := TX2) (N := 4) hx hb hts hinX2 hown hK hP (ltX2 rfl) (ceX2 rfl) rfl 2 (by decide) wd288 rfl dX2_allGoOn_54 ?_
          refine lv_iconst (v := 0) hx hb dX2_allGoOn_57 (by decide) ?_
          obtain ⟨h58, eh58, hf⟩ := bO_s hf
          refine r_callV (va_runV (As := [.int x3, .ref (gB G 56), .int 0]) (rest := []) ⟨hx, hb, hml, hown, hts⟩ (k_X7_putOn l hG 4 (Or.inl rfl) 56 16 (arX2_2 rfl) eh58) (cwV 3 hts (gV wd767 wd555 wd556 wd76 wd557) rfl rfl rfl (by decide +kernel) ⟨Nat.le_of_ble_eq_true rfl, Nat.le_of_ble_eq_true rfl⟩) (r_pv hK hP hS (ltX7 (Or.inl rfl)) (ceX7 (Or.inl rfl)) rfl) rfl rfl hl.1 rfl (lv_room (Nat.le_of_ble_eq_true rfl)) dX2_allGoOn_58 ⟨Nat.le_of_ble_eq_true rfl, Nat.le_of_ble_eq_true rfl⟩) hS (fun H locs hP hS => ?_)
          refine lv_iinc (v := (x3 + 1)) (lv' := [(3, .int (x3 + 1)), (0, .ref (gB G 55)), (2, .int x2)]) hx hb dX2_allGoOn_61 hl (k := 2) rfl rfl (by decide) rfl (fun ls hl => ?_)
          refine lv_goto (tgt := 11) hx hb dX2_allGoOn_64 (by decide) ?_
          exact ih (x3 + 1) h58 _ _ _ (lv_sub hl [1, 2, 0] rfl) hP hS hf
        · replace hf := if_f c43 hf
          refine lv_iconst (v := 0) hx hb dX2_allGoOn_46 (by decide) ?_
          exact r_zret hx hb hr rfl hlocks hP hS (re2 (Option.some.inj hf)) dX2_allGoOn_47
def f_X2_allGoOn (x1 : Int32) (x2 : Int32) (h : PH) : Option (Int32 × PH) := bO (f_X2_lay 56 16 x1 h) (fun h6 => f_X2_allGoOn_11 x2 FU 0 h6)
set_option maxHeartbeats 4000000 in
set_option maxRecDepth 100000 in
theorem k_X2_allGoOn (l : Launch) {G : GC} (hG : GOK G) {x1 : Int32} {x2 : Int32} {rr : Int32} {h hh : PH} (hf : f_X2_allGoOn x1 x2 h = some (rr, hh)) : CI l yX2_allGoOn vX2_allGoOn rmX2_allGoOn G [.ref (gB G 55), .int x1, .int x2] h rr hh := by
  refine Met.ofW (cc := cX2_allGoOn) (maxL := 4) (ret := (some .boolean)) (by decide +kernel) rfl ?_
  intro p e s m args below meth c s₁ B hml hv
  obtain ⟨rfl, hP, hK⟩ := hv
  have C : MC l G p s m _ meth c RX2 cX2_allGoOn 4 (some .boolean) := ⟨B.exec, B.bytes, B.returns, B.notSynchronized, hml, findClass_of_methodNamed B.named, fun w hw => atoms_spec (ws := vX2_allGoOn) B.pre w (List.mem_cons_of_mem _ hw), hK⟩
  obtain ⟨hx, hb, hr, hlocks, -, hown, hts, -⟩ := id C
  have hl := lv_entry ([.ref (gB G 55), .int x1, .int x2]) (n := 4) (Nat.le_of_ble_eq_true rfl)
  rw [lg_entry_eq]
  generalize (lg_sl ([.ref (gB G 55), .int x1, .int x2]) ++ List.replicate (4 - (lg_sl ([.ref (gB G 55), .int x1, .int x2])).length) Slot.unset).toArray = ls at hl ⊢
  have hl : lv_has ls 4 [(0, .ref (gB G 55)), (1, .int x1), (2, .int x2)] := hl
  have hS : SP G s s.heap [] := va_S.rf
  replace hP : WP G h s.heap := hP
  rw [f_X2_allGoOn] at hf
  refine lv_aload_n hx hb dX2_allGoOn_0 rfl (lv_at hl 0 rfl) ?_
  refine lv_iload_n hx hb dX2_allGoOn_1 rfl (lv_at hl 1 rfl) ?_
  refine lv_aload_n hx hb dX2_allGoOn_2 rfl (lv_at hl 0 rfl) ?_
  refine r_get (a := 55) (v := .ref (gB G 56)) (C := RX2) (T := TX2) (N := 4) hx hb hts hinX2 hown hK hP (ltX2 rfl) (ceX2 rfl) rfl 2 (by decide) wd288 rfl dX2_allGoOn_3 ?_
  obtain ⟨h6, eh6, hf⟩ := bO_s hf
  refine r_callV (va_runV (As := [.int x1, .ref (gB G 56)]) (rest := []) ⟨hx, hb, hml, hown, hts⟩ (k_X2_lay l hG 56 16 (arX2_2 rfl) eh6) (cwV 2 hts (gV wd762 wd764 wd14 wd79 wd765) rfl rfl rfl (by decide +kernel) ⟨Nat.le_of_ble_eq_true rfl, Nat.le_of_ble_eq_true rfl⟩) (r_pv hK hP hS (ltX2 rfl) (ceX2 rfl) rfl) rfl rfl hl.1 rfl (lv_room (Nat.le_of_ble_eq_true rfl)) dX2_allGoOn_6 ⟨Nat.le_of_ble_eq_true rfl, Nat.le_of_ble_eq_true rfl⟩) hS (fun H locs hP hS => ?_)
  refine lv_iconst (v := 0) hx hb dX2_allGoOn_9 (by decide) ?_
  refine lv_istore_n (lv' := [(3, .int 0), (0, .ref (gB G 55)), (1, .int x1), (2, .int x2)]) hx hb dX2_allGoOn_10 rfl hl (by decide) rfl (fun ls hl => ?_)
  exact w_X2_allGoOn_11 hG C x2 FU 0 h6 _ _ _ (lv_sub hl [1, 3, 0] rfl) hP hS hf
/-! CarriedBack$Picker.needsOf(II)I -/
abbrev rmX2_needsOf : Room := { frames := 3, cells := 0, slots := 0, locals := 75 }
abbrev vX2_needsOf : List Cond := Cond.code yX2_needsOf cX2_needsOf 7 (some .int) :: GW
def f_X2_needsOf_28 (x1 : Int32) (x2 : Int32) (x3 : Int32) : Nat → Int32 → Int32 → PH → Option (Int32 × PH)
  | 0, _, _, _ => none
  | n + 1, x4, x5, h => if x5 < 0 then (bP (f_X2_allGoOn x1 x4 h) (fun r100 h100 => if r100 = 0 then (some ((-1), h100)) else (some ((x4 &&& ((1 <<< (x2 &&& 31)) ^^^ (-1))), h100)))) else (bO (f_X8_has x4 x5) (fun r37 => if r37 = 0 then ((f_X2_needsOf_28 x1 x2 x3 n) x4 (x5 + (-1)) h) else (bP (f_X7_clashOf 4 32 64 x5 x1 h) (fun r60 h60 => bP (f_X2_settersOf x5 r60 h60) (fun r63 h63 => if r63 = (-1) then (some ((-1), h63)) else (if (r63 &&& x3) = 0 then (lt' ((x4 ||| r63)) (fun x4_88 => (f_X2_needsOf_28 x1 x2 x3 n) x4_88 (x5 + (-1)) h63)) else (some ((-1), h63))))))))
set_option maxHeartbeats 4000000 in
set_option maxRecDepth 100000 in
theorem w_X2_needsOf_28 {l : Launch} {G : GC} (hG : GOK G) {rr : Int32} {hh : PH} {p : Program} {e : Env} {s : State} {m : MethodId} {args : Array Value} {below : List Frame} {meth : Method} {c : Code} (C : MC l G p s m args meth c RX2 cX2_needsOf 7 (some .int)) (x1 : Int32) (x2 : Int32) (x3 : Int32) : ∀ (n : Nat) (x4 : Int32) (x5 : Int32) (h : PH) (H : Heap) (locs : List Loc) (ls : Array Slot), lv_has ls 7 [(0, .ref (gB G 55)), (1, .int x1), (2, .int x2), (3, .int x3), (4, .int x4), (5, .int x5)] → WP G h H → SP G s H locs → f_X2_needsOf_28 x1 x2 x3 n x4 x5 h = some (rr, hh) → W p l e rmX2_needsOf s m args below meth c H locs 0 0 (MQ below (QI G rr hh) args s 0 0 (gA G)) (F0 m 28 ls []) := by
  obtain ⟨hx, hb, hr, hlocks, hml, hown, hts, hK⟩ := id C
  intro n
  induction n with
  | zero => intro x4 x5 h H locs ls hl hP hS hf; rw [f_X2_needsOf_28] at hf; cases hf
  | succ n ih =>
    intro x4 x5 h H locs ls hl hP hS hf
    rw [f_X2_needsOf_28] at hf
    refine lv_iload hx hb dX2_needsOf_28 (lv_at hl 5 rfl) ?_
    refine lv_if_lt (tgt := 96) hx hb dX2_needsOf_30 (by decide) (fun c30 => ?_) (fun c30 => ?_)
    · replace hf := if_t c30 hf
      refine lv_aload_n hx hb dX2_needsOf_96 rfl (lv_at hl 0 rfl) ?_
      refine lv_iload_n hx hb dX2_needsOf_97 rfl (lv_at hl 1 rfl) ?_
      refine lv_iload hx hb dX2_needsOf_98 (lv_at hl 4 rfl) ?_
      obtain ⟨r100, h100, er100, hf⟩ := bP_s hf
      refine r_callI (va_runV (As := [.int x1, .int x4]) (rest := []) ⟨hx, hb, hml, hown, hts⟩ (k_X2_allGoOn l hG er100) (cwV 2 hts (gV wd758 wd759 wd760 wd79 wd761) rfl rfl rfl (by decide +kernel) ⟨Nat.le_of_ble_eq_true rfl, Nat.le_of_ble_eq_true rfl⟩) (r_pv hK hP hS (ltX2 rfl) (ceX2 rfl) rfl) rfl rfl hl.1 rfl (lv_room (Nat.le_of_ble_eq_true rfl)) dX2_needsOf_100 ⟨Nat.le_of_ble_eq_true rfl, Nat.le_of_ble_eq_true rfl⟩) hS (fun H locs hP hS => ?_)
      refine lv_if_eq (tgt := 117) hx hb dX2_needsOf_103 (by decide) (fun c103 => ?_) (fun c103 => ?_)
      · replace hf := if_t c103 hf
        refine lv_iconst (v := (-1)) hx hb dX2_needsOf_117 (by decide) ?_
        exact r_iret hx hb hr hlocks hP hS (re2 (Option.some.inj hf)) dX2_needsOf_118
      · replace hf := if_f c103 hf
        refine lv_iload hx hb dX2_needsOf_106 (lv_at hl 4 rfl) ?_
        refine lv_iconst (v := 1) hx hb dX2_needsOf_108 (by decide) ?_
        refine lv_iload_n hx hb dX2_needsOf_109 rfl (lv_at hl 2 rfl) ?_
        refine lv_ishl hx hb dX2_needsOf_110 ?_
        refine lv_iconst (v := (-1)) hx hb dX2_needsOf_111 (by decide) ?_
        refine lv_ixor hx hb dX2_needsOf_112 ?_
        refine lv_iand hx hb dX2_needsOf_113 ?_
        refine lv_goto (tgt := 118) hx hb dX2_needsOf_114 (by decide) ?_
        exact r_iret hx hb hr hlocks hP hS (re2 (Option.some.inj hf)) dX2_needsOf_118
    · replace hf := if_f c30 hf
      refine lv_iload hx hb dX2_needsOf_33 (lv_at hl 4 rfl) ?_
      refine lv_iload hx hb dX2_needsOf_35 (lv_at hl 5 rfl) ?_
      obtain ⟨r37, er37, hf⟩ := bO_s hf
      refine r_callI (va_runSN (As := [.int x4, .int x5]) (rest := []) ⟨hx, hb, hml, hown, hts⟩ (k_X8_has l hG (h := h) er37) ⟨va_cnB 2 hts (gC wd523) rfl rfl rfl (host := "CarriedBack") (hK.2.1 _ (by decide +kernel)) (hts _ wd73) (by decide +kernel) ⟨Nat.le_of_ble_eq_true rfl, Nat.le_of_ble_eq_true rfl⟩, hts _ wd522, trivial⟩ (r_ps hK hP hS) rfl rfl hl.1 rfl (lv_room (Nat.le_of_ble_eq_true rfl)) dX2_needsOf_37 ⟨Nat.le_of_ble_eq_true rfl, Nat.le_of_ble_eq_true rfl⟩) hS (fun H locs hP hS => ?_)
      refine lv_if_eq (tgt := 90) hx hb dX2_needsOf_40 (by decide) (fun c40 => ?_) (fun c40 => ?_)
      · replace hf := if_t c40 hf
        refine lv_iinc (v := (x5 + (-1))) (lv' := [(5, .int (x5 + (-1))), (0, .ref (gB G 55)), (1, .int x1), (2, .int x2), (3, .int x3), (4, .int x4)]) hx hb dX2_needsOf_90 hl (k := 5) rfl rfl (by decide) rfl (fun ls hl => ?_)
        refine lv_goto (tgt := 28) hx hb dX2_needsOf_93 (by decide) ?_
        exact ih x4 (x5 + (-1)) h _ _ _ (lv_sub hl [1, 2, 3, 4, 5, 0] rfl) hP hS hf
      · replace hf := if_f c40 hf
        refine lv_aload_n hx hb dX2_needsOf_43 rfl (lv_at hl 0 rfl) ?_
        refine lv_iload hx hb dX2_needsOf_44 (lv_at hl 5 rfl) ?_
        refine lv_aload_n hx hb dX2_needsOf_46 rfl (lv_at hl 0 rfl) ?_
        refine r_get (a := 55) (v := .ref (gB G 4)) (C := RX2) (T := TX2) (N := 4) hx hb hts hinX2 hown hK hP (ltX2 rfl) (ceX2 rfl) rfl 0 (by decide) wd285 rfl dX2_needsOf_47 ?_
        refine lv_iload hx hb dX2_needsOf_50 (lv_at hl 5 rfl) ?_
        refine lv_aload_n hx hb dX2_needsOf_52 rfl (lv_at hl 0 rfl) ?_
        refine r_get (a := 55) (v := .ref (gB G 28)) (C := RX2) (T := TX2) (N := 4) hx hb hts hinX2 hown hK hP (ltX2 rfl) (ceX2 rfl) rfl 1 (by decide) wd286 rfl dX2_needsOf_53 ?_
        refine r_get (a := 28) (v := .ref (gB G 32)) (C := RX0) (T := TX0) (N := 10) hx hb hts hinX0 hown hK hP (ltX0 (Or.inl rfl)) (ceX0 (Or.inl rfl)) rfl 4 (by decide) wd246 rfl dX2_needsOf_56 ?_
        refine lv_iload_n hx hb dX2_needsOf_59 rfl (lv_at hl 1 rfl) ?_
        obtain ⟨r60, h60, er60, hf⟩ := bP_s hf
        refine r_callI (va_runV (As := [.int x5, .ref (gB G 32), .int x1]) (rest := [.int x5, .ref (gB G 55)]) ⟨hx, hb, hml, hown, hts⟩ (k_X7_clashOf l hG 4 (Or.inl rfl) 32 64 (arX0_4 (Or.inl rfl)) er60) (cwV 3 hts (gV wd749 wd706 wd707 wd76 wd708) rfl rfl rfl (by decide +kernel) ⟨Nat.le_of_ble_eq_true rfl, Nat.le_of_ble_eq_true rfl⟩) (r_pv hK hP hS (ltX7 (Or.inl rfl)) (ceX7 (Or.inl rfl)) rfl) rfl rfl hl.1 rfl (lv_room (Nat.le_of_ble_eq_true rfl)) dX2_needsOf_60 ⟨Nat.le_of_ble_eq_true rfl, Nat.le_of_ble_eq_true rfl⟩) hS (fun H locs hP hS => ?_)
        obtain ⟨r63, h63, er63, hf⟩ := bP_s hf
        refine r_callI (va_runV (As := [.int x5, .int r60]) (rest := []) ⟨hx, hb, hml, hown, hts⟩ (k_X2_settersOf l hG er63) (cwV 2 hts (gV wd750 wd752 wd13 wd79 wd753) rfl rfl rfl (by decide +kernel) ⟨Nat.le_of_ble_eq_true rfl, Nat.le_of_ble_eq_true rfl⟩) (r_pv hK hP hS (ltX2 rfl) (ceX2 rfl) rfl) rfl rfl hl.1 rfl (lv_room (Nat.le_of_ble_eq_true rfl)) dX2_needsOf_63 ⟨Nat.le_of_ble_eq_true rfl, Nat.le_of_ble_eq_true rfl⟩) hS (fun H locs hP hS => ?_)
        refine lv_istore (lv' := [(6, .int r63), (0, .ref (gB G 55)), (1, .int x1), (2, .int x2), (3, .int x3), (4, .int x4), (5, .int x5)]) hx hb dX2_needsOf_66 hl (by decide) rfl (fun ls hl => ?_)
        refine lv_iload hx hb dX2_needsOf_68 (lv_at hl 0 rfl) ?_
        refine lv_iconst (v := (-1)) hx hb dX2_needsOf_70 (by decide) ?_
        refine lv_icmp_eq (tgt := 81) hx hb dX2_needsOf_71 (by decide) (fun c71 => ?_) (fun c71 => ?_)
        · replace hf := if_t c71 hf
          refine lv_iconst (v := (-1)) hx hb dX2_needsOf_81 (by decide) ?_
          exact r_iret hx hb hr hlocks hP hS (re2 (Option.some.inj hf)) dX2_needsOf_82
        · replace hf := if_f c71 hf
          refine lv_iload hx hb dX2_needsOf_74 (lv_at hl 0 rfl) ?_
          refine lv_iload_n hx hb dX2_needsOf_76 rfl (lv_at hl 4 rfl) ?_
          refine lv_iand hx hb dX2_needsOf_77 ?_
          refine lv_if_eq (tgt := 83) hx hb dX2_needsOf_78 (by decide) (fun c78 => ?_) (fun c78 => ?_)
          · replace hf := if_t c78 hf
            refine lv_iload hx hb dX2_needsOf_83 (lv_at hl 5 rfl) ?_
            refine lv_iload hx hb dX2_needsOf_85 (lv_at hl 0 rfl) ?_
            refine lv_ior hx hb dX2_needsOf_87 ?_
            refine lv_topi (fun x4_88 ex4_88 => ?_)
            replace hf := lt_at ex4_88 hf
            refine lv_istore (lv' := [(4, .int x4_88), (6, .int r63), (0, .ref (gB G 55)), (1, .int x1), (2, .int x2), (3, .int x3), (5, .int x5)]) hx hb dX2_needsOf_88 hl (by decide) rfl (fun ls hl => ?_)
            refine lv_iinc (v := (x5 + (-1))) (lv' := [(5, .int (x5 + (-1))), (4, .int x4_88), (6, .int r63), (0, .ref (gB G 55)), (1, .int x1), (2, .int x2), (3, .int x3)]) hx hb dX2_needsOf_90 hl (k := 6) rfl rfl (by decide) rfl (fun ls hl => ?_)
            refine lv_goto (tgt := 28) hx hb dX2_needsOf_93 (by decide) ?_
            exact ih x4_88 (x5 + (-1)) h63 _ _ _ (lv_sub hl [3, 4, 5, 6, 1, 0] rfl) hP hS hf
          · replace hf := if_f c78 hf
            refine lv_iconst (v := (-1)) hx hb dX2_needsOf_81 (by decide) ?_
            exact r_iret hx hb hr hlocks hP hS (re2 (Option.some.inj hf)) dX2_needsOf_82
def f_X2_needsOf (x1 : Int32) (x2 : Int32) (h : PH) : Option (Int32 × PH) := bO (ag h 30 4 x1) (fun v8 => bO (f_X8_has v8 x2) (fun r12 => if r12 = 0 then (lt' ((1 <<< (x2 &&& 31))) (fun x4_23 => f_X2_needsOf_28 x1 x2 v8 FU x4_23 x2 h)) else (some ((-1), h))))
set_option maxHeartbeats 4000000 in
set_option maxRecDepth 100000 in
theorem k_X2_needsOf (l : Launch) {G : GC} (hG : GOK G) {x1 : Int32} {x2 : Int32} {rr : Int32} {h hh : PH} (hf : f_X2_needsOf x1 x2 h = some (rr, hh)) : CI l yX2_needsOf vX2_needsOf rmX2_needsOf G [.ref (gB G 55), .int x1, .int x2] h rr hh := by
  refine Met.ofW (cc := cX2_needsOf) (maxL := 7) (ret := (some .int)) (by decide +kernel) rfl ?_
  intro p e s m args below meth c s₁ B hml hv
  obtain ⟨rfl, hP, hK⟩ := hv
  have C : MC l G p s m _ meth c RX2 cX2_needsOf 7 (some .int) := ⟨B.exec, B.bytes, B.returns, B.notSynchronized, hml, findClass_of_methodNamed B.named, fun w hw => atoms_spec (ws := vX2_needsOf) B.pre w (List.mem_cons_of_mem _ hw), hK⟩
  obtain ⟨hx, hb, hr, hlocks, -, hown, hts, -⟩ := id C
  have hl := lv_entry ([.ref (gB G 55), .int x1, .int x2]) (n := 7) (Nat.le_of_ble_eq_true rfl)
  rw [lg_entry_eq]
  generalize (lg_sl ([.ref (gB G 55), .int x1, .int x2]) ++ List.replicate (7 - (lg_sl ([.ref (gB G 55), .int x1, .int x2])).length) Slot.unset).toArray = ls at hl ⊢
  have hl : lv_has ls 7 [(0, .ref (gB G 55)), (1, .int x1), (2, .int x2)] := hl
  have hS : SP G s s.heap [] := va_S.rf
  replace hP : WP G h s.heap := hP
  rw [f_X2_needsOf] at hf
  refine lv_aload_n hx hb dX2_needsOf_0 rfl (lv_at hl 0 rfl) ?_
  refine r_get (a := 55) (v := .ref (gB G 28)) (C := RX2) (T := TX2) (N := 4) hx hb hts hinX2 hown hK hP (ltX2 rfl) (ceX2 rfl) rfl 1 (by decide) wd286 rfl dX2_needsOf_1 ?_
  refine r_get (a := 28) (v := .ref (gB G 30)) (C := RX0) (T := TX0) (N := 10) hx hb hts hinX0 hown hK hP (ltX0 (Or.inl rfl)) (ceX0 (Or.inl rfl)) rfl 2 (by decide) wd241 rfl dX2_needsOf_4 ?_
  refine lv_iload_n hx hb dX2_needsOf_7 rfl (lv_at hl 1 rfl) ?_
  obtain ⟨v8, ev8, hf⟩ := bO_s hf
  refine r_iald hx hb hK hP (arX0_2 (Or.inl rfl)) ev8 dX2_needsOf_8 ?_
  refine lv_istore_n (lv' := [(3, .int v8), (0, .ref (gB G 55)), (1, .int x1), (2, .int x2)]) hx hb dX2_needsOf_9 rfl hl (by decide) rfl (fun ls hl => ?_)
  refine lv_iload_n hx hb dX2_needsOf_10 rfl (lv_at hl 0 rfl) ?_
  refine lv_iload_n hx hb dX2_needsOf_11 rfl (lv_at hl 3 rfl) ?_
  obtain ⟨r12, er12, hf⟩ := bO_s hf
  refine r_callI (va_runSN (As := [.int v8, .int x2]) (rest := []) ⟨hx, hb, hml, hown, hts⟩ (k_X8_has l hG (h := h) er12) ⟨va_cnB 2 hts (gC wd523) rfl rfl rfl (host := "CarriedBack") (hK.2.1 _ (by decide +kernel)) (hts _ wd73) (by decide +kernel) ⟨Nat.le_of_ble_eq_true rfl, Nat.le_of_ble_eq_true rfl⟩, hts _ wd522, trivial⟩ (r_ps hK hP hS) rfl rfl hl.1 rfl (lv_room (Nat.le_of_ble_eq_true rfl)) dX2_needsOf_12 ⟨Nat.le_of_ble_eq_true rfl, Nat.le_of_ble_eq_true rfl⟩) hS (fun H locs hP hS => ?_)
  refine lv_if_eq (tgt := 20) hx hb dX2_needsOf_15 (by decide) (fun c15 => ?_) (fun c15 => ?_)
  · replace hf := if_t c15 hf
    refine lv_iconst (v := 1) hx hb dX2_needsOf_20 (by decide) ?_
    refine lv_iload_n hx hb dX2_needsOf_21 rfl (lv_at hl 3 rfl) ?_
    refine lv_ishl hx hb dX2_needsOf_22 ?_
    refine lv_topi (fun x4_23 ex4_23 => ?_)
    replace hf := lt_at ex4_23 hf
    refine lv_istore (lv' := [(4, .int x4_23), (3, .int v8), (0, .ref (gB G 55)), (1, .int x1), (2, .int x2)]) hx hb dX2_needsOf_23 hl (by decide) rfl (fun ls hl => ?_)
    refine lv_iload_n hx hb dX2_needsOf_25 rfl (lv_at hl 4 rfl) ?_
    refine lv_istore (lv' := [(5, .int x2), (4, .int x4_23), (3, .int v8), (0, .ref (gB G 55)), (1, .int x1), (2, .int x2)]) hx hb dX2_needsOf_26 hl (by decide) rfl (fun ls hl => ?_)
    exact w_X2_needsOf_28 hG C x1 x2 v8 FU x4_23 x2 h _ _ _ (lv_sub hl [3, 4, 5, 2, 1, 0] rfl) hP hS hf
  · replace hf := if_f c15 hf
    refine lv_iconst (v := (-1)) hx hb dX2_needsOf_18 (by decide) ?_
    exact r_iret hx hb hr hlocks hP hS (re2 (Option.some.inj hf)) dX2_needsOf_19
/-! CarriedBack.needs(II)I -/
abbrev rmX8_needs : Room := { frames := 4, cells := 0, slots := 0, locals := 101 }
abbrev vX8_needs : List Cond := Cond.code yX8_needs cX8_needs 3 (some .int) :: GW
def f_X8_needs (x1 : Int32) (x2 : Int32) (h : PH) : Option (Int32 × PH) := bP (f_X0_hasLine 28 x1 h) (fun r5 h5 => if r5 = 0 then (some ((-1001), h5)) else (bP (f_X7_hasChange 4 x2 h5) (fun r16 h16 => if r16 = 0 then (some ((-1001), h16)) else (bP (f_X2_needsOf x1 x2 h16) (fun r32 h32 => some (r32, h32))))))
set_option maxHeartbeats 4000000 in
set_option maxRecDepth 100000 in
theorem k_X8_needs (l : Launch) {G : GC} (hG : GOK G) {x1 : Int32} {x2 : Int32} {rr : Int32} {h hh : PH} (hf : f_X8_needs x1 x2 h = some (rr, hh)) : CI l yX8_needs vX8_needs rmX8_needs G [.ref (gB G 0), .int x1, .int x2] h rr hh := by
  refine Met.ofW (cc := cX8_needs) (maxL := 3) (ret := (some .int)) (by decide +kernel) rfl ?_
  intro p e s m args below meth c s₁ B hml hv
  obtain ⟨rfl, hP, hK⟩ := hv
  have C : MC l G p s m _ meth c RX8 cX8_needs 3 (some .int) := ⟨B.exec, B.bytes, B.returns, B.notSynchronized, hml, findClass_of_methodNamed B.named, fun w hw => atoms_spec (ws := vX8_needs) B.pre w (List.mem_cons_of_mem _ hw), hK⟩
  obtain ⟨hx, hb, hr, hlocks, -, hown, hts, -⟩ := id C
  have hl := lv_entry ([.ref (gB G 0), .int x1, .int x2]) (n := 3) (Nat.le_of_ble_eq_true rfl)
  rw [lg_entry_eq]
  generalize (lg_sl ([.ref (gB G 0), .int x1, .int x2]) ++ List.replicate (3 - (lg_sl ([.ref (gB G 0), .int x1, .int x2])).length) Slot.unset).toArray = ls at hl ⊢
  have hl : lv_has ls 3 [(0, .ref (gB G 0)), (1, .int x1), (2, .int x2)] := hl
  have hS : SP G s s.heap [] := va_S.rf
  replace hP : WP G h s.heap := hP
  rw [f_X8_needs] at hf
  refine lv_aload_n hx hb dX8_needs_0 rfl (lv_at hl 0 rfl) ?_
  refine r_get (a := 0) (v := .ref (gB G 28)) (C := RX8) (T := TX8) (N := 14) hx hb hts hinX8 hown hK hP (ltX8 rfl) (ceX8 rfl) rfl 6 (by decide) wd368 rfl dX8_needs_1 ?_
  refine lv_iload_n hx hb dX8_needs_4 rfl (lv_at hl 1 rfl) ?_
  obtain ⟨r5, h5, er5, hf⟩ := bP_s hf
  refine r_callI (va_runV (As := [.int x1]) (rest := []) ⟨hx, hb, hml, hown, hts⟩ (k_X0_hasLine l hG 28 (Or.inl rfl) er5) (cwV 1 hts (gV wd684 wd685 wd686 wd78 wd687) rfl rfl rfl (by decide +kernel) ⟨Nat.le_of_ble_eq_true rfl, Nat.le_of_ble_eq_true rfl⟩) (r_pv hK hP hS (ltX0 (Or.inl rfl)) (ceX0 (Or.inl rfl)) rfl) rfl rfl hl.1 rfl (lv_room (Nat.le_of_ble_eq_true rfl)) dX8_needs_5 ⟨Nat.le_of_ble_eq_true rfl, Nat.le_of_ble_eq_true rfl⟩) hS (fun H locs hP hS => ?_)
  refine lv_if_eq (tgt := 22) hx hb dX8_needs_8 (by decide) (fun c8 => ?_) (fun c8 => ?_)
  · replace hf := if_t c8 hf
    refine lv_sipush (v := (-1001)) hx hb dX8_needs_22 (by decide) ?_
    exact r_iret hx hb hr hlocks hP hS (re2 (Option.some.inj hf)) dX8_needs_25
  · replace hf := if_f c8 hf
    refine lv_aload_n hx hb dX8_needs_11 rfl (lv_at hl 0 rfl) ?_
    refine r_get (a := 0) (v := .ref (gB G 4)) (C := RX8) (T := TX8) (N := 14) hx hb hts hinX8 hown hK hP (ltX8 rfl) (ceX8 rfl) rfl 2 (by decide) wd364 rfl dX8_needs_12 ?_
    refine lv_iload_n hx hb dX8_needs_15 rfl (lv_at hl 2 rfl) ?_
    obtain ⟨r16, h16, er16, hf⟩ := bP_s hf
    refine r_callI (va_runV (As := [.int x2]) (rest := []) ⟨hx, hb, hml, hown, hts⟩ (k_X7_hasChange l hG 4 (Or.inl rfl) er16) (cwV 1 hts (gV wd629 wd630 wd631 wd76 wd632) rfl rfl rfl (by decide +kernel) ⟨Nat.le_of_ble_eq_true rfl, Nat.le_of_ble_eq_true rfl⟩) (r_pv hK hP hS (ltX7 (Or.inl rfl)) (ceX7 (Or.inl rfl)) rfl) rfl rfl hl.1 rfl (lv_room (Nat.le_of_ble_eq_true rfl)) dX8_needs_16 ⟨Nat.le_of_ble_eq_true rfl, Nat.le_of_ble_eq_true rfl⟩) hS (fun H locs hP hS => ?_)
    refine lv_if_ne (tgt := 26) hx hb dX8_needs_19 (by decide) (fun c19 => ?_) (fun c19 => ?_)
    · replace hf := if_f c19 hf
      refine lv_aload_n hx hb dX8_needs_26 rfl (lv_at hl 0 rfl) ?_
      refine r_get (a := 0) (v := .ref (gB G 55)) (C := RX8) (T := TX8) (N := 14) hx hb hts hinX8 hown hK hP (ltX8 rfl) (ceX8 rfl) rfl 9 (by decide) wd371 rfl dX8_needs_27 ?_
      refine lv_iload_n hx hb dX8_needs_30 rfl (lv_at hl 1 rfl) ?_
      refine lv_iload_n hx hb dX8_needs_31 rfl (lv_at hl 2 rfl) ?_
      obtain ⟨r32, h32, er32, hf⟩ := bP_s hf
      refine r_callI (va_runV (As := [.int x1, .int x2]) (rest := []) ⟨hx, hb, hml, hown, hts⟩ (k_X2_needsOf l hG er32) (cwV 2 hts (gV wd744 wd745 wd746 wd79 wd747) rfl rfl rfl (by decide +kernel) ⟨Nat.le_of_ble_eq_true rfl, Nat.le_of_ble_eq_true rfl⟩) (r_pv hK hP hS (ltX2 rfl) (ceX2 rfl) rfl) rfl rfl hl.1 rfl (lv_room (Nat.le_of_ble_eq_true rfl)) dX8_needs_32 ⟨Nat.le_of_ble_eq_true rfl, Nat.le_of_ble_eq_true rfl⟩) hS (fun H locs hP hS => ?_)
      exact r_iret hx hb hr hlocks hP hS (re2 (Option.some.inj hf)) dX8_needs_35
    · replace hf := if_t c19 hf
      refine lv_sipush (v := (-1001)) hx hb dX8_needs_22 (by decide) ?_
      exact r_iret hx hb hr hlocks hP hS (re2 (Option.some.inj hf)) dX8_needs_25
/-! CarriedBack.carry(II)I -/
abbrev rmX8_carry : Room := { frames := 4, cells := 0, slots := 0, locals := 101 }
abbrev vX8_carry : List Cond := Cond.code yX8_carry cX8_carry 6 (some .int) :: GW
def f_X8_carry_55 (x1 : Int32) (x4 : Int32) : Nat → Int32 → PH → Option (Int32 × PH)
  | 0, _, _ => none
  | n + 1, x5, h => if (h.1 4 0) ≤ x5 then (bO (f_J6_bitCount_0f7a4 x4) (fun r99 => some (r99, h))) else (bO (f_X8_has x4 x5) (fun r71 => if r71 = 0 then ((f_X8_carry_55 x1 x4 n) (x5 + 1) h) else (bO (f_X0_putOn 28 4 x1 x5 h) (fun h88 => (f_X8_carry_55 x1 x4 n) (x5 + 1) h88))))
set_option maxHeartbeats 4000000 in
set_option maxRecDepth 100000 in
theorem w_X8_carry_55 {l : Launch} {G : GC} (hG : GOK G) {rr : Int32} {hh : PH} {p : Program} {e : Env} {s : State} {m : MethodId} {args : Array Value} {below : List Frame} {meth : Method} {c : Code} (C : MC l G p s m args meth c RX8 cX8_carry 6 (some .int)) (x1 : Int32) (x4 : Int32) : ∀ (n : Nat) (x5 : Int32) (h : PH) (H : Heap) (locs : List Loc) (ls : Array Slot), lv_has ls 6 [(0, .ref (gB G 0)), (1, .int x1), (4, .int x4), (5, .int x5)] → WP G h H → SP G s H locs → f_X8_carry_55 x1 x4 n x5 h = some (rr, hh) → W p l e rmX8_carry s m args below meth c H locs 0 0 (MQ below (QI G rr hh) args s 0 0 (gA G)) (F0 m 55 ls []) := by
  obtain ⟨hx, hb, hr, hlocks, hml, hown, hts, hK⟩ := id C
  intro n
  induction n with
  | zero => intro x5 h H locs ls hl hP hS hf; rw [f_X8_carry_55] at hf; cases hf
  | succ n ih =>
    intro x5 h H locs ls hl hP hS hf
    rw [f_X8_carry_55] at hf
    refine lv_iload hx hb dX8_carry_55 (lv_at hl 3 rfl) ?_
    refine lv_aload_n hx hb dX8_carry_57 rfl (lv_at hl 0 rfl) ?_
    refine r_get (a := 0) (v := .ref (gB G 4)) (C := RX8) (T := TX8) (N := 14) hx hb hts hinX8 hown hK hP (ltX8 rfl) (ceX8 rfl) rfl 2 (by decide) wd364 rfl dX8_carry_58 ?_
    refine r_get (a := 4) (v := .int (h.1 4 0)) (C := RX7) (T := TX7) (N := 10) hx hb hts hinX7 hown hK hP (ltX7 (Or.inl rfl)) (ceX7 (Or.inl rfl)) rfl 0 (by decide) wd156 rfl dX8_carry_61 ?_
    refine lv_icmp_ge (tgt := 97) hx hb dX8_carry_64 (by decide) (fun c64 => ?_) (fun c64 => ?_)
    · replace hf := if_t c64 hf
      refine lv_iload hx hb dX8_carry_97 (lv_at hl 2 rfl) ?_
      obtain ⟨r99, er99, hf⟩ := bO_s hf
      refine r_callI (va_runS (As := [.int x4]) (rest := []) ⟨hx, hb, hml, hown, hts⟩ (k_J6_bitCount_0f7a4 l hG (h := h) er99) (va_cwS 1 hts (gS wd718 wd719 wd88 wd720) rfl rfl rfl (by decide +kernel) ⟨Nat.le_of_ble_eq_true rfl, Nat.le_of_ble_eq_true rfl⟩) (r_ps hK hP hS) rfl rfl hl.1 rfl (lv_room (Nat.le_of_ble_eq_true rfl)) dX8_carry_99 ⟨Nat.le_of_ble_eq_true rfl, Nat.le_of_ble_eq_true rfl⟩) hS (fun H locs hP hS => ?_)
      exact r_iret hx hb hr hlocks hP hS (re2 (Option.some.inj hf)) dX8_carry_102
    · replace hf := if_f c64 hf
      refine lv_iload hx hb dX8_carry_67 (lv_at hl 2 rfl) ?_
      refine lv_iload hx hb dX8_carry_69 (lv_at hl 3 rfl) ?_
      obtain ⟨r71, er71, hf⟩ := bO_s hf
      refine r_callI (va_runS (As := [.int x4, .int x5]) (rest := []) ⟨hx, hb, hml, hown, hts⟩ (k_X8_has l hG (h := h) er71) (va_cwS 2 hts (gS wd704 wd522 wd73 wd523) rfl rfl rfl (by decide +kernel) ⟨Nat.le_of_ble_eq_true rfl, Nat.le_of_ble_eq_true rfl⟩) (r_ps hK hP hS) rfl rfl hl.1 rfl (lv_room (Nat.le_of_ble_eq_true rfl)) dX8_carry_71 ⟨Nat.le_of_ble_eq_true rfl, Nat.le_of_ble_eq_true rfl⟩) hS (fun H locs hP hS => ?_)
      refine lv_if_eq (tgt := 91) hx hb dX8_carry_74 (by decide) (fun c74 => ?_) (fun c74 => ?_)
      · replace hf := if_t c74 hf
        refine lv_iinc (v := (x5 + 1)) (lv' := [(5, .int (x5 + 1)), (0, .ref (gB G 0)), (1, .int x1), (4, .int x4)]) hx hb dX8_carry_91 hl (k := 3) rfl rfl (by decide) rfl (fun ls hl => ?_)
        refine lv_goto (tgt := 55) hx hb dX8_carry_94 (by decide) ?_
        exact ih (x5 + 1) h _ _ _ (lv_sub hl [1, 2, 3, 0] rfl) hP hS hf
      · replace hf := if_f c74 hf
        refine lv_aload_n hx hb dX8_carry_77 rfl (lv_at hl 0 rfl) ?_
        refine r_get (a := 0) (v := .ref (gB G 28)) (C := RX8) (T := TX8) (N := 14) hx hb hts hinX8 hown hK hP (ltX8 rfl) (ceX8 rfl) rfl 6 (by decide) wd368 rfl dX8_carry_78 ?_
        refine lv_iload_n hx hb dX8_carry_81 rfl (lv_at hl 1 rfl) ?_
        refine lv_iload hx hb dX8_carry_82 (lv_at hl 3 rfl) ?_
        refine lv_aload_n hx hb dX8_carry_84 rfl (lv_at hl 0 rfl) ?_
        refine r_get (a := 0) (v := .ref (gB G 4)) (C := RX8) (T := TX8) (N := 14) hx hb hts hinX8 hown hK hP (ltX8 rfl) (ceX8 rfl) rfl 2 (by decide) wd364 rfl dX8_carry_85 ?_
        obtain ⟨h88, eh88, hf⟩ := bO_s hf
        refine r_callV (va_runV (As := [.int x1, .int x5, .ref (gB G 4)]) (rest := []) ⟨hx, hb, hml, hown, hts⟩ (k_X0_putOn l hG 28 (Or.inl rfl) 4 (Or.inl rfl) eh88) (cwV 3 hts (gV wd713 wd714 wd715 wd78 wd716) rfl rfl rfl (by decide +kernel) ⟨Nat.le_of_ble_eq_true rfl, Nat.le_of_ble_eq_true rfl⟩) (r_pv hK hP hS (ltX0 (Or.inl rfl)) (ceX0 (Or.inl rfl)) rfl) rfl rfl hl.1 rfl (lv_room (Nat.le_of_ble_eq_true rfl)) dX8_carry_88 ⟨Nat.le_of_ble_eq_true rfl, Nat.le_of_ble_eq_true rfl⟩) hS (fun H locs hP hS => ?_)
        refine lv_iinc (v := (x5 + 1)) (lv' := [(5, .int (x5 + 1)), (0, .ref (gB G 0)), (1, .int x1), (4, .int x4)]) hx hb dX8_carry_91 hl (k := 3) rfl rfl (by decide) rfl (fun ls hl => ?_)
        refine lv_goto (tgt := 55) hx hb dX8_carry_94 (by decide) ?_
        exact ih (x5 + 1) h88 _ _ _ (lv_sub hl [1, 2, 3, 0] rfl) hP hS hf
def f_X8_carry (x1 : Int32) (x2 : Int32) (h : PH) : Option (Int32 × PH) := bP (f_X0_hasLine 28 x1 h) (fun r5 h5 => if r5 = 0 then (some ((-1001), h5)) else (bP (f_X7_hasChange 4 x2 h5) (fun r16 h16 => if r16 = 0 then (some ((-1001), h16)) else (bP (f_X2_needsOf x1 x2 h16) (fun r32 h32 => if r32 = (-1) then (some ((-1003), h32)) else (lt' ((r32 ||| (1 <<< (x2 &&& 31)))) (fun x4_50 => f_X8_carry_55 x1 x4_50 FU 0 h32)))))))
set_option maxHeartbeats 4000000 in
set_option maxRecDepth 100000 in
theorem k_X8_carry (l : Launch) {G : GC} (hG : GOK G) {x1 : Int32} {x2 : Int32} {rr : Int32} {h hh : PH} (hf : f_X8_carry x1 x2 h = some (rr, hh)) : CI l yX8_carry vX8_carry rmX8_carry G [.ref (gB G 0), .int x1, .int x2] h rr hh := by
  refine Met.ofW (cc := cX8_carry) (maxL := 6) (ret := (some .int)) (by decide +kernel) rfl ?_
  intro p e s m args below meth c s₁ B hml hv
  obtain ⟨rfl, hP, hK⟩ := hv
  have C : MC l G p s m _ meth c RX8 cX8_carry 6 (some .int) := ⟨B.exec, B.bytes, B.returns, B.notSynchronized, hml, findClass_of_methodNamed B.named, fun w hw => atoms_spec (ws := vX8_carry) B.pre w (List.mem_cons_of_mem _ hw), hK⟩
  obtain ⟨hx, hb, hr, hlocks, -, hown, hts, -⟩ := id C
  have hl := lv_entry ([.ref (gB G 0), .int x1, .int x2]) (n := 6) (Nat.le_of_ble_eq_true rfl)
  rw [lg_entry_eq]
  generalize (lg_sl ([.ref (gB G 0), .int x1, .int x2]) ++ List.replicate (6 - (lg_sl ([.ref (gB G 0), .int x1, .int x2])).length) Slot.unset).toArray = ls at hl ⊢
  have hl : lv_has ls 6 [(0, .ref (gB G 0)), (1, .int x1), (2, .int x2)] := hl
  have hS : SP G s s.heap [] := va_S.rf
  replace hP : WP G h s.heap := hP
  rw [f_X8_carry] at hf
  refine lv_aload_n hx hb dX8_carry_0 rfl (lv_at hl 0 rfl) ?_
  refine r_get (a := 0) (v := .ref (gB G 28)) (C := RX8) (T := TX8) (N := 14) hx hb hts hinX8 hown hK hP (ltX8 rfl) (ceX8 rfl) rfl 6 (by decide) wd368 rfl dX8_carry_1 ?_
  refine lv_iload_n hx hb dX8_carry_4 rfl (lv_at hl 1 rfl) ?_
  obtain ⟨r5, h5, er5, hf⟩ := bP_s hf
  refine r_callI (va_runV (As := [.int x1]) (rest := []) ⟨hx, hb, hml, hown, hts⟩ (k_X0_hasLine l hG 28 (Or.inl rfl) er5) (cwV 1 hts (gV wd684 wd685 wd686 wd78 wd687) rfl rfl rfl (by decide +kernel) ⟨Nat.le_of_ble_eq_true rfl, Nat.le_of_ble_eq_true rfl⟩) (r_pv hK hP hS (ltX0 (Or.inl rfl)) (ceX0 (Or.inl rfl)) rfl) rfl rfl hl.1 rfl (lv_room (Nat.le_of_ble_eq_true rfl)) dX8_carry_5 ⟨Nat.le_of_ble_eq_true rfl, Nat.le_of_ble_eq_true rfl⟩) hS (fun H locs hP hS => ?_)
  refine lv_if_eq (tgt := 22) hx hb dX8_carry_8 (by decide) (fun c8 => ?_) (fun c8 => ?_)
  · replace hf := if_t c8 hf
    refine lv_sipush (v := (-1001)) hx hb dX8_carry_22 (by decide) ?_
    exact r_iret hx hb hr hlocks hP hS (re2 (Option.some.inj hf)) dX8_carry_25
  · replace hf := if_f c8 hf
    refine lv_aload_n hx hb dX8_carry_11 rfl (lv_at hl 0 rfl) ?_
    refine r_get (a := 0) (v := .ref (gB G 4)) (C := RX8) (T := TX8) (N := 14) hx hb hts hinX8 hown hK hP (ltX8 rfl) (ceX8 rfl) rfl 2 (by decide) wd364 rfl dX8_carry_12 ?_
    refine lv_iload_n hx hb dX8_carry_15 rfl (lv_at hl 2 rfl) ?_
    obtain ⟨r16, h16, er16, hf⟩ := bP_s hf
    refine r_callI (va_runV (As := [.int x2]) (rest := []) ⟨hx, hb, hml, hown, hts⟩ (k_X7_hasChange l hG 4 (Or.inl rfl) er16) (cwV 1 hts (gV wd629 wd630 wd631 wd76 wd632) rfl rfl rfl (by decide +kernel) ⟨Nat.le_of_ble_eq_true rfl, Nat.le_of_ble_eq_true rfl⟩) (r_pv hK hP hS (ltX7 (Or.inl rfl)) (ceX7 (Or.inl rfl)) rfl) rfl rfl hl.1 rfl (lv_room (Nat.le_of_ble_eq_true rfl)) dX8_carry_16 ⟨Nat.le_of_ble_eq_true rfl, Nat.le_of_ble_eq_true rfl⟩) hS (fun H locs hP hS => ?_)
    refine lv_if_ne (tgt := 26) hx hb dX8_carry_19 (by decide) (fun c19 => ?_) (fun c19 => ?_)
    · replace hf := if_f c19 hf
      refine lv_aload_n hx hb dX8_carry_26 rfl (lv_at hl 0 rfl) ?_
      refine r_get (a := 0) (v := .ref (gB G 55)) (C := RX8) (T := TX8) (N := 14) hx hb hts hinX8 hown hK hP (ltX8 rfl) (ceX8 rfl) rfl 9 (by decide) wd371 rfl dX8_carry_27 ?_
      refine lv_iload_n hx hb dX8_carry_30 rfl (lv_at hl 1 rfl) ?_
      refine lv_iload_n hx hb dX8_carry_31 rfl (lv_at hl 2 rfl) ?_
      obtain ⟨r32, h32, er32, hf⟩ := bP_s hf
      refine r_callI (va_runV (As := [.int x1, .int x2]) (rest := []) ⟨hx, hb, hml, hown, hts⟩ (k_X2_needsOf l hG er32) (cwV 2 hts (gV wd744 wd745 wd746 wd79 wd747) rfl rfl rfl (by decide +kernel) ⟨Nat.le_of_ble_eq_true rfl, Nat.le_of_ble_eq_true rfl⟩) (r_pv hK hP hS (ltX2 rfl) (ceX2 rfl) rfl) rfl rfl hl.1 rfl (lv_room (Nat.le_of_ble_eq_true rfl)) dX8_carry_32 ⟨Nat.le_of_ble_eq_true rfl, Nat.le_of_ble_eq_true rfl⟩) hS (fun H locs hP hS => ?_)
      refine lv_istore_n (lv' := [(3, .int r32), (0, .ref (gB G 0)), (1, .int x1), (2, .int x2)]) hx hb dX8_carry_35 rfl hl (by decide) rfl (fun ls hl => ?_)
      refine lv_iload_n hx hb dX8_carry_36 rfl (lv_at hl 0 rfl) ?_
      refine lv_iconst (v := (-1)) hx hb dX8_carry_37 (by decide) ?_
      refine lv_icmp_ne (tgt := 45) hx hb dX8_carry_38 (by decide) (fun c38 => ?_) (fun c38 => ?_)
      · replace hf := if_f c38 hf
        refine lv_iload_n hx hb dX8_carry_45 rfl (lv_at hl 0 rfl) ?_
        refine lv_iconst (v := 1) hx hb dX8_carry_46 (by decide) ?_
        refine lv_iload_n hx hb dX8_carry_47 rfl (lv_at hl 3 rfl) ?_
        refine lv_ishl hx hb dX8_carry_48 ?_
        refine lv_ior hx hb dX8_carry_49 ?_
        refine lv_topi (fun x4_50 ex4_50 => ?_)
        replace hf := lt_at ex4_50 hf
        refine lv_istore (lv' := [(4, .int x4_50), (3, .int r32), (0, .ref (gB G 0)), (1, .int x1), (2, .int x2)]) hx hb dX8_carry_50 hl (by decide) rfl (fun ls hl => ?_)
        refine lv_iconst (v := 0) hx hb dX8_carry_52 (by decide) ?_
        refine lv_istore (lv' := [(5, .int 0), (4, .int x4_50), (3, .int r32), (0, .ref (gB G 0)), (1, .int x1), (2, .int x2)]) hx hb dX8_carry_53 hl (by decide) rfl (fun ls hl => ?_)
        exact w_X8_carry_55 hG C x1 x4_50 FU 0 h32 _ _ _ (lv_sub hl [3, 4, 1, 0] rfl) hP hS hf
      · replace hf := if_t c38 hf
        refine lv_sipush (v := (-1003)) hx hb dX8_carry_41 (by decide) ?_
        exact r_iret hx hb hr hlocks hP hS (re2 (Option.some.inj hf)) dX8_carry_44
    · replace hf := if_t c19 hf
      refine lv_sipush (v := (-1001)) hx hb dX8_carry_22 (by decide) ?_
      exact r_iret hx hb hr hlocks hP hS (re2 (Option.some.inj hf)) dX8_carry_25
/-! CarriedBack$Picker.goesOn(I[I)Z -/
abbrev rmX2_goesOn : Room := { frames := 2, cells := 0, slots := 0, locals := 47 }
abbrev vX2_goesOn : List Cond := Cond.code yX2_goesOn cX2_goesOn 3 (some .boolean) :: GW
def f_X2_goesOn (V2 n2 : Nat) (x1 : Int32) (h : PH) : Option (Int32 × PH) := bP (f_X7_clashOf 4 V2 n2 x1 0 h) (fun r7 h7 => if r7 = 0 then (bO (f_X7_putOn 4 V2 n2 x1 0 h7) (fun h22 => some (1, h22))) else (some (0, h7)))
set_option maxHeartbeats 4000000 in
set_option maxRecDepth 100000 in
theorem k_X2_goesOn (l : Launch) {G : GC} (hG : GOK G) (V2 n2 : Nat) (hV2 : isA V2 n2) {x1 : Int32} {rr : Int32} {h hh : PH} (hf : f_X2_goesOn V2 n2 x1 h = some (rr, hh)) : CI l yX2_goesOn vX2_goesOn rmX2_goesOn G [.ref (gB G 55), .int x1, .ref (gB G V2)] h rr hh := by
  refine Met.ofW (cc := cX2_goesOn) (maxL := 3) (ret := (some .boolean)) (by decide +kernel) rfl ?_
  intro p e s m args below meth c s₁ B hml hv
  obtain ⟨rfl, hP, hK⟩ := hv
  have C : MC l G p s m _ meth c RX2 cX2_goesOn 3 (some .boolean) := ⟨B.exec, B.bytes, B.returns, B.notSynchronized, hml, findClass_of_methodNamed B.named, fun w hw => atoms_spec (ws := vX2_goesOn) B.pre w (List.mem_cons_of_mem _ hw), hK⟩
  obtain ⟨hx, hb, hr, hlocks, -, hown, hts, -⟩ := id C
  have hl := lv_entry ([.ref (gB G 55), .int x1, .ref (gB G V2)]) (n := 3) (Nat.le_of_ble_eq_true rfl)
  rw [lg_entry_eq]
  generalize (lg_sl ([.ref (gB G 55), .int x1, .ref (gB G V2)]) ++ List.replicate (3 - (lg_sl ([.ref (gB G 55), .int x1, .ref (gB G V2)])).length) Slot.unset).toArray = ls at hl ⊢
  have hl : lv_has ls 3 [(0, .ref (gB G 55)), (1, .int x1), (2, .ref (gB G V2))] := hl
  have hS : SP G s s.heap [] := va_S.rf
  replace hP : WP G h s.heap := hP
  rw [f_X2_goesOn] at hf
  refine lv_aload_n hx hb dX2_goesOn_0 rfl (lv_at hl 0 rfl) ?_
  refine r_get (a := 55) (v := .ref (gB G 4)) (C := RX2) (T := TX2) (N := 4) hx hb hts hinX2 hown hK hP (ltX2 rfl) (ceX2 rfl) rfl 0 (by decide) wd285 rfl dX2_goesOn_1 ?_
  refine lv_iload_n hx hb dX2_goesOn_4 rfl (lv_at hl 1 rfl) ?_
  refine lv_aload_n hx hb dX2_goesOn_5 rfl (lv_at hl 2 rfl) ?_
  refine lv_iconst (v := 0) hx hb dX2_goesOn_6 (by decide) ?_
  obtain ⟨r7, h7, er7, hf⟩ := bP_s hf
  refine r_callI (va_runV (As := [.int x1, .ref (gB G V2), .int 0]) (rest := []) ⟨hx, hb, hml, hown, hts⟩ (k_X7_clashOf l hG 4 (Or.inl rfl) V2 n2 hV2 er7) (cwV 3 hts (gV wd749 wd706 wd707 wd76 wd708) rfl rfl rfl (by decide +kernel) ⟨Nat.le_of_ble_eq_true rfl, Nat.le_of_ble_eq_true rfl⟩) (r_pv hK hP hS (ltX7 (Or.inl rfl)) (ceX7 (Or.inl rfl)) rfl) rfl rfl hl.1 rfl (lv_room (Nat.le_of_ble_eq_true rfl)) dX2_goesOn_7 ⟨Nat.le_of_ble_eq_true rfl, Nat.le_of_ble_eq_true rfl⟩) hS (fun H locs hP hS => ?_)
  refine lv_if_eq (tgt := 15) hx hb dX2_goesOn_10 (by decide) (fun c10 => ?_) (fun c10 => ?_)
  · replace hf := if_t c10 hf
    refine lv_aload_n hx hb dX2_goesOn_15 rfl (lv_at hl 0 rfl) ?_
    refine r_get (a := 55) (v := .ref (gB G 4)) (C := RX2) (T := TX2) (N := 4) hx hb hts hinX2 hown hK hP (ltX2 rfl) (ceX2 rfl) rfl 0 (by decide) wd285 rfl dX2_goesOn_16 ?_
    refine lv_iload_n hx hb dX2_goesOn_19 rfl (lv_at hl 1 rfl) ?_
    refine lv_aload_n hx hb dX2_goesOn_20 rfl (lv_at hl 2 rfl) ?_
    refine lv_iconst (v := 0) hx hb dX2_goesOn_21 (by decide) ?_
    obtain ⟨h22, eh22, hf⟩ := bO_s hf
    refine r_callV (va_runV (As := [.int x1, .ref (gB G V2), .int 0]) (rest := []) ⟨hx, hb, hml, hown, hts⟩ (k_X7_putOn l hG 4 (Or.inl rfl) V2 n2 hV2 eh22) (cwV 3 hts (gV wd767 wd555 wd556 wd76 wd557) rfl rfl rfl (by decide +kernel) ⟨Nat.le_of_ble_eq_true rfl, Nat.le_of_ble_eq_true rfl⟩) (r_pv hK hP hS (ltX7 (Or.inl rfl)) (ceX7 (Or.inl rfl)) rfl) rfl rfl hl.1 rfl (lv_room (Nat.le_of_ble_eq_true rfl)) dX2_goesOn_22 ⟨Nat.le_of_ble_eq_true rfl, Nat.le_of_ble_eq_true rfl⟩) hS (fun H locs hP hS => ?_)
    refine lv_iconst (v := 1) hx hb dX2_goesOn_25 (by decide) ?_
    exact r_zret hx hb hr rfl hlocks hP hS (re2 (Option.some.inj hf)) dX2_goesOn_26
  · replace hf := if_f c10 hf
    refine lv_iconst (v := 0) hx hb dX2_goesOn_13 (by decide) ?_
    exact r_zret hx hb hr rfl hlocks hP hS (re2 (Option.some.inj hf)) dX2_goesOn_14
/-! CarriedBack$Picker.areApart(III)Z -/
abbrev rmX2_areApart : Room := { frames := 3, cells := 0, slots := 0, locals := 69 }
abbrev vX2_areApart : List Cond := Cond.code yX2_areApart cX2_areApart 5 (some .boolean) :: GW
def f_X2_areApart_71 : Nat → Int32 → PH → Option (Int32 × PH)
  | 0, _, _ => none
  | n + 1, x4, h => if (16 : Int32) ≤ x4 then (some (1, h)) else (bO (ag h 56 16 x4) (fun v84 => bO (ag h 57 16 x4) (fun v91 => if v84 = v91 then ((f_X2_areApart_71 n) (x4 + 1) h) else (some (0, h)))))
set_option maxHeartbeats 4000000 in
set_option maxRecDepth 100000 in
theorem w_X2_areApart_71 {l : Launch} {G : GC} (hG : GOK G) {rr : Int32} {hh : PH} {p : Program} {e : Env} {s : State} {m : MethodId} {args : Array Value} {below : List Frame} {meth : Method} {c : Code} (C : MC l G p s m args meth c RX2 cX2_areApart 5 (some .boolean)) : ∀ (n : Nat) (x4 : Int32) (h : PH) (H : Heap) (locs : List Loc) (ls : Array Slot), lv_has ls 5 [(0, .ref (gB G 55)), (4, .int x4)] → WP G h H → SP G s H locs → f_X2_areApart_71 n x4 h = some (rr, hh) → W p l e rmX2_areApart s m args below meth c H locs 0 0 (MQ below (QI G rr hh) args s 0 0 (gA G)) (F0 m 71 ls []) := by
  obtain ⟨hx, hb, hr, hlocks, hml, hown, hts, hK⟩ := id C
  intro n
  induction n with
  | zero => intro x4 h H locs ls hl hP hS hf; rw [f_X2_areApart_71] at hf; cases hf
  | succ n ih =>
    intro x4 h H locs ls hl hP hS hf
    rw [f_X2_areApart_71] at hf
    refine lv_iload hx hb dX2_areApart_71 (lv_at hl 1 rfl) ?_
    refine lv_bipush (v := 16) hx hb dX2_areApart_73 (by decide) ?_
    refine lv_icmp_ge (tgt := 103) hx hb dX2_areApart_75 (by decide) (fun c75 => ?_) (fun c75 => ?_)
    · replace hf := if_t c75 hf
      refine lv_iconst (v := 1) hx hb dX2_areApart_103 (by decide) ?_
      exact r_zret hx hb hr rfl hlocks hP hS (re2 (Option.some.inj hf)) dX2_areApart_104
    · replace hf := if_f c75 hf
      refine lv_aload_n hx hb dX2_areApart_78 rfl (lv_at hl 0 rfl) ?_
      refine r_get (a := 55) (v := .ref (gB G 56)) (C := RX2) (T := TX2) (N := 4) hx hb hts hinX2 hown hK hP (ltX2 rfl) (ceX2 rfl) rfl 2 (by decide) wd288 rfl dX2_areApart_79 ?_
      refine lv_iload hx hb dX2_areApart_82 (lv_at hl 1 rfl) ?_
      obtain ⟨v84, ev84, hf⟩ := bO_s hf
      refine r_iald hx hb hK hP (arX2_2 rfl) ev84 dX2_areApart_84 ?_
      refine lv_aload_n hx hb dX2_areApart_85 rfl (lv_at hl 0 rfl) ?_
      refine r_get (a := 55) (v := .ref (gB G 57)) (C := RX2) (T := TX2) (N := 4) hx hb hts hinX2 hown hK hP (ltX2 rfl) (ceX2 rfl) rfl 3 (by decide) wd289 rfl dX2_areApart_86 ?_
      refine lv_iload hx hb dX2_areApart_89 (lv_at hl 1 rfl) ?_
      obtain ⟨v91, ev91, hf⟩ := bO_s hf
      refine r_iald hx hb hK hP (arX2_3 rfl) ev91 dX2_areApart_91 ?_
      refine lv_icmp_eq (tgt := 97) hx hb dX2_areApart_92 (by decide) (fun c92 => ?_) (fun c92 => ?_)
      · replace hf := if_t c92 hf
        refine lv_iinc (v := (x4 + 1)) (lv' := [(4, .int (x4 + 1)), (0, .ref (gB G 55))]) hx hb dX2_areApart_97 hl (k := 1) rfl rfl (by decide) rfl (fun ls hl => ?_)
        refine lv_goto (tgt := 71) hx hb dX2_areApart_100 (by decide) ?_
        exact ih (x4 + 1) h _ _ _ (lv_sub hl [1, 0] rfl) hP hS hf
      · replace hf := if_f c92 hf
        refine lv_iconst (v := 0) hx hb dX2_areApart_95 (by decide) ?_
        exact r_zret hx hb hr rfl hlocks hP hS (re2 (Option.some.inj hf)) dX2_areApart_96
def f_X2_areApart (x1 : Int32) (x2 : Int32) (x3 : Int32) (h : PH) : Option (Int32 × PH) := bO (f_X2_lay 56 16 x1 h) (fun h6 => bO (f_X2_lay 57 16 x1 h6) (fun h15 => bP (f_X2_goesOn 56 16 x2 h15) (fun r24 h24 => if r24 = 0 then (some (0, h24)) else (bP (f_X2_goesOn 56 16 x3 h24) (fun r36 h36 => if r36 = 0 then (some (0, h36)) else (bP (f_X2_goesOn 57 16 x3 h36) (fun r48 h48 => if r48 = 0 then (some (0, h48)) else (bP (f_X2_goesOn 57 16 x2 h48) (fun r60 h60 => if r60 = 0 then (some (0, h60)) else (f_X2_areApart_71 FU 0 h60))))))))))
set_option maxHeartbeats 4000000 in
set_option maxRecDepth 100000 in
theorem k_X2_areApart (l : Launch) {G : GC} (hG : GOK G) {x1 : Int32} {x2 : Int32} {x3 : Int32} {rr : Int32} {h hh : PH} (hf : f_X2_areApart x1 x2 x3 h = some (rr, hh)) : CI l yX2_areApart vX2_areApart rmX2_areApart G [.ref (gB G 55), .int x1, .int x2, .int x3] h rr hh := by
  refine Met.ofW (cc := cX2_areApart) (maxL := 5) (ret := (some .boolean)) (by decide +kernel) rfl ?_
  intro p e s m args below meth c s₁ B hml hv
  obtain ⟨rfl, hP, hK⟩ := hv
  have C : MC l G p s m _ meth c RX2 cX2_areApart 5 (some .boolean) := ⟨B.exec, B.bytes, B.returns, B.notSynchronized, hml, findClass_of_methodNamed B.named, fun w hw => atoms_spec (ws := vX2_areApart) B.pre w (List.mem_cons_of_mem _ hw), hK⟩
  obtain ⟨hx, hb, hr, hlocks, -, hown, hts, -⟩ := id C
  have hl := lv_entry ([.ref (gB G 55), .int x1, .int x2, .int x3]) (n := 5) (Nat.le_of_ble_eq_true rfl)
  rw [lg_entry_eq]
  generalize (lg_sl ([.ref (gB G 55), .int x1, .int x2, .int x3]) ++ List.replicate (5 - (lg_sl ([.ref (gB G 55), .int x1, .int x2, .int x3])).length) Slot.unset).toArray = ls at hl ⊢
  have hl : lv_has ls 5 [(0, .ref (gB G 55)), (1, .int x1), (2, .int x2), (3, .int x3)] := hl
  have hS : SP G s s.heap [] := va_S.rf
  replace hP : WP G h s.heap := hP
  rw [f_X2_areApart] at hf
  refine lv_aload_n hx hb dX2_areApart_0 rfl (lv_at hl 0 rfl) ?_
  refine lv_iload_n hx hb dX2_areApart_1 rfl (lv_at hl 1 rfl) ?_
  refine lv_aload_n hx hb dX2_areApart_2 rfl (lv_at hl 0 rfl) ?_
  refine r_get (a := 55) (v := .ref (gB G 56)) (C := RX2) (T := TX2) (N := 4) hx hb hts hinX2 hown hK hP (ltX2 rfl) (ceX2 rfl) rfl 2 (by decide) wd288 rfl dX2_areApart_3 ?_
  obtain ⟨h6, eh6, hf⟩ := bO_s hf
  refine r_callV (va_runV (As := [.int x1, .ref (gB G 56)]) (rest := []) ⟨hx, hb, hml, hown, hts⟩ (k_X2_lay l hG 56 16 (arX2_2 rfl) eh6) (cwV 2 hts (gV wd762 wd764 wd14 wd79 wd765) rfl rfl rfl (by decide +kernel) ⟨Nat.le_of_ble_eq_true rfl, Nat.le_of_ble_eq_true rfl⟩) (r_pv hK hP hS (ltX2 rfl) (ceX2 rfl) rfl) rfl rfl hl.1 rfl (lv_room (Nat.le_of_ble_eq_true rfl)) dX2_areApart_6 ⟨Nat.le_of_ble_eq_true rfl, Nat.le_of_ble_eq_true rfl⟩) hS (fun H locs hP hS => ?_)
  refine lv_aload_n hx hb dX2_areApart_9 rfl (lv_at hl 0 rfl) ?_
  refine lv_iload_n hx hb dX2_areApart_10 rfl (lv_at hl 1 rfl) ?_
  refine lv_aload_n hx hb dX2_areApart_11 rfl (lv_at hl 0 rfl) ?_
  refine r_get (a := 55) (v := .ref (gB G 57)) (C := RX2) (T := TX2) (N := 4) hx hb hts hinX2 hown hK hP (ltX2 rfl) (ceX2 rfl) rfl 3 (by decide) wd289 rfl dX2_areApart_12 ?_
  obtain ⟨h15, eh15, hf⟩ := bO_s hf
  refine r_callV (va_runV (As := [.int x1, .ref (gB G 57)]) (rest := []) ⟨hx, hb, hml, hown, hts⟩ (k_X2_lay l hG 57 16 (arX2_3 rfl) eh15) (cwV 2 hts (gV wd762 wd764 wd14 wd79 wd765) rfl rfl rfl (by decide +kernel) ⟨Nat.le_of_ble_eq_true rfl, Nat.le_of_ble_eq_true rfl⟩) (r_pv hK hP hS (ltX2 rfl) (ceX2 rfl) rfl) rfl rfl hl.1 rfl (lv_room (Nat.le_of_ble_eq_true rfl)) dX2_areApart_15 ⟨Nat.le_of_ble_eq_true rfl, Nat.le_of_ble_eq_true rfl⟩) hS (fun H locs hP hS => ?_)
  refine lv_aload_n hx hb dX2_areApart_18 rfl (lv_at hl 0 rfl) ?_
  refine lv_iload_n hx hb dX2_areApart_19 rfl (lv_at hl 2 rfl) ?_
  refine lv_aload_n hx hb dX2_areApart_20 rfl (lv_at hl 0 rfl) ?_
  refine r_get (a := 55) (v := .ref (gB G 56)) (C := RX2) (T := TX2) (N := 4) hx hb hts hinX2 hown hK hP (ltX2 rfl) (ceX2 rfl) rfl 2 (by decide) wd288 rfl dX2_areApart_21 ?_
  obtain ⟨r24, h24, er24, hf⟩ := bP_s hf
  refine r_callI (va_runV (As := [.int x2, .ref (gB G 56)]) (rest := []) ⟨hx, hb, hml, hown, hts⟩ (k_X2_goesOn l hG 56 16 (arX2_2 rfl) er24) (cwV 2 hts (gV wd780 wd782 wd15 wd79 wd783) rfl rfl rfl (by decide +kernel) ⟨Nat.le_of_ble_eq_true rfl, Nat.le_of_ble_eq_true rfl⟩) (r_pv hK hP hS (ltX2 rfl) (ceX2 rfl) rfl) rfl rfl hl.1 rfl (lv_room (Nat.le_of_ble_eq_true rfl)) dX2_areApart_24 ⟨Nat.le_of_ble_eq_true rfl, Nat.le_of_ble_eq_true rfl⟩) hS (fun H locs hP hS => ?_)
  refine lv_if_eq (tgt := 66) hx hb dX2_areApart_27 (by decide) (fun c27 => ?_) (fun c27 => ?_)
  · replace hf := if_t c27 hf
    refine lv_iconst (v := 0) hx hb dX2_areApart_66 (by decide) ?_
    exact r_zret hx hb hr rfl hlocks hP hS (re2 (Option.some.inj hf)) dX2_areApart_67
  · replace hf := if_f c27 hf
    refine lv_aload_n hx hb dX2_areApart_30 rfl (lv_at hl 0 rfl) ?_
    refine lv_iload_n hx hb dX2_areApart_31 rfl (lv_at hl 3 rfl) ?_
    refine lv_aload_n hx hb dX2_areApart_32 rfl (lv_at hl 0 rfl) ?_
    refine r_get (a := 55) (v := .ref (gB G 56)) (C := RX2) (T := TX2) (N := 4) hx hb hts hinX2 hown hK hP (ltX2 rfl) (ceX2 rfl) rfl 2 (by decide) wd288 rfl dX2_areApart_33 ?_
    obtain ⟨r36, h36, er36, hf⟩ := bP_s hf
    refine r_callI (va_runV (As := [.int x3, .ref (gB G 56)]) (rest := []) ⟨hx, hb, hml, hown, hts⟩ (k_X2_goesOn l hG 56 16 (arX2_2 rfl) er36) (cwV 2 hts (gV wd780 wd782 wd15 wd79 wd783) rfl rfl rfl (by decide +kernel) ⟨Nat.le_of_ble_eq_true rfl, Nat.le_of_ble_eq_true rfl⟩) (r_pv hK hP hS (ltX2 rfl) (ceX2 rfl) rfl) rfl rfl hl.1 rfl (lv_room (Nat.le_of_ble_eq_true rfl)) dX2_areApart_36 ⟨Nat.le_of_ble_eq_true rfl, Nat.le_of_ble_eq_true rfl⟩) hS (fun H locs hP hS => ?_)
    refine lv_if_eq (tgt := 66) hx hb dX2_areApart_39 (by decide) (fun c39 => ?_) (fun c39 => ?_)
    · replace hf := if_t c39 hf
      refine lv_iconst (v := 0) hx hb dX2_areApart_66 (by decide) ?_
      exact r_zret hx hb hr rfl hlocks hP hS (re2 (Option.some.inj hf)) dX2_areApart_67
    · replace hf := if_f c39 hf
      refine lv_aload_n hx hb dX2_areApart_42 rfl (lv_at hl 0 rfl) ?_
      refine lv_iload_n hx hb dX2_areApart_43 rfl (lv_at hl 3 rfl) ?_
      refine lv_aload_n hx hb dX2_areApart_44 rfl (lv_at hl 0 rfl) ?_
      refine r_get (a := 55) (v := .ref (gB G 57)) (C := RX2) (T := TX2) (N := 4) hx hb hts hinX2 hown hK hP (ltX2 rfl) (ceX2 rfl) rfl 3 (by decide) wd289 rfl dX2_areApart_45 ?_
      obtain ⟨r48, h48, er48, hf⟩ := bP_s hf
      refine r_callI (va_runV (As := [.int x3, .ref (gB G 57)]) (rest := []) ⟨hx, hb, hml, hown, hts⟩ (k_X2_goesOn l hG 57 16 (arX2_3 rfl) er48) (cwV 2 hts (gV wd780 wd782 wd15 wd79 wd783) rfl rfl rfl (by decide +kernel) ⟨Nat.le_of_ble_eq_true rfl, Nat.le_of_ble_eq_true rfl⟩) (r_pv hK hP hS (ltX2 rfl) (ceX2 rfl) rfl) rfl rfl hl.1 rfl (lv_room (Nat.le_of_ble_eq_true rfl)) dX2_areApart_48 ⟨Nat.le_of_ble_eq_true rfl, Nat.le_of_ble_eq_true rfl⟩) hS (fun H locs hP hS => ?_)
      refine lv_if_eq (tgt := 66) hx hb dX2_areApart_51 (by decide) (fun c51 => ?_) (fun c51 => ?_)
      · replace hf := if_t c51 hf
        refine lv_iconst (v := 0) hx hb dX2_areApart_66 (by decide) ?_
        exact r_zret hx hb hr rfl hlocks hP hS (re2 (Option.some.inj hf)) dX2_areApart_67
      · replace hf := if_f c51 hf
        refine lv_aload_n hx hb dX2_areApart_54 rfl (lv_at hl 0 rfl) ?_
        refine lv_iload_n hx hb dX2_areApart_55 rfl (lv_at hl 2 rfl) ?_
        refine lv_aload_n hx hb dX2_areApart_56 rfl (lv_at hl 0 rfl) ?_
        refine r_get (a := 55) (v := .ref (gB G 57)) (C := RX2) (T := TX2) (N := 4) hx hb hts hinX2 hown hK hP (ltX2 rfl) (ceX2 rfl) rfl 3 (by decide) wd289 rfl dX2_areApart_57 ?_
        obtain ⟨r60, h60, er60, hf⟩ := bP_s hf
        refine r_callI (va_runV (As := [.int x2, .ref (gB G 57)]) (rest := []) ⟨hx, hb, hml, hown, hts⟩ (k_X2_goesOn l hG 57 16 (arX2_3 rfl) er60) (cwV 2 hts (gV wd780 wd782 wd15 wd79 wd783) rfl rfl rfl (by decide +kernel) ⟨Nat.le_of_ble_eq_true rfl, Nat.le_of_ble_eq_true rfl⟩) (r_pv hK hP hS (ltX2 rfl) (ceX2 rfl) rfl) rfl rfl hl.1 rfl (lv_room (Nat.le_of_ble_eq_true rfl)) dX2_areApart_60 ⟨Nat.le_of_ble_eq_true rfl, Nat.le_of_ble_eq_true rfl⟩) hS (fun H locs hP hS => ?_)
        refine lv_if_ne (tgt := 68) hx hb dX2_areApart_63 (by decide) (fun c63 => ?_) (fun c63 => ?_)
        · replace hf := if_f c63 hf
          refine lv_iconst (v := 0) hx hb dX2_areApart_68 (by decide) ?_
          refine lv_istore (lv' := [(4, .int 0), (0, .ref (gB G 55)), (1, .int x1), (2, .int x2), (3, .int x3)]) hx hb dX2_areApart_69 hl (by decide) rfl (fun ls hl => ?_)
          exact w_X2_areApart_71 hG C FU 0 h60 _ _ _ (lv_sub hl [1, 0] rfl) hP hS hf
        · replace hf := if_t c63 hf
          refine lv_iconst (v := 0) hx hb dX2_areApart_66 (by decide) ?_
          exact r_zret hx hb hr rfl hlocks hP hS (re2 (Option.some.inj hf)) dX2_areApart_67
