/-! CarriedBack$Rows.countWays(I)V -/
abbrev rmX4_countWays : Room := { frames := 1, cells := 0, slots := 0, locals := 21 }
abbrev vX4_countWays : List Cond := Cond.code yX4_countWays cX4_countWays 4 none :: GW
def f_X4_countWays_17 (x2 : Int32) (k11 : Int32 → PH → Option PH) : Nat → Int32 → PH → Option PH
  | 0, _, _ => none
  | n + 1, x3, h => if (h.1 60 2) ≤ x3 then (k11 (x2 + (-1)) h) else (bO (ag h 63 256 x2) (fun v30 => bO (f_X8_has v30 x3) (fun r32 => if r32 = 0 then ((f_X4_countWays_17 x2 k11 n) (x3 + 1) h) else (bO (ag h 64 256 x2) (fun v44 => bO (ag h 64 256 (x2 ||| (1 <<< (x3 &&& 31)))) (fun v54 => bO (asg h 64 256 x2 (v44 + v54)) (fun h56 => (f_X4_countWays_17 x2 k11 n) (x3 + 1) h56)))))))
set_option maxHeartbeats 4000000 in
set_option maxRecDepth 100000 in
theorem w_X4_countWays_17 {l : Launch} {G : GC} (hG : GOK G) {hh : PH} {p : Program} {e : Env} {s : State} {m : MethodId} {args : Array Value} {below : List Frame} {meth : Method} {c : Code} (C : MC l G p s m args meth c RX4 cX4_countWays 4 none) (x2 : Int32) (k11 : Int32 → PH → Option PH) (hk11 : ∀ (x2 : Int32) (h : PH) (H : Heap) (locs : List Loc) (ls : Array Slot), lv_has ls 4 [(0, .ref (gB G 60)), (2, .int x2)] → WP G h H → SP G s H locs → k11 x2 h = some hh → W p l e rmX4_countWays s m args below meth c H locs 0 0 (MQ below (QV G hh) args s 0 0 (gA G)) (F0 m 11 ls [])) : ∀ (n : Nat) (x3 : Int32) (h : PH) (H : Heap) (locs : List Loc) (ls : Array Slot), lv_has ls 4 [(0, .ref (gB G 60)), (2, .int x2), (3, .int x3)] → WP G h H → SP G s H locs → f_X4_countWays_17 x2 k11 n x3 h = some hh → W p l e rmX4_countWays s m args below meth c H locs 0 0 (MQ below (QV G hh) args s 0 0 (gA G)) (F0 m 17 ls []) := by
  obtain ⟨hx, hb, hr, hlocks, hml, hown, hts, hK⟩ := id C
  intro n
  induction n with
  | zero => intro x3 h H locs ls hl hP hS hf; rw [f_X4_countWays_17] at hf; cases hf
  | succ n ih =>
    intro x3 h H locs ls hl hP hS hf
    rw [f_X4_countWays_17] at hf
    refine lv_iload_n hx hb dX4_countWays_17 rfl (lv_at hl 2 rfl) ?_
    refine lv_aload_n hx hb dX4_countWays_18 rfl (lv_at hl 0 rfl) ?_
    refine r_get (a := 60) (v := .int (h.1 60 2)) (C := RX4) (T := TX4) (N := 7) hx hb hts hinX4 hown hK hP (ltX4 rfl) (ceX4 rfl) rfl 2 (by decide) wd341 rfl dX4_countWays_19 ?_
    refine lv_icmp_ge (tgt := 63) hx hb dX4_countWays_22 (by decide) (fun c22 => ?_) (fun c22 => ?_)
    · replace hf := if_t c22 hf
      refine lv_iinc (v := (x2 + (-1))) (lv' := [(2, .int (x2 + (-1))), (0, .ref (gB G 60)), (3, .int x3)]) hx hb dX4_countWays_63 hl (k := 1) rfl rfl (by decide) rfl (fun ls hl => ?_)
      refine lv_goto (tgt := 11) hx hb dX4_countWays_66 (by decide) ?_
      exact hk11 (x2 + (-1)) h _ _ _ (lv_sub hl [1, 0] rfl) hP hS hf
    · replace hf := if_f c22 hf
      refine lv_aload_n hx hb dX4_countWays_25 rfl (lv_at hl 0 rfl) ?_
      refine r_get (a := 60) (v := .ref (gB G 63)) (C := RX4) (T := TX4) (N := 7) hx hb hts hinX4 hown hK hP (ltX4 rfl) (ceX4 rfl) rfl 4 (by decide) wd343 rfl dX4_countWays_26 ?_
      refine lv_iload_n hx hb dX4_countWays_29 rfl (lv_at hl 1 rfl) ?_
      obtain ⟨v30, ev30, hf⟩ := bO_s hf
      refine r_iald hx hb hK hP (arX4_4 rfl) ev30 dX4_countWays_30 ?_
      refine lv_iload_n hx hb dX4_countWays_31 rfl (lv_at hl 2 rfl) ?_
      obtain ⟨r32, er32, hf⟩ := bO_s hf
      refine r_callI (va_runSN (As := [.int v30, .int x3]) (rest := []) ⟨hx, hb, hml, hown, hts⟩ (k_X8_has l hG (h := h) er32) ⟨va_cnB 2 hts (gC wd523) rfl rfl rfl (host := "CarriedBack") (hK.2.1 _ (by decide +kernel)) (hts _ wd73) (by decide +kernel) ⟨Nat.le_of_ble_eq_true rfl, Nat.le_of_ble_eq_true rfl⟩, hts _ wd522, trivial⟩ (r_ps hK hP hS) rfl rfl hl.1 rfl (lv_room (Nat.le_of_ble_eq_true rfl)) dX4_countWays_32 ⟨Nat.le_of_ble_eq_true rfl, Nat.le_of_ble_eq_true rfl⟩) hS (fun H locs hP hS => ?_)
      refine lv_if_eq (tgt := 57) hx hb dX4_countWays_35 (by decide) (fun c35 => ?_) (fun c35 => ?_)
      · replace hf := if_t c35 hf
        refine lv_iinc (v := (x3 + 1)) (lv' := [(3, .int (x3 + 1)), (0, .ref (gB G 60)), (2, .int x2)]) hx hb dX4_countWays_57 hl (k := 2) rfl rfl (by decide) rfl (fun ls hl => ?_)
        refine lv_goto (tgt := 17) hx hb dX4_countWays_60 (by decide) ?_
        exact ih (x3 + 1) h _ _ _ (lv_sub hl [1, 2, 0] rfl) hP hS hf
      · replace hf := if_f c35 hf
        refine lv_aload_n hx hb dX4_countWays_38 rfl (lv_at hl 0 rfl) ?_
        refine r_get (a := 60) (v := .ref (gB G 64)) (C := RX4) (T := TX4) (N := 7) hx hb hts hinX4 hown hK hP (ltX4 rfl) (ceX4 rfl) rfl 5 (by decide) wd344 rfl dX4_countWays_39 ?_
        refine lv_iload_n hx hb dX4_countWays_42 rfl (lv_at hl 1 rfl) ?_
        refine lv_dup2_11 hx hb dX4_countWays_43 rfl rfl ?_
        obtain ⟨v44, ev44, hf⟩ := bO_s hf
        refine r_iald hx hb hK hP (arX4_5 rfl) ev44 dX4_countWays_44 ?_
        refine lv_aload_n hx hb dX4_countWays_45 rfl (lv_at hl 0 rfl) ?_
        refine r_get (a := 60) (v := .ref (gB G 64)) (C := RX4) (T := TX4) (N := 7) hx hb hts hinX4 hown hK hP (ltX4 rfl) (ceX4 rfl) rfl 5 (by decide) wd344 rfl dX4_countWays_46 ?_
        refine lv_iload_n hx hb dX4_countWays_49 rfl (lv_at hl 1 rfl) ?_
        refine lv_iconst (v := 1) hx hb dX4_countWays_50 (by decide) ?_
        refine lv_iload_n hx hb dX4_countWays_51 rfl (lv_at hl 2 rfl) ?_
        refine lv_ishl hx hb dX4_countWays_52 ?_
        refine lv_ior hx hb dX4_countWays_53 ?_
        obtain ⟨v54, ev54, hf⟩ := bO_s hf
        refine r_iald hx hb hK hP (arX4_5 rfl) ev54 dX4_countWays_54 ?_
        refine lv_iadd hx hb dX4_countWays_55 ?_
        obtain ⟨h56, eh56, hf⟩ := bO_s hf
        refine r_iast hG hx hb hK hP hS (arX4_5 rfl) eh56 dX4_countWays_56 (fun H locs hP hS => ?_)
        refine lv_iinc (v := (x3 + 1)) (lv' := [(3, .int (x3 + 1)), (0, .ref (gB G 60)), (2, .int x2)]) hx hb dX4_countWays_57 hl (k := 2) rfl rfl (by decide) rfl (fun ls hl => ?_)
        refine lv_goto (tgt := 17) hx hb dX4_countWays_60 (by decide) ?_
        exact ih (x3 + 1) h56 _ _ _ (lv_sub hl [1, 2, 0] rfl) hP hS hf
def f_X4_countWays_11 : Nat → Int32 → PH → Option PH
  | 0, _, _ => none
  | n + 1, x2, h => if x2 < 0 then (some h) else (f_X4_countWays_17 x2 (f_X4_countWays_11 n) FU 0 h)
set_option maxHeartbeats 4000000 in
set_option maxRecDepth 100000 in
theorem w_X4_countWays_11 {l : Launch} {G : GC} (hG : GOK G) {hh : PH} {p : Program} {e : Env} {s : State} {m : MethodId} {args : Array Value} {below : List Frame} {meth : Method} {c : Code} (C : MC l G p s m args meth c RX4 cX4_countWays 4 none) : ∀ (n : Nat) (x2 : Int32) (h : PH) (H : Heap) (locs : List Loc) (ls : Array Slot), lv_has ls 4 [(0, .ref (gB G 60)), (2, .int x2)] → WP G h H → SP G s H locs → f_X4_countWays_11 n x2 h = some hh → W p l e rmX4_countWays s m args below meth c H locs 0 0 (MQ below (QV G hh) args s 0 0 (gA G)) (F0 m 11 ls []) := by
  obtain ⟨hx, hb, hr, hlocks, hml, hown, hts, hK⟩ := id C
  intro n
  induction n with
  | zero => intro x2 h H locs ls hl hP hS hf; rw [f_X4_countWays_11] at hf; cases hf
  | succ n ih =>
    intro x2 h H locs ls hl hP hS hf
    rw [f_X4_countWays_11] at hf
    refine lv_iload_n hx hb dX4_countWays_11 rfl (lv_at hl 1 rfl) ?_
    refine lv_if_lt (tgt := 69) hx hb dX4_countWays_12 (by decide) (fun c12 => ?_) (fun c12 => ?_)
    · replace hf := if_t c12 hf
      exact r_vret hx hb hr hlocks hP hS (Option.some.inj hf) dX4_countWays_69
    · replace hf := if_f c12 hf
      refine lv_iconst (v := 0) hx hb dX4_countWays_15 (by decide) ?_
      refine lv_istore_n (lv' := [(3, .int 0), (0, .ref (gB G 60)), (2, .int x2)]) hx hb dX4_countWays_16 rfl hl (by decide) rfl (fun ls hl => ?_)
      exact w_X4_countWays_17 hG C x2 (f_X4_countWays_11 n) ih FU 0 h _ _ _ (lv_sub hl [1, 2, 0] rfl) hP hS hf
def f_X4_countWays (x1 : Int32) (h : PH) : Option PH := bO (asg h 64 256 x1 1) (fun h6 => lt' ((x1 - 1)) (fun x2_10 => f_X4_countWays_11 FU x2_10 h6))
set_option maxHeartbeats 4000000 in
set_option maxRecDepth 100000 in
theorem k_X4_countWays (l : Launch) {G : GC} (hG : GOK G) {x1 : Int32} {h hh : PH} (hf : f_X4_countWays x1 h = some hh) : CV l yX4_countWays vX4_countWays rmX4_countWays G [.ref (gB G 60), .int x1] h hh := by
  refine Met.ofW (cc := cX4_countWays) (maxL := 4) (ret := none) (by decide +kernel) rfl ?_
  intro p e s m args below meth c s₁ B hml hv
  obtain ⟨rfl, hP, hK⟩ := hv
  have C : MC l G p s m _ meth c RX4 cX4_countWays 4 none := ⟨B.exec, B.bytes, B.returns, B.notSynchronized, hml, findClass_of_methodNamed B.named, fun w hw => atoms_spec (ws := vX4_countWays) B.pre w (List.mem_cons_of_mem _ hw), hK⟩
  obtain ⟨hx, hb, hr, hlocks, -, hown, hts, -⟩ := id C
  have hl := lv_entry ([.ref (gB G 60), .int x1]) (n := 4) (Nat.le_of_ble_eq_true rfl)
  rw [lg_entry_eq]
  generalize (lg_sl ([.ref (gB G 60), .int x1]) ++ List.replicate (4 - (lg_sl ([.ref (gB G 60), .int x1])).length) Slot.unset).toArray = ls at hl ⊢
  have hl : lv_has ls 4 [(0, .ref (gB G 60)), (1, .int x1)] := hl
  have hS : SP G s s.heap [] := va_S.rf
  replace hP : WP G h s.heap := hP
  rw [f_X4_countWays] at hf
  refine lv_aload_n hx hb dX4_countWays_0 rfl (lv_at hl 0 rfl) ?_
  refine r_get (a := 60) (v := .ref (gB G 64)) (C := RX4) (T := TX4) (N := 7) hx hb hts hinX4 hown hK hP (ltX4 rfl) (ceX4 rfl) rfl 5 (by decide) wd344 rfl dX4_countWays_1 ?_
  refine lv_iload_n hx hb dX4_countWays_4 rfl (lv_at hl 1 rfl) ?_
  refine lv_iconst (v := 1) hx hb dX4_countWays_5 (by decide) ?_
  obtain ⟨h6, eh6, hf⟩ := bO_s hf
  refine r_iast hG hx hb hK hP hS (arX4_5 rfl) eh6 dX4_countWays_6 (fun H locs hP hS => ?_)
  refine lv_iload_n hx hb dX4_countWays_7 rfl (lv_at hl 1 rfl) ?_
  refine lv_iconst (v := 1) hx hb dX4_countWays_8 (by decide) ?_
  refine lv_isub hx hb dX4_countWays_9 ?_
  refine lv_topi (fun x2_10 ex2_10 => ?_)
  replace hf := lt_at ex2_10 hf
  refine lv_istore_n (lv' := [(2, .int x2_10), (0, .ref (gB G 60)), (1, .int x1)]) hx hb dX4_countWays_10 rfl hl (by decide) rfl (fun ls hl => ?_)
  exact w_X4_countWays_11 hG C FU x2_10 h6 _ _ _ (lv_sub hl [1, 0] rfl) hP hS hf
/-! CarriedBack$Rows.build(I[II)V -/
abbrev rmX4_build : Room := { frames := 3, cells := 0, slots := 0, locals := 70 }
abbrev vX4_build : List Cond := Cond.code yX4_build cX4_build 6 none :: GW
def f_X4_build_139 (V2 n2 : Nat) (x4 : Int32) : Nat → Int32 → PH → Option PH
  | 0, _, _ => none
  | n + 1, x5, h => if x4 < x5 then (bO (f_X4_countWays x4 h) (fun h171 => some h171)) else (bO (ag h 62 256 x5) (fun v152 => if v152 = 0 then ((f_X4_build_139 V2 n2 x4 n) (x5 + 1) h) else (bO (f_X4_goFurther x5 h) (fun h159 => (f_X4_build_139 V2 n2 x4 n) (x5 + 1) h159))))
set_option maxHeartbeats 4000000 in
set_option maxRecDepth 100000 in
theorem w_X4_build_139 {l : Launch} {G : GC} (hG : GOK G) {hh : PH} {p : Program} {e : Env} {s : State} {m : MethodId} {args : Array Value} {below : List Frame} {meth : Method} {c : Code} (C : MC l G p s m args meth c RX4 cX4_build 6 none) (V2 n2 : Nat) (hV2 : isA V2 n2) (x4 : Int32) : ∀ (n : Nat) (x5 : Int32) (h : PH) (H : Heap) (locs : List Loc) (ls : Array Slot), lv_has ls 6 [(0, .ref (gB G 60)), (4, .int x4), (5, .int x5)] → WP G h H → SP G s H locs → f_X4_build_139 V2 n2 x4 n x5 h = some hh → W p l e rmX4_build s m args below meth c H locs 0 0 (MQ below (QV G hh) args s 0 0 (gA G)) (F0 m 139 ls []) := by
  obtain ⟨hx, hb, hr, hlocks, hml, hown, hts, hK⟩ := id C
  intro n
  induction n with
  | zero => intro x5 h H locs ls hl hP hS hf; rw [f_X4_build_139] at hf; cases hf
  | succ n ih =>
    intro x5 h H locs ls hl hP hS hf
    rw [f_X4_build_139] at hf
    refine lv_iload hx hb dX4_build_139 (lv_at hl 2 rfl) ?_
    refine lv_iload hx hb dX4_build_141 (lv_at hl 1 rfl) ?_
    refine lv_icmp_gt (tgt := 168) hx hb dX4_build_143 (by decide) (fun c143 => ?_) (fun c143 => ?_)
    · replace hf := if_t c143 hf
      refine lv_aload_n hx hb dX4_build_168 rfl (lv_at hl 0 rfl) ?_
      refine lv_iload hx hb dX4_build_169 (lv_at hl 1 rfl) ?_
      obtain ⟨h171, eh171, hf⟩ := bO_s hf
      refine r_callV (va_runV (As := [.int x4]) (rest := []) ⟨hx, hb, hml, hown, hts⟩ (k_X4_countWays l hG eh171) (cwV 1 hts (gV wd946 wd948 wd23 wd81 wd949) rfl rfl rfl (by decide +kernel) ⟨Nat.le_of_ble_eq_true rfl, Nat.le_of_ble_eq_true rfl⟩) (r_pv hK hP hS (ltX4 rfl) (ceX4 rfl) rfl) rfl rfl hl.1 rfl (lv_room (Nat.le_of_ble_eq_true rfl)) dX4_build_171 ⟨Nat.le_of_ble_eq_true rfl, Nat.le_of_ble_eq_true rfl⟩) hS (fun H locs hP hS => ?_)
      exact r_vret hx hb hr hlocks hP hS (Option.some.inj hf) dX4_build_174
    · replace hf := if_f c143 hf
      refine lv_aload_n hx hb dX4_build_146 rfl (lv_at hl 0 rfl) ?_
      refine r_get (a := 60) (v := .ref (gB G 62)) (C := RX4) (T := TX4) (N := 7) hx hb hts hinX4 hown hK hP (ltX4 rfl) (ceX4 rfl) rfl 3 (by decide) wd342 rfl dX4_build_147 ?_
      refine lv_iload hx hb dX4_build_150 (lv_at hl 2 rfl) ?_
      obtain ⟨v152, ev152, hf⟩ := bO_s hf
      refine r_zald hx hb hK hP (arX4_3 rfl) ev152 dX4_build_152 ?_
      refine lv_if_eq (tgt := 162) hx hb dX4_build_153 (by decide) (fun c153 => ?_) (fun c153 => ?_)
      · replace hf := if_t c153 hf
        refine lv_iinc (v := (x5 + 1)) (lv' := [(5, .int (x5 + 1)), (0, .ref (gB G 60)), (4, .int x4)]) hx hb dX4_build_162 hl (k := 2) rfl rfl (by decide) rfl (fun ls hl => ?_)
        refine lv_goto (tgt := 139) hx hb dX4_build_165 (by decide) ?_
        exact ih (x5 + 1) h _ _ _ (lv_sub hl [1, 2, 0] rfl) hP hS hf
      · replace hf := if_f c153 hf
        refine lv_aload_n hx hb dX4_build_156 rfl (lv_at hl 0 rfl) ?_
        refine lv_iload hx hb dX4_build_157 (lv_at hl 2 rfl) ?_
        obtain ⟨h159, eh159, hf⟩ := bO_s hf
        refine r_callV (va_runV (As := [.int x5]) (rest := []) ⟨hx, hb, hml, hown, hts⟩ (k_X4_goFurther l hG eh159) (cwV 1 hts (gV wd940 wd942 wd22 wd81 wd943) rfl rfl rfl (by decide +kernel) ⟨Nat.le_of_ble_eq_true rfl, Nat.le_of_ble_eq_true rfl⟩) (r_pv hK hP hS (ltX4 rfl) (ceX4 rfl) rfl) rfl rfl hl.1 rfl (lv_room (Nat.le_of_ble_eq_true rfl)) dX4_build_159 ⟨Nat.le_of_ble_eq_true rfl, Nat.le_of_ble_eq_true rfl⟩) hS (fun H locs hP hS => ?_)
        refine lv_iinc (v := (x5 + 1)) (lv' := [(5, .int (x5 + 1)), (0, .ref (gB G 60)), (4, .int x4)]) hx hb dX4_build_162 hl (k := 2) rfl rfl (by decide) rfl (fun ls hl => ?_)
        refine lv_goto (tgt := 139) hx hb dX4_build_165 (by decide) ?_
        exact ih (x5 + 1) h159 _ _ _ (lv_sub hl [1, 2, 0] rfl) hP hS hf
def f_X4_build_77 (V2 n2 : Nat) (x3 : Int32) (x4 : Int32) : Nat → Int32 → PH → Option PH
  | 0, _, _ => none
  | n + 1, x5, h => if x4 < x5 then (bO (asg h 62 256 0 (vp_nar .boolean 1)) (fun h120 => bO (cpy h120 V2 n2 (x3 * 16) 65 4096 0 16) (fun h133 => f_X4_build_139 V2 n2 x4 FU 0 h133))) else (bO (asg h 62 256 x5 (vp_nar .boolean 0)) (fun h91 => bO (asg h91 63 256 x5 0) (fun h99 => bO (asg h99 64 256 x5 0) (fun h107 => (f_X4_build_77 V2 n2 x3 x4 n) (x5 + 1) h107))))
set_option maxHeartbeats 4000000 in
set_option maxRecDepth 100000 in
theorem w_X4_build_77 {l : Launch} {G : GC} (hG : GOK G) {hh : PH} {p : Program} {e : Env} {s : State} {m : MethodId} {args : Array Value} {below : List Frame} {meth : Method} {c : Code} (C : MC l G p s m args meth c RX4 cX4_build 6 none) (V2 n2 : Nat) (hV2 : isA V2 n2) (x3 : Int32) (x4 : Int32) : ∀ (n : Nat) (x5 : Int32) (h : PH) (H : Heap) (locs : List Loc) (ls : Array Slot), lv_has ls 6 [(0, .ref (gB G 60)), (2, .ref (gB G V2)), (3, .int x3), (4, .int x4), (5, .int x5)] → WP G h H → SP G s H locs → f_X4_build_77 V2 n2 x3 x4 n x5 h = some hh → W p l e rmX4_build s m args below meth c H locs 0 0 (MQ below (QV G hh) args s 0 0 (gA G)) (F0 m 77 ls []) := by
  obtain ⟨hx, hb, hr, hlocks, hml, hown, hts, hK⟩ := id C
  intro n
  induction n with
  | zero => intro x5 h H locs ls hl hP hS hf; rw [f_X4_build_77] at hf; cases hf
  | succ n ih =>
    intro x5 h H locs ls hl hP hS hf
    rw [f_X4_build_77] at hf
    refine lv_iload hx hb dX4_build_77 (lv_at hl 4 rfl) ?_
    refine lv_iload hx hb dX4_build_79 (lv_at hl 3 rfl) ?_
    refine lv_icmp_gt (tgt := 114) hx hb dX4_build_81 (by decide) (fun c81 => ?_) (fun c81 => ?_)
    · replace hf := if_t c81 hf
      refine lv_aload_n hx hb dX4_build_114 rfl (lv_at hl 0 rfl) ?_
      refine r_get (a := 60) (v := .ref (gB G 62)) (C := RX4) (T := TX4) (N := 7) hx hb hts hinX4 hown hK hP (ltX4 rfl) (ceX4 rfl) rfl 3 (by decide) wd342 rfl dX4_build_115 ?_
      refine lv_iconst (v := 0) hx hb dX4_build_118 (by decide) ?_
      refine lv_iconst (v := 1) hx hb dX4_build_119 (by decide) ?_
      obtain ⟨h120, eh120, hf⟩ := bO_s hf
      refine r_zast hG hx hb hK hP hS (arX4_3 rfl) eh120 dX4_build_120 (fun H locs hP hS => ?_)
      refine lv_aload_n hx hb dX4_build_121 rfl (lv_at hl 1 rfl) ?_
      refine lv_iload_n hx hb dX4_build_122 rfl (lv_at hl 2 rfl) ?_
      refine lv_bipush (v := 16) hx hb dX4_build_123 (by decide) ?_
      refine lv_imul hx hb dX4_build_125 ?_
      refine lv_aload_n hx hb dX4_build_126 rfl (lv_at hl 0 rfl) ?_
      refine r_get (a := 60) (v := .ref (gB G 65)) (C := RX4) (T := TX4) (N := 7) hx hb hts hinX4 hown hK hP (ltX4 rfl) (ceX4 rfl) rfl 6 (by decide) wd345 rfl dX4_build_127 ?_
      refine lv_iconst (v := 0) hx hb dX4_build_130 (by decide) ?_
      refine lv_bipush (v := 16) hx hb dX4_build_131 (by decide) ?_
      obtain ⟨h133, eh133, hf⟩ := bO_s hf
      refine r_cpy hG hx hb (by rw [hml]; exact hl.1.symm) hown hts wd939 wd553 wd552 wd87 hK hP hS hV2 (arX4_6 rfl) eh133 (Nat.le_of_ble_eq_true rfl) (Nat.le_of_ble_eq_true rfl) dX4_build_133 (fun H locs hP hS => ?_)
      refine lv_iconst (v := 0) hx hb dX4_build_136 (by decide) ?_
      refine lv_istore (lv' := [(5, .int 0), (0, .ref (gB G 60)), (2, .ref (gB G V2)), (3, .int x3), (4, .int x4)]) hx hb dX4_build_137 hl (by decide) rfl (fun ls hl => ?_)
      exact w_X4_build_139 hG C V2 n2 hV2 x4 FU 0 h133 _ _ _ (lv_sub hl [1, 4, 0] rfl) hP hS hf
    · replace hf := if_f c81 hf
      refine lv_aload_n hx hb dX4_build_84 rfl (lv_at hl 0 rfl) ?_
      refine r_get (a := 60) (v := .ref (gB G 62)) (C := RX4) (T := TX4) (N := 7) hx hb hts hinX4 hown hK hP (ltX4 rfl) (ceX4 rfl) rfl 3 (by decide) wd342 rfl dX4_build_85 ?_
      refine lv_iload hx hb dX4_build_88 (lv_at hl 4 rfl) ?_
      refine lv_iconst (v := 0) hx hb dX4_build_90 (by decide) ?_
      obtain ⟨h91, eh91, hf⟩ := bO_s hf
      refine r_zast hG hx hb hK hP hS (arX4_3 rfl) eh91 dX4_build_91 (fun H locs hP hS => ?_)
      refine lv_aload_n hx hb dX4_build_92 rfl (lv_at hl 0 rfl) ?_
      refine r_get (a := 60) (v := .ref (gB G 63)) (C := RX4) (T := TX4) (N := 7) hx hb hts hinX4 hown hK hP (ltX4 rfl) (ceX4 rfl) rfl 4 (by decide) wd343 rfl dX4_build_93 ?_
      refine lv_iload hx hb dX4_build_96 (lv_at hl 4 rfl) ?_
      refine lv_iconst (v := 0) hx hb dX4_build_98 (by decide) ?_
      obtain ⟨h99, eh99, hf⟩ := bO_s hf
      refine r_iast hG hx hb hK hP hS (arX4_4 rfl) eh99 dX4_build_99 (fun H locs hP hS => ?_)
      refine lv_aload_n hx hb dX4_build_100 rfl (lv_at hl 0 rfl) ?_
      refine r_get (a := 60) (v := .ref (gB G 64)) (C := RX4) (T := TX4) (N := 7) hx hb hts hinX4 hown hK hP (ltX4 rfl) (ceX4 rfl) rfl 5 (by decide) wd344 rfl dX4_build_101 ?_
      refine lv_iload hx hb dX4_build_104 (lv_at hl 4 rfl) ?_
      refine lv_iconst (v := 0) hx hb dX4_build_106 (by decide) ?_
      obtain ⟨h107, eh107, hf⟩ := bO_s hf
      refine r_iast hG hx hb hK hP hS (arX4_5 rfl) eh107 dX4_build_107 (fun H locs hP hS => ?_)
      refine lv_iinc (v := (x5 + 1)) (lv' := [(5, .int (x5 + 1)), (0, .ref (gB G 60)), (2, .ref (gB G V2)), (3, .int x3), (4, .int x4)]) hx hb dX4_build_108 hl (k := 4) rfl rfl (by decide) rfl (fun ls hl => ?_)
      refine lv_goto (tgt := 77) hx hb dX4_build_111 (by decide) ?_
      exact ih (x5 + 1) h107 _ _ _ (lv_sub hl [1, 2, 3, 4, 0] rfl) hP hS hf
def f_X4_build_65 (V2 n2 : Nat) (x3 : Int32) (h : PH) : Option PH := bO (f_X8_firstOnes (h.1 60 2)) (fun r69 => f_X4_build_77 V2 n2 x3 r69 FU 0 h)
set_option maxHeartbeats 4000000 in
set_option maxRecDepth 100000 in
theorem w_X4_build_65 {l : Launch} {G : GC} (hG : GOK G) {hh : PH} {p : Program} {e : Env} {s : State} {m : MethodId} {args : Array Value} {below : List Frame} {meth : Method} {c : Code} (C : MC l G p s m args meth c RX4 cX4_build 6 none) (V2 n2 : Nat) (hV2 : isA V2 n2) : ∀ (x3 : Int32) (h : PH) (H : Heap) (locs : List Loc) (ls : Array Slot), lv_has ls 6 [(0, .ref (gB G 60)), (2, .ref (gB G V2)), (3, .int x3)] → WP G h H → SP G s H locs → f_X4_build_65 V2 n2 x3 h = some hh → W p l e rmX4_build s m args below meth c H locs 0 0 (MQ below (QV G hh) args s 0 0 (gA G)) (F0 m 65 ls []) := by
  obtain ⟨hx, hb, hr, hlocks, hml, hown, hts, hK⟩ := id C
  intro x3 h H locs ls hl hP hS hf
  rw [f_X4_build_65] at hf
  refine lv_aload_n hx hb dX4_build_65 rfl (lv_at hl 0 rfl) ?_
  refine r_get (a := 60) (v := .int (h.1 60 2)) (C := RX4) (T := TX4) (N := 7) hx hb hts hinX4 hown hK hP (ltX4 rfl) (ceX4 rfl) rfl 2 (by decide) wd341 rfl dX4_build_66 ?_
  obtain ⟨r69, er69, hf⟩ := bO_s hf
  refine r_callI (va_runSN (As := [.int (h.1 60 2)]) (rest := []) ⟨hx, hb, hml, hown, hts⟩ (k_X8_firstOnes l hG (h := h) er69) ⟨va_cnB 1 hts (gC wd678) rfl rfl rfl (host := "CarriedBack") (hK.2.1 _ (by decide +kernel)) (hts _ wd73) (by decide +kernel) ⟨Nat.le_of_ble_eq_true rfl, Nat.le_of_ble_eq_true rfl⟩, hts _ wd677, trivial⟩ (r_ps hK hP hS) rfl rfl hl.1 rfl (lv_room (Nat.le_of_ble_eq_true rfl)) dX4_build_69 ⟨Nat.le_of_ble_eq_true rfl, Nat.le_of_ble_eq_true rfl⟩) hS (fun H locs hP hS => ?_)
  refine lv_istore (lv' := [(4, .int r69), (0, .ref (gB G 60)), (2, .ref (gB G V2)), (3, .int x3)]) hx hb dX4_build_72 hl (by decide) rfl (fun ls hl => ?_)
  refine lv_iconst (v := 0) hx hb dX4_build_74 (by decide) ?_
  refine lv_istore (lv' := [(5, .int 0), (4, .int r69), (0, .ref (gB G 60)), (2, .ref (gB G V2)), (3, .int x3)]) hx hb dX4_build_75 hl (by decide) rfl (fun ls hl => ?_)
  exact w_X4_build_77 hG C V2 n2 hV2 x3 r69 FU 0 h _ _ _ (lv_sub hl [2, 3, 4, 1, 0] rfl) hP hS hf
def f_X4_build_8 (V2 n2 : Nat) (x1 : Int32) (x3 : Int32) : Nat → Int32 → PH → Option PH
  | 0, _, _ => none
  | n + 1, x4, h => if (h.1 4 0) ≤ x4 then (f_X4_build_65 V2 n2 x3 h) else (if (8 : Int32) ≤ (h.1 60 2) then (f_X4_build_65 V2 n2 x3 h) else (bO (f_X8_has x1 x4) (fun r32 => if r32 = 0 then ((f_X4_build_8 V2 n2 x1 x3 n) (x4 + 1) h) else (bO (asg h 61 8 (h.1 60 2) x4) (fun h48 => lt' (hU h48 60 2 ((h48.1 60 2) + 1)) (fun h56 => (f_X4_build_8 V2 n2 x1 x3 n) (x4 + 1) h56))))))
set_option maxHeartbeats 4000000 in
set_option maxRecDepth 100000 in
theorem w_X4_build_8 {l : Launch} {G : GC} (hG : GOK G) {hh : PH} {p : Program} {e : Env} {s : State} {m : MethodId} {args : Array Value} {below : List Frame} {meth : Method} {c : Code} (C : MC l G p s m args meth c RX4 cX4_build 6 none) (V2 n2 : Nat) (hV2 : isA V2 n2) (x1 : Int32) (x3 : Int32) : ∀ (n : Nat) (x4 : Int32) (h : PH) (H : Heap) (locs : List Loc) (ls : Array Slot), lv_has ls 6 [(0, .ref (gB G 60)), (1, .int x1), (2, .ref (gB G V2)), (3, .int x3), (4, .int x4)] → WP G h H → SP G s H locs → f_X4_build_8 V2 n2 x1 x3 n x4 h = some hh → W p l e rmX4_build s m args below meth c H locs 0 0 (MQ below (QV G hh) args s 0 0 (gA G)) (F0 m 8 ls []) := by
  obtain ⟨hx, hb, hr, hlocks, hml, hown, hts, hK⟩ := id C
  intro n
  induction n with
  | zero => intro x4 h H locs ls hl hP hS hf; rw [f_X4_build_8] at hf; cases hf
  | succ n ih =>
    intro x4 h H locs ls hl hP hS hf
    rw [f_X4_build_8] at hf
    refine lv_iload hx hb dX4_build_8 (lv_at hl 4 rfl) ?_
    refine lv_aload_n hx hb dX4_build_10 rfl (lv_at hl 0 rfl) ?_
    refine r_get (a := 60) (v := .ref (gB G 4)) (C := RX4) (T := TX4) (N := 7) hx hb hts hinX4 hown hK hP (ltX4 rfl) (ceX4 rfl) rfl 0 (by decide) wd339 rfl dX4_build_11 ?_
    refine r_get (a := 4) (v := .int (h.1 4 0)) (C := RX7) (T := TX7) (N := 10) hx hb hts hinX7 hown hK hP (ltX7 (Or.inl rfl)) (ceX7 (Or.inl rfl)) rfl 0 (by decide) wd155 rfl dX4_build_14 ?_
    refine lv_icmp_ge (tgt := 65) hx hb dX4_build_17 (by decide) (fun c17 => ?_) (fun c17 => ?_)
    · replace hf := if_t c17 hf
      exact w_X4_build_65 hG C V2 n2 hV2 x3 h _ _ _ (lv_sub hl [0, 2, 3] rfl) hP hS hf
    · replace hf := if_f c17 hf
      refine lv_aload_n hx hb dX4_build_20 rfl (lv_at hl 0 rfl) ?_
      refine r_get (a := 60) (v := .int (h.1 60 2)) (C := RX4) (T := TX4) (N := 7) hx hb hts hinX4 hown hK hP (ltX4 rfl) (ceX4 rfl) rfl 2 (by decide) wd341 rfl dX4_build_21 ?_
      refine lv_bipush (v := 8) hx hb dX4_build_24 (by decide) ?_
      refine lv_icmp_ge (tgt := 65) hx hb dX4_build_26 (by decide) (fun c26 => ?_) (fun c26 => ?_)
      · replace hf := if_t c26 hf
        exact w_X4_build_65 hG C V2 n2 hV2 x3 h _ _ _ (lv_sub hl [0, 2, 3] rfl) hP hS hf
      · replace hf := if_f c26 hf
        refine lv_iload_n hx hb dX4_build_29 rfl (lv_at hl 1 rfl) ?_
        refine lv_iload hx hb dX4_build_30 (lv_at hl 4 rfl) ?_
        obtain ⟨r32, er32, hf⟩ := bO_s hf
        refine r_callI (va_runSN (As := [.int x1, .int x4]) (rest := []) ⟨hx, hb, hml, hown, hts⟩ (k_X8_has l hG (h := h) er32) ⟨va_cnB 2 hts (gC wd523) rfl rfl rfl (host := "CarriedBack") (hK.2.1 _ (by decide +kernel)) (hts _ wd73) (by decide +kernel) ⟨Nat.le_of_ble_eq_true rfl, Nat.le_of_ble_eq_true rfl⟩, hts _ wd522, trivial⟩ (r_ps hK hP hS) rfl rfl hl.1 rfl (lv_room (Nat.le_of_ble_eq_true rfl)) dX4_build_32 ⟨Nat.le_of_ble_eq_true rfl, Nat.le_of_ble_eq_true rfl⟩) hS (fun H locs hP hS => ?_)
        refine lv_if_eq (tgt := 59) hx hb dX4_build_35 (by decide) (fun c35 => ?_) (fun c35 => ?_)
        · replace hf := if_t c35 hf
          refine lv_iinc (v := (x4 + 1)) (lv' := [(4, .int (x4 + 1)), (0, .ref (gB G 60)), (1, .int x1), (2, .ref (gB G V2)), (3, .int x3)]) hx hb dX4_build_59 hl (k := 4) rfl rfl (by decide) rfl (fun ls hl => ?_)
          refine lv_goto (tgt := 8) hx hb dX4_build_62 (by decide) ?_
          exact ih (x4 + 1) h _ _ _ (lv_sub hl [1, 2, 3, 4, 0] rfl) hP hS hf
        · replace hf := if_f c35 hf
          refine lv_aload_n hx hb dX4_build_38 rfl (lv_at hl 0 rfl) ?_
          refine r_get (a := 60) (v := .ref (gB G 61)) (C := RX4) (T := TX4) (N := 7) hx hb hts hinX4 hown hK hP (ltX4 rfl) (ceX4 rfl) rfl 1 (by decide) wd340 rfl dX4_build_39 ?_
          refine lv_aload_n hx hb dX4_build_42 rfl (lv_at hl 0 rfl) ?_
          refine r_get (a := 60) (v := .int (h.1 60 2)) (C := RX4) (T := TX4) (N := 7) hx hb hts hinX4 hown hK hP (ltX4 rfl) (ceX4 rfl) rfl 2 (by decide) wd341 rfl dX4_build_43 ?_
          refine lv_iload hx hb dX4_build_46 (lv_at hl 4 rfl) ?_
          obtain ⟨h48, eh48, hf⟩ := bO_s hf
          refine r_iast hG hx hb hK hP hS (arX4_1 rfl) eh48 dX4_build_48 (fun H locs hP hS => ?_)
          refine lv_aload_n hx hb dX4_build_49 rfl (lv_at hl 0 rfl) ?_
          refine lv_dup hx hb dX4_build_50 rfl ?_
          refine r_get (a := 60) (v := .int (h48.1 60 2)) (C := RX4) (T := TX4) (N := 7) hx hb hts hinX4 hown hK hP (ltX4 rfl) (ceX4 rfl) rfl 2 (by decide) wd341 rfl dX4_build_51 ?_
          refine lv_iconst (v := 1) hx hb dX4_build_54 (by decide) ?_
          refine lv_iadd hx hb dX4_build_55 ?_
          obtain ⟨h56, eh56⟩ : ∃ y, y = hU h48 60 2 ((h48.1 60 2) + 1) := ⟨_, rfl⟩
          replace hf := lt_at eh56 hf
          refine r_put (a := 60) (v := .int ((h48.1 60 2) + 1)) (ty := .int) (h' := h56) (C := RX4) (T := TX4) (N := 7) hG hx hb hts hinX4 tyX4 tyX4_ok nmX4 hown hK hP hS (ltX4 rfl) (ceX4 rfl) rfl 2 (by decide) wd341 rfl (by decide +kernel) rfl rfl (Nat.le_of_ble_eq_true rfl) (by rw [eh56]; exact fun j hj => cE_U hj) (by rw [eh56]; exact puX4_2 rfl _) dX4_build_56 (fun H locs hP hS => ?_)
          refine lv_iinc (v := (x4 + 1)) (lv' := [(4, .int (x4 + 1)), (0, .ref (gB G 60)), (1, .int x1), (2, .ref (gB G V2)), (3, .int x3)]) hx hb dX4_build_59 hl (k := 4) rfl rfl (by decide) rfl (fun ls hl => ?_)
          refine lv_goto (tgt := 8) hx hb dX4_build_62 (by decide) ?_
          exact ih (x4 + 1) h56 _ _ _ (lv_sub hl [1, 2, 3, 4, 0] rfl) hP hS hf
def f_X4_build (V2 n2 : Nat) (x1 : Int32) (x3 : Int32) (h : PH) : Option PH := lt' (hU h 60 2 0) (fun h2 => f_X4_build_8 V2 n2 x1 x3 FU 0 h2)
set_option maxHeartbeats 4000000 in
set_option maxRecDepth 100000 in
theorem k_X4_build (l : Launch) {G : GC} (hG : GOK G) (V2 n2 : Nat) (hV2 : isA V2 n2) {x1 : Int32} {x3 : Int32} {h hh : PH} (hf : f_X4_build V2 n2 x1 x3 h = some hh) : CV l yX4_build vX4_build rmX4_build G [.ref (gB G 60), .int x1, .ref (gB G V2), .int x3] h hh := by
  refine Met.ofW (cc := cX4_build) (maxL := 6) (ret := none) (by decide +kernel) rfl ?_
  intro p e s m args below meth c s₁ B hml hv
  obtain ⟨rfl, hP, hK⟩ := hv
  have C : MC l G p s m _ meth c RX4 cX4_build 6 none := ⟨B.exec, B.bytes, B.returns, B.notSynchronized, hml, findClass_of_methodNamed B.named, fun w hw => atoms_spec (ws := vX4_build) B.pre w (List.mem_cons_of_mem _ hw), hK⟩
  obtain ⟨hx, hb, hr, hlocks, -, hown, hts, -⟩ := id C
  have hl := lv_entry ([.ref (gB G 60), .int x1, .ref (gB G V2), .int x3]) (n := 6) (Nat.le_of_ble_eq_true rfl)
  rw [lg_entry_eq]
  generalize (lg_sl ([.ref (gB G 60), .int x1, .ref (gB G V2), .int x3]) ++ List.replicate (6 - (lg_sl ([.ref (gB G 60), .int x1, .ref (gB G V2), .int x3])).length) Slot.unset).toArray = ls at hl ⊢
  have hl : lv_has ls 6 [(0, .ref (gB G 60)), (1, .int x1), (2, .ref (gB G V2)), (3, .int x3)] := hl
  have hS : SP G s s.heap [] := va_S.rf
  replace hP : WP G h s.heap := hP
  rw [f_X4_build] at hf
  refine lv_aload_n hx hb dX4_build_0 rfl (lv_at hl 0 rfl) ?_
  refine lv_iconst (v := 0) hx hb dX4_build_1 (by decide) ?_
  obtain ⟨h2, eh2⟩ : ∃ y, y = hU h 60 2 0 := ⟨_, rfl⟩
  replace hf := lt_at eh2 hf
  refine r_put (a := 60) (v := .int 0) (ty := .int) (h' := h2) (C := RX4) (T := TX4) (N := 7) hG hx hb hts hinX4 tyX4 tyX4_ok nmX4 hown hK hP hS (ltX4 rfl) (ceX4 rfl) rfl 2 (by decide) wd341 rfl (by decide +kernel) rfl rfl (Nat.le_of_ble_eq_true rfl) (by rw [eh2]; exact fun j hj => cE_U hj) (by rw [eh2]; exact puX4_2 rfl _) dX4_build_2 (fun H locs hP hS => ?_)
  refine lv_iconst (v := 0) hx hb dX4_build_5 (by decide) ?_
  refine lv_istore (lv' := [(4, .int 0), (0, .ref (gB G 60)), (1, .int x1), (2, .ref (gB G V2)), (3, .int x3)]) hx hb dX4_build_6 hl (by decide) rfl (fun ls hl => ?_)
  exact w_X4_build_8 hG C V2 n2 hV2 x1 x3 FU 0 h2 _ _ _ (lv_sub hl [1, 2, 3, 4, 0] rfl) hP hS hf
/-! CarriedBack$Rows.howMany()I -/
abbrev rmX4_howMany : Room := { frames := 0, cells := 0, slots := 0, locals := 0 }
abbrev vX4_howMany : List Cond := Cond.code yX4_howMany cX4_howMany 1 (some .int) :: GW
def f_X4_howMany (h : PH) : Option (Int32 × PH) := bO (ag h 64 256 0) (fun v5 => some (v5, h))
set_option maxHeartbeats 4000000 in
set_option maxRecDepth 100000 in
theorem k_X4_howMany (l : Launch) {G : GC} (hG : GOK G) {rr : Int32} {h hh : PH} (hf : f_X4_howMany h = some (rr, hh)) : CI l yX4_howMany vX4_howMany rmX4_howMany G [.ref (gB G 60)] h rr hh := by
  refine Met.ofW (cc := cX4_howMany) (maxL := 1) (ret := (some .int)) (by decide +kernel) rfl ?_
  intro p e s m args below meth c s₁ B hml hv
  obtain ⟨rfl, hP, hK⟩ := hv
  have C : MC l G p s m _ meth c RX4 cX4_howMany 1 (some .int) := ⟨B.exec, B.bytes, B.returns, B.notSynchronized, hml, findClass_of_methodNamed B.named, fun w hw => atoms_spec (ws := vX4_howMany) B.pre w (List.mem_cons_of_mem _ hw), hK⟩
  obtain ⟨hx, hb, hr, hlocks, -, hown, hts, -⟩ := id C
  have hl := lv_entry ([.ref (gB G 60)]) (n := 1) (Nat.le_of_ble_eq_true rfl)
  rw [lg_entry_eq]
  generalize (lg_sl ([.ref (gB G 60)]) ++ List.replicate (1 - (lg_sl ([.ref (gB G 60)])).length) Slot.unset).toArray = ls at hl ⊢
  have hl : lv_has ls 1 [(0, .ref (gB G 60))] := hl
  have hS : SP G s s.heap [] := va_S.rf
  replace hP : WP G h s.heap := hP
  rw [f_X4_howMany] at hf
  refine lv_aload_n hx hb dX4_howMany_0 rfl (lv_at hl 0 rfl) ?_
  refine r_get (a := 60) (v := .ref (gB G 64)) (C := RX4) (T := TX4) (N := 7) hx hb hts hinX4 hown hK hP (ltX4 rfl) (ceX4 rfl) rfl 5 (by decide) wd344 rfl dX4_howMany_1 ?_
  refine lv_iconst (v := 0) hx hb dX4_howMany_4 (by decide) ?_
  obtain ⟨v5, ev5, hf⟩ := bO_s hf
  refine r_iald hx hb hK hP (arX4_5 rfl) ev5 dX4_howMany_5 ?_
  exact r_iret hx hb hr hlocks hP hS (re2 (Option.some.inj hf)) dX4_howMany_6
/-! CarriedBack.orders(II)I -/
abbrev rmX8_orders : Room := { frames := 4, cells := 0, slots := 0, locals := 95 }
abbrev vX8_orders : List Cond := Cond.code yX8_orders cX8_orders 4 (some .int) :: GW
def f_X8_orders (x1 : Int32) (x2 : Int32) (h : PH) : Option (Int32 × PH) := bP (f_X8_refusalOfRow x1 x2 h) (fun r3 h3 => if r3 = 0 then (bO (f_X4_build 32 64 x2 x1 h3) (fun h26 => bP (f_X4_howMany h26) (fun r33 h33 => some (r33, h33)))) else (some (r3, h3)))
set_option maxHeartbeats 4000000 in
set_option maxRecDepth 100000 in
theorem k_X8_orders (l : Launch) {G : GC} (hG : GOK G) {x1 : Int32} {x2 : Int32} {rr : Int32} {h hh : PH} (hf : f_X8_orders x1 x2 h = some (rr, hh)) : CI l yX8_orders vX8_orders rmX8_orders G [.ref (gB G 0), .int x1, .int x2] h rr hh := by
  refine Met.ofW (cc := cX8_orders) (maxL := 4) (ret := (some .int)) (by decide +kernel) rfl ?_
  intro p e s m args below meth c s₁ B hml hv
  obtain ⟨rfl, hP, hK⟩ := hv
  have C : MC l G p s m _ meth c RX8 cX8_orders 4 (some .int) := ⟨B.exec, B.bytes, B.returns, B.notSynchronized, hml, findClass_of_methodNamed B.named, fun w hw => atoms_spec (ws := vX8_orders) B.pre w (List.mem_cons_of_mem _ hw), hK⟩
  obtain ⟨hx, hb, hr, hlocks, -, hown, hts, -⟩ := id C
  have hl := lv_entry ([.ref (gB G 0), .int x1, .int x2]) (n := 4) (Nat.le_of_ble_eq_true rfl)
  rw [lg_entry_eq]
  generalize (lg_sl ([.ref (gB G 0), .int x1, .int x2]) ++ List.replicate (4 - (lg_sl ([.ref (gB G 0), .int x1, .int x2])).length) Slot.unset).toArray = ls at hl ⊢
  have hl : lv_has ls 4 [(0, .ref (gB G 0)), (1, .int x1), (2, .int x2)] := hl
  have hS : SP G s s.heap [] := va_S.rf
  replace hP : WP G h s.heap := hP
  rw [f_X8_orders] at hf
  refine lv_aload_n hx hb dX8_orders_0 rfl (lv_at hl 0 rfl) ?_
  refine lv_iload_n hx hb dX8_orders_1 rfl (lv_at hl 1 rfl) ?_
  refine lv_iload_n hx hb dX8_orders_2 rfl (lv_at hl 2 rfl) ?_
  obtain ⟨r3, h3, er3, hf⟩ := bP_s hf
  refine r_callI (va_runV (As := [.int x1, .int x2]) (rest := []) ⟨hx, hb, hml, hown, hts⟩ (k_X8_refusalOfRow l hG er3) (cwV 2 hts (gV wd925 wd927 wd21 wd73 wd928) rfl rfl rfl (by decide +kernel) ⟨Nat.le_of_ble_eq_true rfl, Nat.le_of_ble_eq_true rfl⟩) (r_pv hK hP hS (ltX8 rfl) (ceX8 rfl) rfl) rfl rfl hl.1 rfl (lv_room (Nat.le_of_ble_eq_true rfl)) dX8_orders_3 ⟨Nat.le_of_ble_eq_true rfl, Nat.le_of_ble_eq_true rfl⟩) hS (fun H locs hP hS => ?_)
  refine lv_istore_n (lv' := [(3, .int r3), (0, .ref (gB G 0)), (1, .int x1), (2, .int x2)]) hx hb dX8_orders_6 rfl hl (by decide) rfl (fun ls hl => ?_)
  refine lv_iload_n hx hb dX8_orders_7 rfl (lv_at hl 0 rfl) ?_
  refine lv_if_eq (tgt := 13) hx hb dX8_orders_8 (by decide) (fun c8 => ?_) (fun c8 => ?_)
  · replace hf := if_t c8 hf
    refine lv_aload_n hx hb dX8_orders_13 rfl (lv_at hl 1 rfl) ?_
    refine r_get (a := 0) (v := .ref (gB G 60)) (C := RX8) (T := TX8) (N := 14) hx hb hts hinX8 hown hK hP (ltX8 rfl) (ceX8 rfl) rfl 11 (by decide) wd373 rfl dX8_orders_14 ?_
    refine lv_iload_n hx hb dX8_orders_17 rfl (lv_at hl 3 rfl) ?_
    refine lv_aload_n hx hb dX8_orders_18 rfl (lv_at hl 1 rfl) ?_
    refine r_get (a := 0) (v := .ref (gB G 28)) (C := RX8) (T := TX8) (N := 14) hx hb hts hinX8 hown hK hP (ltX8 rfl) (ceX8 rfl) rfl 6 (by decide) wd368 rfl dX8_orders_19 ?_
    refine r_get (a := 28) (v := .ref (gB G 32)) (C := RX0) (T := TX0) (N := 10) hx hb hts hinX0 hown hK hP (ltX0 (Or.inl rfl)) (ceX0 (Or.inl rfl)) rfl 4 (by decide) wd247 rfl dX8_orders_22 ?_
    refine lv_iload_n hx hb dX8_orders_25 rfl (lv_at hl 2 rfl) ?_
    obtain ⟨h26, eh26, hf⟩ := bO_s hf
    refine r_callV (va_runV (As := [.int x2, .ref (gB G 32), .int x1]) (rest := []) ⟨hx, hb, hml, hown, hts⟩ (k_X4_build l hG 32 64 (arX0_4 (Or.inl rfl)) eh26) (cwV 3 hts (gV wd933 wd934 wd935 wd81 wd936) rfl rfl rfl (by decide +kernel) ⟨Nat.le_of_ble_eq_true rfl, Nat.le_of_ble_eq_true rfl⟩) (r_pv hK hP hS (ltX4 rfl) (ceX4 rfl) rfl) rfl rfl hl.1 rfl (lv_room (Nat.le_of_ble_eq_true rfl)) dX8_orders_26 ⟨Nat.le_of_ble_eq_true rfl, Nat.le_of_ble_eq_true rfl⟩) hS (fun H locs hP hS => ?_)
    refine lv_aload_n hx hb dX8_orders_29 rfl (lv_at hl 1 rfl) ?_
    refine r_get (a := 0) (v := .ref (gB G 60)) (C := RX8) (T := TX8) (N := 14) hx hb hts hinX8 hown hK hP (ltX8 rfl) (ceX8 rfl) rfl 11 (by decide) wd373 rfl dX8_orders_30 ?_
    obtain ⟨r33, h33, er33, hf⟩ := bP_s hf
    refine r_callI (va_runV (As := []) (rest := []) ⟨hx, hb, hml, hown, hts⟩ (k_X4_howMany l hG er33) (cwV 0 hts (gV wd950 wd951 wd952 wd81 wd953) rfl rfl rfl (by decide +kernel) ⟨Nat.le_of_ble_eq_true rfl, Nat.le_of_ble_eq_true rfl⟩) (r_pv hK hP hS (ltX4 rfl) (ceX4 rfl) rfl) rfl rfl hl.1 rfl (lv_room (Nat.le_of_ble_eq_true rfl)) dX8_orders_33 ⟨Nat.le_of_ble_eq_true rfl, Nat.le_of_ble_eq_true rfl⟩) hS (fun H locs hP hS => ?_)
    exact r_iret hx hb hr hlocks hP hS (re2 (Option.some.inj hf)) dX8_orders_36
  · replace hf := if_f c8 hf
    refine lv_iload_n hx hb dX8_orders_11 rfl (lv_at hl 0 rfl) ?_
    exact r_iret hx hb hr hlocks hP hS (re2 (Option.some.inj hf)) dX8_orders_12
/-! CarriedBack$Rows.waysBy(II)I -/
abbrev rmX4_waysBy : Room := { frames := 1, cells := 0, slots := 0, locals := 21 }
abbrev vX4_waysBy : List Cond := Cond.code yX4_waysBy cX4_waysBy 3 (some .int) :: GW
def f_X4_waysBy (x1 : Int32) (x2 : Int32) (h : PH) : Option (Int32 × PH) := bO (ag h 63 256 x1) (fun v5 => bO (f_X8_has v5 x2) (fun r7 => if r7 = 0 then (some (0, h)) else (bO (ag h 64 256 (x1 ||| (1 <<< (x2 &&& 31)))) (fun v22 => some (v22, h)))))
set_option maxHeartbeats 4000000 in
set_option maxRecDepth 100000 in
theorem k_X4_waysBy (l : Launch) {G : GC} (hG : GOK G) {x1 : Int32} {x2 : Int32} {rr : Int32} {h hh : PH} (hf : f_X4_waysBy x1 x2 h = some (rr, hh)) : CI l yX4_waysBy vX4_waysBy rmX4_waysBy G [.ref (gB G 60), .int x1, .int x2] h rr hh := by
  refine Met.ofW (cc := cX4_waysBy) (maxL := 3) (ret := (some .int)) (by decide +kernel) rfl ?_
  intro p e s m args below meth c s₁ B hml hv
  obtain ⟨rfl, hP, hK⟩ := hv
  have C : MC l G p s m _ meth c RX4 cX4_waysBy 3 (some .int) := ⟨B.exec, B.bytes, B.returns, B.notSynchronized, hml, findClass_of_methodNamed B.named, fun w hw => atoms_spec (ws := vX4_waysBy) B.pre w (List.mem_cons_of_mem _ hw), hK⟩
  obtain ⟨hx, hb, hr, hlocks, -, hown, hts, -⟩ := id C
  have hl := lv_entry ([.ref (gB G 60), .int x1, .int x2]) (n := 3) (Nat.le_of_ble_eq_true rfl)
  rw [lg_entry_eq]
  generalize (lg_sl ([.ref (gB G 60), .int x1, .int x2]) ++ List.replicate (3 - (lg_sl ([.ref (gB G 60), .int x1, .int x2])).length) Slot.unset).toArray = ls at hl ⊢
  have hl : lv_has ls 3 [(0, .ref (gB G 60)), (1, .int x1), (2, .int x2)] := hl
  have hS : SP G s s.heap [] := va_S.rf
  replace hP : WP G h s.heap := hP
  rw [f_X4_waysBy] at hf
  refine lv_aload_n hx hb dX4_waysBy_0 rfl (lv_at hl 0 rfl) ?_
  refine r_get (a := 60) (v := .ref (gB G 63)) (C := RX4) (T := TX4) (N := 7) hx hb hts hinX4 hown hK hP (ltX4 rfl) (ceX4 rfl) rfl 4 (by decide) wd343 rfl dX4_waysBy_1 ?_
  refine lv_iload_n hx hb dX4_waysBy_4 rfl (lv_at hl 1 rfl) ?_
  obtain ⟨v5, ev5, hf⟩ := bO_s hf
  refine r_iald hx hb hK hP (arX4_4 rfl) ev5 dX4_waysBy_5 ?_
  refine lv_iload_n hx hb dX4_waysBy_6 rfl (lv_at hl 2 rfl) ?_
  obtain ⟨r7, er7, hf⟩ := bO_s hf
  refine r_callI (va_runSN (As := [.int v5, .int x2]) (rest := []) ⟨hx, hb, hml, hown, hts⟩ (k_X8_has l hG (h := h) er7) ⟨va_cnB 2 hts (gC wd523) rfl rfl rfl (host := "CarriedBack") (hK.2.1 _ (by decide +kernel)) (hts _ wd73) (by decide +kernel) ⟨Nat.le_of_ble_eq_true rfl, Nat.le_of_ble_eq_true rfl⟩, hts _ wd522, trivial⟩ (r_ps hK hP hS) rfl rfl hl.1 rfl (lv_room (Nat.le_of_ble_eq_true rfl)) dX4_waysBy_7 ⟨Nat.le_of_ble_eq_true rfl, Nat.le_of_ble_eq_true rfl⟩) hS (fun H locs hP hS => ?_)
  refine lv_if_eq (tgt := 26) hx hb dX4_waysBy_10 (by decide) (fun c10 => ?_) (fun c10 => ?_)
  · replace hf := if_t c10 hf
    refine lv_iconst (v := 0) hx hb dX4_waysBy_26 (by decide) ?_
    exact r_iret hx hb hr hlocks hP hS (re2 (Option.some.inj hf)) dX4_waysBy_27
  · replace hf := if_f c10 hf
    refine lv_aload_n hx hb dX4_waysBy_13 rfl (lv_at hl 0 rfl) ?_
    refine r_get (a := 60) (v := .ref (gB G 64)) (C := RX4) (T := TX4) (N := 7) hx hb hts hinX4 hown hK hP (ltX4 rfl) (ceX4 rfl) rfl 5 (by decide) wd344 rfl dX4_waysBy_14 ?_
    refine lv_iload_n hx hb dX4_waysBy_17 rfl (lv_at hl 1 rfl) ?_
    refine lv_iconst (v := 1) hx hb dX4_waysBy_18 (by decide) ?_
    refine lv_iload_n hx hb dX4_waysBy_19 rfl (lv_at hl 2 rfl) ?_
    refine lv_ishl hx hb dX4_waysBy_20 ?_
    refine lv_ior hx hb dX4_waysBy_21 ?_
    obtain ⟨v22, ev22, hf⟩ := bO_s hf
    refine r_iald hx hb hK hP (arX4_5 rfl) ev22 dX4_waysBy_22 ?_
    refine lv_goto (tgt := 27) hx hb dX4_waysBy_23 (by decide) ?_
    exact r_iret hx hb hr hlocks hP hS (re2 (Option.some.inj hf)) dX4_waysBy_27
/-! CarriedBack$Rows.memberOf(II)I -/
abbrev rmX4_memberOf : Room := { frames := 2, cells := 0, slots := 0, locals := 43 }
abbrev vX4_memberOf : List Cond := Cond.code yX4_memberOf cX4_memberOf 7 (some .int) :: GW
def f_X4_memberOf_83 (x2 : Int32) (k35 : Int32 → Int32 → Int32 → Int32 → PH → Option (Int32 × PH)) (x3 : Int32) (x4 : Int32) (x5 : Int32) (x6 : Int32) (h : PH) : Option (Int32 × PH) := if x4 < (h.1 60 2) then (lt' ((x3 ||| (1 <<< (x4 &&& 31)))) (fun x3_100 => k35 x3_100 x4 x5 (x6 + 1) h)) else (some ((-1), h))
set_option maxHeartbeats 4000000 in
set_option maxRecDepth 100000 in
theorem w_X4_memberOf_83 {l : Launch} {G : GC} (hG : GOK G) {rr : Int32} {hh : PH} {p : Program} {e : Env} {s : State} {m : MethodId} {args : Array Value} {below : List Frame} {meth : Method} {c : Code} (C : MC l G p s m args meth c RX4 cX4_memberOf 7 (some .int)) (x2 : Int32) (k35 : Int32 → Int32 → Int32 → Int32 → PH → Option (Int32 × PH)) (hk35 : ∀ (x3 : Int32) (x4 : Int32) (x5 : Int32) (x6 : Int32) (h : PH) (H : Heap) (locs : List Loc) (ls : Array Slot), lv_has ls 7 [(0, .ref (gB G 60)), (2, .int x2), (3, .int x3), (4, .int x4), (5, .int x5), (6, .int x6)] → WP G h H → SP G s H locs → k35 x3 x4 x5 x6 h = some (rr, hh) → W p l e rmX4_memberOf s m args below meth c H locs 0 0 (MQ below (QI G rr hh) args s 0 0 (gA G)) (F0 m 35 ls [])) : ∀ (x3 : Int32) (x4 : Int32) (x5 : Int32) (x6 : Int32) (h : PH) (H : Heap) (locs : List Loc) (ls : Array Slot), lv_has ls 7 [(0, .ref (gB G 60)), (2, .int x2), (3, .int x3), (4, .int x4), (5, .int x5), (6, .int x6)] → WP G h H → SP G s H locs → f_X4_memberOf_83 x2 k35 x3 x4 x5 x6 h = some (rr, hh) → W p l e rmX4_memberOf s m args below meth c H locs 0 0 (MQ below (QI G rr hh) args s 0 0 (gA G)) (F0 m 83 ls []) := by
  obtain ⟨hx, hb, hr, hlocks, hml, hown, hts, hK⟩ := id C
  intro x3 x4 x5 x6 h H locs ls hl hP hS hf
  rw [f_X4_memberOf_83] at hf
  refine lv_iload hx hb dX4_memberOf_83 (lv_at hl 3 rfl) ?_
  refine lv_aload_n hx hb dX4_memberOf_85 rfl (lv_at hl 0 rfl) ?_
  refine r_get (a := 60) (v := .int (h.1 60 2)) (C := RX4) (T := TX4) (N := 7) hx hb hts hinX4 hown hK hP (ltX4 rfl) (ceX4 rfl) rfl 2 (by decide) wd341 rfl dX4_memberOf_86 ?_
  refine lv_icmp_lt (tgt := 94) hx hb dX4_memberOf_89 (by decide) (fun c89 => ?_) (fun c89 => ?_)
  · replace hf := if_t c89 hf
    refine lv_iload_n hx hb dX4_memberOf_94 rfl (lv_at hl 2 rfl) ?_
    refine lv_iconst (v := 1) hx hb dX4_memberOf_95 (by decide) ?_
    refine lv_iload hx hb dX4_memberOf_96 (lv_at hl 3 rfl) ?_
    refine lv_ishl hx hb dX4_memberOf_98 ?_
    refine lv_ior hx hb dX4_memberOf_99 ?_
    refine lv_topi (fun x3_100 ex3_100 => ?_)
    replace hf := lt_at ex3_100 hf
    refine lv_istore_n (lv' := [(3, .int x3_100), (0, .ref (gB G 60)), (2, .int x2), (4, .int x4), (5, .int x5), (6, .int x6)]) hx hb dX4_memberOf_100 rfl hl (by decide) rfl (fun ls hl => ?_)
    refine lv_iinc (v := (x6 + 1)) (lv' := [(6, .int (x6 + 1)), (3, .int x3_100), (0, .ref (gB G 60)), (2, .int x2), (4, .int x4), (5, .int x5)]) hx hb dX4_memberOf_101 hl (k := 5) rfl rfl (by decide) rfl (fun ls hl => ?_)
    refine lv_goto (tgt := 35) hx hb dX4_memberOf_104 (by decide) ?_
    exact hk35 x3_100 x4 x5 (x6 + 1) h _ _ _ (lv_sub hl [2, 3, 1, 4, 5, 0] rfl) hP hS hf
  · replace hf := if_f c89 hf
    refine lv_iconst (v := (-1)) hx hb dX4_memberOf_92 (by decide) ?_
    exact r_iret hx hb hr hlocks hP hS (re2 (Option.some.inj hf)) dX4_memberOf_93
def f_X4_memberOf_44 (x2 : Int32) (x3 : Int32) (x6 : Int32) (k35 : Int32 → Int32 → Int32 → Int32 → PH → Option (Int32 × PH)) : Nat → Int32 → Int32 → PH → Option (Int32 × PH)
  | 0, _, _, _ => none
  | n + 1, x4, x5, h => if (h.1 60 2) ≤ x4 then (f_X4_memberOf_83 x2 k35 x3 x4 x5 x6 h) else (bP (f_X4_waysBy x3 x4 h) (fun r59 h59 => if x5 < r59 then (f_X4_memberOf_83 x2 k35 x3 x4 x5 x6 h59) else (bP (f_X4_waysBy x3 x4 h59) (fun r71 h71 => lt' ((x5 - r71)) (fun x5_75 => (f_X4_memberOf_44 x2 x3 x6 k35 n) (x4 + 1) x5_75 h71)))))
set_option maxHeartbeats 4000000 in
set_option maxRecDepth 100000 in
theorem w_X4_memberOf_44 {l : Launch} {G : GC} (hG : GOK G) {rr : Int32} {hh : PH} {p : Program} {e : Env} {s : State} {m : MethodId} {args : Array Value} {below : List Frame} {meth : Method} {c : Code} (C : MC l G p s m args meth c RX4 cX4_memberOf 7 (some .int)) (x2 : Int32) (x3 : Int32) (x6 : Int32) (k35 : Int32 → Int32 → Int32 → Int32 → PH → Option (Int32 × PH)) (hk35 : ∀ (x3 : Int32) (x4 : Int32) (x5 : Int32) (x6 : Int32) (h : PH) (H : Heap) (locs : List Loc) (ls : Array Slot), lv_has ls 7 [(0, .ref (gB G 60)), (2, .int x2), (3, .int x3), (4, .int x4), (5, .int x5), (6, .int x6)] → WP G h H → SP G s H locs → k35 x3 x4 x5 x6 h = some (rr, hh) → W p l e rmX4_memberOf s m args below meth c H locs 0 0 (MQ below (QI G rr hh) args s 0 0 (gA G)) (F0 m 35 ls [])) : ∀ (n : Nat) (x4 : Int32) (x5 : Int32) (h : PH) (H : Heap) (locs : List Loc) (ls : Array Slot), lv_has ls 7 [(0, .ref (gB G 60)), (2, .int x2), (3, .int x3), (4, .int x4), (5, .int x5), (6, .int x6)] → WP G h H → SP G s H locs → f_X4_memberOf_44 x2 x3 x6 k35 n x4 x5 h = some (rr, hh) → W p l e rmX4_memberOf s m args below meth c H locs 0 0 (MQ below (QI G rr hh) args s 0 0 (gA G)) (F0 m 44 ls []) := by
  obtain ⟨hx, hb, hr, hlocks, hml, hown, hts, hK⟩ := id C
  intro n
  induction n with
  | zero => intro x4 x5 h H locs ls hl hP hS hf; rw [f_X4_memberOf_44] at hf; cases hf
  | succ n ih =>
    intro x4 x5 h H locs ls hl hP hS hf
    rw [f_X4_memberOf_44] at hf
    refine lv_iload hx hb dX4_memberOf_44 (lv_at hl 3 rfl) ?_
    refine lv_aload_n hx hb dX4_memberOf_46 rfl (lv_at hl 0 rfl) ?_
    refine r_get (a := 60) (v := .int (h.1 60 2)) (C := RX4) (T := TX4) (N := 7) hx hb hts hinX4 hown hK hP (ltX4 rfl) (ceX4 rfl) rfl 2 (by decide) wd341 rfl dX4_memberOf_47 ?_
    refine lv_icmp_ge (tgt := 83) hx hb dX4_memberOf_50 (by decide) (fun c50 => ?_) (fun c50 => ?_)
    · replace hf := if_t c50 hf
      exact w_X4_memberOf_83 hG C x2 k35 hk35 x3 x4 x5 x6 h _ _ _ (lv_sub hl [0, 1, 2, 3, 4, 5] rfl) hP hS hf
    · replace hf := if_f c50 hf
      refine lv_iload hx hb dX4_memberOf_53 (lv_at hl 4 rfl) ?_
      refine lv_aload_n hx hb dX4_memberOf_55 rfl (lv_at hl 0 rfl) ?_
      refine lv_iload_n hx hb dX4_memberOf_56 rfl (lv_at hl 2 rfl) ?_
      refine lv_iload hx hb dX4_memberOf_57 (lv_at hl 3 rfl) ?_
      obtain ⟨r59, h59, er59, hf⟩ := bP_s hf
      refine r_callI (va_runV (As := [.int x3, .int x4]) (rest := [.int x5]) ⟨hx, hb, hml, hown, hts⟩ (k_X4_waysBy l hG er59) (cwV 2 hts (gV wd962 wd964 wd24 wd81 wd965) rfl rfl rfl (by decide +kernel) ⟨Nat.le_of_ble_eq_true rfl, Nat.le_of_ble_eq_true rfl⟩) (r_pv hK hP hS (ltX4 rfl) (ceX4 rfl) rfl) rfl rfl hl.1 rfl (lv_room (Nat.le_of_ble_eq_true rfl)) dX4_memberOf_59 ⟨Nat.le_of_ble_eq_true rfl, Nat.le_of_ble_eq_true rfl⟩) hS (fun H locs hP hS => ?_)
      refine lv_icmp_lt (tgt := 83) hx hb dX4_memberOf_62 (by decide) (fun c62 => ?_) (fun c62 => ?_)
      · replace hf := if_t c62 hf
        exact w_X4_memberOf_83 hG C x2 k35 hk35 x3 x4 x5 x6 h59 _ _ _ (lv_sub hl [0, 1, 2, 3, 4, 5] rfl) hP hS hf
      · replace hf := if_f c62 hf
        refine lv_iload hx hb dX4_memberOf_65 (lv_at hl 4 rfl) ?_
        refine lv_aload_n hx hb dX4_memberOf_67 rfl (lv_at hl 0 rfl) ?_
        refine lv_iload_n hx hb dX4_memberOf_68 rfl (lv_at hl 2 rfl) ?_
        refine lv_iload hx hb dX4_memberOf_69 (lv_at hl 3 rfl) ?_
        obtain ⟨r71, h71, er71, hf⟩ := bP_s hf
        refine r_callI (va_runV (As := [.int x3, .int x4]) (rest := [.int x5]) ⟨hx, hb, hml, hown, hts⟩ (k_X4_waysBy l hG er71) (cwV 2 hts (gV wd962 wd964 wd24 wd81 wd965) rfl rfl rfl (by decide +kernel) ⟨Nat.le_of_ble_eq_true rfl, Nat.le_of_ble_eq_true rfl⟩) (r_pv hK hP hS (ltX4 rfl) (ceX4 rfl) rfl) rfl rfl hl.1 rfl (lv_room (Nat.le_of_ble_eq_true rfl)) dX4_memberOf_71 ⟨Nat.le_of_ble_eq_true rfl, Nat.le_of_ble_eq_true rfl⟩) hS (fun H locs hP hS => ?_)
        refine lv_isub hx hb dX4_memberOf_74 ?_
        refine lv_topi (fun x5_75 ex5_75 => ?_)
        replace hf := lt_at ex5_75 hf
        refine lv_istore (lv' := [(5, .int x5_75), (0, .ref (gB G 60)), (2, .int x2), (3, .int x3), (4, .int x4), (6, .int x6)]) hx hb dX4_memberOf_75 hl (by decide) rfl (fun ls hl => ?_)
        refine lv_iinc (v := (x4 + 1)) (lv' := [(4, .int (x4 + 1)), (5, .int x5_75), (0, .ref (gB G 60)), (2, .int x2), (3, .int x3), (6, .int x6)]) hx hb dX4_memberOf_77 hl (k := 4) rfl rfl (by decide) rfl (fun ls hl => ?_)
        refine lv_goto (tgt := 44) hx hb dX4_memberOf_80 (by decide) ?_
        exact ih (x4 + 1) x5_75 h71 _ _ _ (lv_sub hl [2, 3, 4, 0, 1, 5] rfl) hP hS hf
def f_X4_memberOf_35 (x2 : Int32) : Nat → Int32 → Int32 → Int32 → Int32 → PH → Option (Int32 × PH)
  | 0, _, _, _, _, _ => none
  | n + 1, x3, x4, x5, x6, h => if x2 < x6 then (bO (ag h 61 8 x4) (fun v113 => some (v113, h))) else (f_X4_memberOf_44 x2 x3 x6 (f_X4_memberOf_35 x2 n) FU 0 x5 h)
set_option maxHeartbeats 4000000 in
set_option maxRecDepth 100000 in
theorem w_X4_memberOf_35 {l : Launch} {G : GC} (hG : GOK G) {rr : Int32} {hh : PH} {p : Program} {e : Env} {s : State} {m : MethodId} {args : Array Value} {below : List Frame} {meth : Method} {c : Code} (C : MC l G p s m args meth c RX4 cX4_memberOf 7 (some .int)) (x2 : Int32) : ∀ (n : Nat) (x3 : Int32) (x4 : Int32) (x5 : Int32) (x6 : Int32) (h : PH) (H : Heap) (locs : List Loc) (ls : Array Slot), lv_has ls 7 [(0, .ref (gB G 60)), (2, .int x2), (3, .int x3), (4, .int x4), (5, .int x5), (6, .int x6)] → WP G h H → SP G s H locs → f_X4_memberOf_35 x2 n x3 x4 x5 x6 h = some (rr, hh) → W p l e rmX4_memberOf s m args below meth c H locs 0 0 (MQ below (QI G rr hh) args s 0 0 (gA G)) (F0 m 35 ls []) := by
  obtain ⟨hx, hb, hr, hlocks, hml, hown, hts, hK⟩ := id C
  intro n
  induction n with
  | zero => intro x3 x4 x5 x6 h H locs ls hl hP hS hf; rw [f_X4_memberOf_35] at hf; cases hf
  | succ n ih =>
    intro x3 x4 x5 x6 h H locs ls hl hP hS hf
    rw [f_X4_memberOf_35] at hf
    refine lv_iload hx hb dX4_memberOf_35 (lv_at hl 5 rfl) ?_
    refine lv_iload_n hx hb dX4_memberOf_37 rfl (lv_at hl 1 rfl) ?_
    refine lv_icmp_gt (tgt := 107) hx hb dX4_memberOf_38 (by decide) (fun c38 => ?_) (fun c38 => ?_)
    · replace hf := if_t c38 hf
      refine lv_aload_n hx hb dX4_memberOf_107 rfl (lv_at hl 0 rfl) ?_
      refine r_get (a := 60) (v := .ref (gB G 61)) (C := RX4) (T := TX4) (N := 7) hx hb hts hinX4 hown hK hP (ltX4 rfl) (ceX4 rfl) rfl 1 (by decide) wd340 rfl dX4_memberOf_108 ?_
      refine lv_iload hx hb dX4_memberOf_111 (lv_at hl 3 rfl) ?_
      obtain ⟨v113, ev113, hf⟩ := bO_s hf
      refine r_iald hx hb hK hP (arX4_1 rfl) ev113 dX4_memberOf_113 ?_
      exact r_iret hx hb hr hlocks hP hS (re2 (Option.some.inj hf)) dX4_memberOf_114
    · replace hf := if_f c38 hf
      refine lv_iconst (v := 0) hx hb dX4_memberOf_41 (by decide) ?_
      refine lv_istore (lv' := [(4, .int 0), (0, .ref (gB G 60)), (2, .int x2), (3, .int x3), (5, .int x5), (6, .int x6)]) hx hb dX4_memberOf_42 hl (by decide) rfl (fun ls hl => ?_)
      exact w_X4_memberOf_44 hG C x2 x3 x6 (f_X4_memberOf_35 x2 n) ih FU 0 x5 h _ _ _ (lv_sub hl [1, 2, 3, 0, 4, 5] rfl) hP hS hf
def f_X4_memberOf (x1 : Int32) (x2 : Int32) (h : PH) : Option (Int32 × PH) := bO (ag h 64 256 0) (fun v6 => if v6 ≤ x1 then (some ((-1), h)) else (if x2 < 0 then (some ((-1), h)) else (if x2 < (h.1 60 2) then (f_X4_memberOf_35 x2 FU 0 0 x1 0 h) else (some ((-1), h)))))
set_option maxHeartbeats 4000000 in
set_option maxRecDepth 100000 in
theorem k_X4_memberOf (l : Launch) {G : GC} (hG : GOK G) {x1 : Int32} {x2 : Int32} {rr : Int32} {h hh : PH} (hf : f_X4_memberOf x1 x2 h = some (rr, hh)) : CI l yX4_memberOf vX4_memberOf rmX4_memberOf G [.ref (gB G 60), .int x1, .int x2] h rr hh := by
  refine Met.ofW (cc := cX4_memberOf) (maxL := 7) (ret := (some .int)) (by decide +kernel) rfl ?_
  intro p e s m args below meth c s₁ B hml hv
  obtain ⟨rfl, hP, hK⟩ := hv
  have C : MC l G p s m _ meth c RX4 cX4_memberOf 7 (some .int) := ⟨B.exec, B.bytes, B.returns, B.notSynchronized, hml, findClass_of_methodNamed B.named, fun w hw => atoms_spec (ws := vX4_memberOf) B.pre w (List.mem_cons_of_mem _ hw), hK⟩
  obtain ⟨hx, hb, hr, hlocks, -, hown, hts, -⟩ := id C
  have hl := lv_entry ([.ref (gB G 60), .int x1, .int x2]) (n := 7) (Nat.le_of_ble_eq_true rfl)
  rw [lg_entry_eq]
  generalize (lg_sl ([.ref (gB G 60), .int x1, .int x2]) ++ List.replicate (7 - (lg_sl ([.ref (gB G 60), .int x1, .int x2])).length) Slot.unset).toArray = ls at hl ⊢
  have hl : lv_has ls 7 [(0, .ref (gB G 60)), (1, .int x1), (2, .int x2)] := hl
  have hS : SP G s s.heap [] := va_S.rf
  replace hP : WP G h s.heap := hP
  rw [f_X4_memberOf] at hf
  refine lv_iload_n hx hb dX4_memberOf_0 rfl (lv_at hl 1 rfl) ?_
  refine lv_aload_n hx hb dX4_memberOf_1 rfl (lv_at hl 0 rfl) ?_
  refine r_get (a := 60) (v := .ref (gB G 64)) (C := RX4) (T := TX4) (N := 7) hx hb hts hinX4 hown hK hP (ltX4 rfl) (ceX4 rfl) rfl 5 (by decide) wd344 rfl dX4_memberOf_2 ?_
  refine lv_iconst (v := 0) hx hb dX4_memberOf_5 (by decide) ?_
  obtain ⟨v6, ev6, hf⟩ := bO_s hf
  refine r_iald hx hb hK hP (arX4_5 rfl) ev6 dX4_memberOf_6 ?_
  refine lv_icmp_ge (tgt := 22) hx hb dX4_memberOf_7 (by decide) (fun c7 => ?_) (fun c7 => ?_)
  · replace hf := if_t c7 hf
    refine lv_iconst (v := (-1)) hx hb dX4_memberOf_22 (by decide) ?_
    exact r_iret hx hb hr hlocks hP hS (re2 (Option.some.inj hf)) dX4_memberOf_23
  · replace hf := if_f c7 hf
    refine lv_iload_n hx hb dX4_memberOf_10 rfl (lv_at hl 2 rfl) ?_
    refine lv_if_lt (tgt := 22) hx hb dX4_memberOf_11 (by decide) (fun c11 => ?_) (fun c11 => ?_)
    · replace hf := if_t c11 hf
      refine lv_iconst (v := (-1)) hx hb dX4_memberOf_22 (by decide) ?_
      exact r_iret hx hb hr hlocks hP hS (re2 (Option.some.inj hf)) dX4_memberOf_23
    · replace hf := if_f c11 hf
      refine lv_iload_n hx hb dX4_memberOf_14 rfl (lv_at hl 2 rfl) ?_
      refine lv_aload_n hx hb dX4_memberOf_15 rfl (lv_at hl 0 rfl) ?_
      refine r_get (a := 60) (v := .int (h.1 60 2)) (C := RX4) (T := TX4) (N := 7) hx hb hts hinX4 hown hK hP (ltX4 rfl) (ceX4 rfl) rfl 2 (by decide) wd341 rfl dX4_memberOf_16 ?_
      refine lv_icmp_lt (tgt := 24) hx hb dX4_memberOf_19 (by decide) (fun c19 => ?_) (fun c19 => ?_)
      · replace hf := if_t c19 hf
        refine lv_iconst (v := 0) hx hb dX4_memberOf_24 (by decide) ?_
        refine lv_istore_n (lv' := [(3, .int 0), (0, .ref (gB G 60)), (1, .int x1), (2, .int x2)]) hx hb dX4_memberOf_25 rfl hl (by decide) rfl (fun ls hl => ?_)
        refine lv_iconst (v := 0) hx hb dX4_memberOf_26 (by decide) ?_
        refine lv_istore (lv' := [(4, .int 0), (3, .int 0), (0, .ref (gB G 60)), (1, .int x1), (2, .int x2)]) hx hb dX4_memberOf_27 hl (by decide) rfl (fun ls hl => ?_)
        refine lv_iload_n hx hb dX4_memberOf_29 rfl (lv_at hl 3 rfl) ?_
        refine lv_istore (lv' := [(5, .int x1), (4, .int 0), (3, .int 0), (0, .ref (gB G 60)), (1, .int x1), (2, .int x2)]) hx hb dX4_memberOf_30 hl (by decide) rfl (fun ls hl => ?_)
        refine lv_iconst (v := 0) hx hb dX4_memberOf_32 (by decide) ?_
        refine lv_istore (lv' := [(6, .int 0), (5, .int x1), (4, .int 0), (3, .int 0), (0, .ref (gB G 60)), (1, .int x1), (2, .int x2)]) hx hb dX4_memberOf_33 hl (by decide) rfl (fun ls hl => ?_)
        exact w_X4_memberOf_35 hG C x2 FU 0 0 x1 0 h _ _ _ (lv_sub hl [4, 6, 3, 2, 1, 0] rfl) hP hS hf
      · replace hf := if_f c19 hf
        refine lv_iconst (v := (-1)) hx hb dX4_memberOf_22 (by decide) ?_
        exact r_iret hx hb hr hlocks hP hS (re2 (Option.some.inj hf)) dX4_memberOf_23
/-! CarriedBack.order(IIII)I -/
abbrev rmX8_order : Room := { frames := 4, cells := 0, slots := 0, locals := 95 }
abbrev vX8_order : List Cond := Cond.code yX8_order cX8_order 6 (some .int) :: GW
def f_X8_order (x1 : Int32) (x2 : Int32) (x3 : Int32) (x4 : Int32) (h : PH) : Option (Int32 × PH) := bP (f_X8_refusalOfRow x1 x2 h) (fun r3 h3 => if r3 = (-1001) then (some ((-1001), h3)) else (if (0 : Int32) ≤ x3 then (if r3 = 0 then (bO (f_X4_build 32 64 x2 x1 h3) (fun h49 => bP (f_X4_memberOf x3 x4 h49) (fun r59 h59 => some (r59, h59)))) else (some (r3, h3))) else (some ((-1002), h3))))
set_option maxHeartbeats 4000000 in
set_option maxRecDepth 100000 in
theorem k_X8_order (l : Launch) {G : GC} (hG : GOK G) {x1 : Int32} {x2 : Int32} {x3 : Int32} {x4 : Int32} {rr : Int32} {h hh : PH} (hf : f_X8_order x1 x2 x3 x4 h = some (rr, hh)) : CI l yX8_order vX8_order rmX8_order G [.ref (gB G 0), .int x1, .int x2, .int x3, .int x4] h rr hh := by
  refine Met.ofW (cc := cX8_order) (maxL := 6) (ret := (some .int)) (by decide +kernel) rfl ?_
  intro p e s m args below meth c s₁ B hml hv
  obtain ⟨rfl, hP, hK⟩ := hv
  have C : MC l G p s m _ meth c RX8 cX8_order 6 (some .int) := ⟨B.exec, B.bytes, B.returns, B.notSynchronized, hml, findClass_of_methodNamed B.named, fun w hw => atoms_spec (ws := vX8_order) B.pre w (List.mem_cons_of_mem _ hw), hK⟩
  obtain ⟨hx, hb, hr, hlocks, -, hown, hts, -⟩ := id C
  have hl := lv_entry ([.ref (gB G 0), .int x1, .int x2, .int x3, .int x4]) (n := 6) (Nat.le_of_ble_eq_true rfl)
  rw [lg_entry_eq]
  generalize (lg_sl ([.ref (gB G 0), .int x1, .int x2, .int x3, .int x4]) ++ List.replicate (6 - (lg_sl ([.ref (gB G 0), .int x1, .int x2, .int x3, .int x4])).length) Slot.unset).toArray = ls at hl ⊢
  have hl : lv_has ls 6 [(0, .ref (gB G 0)), (1, .int x1), (2, .int x2), (3, .int x3), (4, .int x4)] := hl
  have hS : SP G s s.heap [] := va_S.rf
  replace hP : WP G h s.heap := hP
  rw [f_X8_order] at hf
  refine lv_aload_n hx hb dX8_order_0 rfl (lv_at hl 0 rfl) ?_
  refine lv_iload_n hx hb dX8_order_1 rfl (lv_at hl 1 rfl) ?_
  refine lv_iload_n hx hb dX8_order_2 rfl (lv_at hl 2 rfl) ?_
  obtain ⟨r3, h3, er3, hf⟩ := bP_s hf
  refine r_callI (va_runV (As := [.int x1, .int x2]) (rest := []) ⟨hx, hb, hml, hown, hts⟩ (k_X8_refusalOfRow l hG er3) (cwV 2 hts (gV wd925 wd927 wd21 wd73 wd928) rfl rfl rfl (by decide +kernel) ⟨Nat.le_of_ble_eq_true rfl, Nat.le_of_ble_eq_true rfl⟩) (r_pv hK hP hS (ltX8 rfl) (ceX8 rfl) rfl) rfl rfl hl.1 rfl (lv_room (Nat.le_of_ble_eq_true rfl)) dX8_order_3 ⟨Nat.le_of_ble_eq_true rfl, Nat.le_of_ble_eq_true rfl⟩) hS (fun H locs hP hS => ?_)
  refine lv_istore (lv' := [(5, .int r3), (0, .ref (gB G 0)), (1, .int x1), (2, .int x2), (3, .int x3), (4, .int x4)]) hx hb dX8_order_6 hl (by decide) rfl (fun ls hl => ?_)
  refine lv_iload hx hb dX8_order_8 (lv_at hl 0 rfl) ?_
  refine lv_sipush (v := (-1001)) hx hb dX8_order_10 (by decide) ?_
  refine lv_icmp_ne (tgt := 20) hx hb dX8_order_13 (by decide) (fun c13 => ?_) (fun c13 => ?_)
  · replace hf := if_f c13 hf
    refine lv_iload_n hx hb dX8_order_20 rfl (lv_at hl 4 rfl) ?_
    refine lv_if_ge (tgt := 28) hx hb dX8_order_21 (by decide) (fun c21 => ?_) (fun c21 => ?_)
    · replace hf := if_t c21 hf
      refine lv_iload hx hb dX8_order_28 (lv_at hl 0 rfl) ?_
      refine lv_if_eq (tgt := 36) hx hb dX8_order_30 (by decide) (fun c30 => ?_) (fun c30 => ?_)
      · replace hf := if_t c30 hf
        refine lv_aload_n hx hb dX8_order_36 rfl (lv_at hl 1 rfl) ?_
        refine r_get (a := 0) (v := .ref (gB G 60)) (C := RX8) (T := TX8) (N := 14) hx hb hts hinX8 hown hK hP (ltX8 rfl) (ceX8 rfl) rfl 11 (by decide) wd373 rfl dX8_order_37 ?_
        refine lv_iload_n hx hb dX8_order_40 rfl (lv_at hl 3 rfl) ?_
        refine lv_aload_n hx hb dX8_order_41 rfl (lv_at hl 1 rfl) ?_
        refine r_get (a := 0) (v := .ref (gB G 28)) (C := RX8) (T := TX8) (N := 14) hx hb hts hinX8 hown hK hP (ltX8 rfl) (ceX8 rfl) rfl 6 (by decide) wd368 rfl dX8_order_42 ?_
        refine r_get (a := 28) (v := .ref (gB G 32)) (C := RX0) (T := TX0) (N := 10) hx hb hts hinX0 hown hK hP (ltX0 (Or.inl rfl)) (ceX0 (Or.inl rfl)) rfl 4 (by decide) wd247 rfl dX8_order_45 ?_
        refine lv_iload_n hx hb dX8_order_48 rfl (lv_at hl 2 rfl) ?_
        obtain ⟨h49, eh49, hf⟩ := bO_s hf
        refine r_callV (va_runV (As := [.int x2, .ref (gB G 32), .int x1]) (rest := []) ⟨hx, hb, hml, hown, hts⟩ (k_X4_build l hG 32 64 (arX0_4 (Or.inl rfl)) eh49) (cwV 3 hts (gV wd933 wd934 wd935 wd81 wd936) rfl rfl rfl (by decide +kernel) ⟨Nat.le_of_ble_eq_true rfl, Nat.le_of_ble_eq_true rfl⟩) (r_pv hK hP hS (ltX4 rfl) (ceX4 rfl) rfl) rfl rfl hl.1 rfl (lv_room (Nat.le_of_ble_eq_true rfl)) dX8_order_49 ⟨Nat.le_of_ble_eq_true rfl, Nat.le_of_ble_eq_true rfl⟩) hS (fun H locs hP hS => ?_)
        refine lv_aload_n hx hb dX8_order_52 rfl (lv_at hl 1 rfl) ?_
        refine r_get (a := 0) (v := .ref (gB G 60)) (C := RX8) (T := TX8) (N := 14) hx hb hts hinX8 hown hK hP (ltX8 rfl) (ceX8 rfl) rfl 11 (by decide) wd373 rfl dX8_order_53 ?_
        refine lv_iload_n hx hb dX8_order_56 rfl (lv_at hl 4 rfl) ?_
        refine lv_iload hx hb dX8_order_57 (lv_at hl 5 rfl) ?_
        obtain ⟨r59, h59, er59, hf⟩ := bP_s hf
        refine r_callI (va_runV (As := [.int x3, .int x4]) (rest := []) ⟨hx, hb, hml, hown, hts⟩ (k_X4_memberOf l hG er59) (cwV 2 hts (gV wd958 wd959 wd960 wd81 wd961) rfl rfl rfl (by decide +kernel) ⟨Nat.le_of_ble_eq_true rfl, Nat.le_of_ble_eq_true rfl⟩) (r_pv hK hP hS (ltX4 rfl) (ceX4 rfl) rfl) rfl rfl hl.1 rfl (lv_room (Nat.le_of_ble_eq_true rfl)) dX8_order_59 ⟨Nat.le_of_ble_eq_true rfl, Nat.le_of_ble_eq_true rfl⟩) hS (fun H locs hP hS => ?_)
        exact r_iret hx hb hr hlocks hP hS (re2 (Option.some.inj hf)) dX8_order_62
      · replace hf := if_f c30 hf
        refine lv_iload hx hb dX8_order_33 (lv_at hl 0 rfl) ?_
        exact r_iret hx hb hr hlocks hP hS (re2 (Option.some.inj hf)) dX8_order_35
    · replace hf := if_f c21 hf
      refine lv_sipush (v := (-1002)) hx hb dX8_order_24 (by decide) ?_
      exact r_iret hx hb hr hlocks hP hS (re2 (Option.some.inj hf)) dX8_order_27
  · replace hf := if_t c13 hf
    refine lv_sipush (v := (-1001)) hx hb dX8_order_16 (by decide) ?_
    exact r_iret hx hb hr hlocks hP hS (re2 (Option.some.inj hf)) dX8_order_19
/-! CarriedBack.whence(II)I -/
abbrev rmX8_whence : Room := { frames := 1, cells := 0, slots := 0, locals := 21 }
abbrev vX8_whence : List Cond := Cond.code yX8_whence cX8_whence 5 (some .int) :: GW
def f_X8_whence_48 (x1 : Int32) (x2 : Int32) (x3 : Int32) : Nat → Int32 → PH → Option (Int32 × PH)
  | 0, _, _ => none
  | n + 1, x4, h => if x4 < 0 then (some ((-1), h)) else (bO (ag h 30 4 x1) (fun v61 => bO (f_X8_has v61 x4) (fun r64 => if r64 = 0 then ((f_X8_whence_48 x1 x2 x3 n) (x4 + (-1)) h) else (bO (ag h 5 24 x4) (fun v79 => bO (f_X8_has v79 x2) (fun r81 => if r81 = 0 then ((f_X8_whence_48 x1 x2 x3 n) (x4 + (-1)) h) else (bO (ag h 8 384 ((x4 * 16) + x2)) (fun v101 => if v101 = x3 then (some (x4, h)) else ((f_X8_whence_48 x1 x2 x3 n) (x4 + (-1)) h)))))))))
set_option maxHeartbeats 4000000 in
set_option maxRecDepth 100000 in
theorem w_X8_whence_48 {l : Launch} {G : GC} (hG : GOK G) {rr : Int32} {hh : PH} {p : Program} {e : Env} {s : State} {m : MethodId} {args : Array Value} {below : List Frame} {meth : Method} {c : Code} (C : MC l G p s m args meth c RX8 cX8_whence 5 (some .int)) (x1 : Int32) (x2 : Int32) (x3 : Int32) : ∀ (n : Nat) (x4 : Int32) (h : PH) (H : Heap) (locs : List Loc) (ls : Array Slot), lv_has ls 5 [(0, .ref (gB G 0)), (1, .int x1), (2, .int x2), (3, .int x3), (4, .int x4)] → WP G h H → SP G s H locs → f_X8_whence_48 x1 x2 x3 n x4 h = some (rr, hh) → W p l e rmX8_whence s m args below meth c H locs 0 0 (MQ below (QI G rr hh) args s 0 0 (gA G)) (F0 m 48 ls []) := by
  obtain ⟨hx, hb, hr, hlocks, hml, hown, hts, hK⟩ := id C
  intro n
  induction n with
  | zero => intro x4 h H locs ls hl hP hS hf; rw [f_X8_whence_48] at hf; cases hf
  | succ n ih =>
    intro x4 h H locs ls hl hP hS hf
    rw [f_X8_whence_48] at hf
    refine lv_iload hx hb dX8_whence_48 (lv_at hl 4 rfl) ?_
    refine lv_if_lt (tgt := 115) hx hb dX8_whence_50 (by decide) (fun c50 => ?_) (fun c50 => ?_)
    · replace hf := if_t c50 hf
      refine lv_iconst (v := (-1)) hx hb dX8_whence_115 (by decide) ?_
      exact r_iret hx hb hr hlocks hP hS (re2 (Option.some.inj hf)) dX8_whence_116
    · replace hf := if_f c50 hf
      refine lv_aload_n hx hb dX8_whence_53 rfl (lv_at hl 0 rfl) ?_
      refine r_get (a := 0) (v := .ref (gB G 28)) (C := RX8) (T := TX8) (N := 14) hx hb hts hinX8 hown hK hP (ltX8 rfl) (ceX8 rfl) rfl 6 (by decide) wd368 rfl dX8_whence_54 ?_
      refine r_get (a := 28) (v := .ref (gB G 30)) (C := RX0) (T := TX0) (N := 10) hx hb hts hinX0 hown hK hP (ltX0 (Or.inl rfl)) (ceX0 (Or.inl rfl)) rfl 2 (by decide) wd242 rfl dX8_whence_57 ?_
      refine lv_iload_n hx hb dX8_whence_60 rfl (lv_at hl 1 rfl) ?_
      obtain ⟨v61, ev61, hf⟩ := bO_s hf
      refine r_iald hx hb hK hP (arX0_2 (Or.inl rfl)) ev61 dX8_whence_61 ?_
      refine lv_iload hx hb dX8_whence_62 (lv_at hl 4 rfl) ?_
      obtain ⟨r64, er64, hf⟩ := bO_s hf
      refine r_callI (va_runS (As := [.int v61, .int x4]) (rest := []) ⟨hx, hb, hml, hown, hts⟩ (k_X8_has l hG (h := h) er64) (va_cwS 2 hts (gS wd704 wd522 wd73 wd523) rfl rfl rfl (by decide +kernel) ⟨Nat.le_of_ble_eq_true rfl, Nat.le_of_ble_eq_true rfl⟩) (r_ps hK hP hS) rfl rfl hl.1 rfl (lv_room (Nat.le_of_ble_eq_true rfl)) dX8_whence_64 ⟨Nat.le_of_ble_eq_true rfl, Nat.le_of_ble_eq_true rfl⟩) hS (fun H locs hP hS => ?_)
      refine lv_if_eq (tgt := 109) hx hb dX8_whence_67 (by decide) (fun c67 => ?_) (fun c67 => ?_)
      · replace hf := if_t c67 hf
        refine lv_iinc (v := (x4 + (-1))) (lv' := [(4, .int (x4 + (-1))), (0, .ref (gB G 0)), (1, .int x1), (2, .int x2), (3, .int x3)]) hx hb dX8_whence_109 hl (k := 4) rfl rfl (by decide) rfl (fun ls hl => ?_)
        refine lv_goto (tgt := 48) hx hb dX8_whence_112 (by decide) ?_
        exact ih (x4 + (-1)) h _ _ _ (lv_sub hl [1, 2, 3, 4, 0] rfl) hP hS hf
      · replace hf := if_f c67 hf
        refine lv_aload_n hx hb dX8_whence_70 rfl (lv_at hl 0 rfl) ?_
        refine r_get (a := 0) (v := .ref (gB G 4)) (C := RX8) (T := TX8) (N := 14) hx hb hts hinX8 hown hK hP (ltX8 rfl) (ceX8 rfl) rfl 2 (by decide) wd364 rfl dX8_whence_71 ?_
        refine r_get (a := 4) (v := .ref (gB G 5)) (C := RX7) (T := TX7) (N := 10) hx hb hts hinX7 hown hK hP (ltX7 (Or.inl rfl)) (ceX7 (Or.inl rfl)) rfl 1 (by decide) wd159 rfl dX8_whence_74 ?_
        refine lv_iload hx hb dX8_whence_77 (lv_at hl 4 rfl) ?_
        obtain ⟨v79, ev79, hf⟩ := bO_s hf
        refine r_iald hx hb hK hP (arX7_1 (Or.inl rfl)) ev79 dX8_whence_79 ?_
        refine lv_iload_n hx hb dX8_whence_80 rfl (lv_at hl 2 rfl) ?_
        obtain ⟨r81, er81, hf⟩ := bO_s hf
        refine r_callI (va_runS (As := [.int v79, .int x2]) (rest := []) ⟨hx, hb, hml, hown, hts⟩ (k_X8_has l hG (h := h) er81) (va_cwS 2 hts (gS wd704 wd522 wd73 wd523) rfl rfl rfl (by decide +kernel) ⟨Nat.le_of_ble_eq_true rfl, Nat.le_of_ble_eq_true rfl⟩) (r_ps hK hP hS) rfl rfl hl.1 rfl (lv_room (Nat.le_of_ble_eq_true rfl)) dX8_whence_81 ⟨Nat.le_of_ble_eq_true rfl, Nat.le_of_ble_eq_true rfl⟩) hS (fun H locs hP hS => ?_)
        refine lv_if_eq (tgt := 109) hx hb dX8_whence_84 (by decide) (fun c84 => ?_) (fun c84 => ?_)
        · replace hf := if_t c84 hf
          refine lv_iinc (v := (x4 + (-1))) (lv' := [(4, .int (x4 + (-1))), (0, .ref (gB G 0)), (1, .int x1), (2, .int x2), (3, .int x3)]) hx hb dX8_whence_109 hl (k := 4) rfl rfl (by decide) rfl (fun ls hl => ?_)
          refine lv_goto (tgt := 48) hx hb dX8_whence_112 (by decide) ?_
          exact ih (x4 + (-1)) h _ _ _ (lv_sub hl [1, 2, 3, 4, 0] rfl) hP hS hf
        · replace hf := if_f c84 hf
          refine lv_aload_n hx hb dX8_whence_87 rfl (lv_at hl 0 rfl) ?_
          refine r_get (a := 0) (v := .ref (gB G 4)) (C := RX8) (T := TX8) (N := 14) hx hb hts hinX8 hown hK hP (ltX8 rfl) (ceX8 rfl) rfl 2 (by decide) wd364 rfl dX8_whence_88 ?_
          refine r_get (a := 4) (v := .ref (gB G 8)) (C := RX7) (T := TX7) (N := 10) hx hb hts hinX7 hown hK hP (ltX7 (Or.inl rfl)) (ceX7 (Or.inl rfl)) rfl 4 (by decide) wd165 rfl dX8_whence_91 ?_
          refine lv_iload hx hb dX8_whence_94 (lv_at hl 4 rfl) ?_
          refine lv_bipush (v := 16) hx hb dX8_whence_96 (by decide) ?_
          refine lv_imul hx hb dX8_whence_98 ?_
          refine lv_iload_n hx hb dX8_whence_99 rfl (lv_at hl 2 rfl) ?_
          refine lv_iadd hx hb dX8_whence_100 ?_
          obtain ⟨v101, ev101, hf⟩ := bO_s hf
          refine r_iald hx hb hK hP (arX7_4 (Or.inl rfl)) ev101 dX8_whence_101 ?_
          refine lv_iload_n hx hb dX8_whence_102 rfl (lv_at hl 3 rfl) ?_
          refine lv_icmp_ne (tgt := 109) hx hb dX8_whence_103 (by decide) (fun c103 => ?_) (fun c103 => ?_)
          · replace hf := if_f c103 hf
            refine lv_iinc (v := (x4 + (-1))) (lv' := [(4, .int (x4 + (-1))), (0, .ref (gB G 0)), (1, .int x1), (2, .int x2), (3, .int x3)]) hx hb dX8_whence_109 hl (k := 4) rfl rfl (by decide) rfl (fun ls hl => ?_)
            refine lv_goto (tgt := 48) hx hb dX8_whence_112 (by decide) ?_
            exact ih (x4 + (-1)) h _ _ _ (lv_sub hl [1, 2, 3, 4, 0] rfl) hP hS hf
          · replace hf := if_t c103 hf
            refine lv_iload hx hb dX8_whence_106 (lv_at hl 4 rfl) ?_
            exact r_iret hx hb hr hlocks hP hS (re2 (Option.some.inj hf)) dX8_whence_108
def f_X8_whence (x1 : Int32) (x2 : Int32) (h : PH) : Option (Int32 × PH) := bP (f_X0_hasLine 28 x1 h) (fun r5 h5 => if r5 = 0 then (some ((-1001), h5)) else (bO (f_X8_isSlot x2) (fun r12 => if r12 = 0 then (some ((-1001), h5)) else (bO (ag h5 32 64 ((x1 * 16) + x2)) (fun v35 => lt' (((h5.1 4 0) - 1)) (fun x4_46 => f_X8_whence_48 x1 x2 v35 FU x4_46 h5))))))
set_option maxHeartbeats 4000000 in
set_option maxRecDepth 100000 in
theorem k_X8_whence (l : Launch) {G : GC} (hG : GOK G) {x1 : Int32} {x2 : Int32} {rr : Int32} {h hh : PH} (hf : f_X8_whence x1 x2 h = some (rr, hh)) : CI l yX8_whence vX8_whence rmX8_whence G [.ref (gB G 0), .int x1, .int x2] h rr hh := by
  refine Met.ofW (cc := cX8_whence) (maxL := 5) (ret := (some .int)) (by decide +kernel) rfl ?_
  intro p e s m args below meth c s₁ B hml hv
  obtain ⟨rfl, hP, hK⟩ := hv
  have C : MC l G p s m _ meth c RX8 cX8_whence 5 (some .int) := ⟨B.exec, B.bytes, B.returns, B.notSynchronized, hml, findClass_of_methodNamed B.named, fun w hw => atoms_spec (ws := vX8_whence) B.pre w (List.mem_cons_of_mem _ hw), hK⟩
  obtain ⟨hx, hb, hr, hlocks, -, hown, hts, -⟩ := id C
  have hl := lv_entry ([.ref (gB G 0), .int x1, .int x2]) (n := 5) (Nat.le_of_ble_eq_true rfl)
  rw [lg_entry_eq]
  generalize (lg_sl ([.ref (gB G 0), .int x1, .int x2]) ++ List.replicate (5 - (lg_sl ([.ref (gB G 0), .int x1, .int x2])).length) Slot.unset).toArray = ls at hl ⊢
  have hl : lv_has ls 5 [(0, .ref (gB G 0)), (1, .int x1), (2, .int x2)] := hl
  have hS : SP G s s.heap [] := va_S.rf
  replace hP : WP G h s.heap := hP
  rw [f_X8_whence] at hf
  refine lv_aload_n hx hb dX8_whence_0 rfl (lv_at hl 0 rfl) ?_
  refine r_get (a := 0) (v := .ref (gB G 28)) (C := RX8) (T := TX8) (N := 14) hx hb hts hinX8 hown hK hP (ltX8 rfl) (ceX8 rfl) rfl 6 (by decide) wd368 rfl dX8_whence_1 ?_
  refine lv_iload_n hx hb dX8_whence_4 rfl (lv_at hl 1 rfl) ?_
  obtain ⟨r5, h5, er5, hf⟩ := bP_s hf
  refine r_callI (va_runV (As := [.int x1]) (rest := []) ⟨hx, hb, hml, hown, hts⟩ (k_X0_hasLine l hG 28 (Or.inl rfl) er5) (cwV 1 hts (gV wd684 wd685 wd686 wd78 wd687) rfl rfl rfl (by decide +kernel) ⟨Nat.le_of_ble_eq_true rfl, Nat.le_of_ble_eq_true rfl⟩) (r_pv hK hP hS (ltX0 (Or.inl rfl)) (ceX0 (Or.inl rfl)) rfl) rfl rfl hl.1 rfl (lv_room (Nat.le_of_ble_eq_true rfl)) dX8_whence_5 ⟨Nat.le_of_ble_eq_true rfl, Nat.le_of_ble_eq_true rfl⟩) hS (fun H locs hP hS => ?_)
  refine lv_if_eq (tgt := 18) hx hb dX8_whence_8 (by decide) (fun c8 => ?_) (fun c8 => ?_)
  · replace hf := if_t c8 hf
    refine lv_sipush (v := (-1001)) hx hb dX8_whence_18 (by decide) ?_
    exact r_iret hx hb hr hlocks hP hS (re2 (Option.some.inj hf)) dX8_whence_21
  · replace hf := if_f c8 hf
    refine lv_iload_n hx hb dX8_whence_11 rfl (lv_at hl 2 rfl) ?_
    obtain ⟨r12, er12, hf⟩ := bO_s hf
    refine r_callI (va_runS (As := [.int x2]) (rest := []) ⟨hx, hb, hml, hown, hts⟩ (k_X8_isSlot l hG (h := h5) er12) (va_cwS 1 hts (gS wd649 wd650 wd73 wd651) rfl rfl rfl (by decide +kernel) ⟨Nat.le_of_ble_eq_true rfl, Nat.le_of_ble_eq_true rfl⟩) (r_ps hK hP hS) rfl rfl hl.1 rfl (lv_room (Nat.le_of_ble_eq_true rfl)) dX8_whence_12 ⟨Nat.le_of_ble_eq_true rfl, Nat.le_of_ble_eq_true rfl⟩) hS (fun H locs hP hS => ?_)
    refine lv_if_ne (tgt := 22) hx hb dX8_whence_15 (by decide) (fun c15 => ?_) (fun c15 => ?_)
    · replace hf := if_f c15 hf
      refine lv_aload_n hx hb dX8_whence_22 rfl (lv_at hl 0 rfl) ?_
      refine r_get (a := 0) (v := .ref (gB G 28)) (C := RX8) (T := TX8) (N := 14) hx hb hts hinX8 hown hK hP (ltX8 rfl) (ceX8 rfl) rfl 6 (by decide) wd368 rfl dX8_whence_23 ?_
      refine r_get (a := 28) (v := .ref (gB G 32)) (C := RX0) (T := TX0) (N := 10) hx hb hts hinX0 hown hK hP (ltX0 (Or.inl rfl)) (ceX0 (Or.inl rfl)) rfl 4 (by decide) wd247 rfl dX8_whence_26 ?_
      refine lv_iload_n hx hb dX8_whence_29 rfl (lv_at hl 1 rfl) ?_
      refine lv_bipush (v := 16) hx hb dX8_whence_30 (by decide) ?_
      refine lv_imul hx hb dX8_whence_32 ?_
      refine lv_iload_n hx hb dX8_whence_33 rfl (lv_at hl 2 rfl) ?_
      refine lv_iadd hx hb dX8_whence_34 ?_
      obtain ⟨v35, ev35, hf⟩ := bO_s hf
      refine r_iald hx hb hK hP (arX0_4 (Or.inl rfl)) ev35 dX8_whence_35 ?_
      refine lv_istore_n (lv' := [(3, .int v35), (0, .ref (gB G 0)), (1, .int x1), (2, .int x2)]) hx hb dX8_whence_36 rfl hl (by decide) rfl (fun ls hl => ?_)
      refine lv_aload_n hx hb dX8_whence_37 rfl (lv_at hl 1 rfl) ?_
      refine r_get (a := 0) (v := .ref (gB G 4)) (C := RX8) (T := TX8) (N := 14) hx hb hts hinX8 hown hK hP (ltX8 rfl) (ceX8 rfl) rfl 2 (by decide) wd364 rfl dX8_whence_38 ?_
      refine r_get (a := 4) (v := .int (h5.1 4 0)) (C := RX7) (T := TX7) (N := 10) hx hb hts hinX7 hown hK hP (ltX7 (Or.inl rfl)) (ceX7 (Or.inl rfl)) rfl 0 (by decide) wd156 rfl dX8_whence_41 ?_
      refine lv_iconst (v := 1) hx hb dX8_whence_44 (by decide) ?_
      refine lv_isub hx hb dX8_whence_45 ?_
      refine lv_topi (fun x4_46 ex4_46 => ?_)
      replace hf := lt_at ex4_46 hf
      refine lv_istore (lv' := [(4, .int x4_46), (3, .int v35), (0, .ref (gB G 0)), (1, .int x1), (2, .int x2)]) hx hb dX8_whence_46 hl (by decide) rfl (fun ls hl => ?_)
      exact w_X8_whence_48 hG C x1 x2 v35 FU x4_46 h5 _ _ _ (lv_sub hl [2, 3, 4, 1, 0] rfl) hP hS hf
    · replace hf := if_t c15 hf
      refine lv_sipush (v := (-1001)) hx hb dX8_whence_18 (by decide) ?_
      exact r_iret hx hb hr hlocks hP hS (re2 (Option.some.inj hf)) dX8_whence_21
/-! CarriedBack.strayed(I)I -/
abbrev rmX8_strayed : Room := { frames := 1, cells := 0, slots := 0, locals := 21 }
abbrev vX8_strayed : List Cond := Cond.code yX8_strayed cX8_strayed 5 (some .int) :: GW
def f_X8_strayed_61 (x1 : Int32) (x2 : Int32) : Nat → Int32 → Int32 → PH → Option (Int32 × PH)
  | 0, _, _, _ => none
  | n + 1, x3, x4, h => if (16 : Int32) ≤ x4 then (some (x3, h)) else (bO (ag h 32 64 ((x1 * 16) + x4)) (fun v82 => bO (ag h 9 400 ((x2 * 16) + x4)) (fun v97 => if v82 = v97 then ((f_X8_strayed_61 x1 x2 n) x3 (x4 + 1) h) else (lt' ((x3 ||| (1 <<< (x4 &&& 31)))) (fun x3_107 => (f_X8_strayed_61 x1 x2 n) x3_107 (x4 + 1) h)))))
set_option maxHeartbeats 4000000 in
set_option maxRecDepth 100000 in
theorem w_X8_strayed_61 {l : Launch} {G : GC} (hG : GOK G) {rr : Int32} {hh : PH} {p : Program} {e : Env} {s : State} {m : MethodId} {args : Array Value} {below : List Frame} {meth : Method} {c : Code} (C : MC l G p s m args meth c RX8 cX8_strayed 5 (some .int)) (x1 : Int32) (x2 : Int32) : ∀ (n : Nat) (x3 : Int32) (x4 : Int32) (h : PH) (H : Heap) (locs : List Loc) (ls : Array Slot), lv_has ls 5 [(0, .ref (gB G 0)), (1, .int x1), (2, .int x2), (3, .int x3), (4, .int x4)] → WP G h H → SP G s H locs → f_X8_strayed_61 x1 x2 n x3 x4 h = some (rr, hh) → W p l e rmX8_strayed s m args below meth c H locs 0 0 (MQ below (QI G rr hh) args s 0 0 (gA G)) (F0 m 61 ls []) := by
  obtain ⟨hx, hb, hr, hlocks, hml, hown, hts, hK⟩ := id C
  intro n
  induction n with
  | zero => intro x3 x4 h H locs ls hl hP hS hf; rw [f_X8_strayed_61] at hf; cases hf
  | succ n ih =>
    intro x3 x4 h H locs ls hl hP hS hf
    rw [f_X8_strayed_61] at hf
    refine lv_iload hx hb dX8_strayed_61 (lv_at hl 4 rfl) ?_
    refine lv_bipush (v := 16) hx hb dX8_strayed_63 (by decide) ?_
    refine lv_icmp_ge (tgt := 114) hx hb dX8_strayed_65 (by decide) (fun c65 => ?_) (fun c65 => ?_)
    · replace hf := if_t c65 hf
      refine lv_iload_n hx hb dX8_strayed_114 rfl (lv_at hl 3 rfl) ?_
      exact r_iret hx hb hr hlocks hP hS (re2 (Option.some.inj hf)) dX8_strayed_115
    · replace hf := if_f c65 hf
      refine lv_aload_n hx hb dX8_strayed_68 rfl (lv_at hl 0 rfl) ?_
      refine r_get (a := 0) (v := .ref (gB G 28)) (C := RX8) (T := TX8) (N := 14) hx hb hts hinX8 hown hK hP (ltX8 rfl) (ceX8 rfl) rfl 6 (by decide) wd368 rfl dX8_strayed_69 ?_
      refine r_get (a := 28) (v := .ref (gB G 32)) (C := RX0) (T := TX0) (N := 10) hx hb hts hinX0 hown hK hP (ltX0 (Or.inl rfl)) (ceX0 (Or.inl rfl)) rfl 4 (by decide) wd247 rfl dX8_strayed_72 ?_
      refine lv_iload_n hx hb dX8_strayed_75 rfl (lv_at hl 1 rfl) ?_
      refine lv_bipush (v := 16) hx hb dX8_strayed_76 (by decide) ?_
      refine lv_imul hx hb dX8_strayed_78 ?_
      refine lv_iload hx hb dX8_strayed_79 (lv_at hl 4 rfl) ?_
      refine lv_iadd hx hb dX8_strayed_81 ?_
      obtain ⟨v82, ev82, hf⟩ := bO_s hf
      refine r_iald hx hb hK hP (arX0_4 (Or.inl rfl)) ev82 dX8_strayed_82 ?_
      refine lv_aload_n hx hb dX8_strayed_83 rfl (lv_at hl 0 rfl) ?_
      refine r_get (a := 0) (v := .ref (gB G 4)) (C := RX8) (T := TX8) (N := 14) hx hb hts hinX8 hown hK hP (ltX8 rfl) (ceX8 rfl) rfl 2 (by decide) wd364 rfl dX8_strayed_84 ?_
      refine r_get (a := 4) (v := .ref (gB G 9)) (C := RX7) (T := TX7) (N := 10) hx hb hts hinX7 hown hK hP (ltX7 (Or.inl rfl)) (ceX7 (Or.inl rfl)) rfl 5 (by decide) wd168 rfl dX8_strayed_87 ?_
      refine lv_iload_n hx hb dX8_strayed_90 rfl (lv_at hl 2 rfl) ?_
      refine lv_bipush (v := 16) hx hb dX8_strayed_91 (by decide) ?_
      refine lv_imul hx hb dX8_strayed_93 ?_
      refine lv_iload hx hb dX8_strayed_94 (lv_at hl 4 rfl) ?_
      refine lv_iadd hx hb dX8_strayed_96 ?_
      obtain ⟨v97, ev97, hf⟩ := bO_s hf
      refine r_iald hx hb hK hP (arX7_5 (Or.inl rfl)) ev97 dX8_strayed_97 ?_
      refine lv_icmp_eq (tgt := 108) hx hb dX8_strayed_98 (by decide) (fun c98 => ?_) (fun c98 => ?_)
      · replace hf := if_t c98 hf
        refine lv_iinc (v := (x4 + 1)) (lv' := [(4, .int (x4 + 1)), (0, .ref (gB G 0)), (1, .int x1), (2, .int x2), (3, .int x3)]) hx hb dX8_strayed_108 hl (k := 4) rfl rfl (by decide) rfl (fun ls hl => ?_)
        refine lv_goto (tgt := 61) hx hb dX8_strayed_111 (by decide) ?_
        exact ih x3 (x4 + 1) h _ _ _ (lv_sub hl [1, 2, 3, 4, 0] rfl) hP hS hf
      · replace hf := if_f c98 hf
        refine lv_iload_n hx hb dX8_strayed_101 rfl (lv_at hl 3 rfl) ?_
        refine lv_iconst (v := 1) hx hb dX8_strayed_102 (by decide) ?_
        refine lv_iload hx hb dX8_strayed_103 (lv_at hl 4 rfl) ?_
        refine lv_ishl hx hb dX8_strayed_105 ?_
        refine lv_ior hx hb dX8_strayed_106 ?_
        refine lv_topi (fun x3_107 ex3_107 => ?_)
        replace hf := lt_at ex3_107 hf
        refine lv_istore_n (lv' := [(3, .int x3_107), (0, .ref (gB G 0)), (1, .int x1), (2, .int x2), (4, .int x4)]) hx hb dX8_strayed_107 rfl hl (by decide) rfl (fun ls hl => ?_)
        refine lv_iinc (v := (x4 + 1)) (lv' := [(4, .int (x4 + 1)), (3, .int x3_107), (0, .ref (gB G 0)), (1, .int x1), (2, .int x2)]) hx hb dX8_strayed_108 hl (k := 4) rfl rfl (by decide) rfl (fun ls hl => ?_)
        refine lv_goto (tgt := 61) hx hb dX8_strayed_111 (by decide) ?_
        exact ih x3_107 (x4 + 1) h _ _ _ (lv_sub hl [2, 3, 4, 1, 0] rfl) hP hS hf
def f_X8_strayed_19 (x1 : Int32) : Nat → Int32 → Int32 → PH → Option (Int32 × PH)
  | 0, _, _, _ => none
  | n + 1, x2, x3, h => if (h.1 4 0) ≤ x3 then (f_X8_strayed_61 x1 x2 FU 0 0 h) else (bO (ag h 30 4 x1) (fun v38 => bO (f_X8_has v38 x3) (fun r40 => if r40 = 0 then ((f_X8_strayed_19 x1 n) x2 (x3 + 1) h) else (lt' ((x3 + 1)) (fun x2_49 => (f_X8_strayed_19 x1 n) x2_49 (x3 + 1) h)))))
set_option maxHeartbeats 4000000 in
set_option maxRecDepth 100000 in
theorem w_X8_strayed_19 {l : Launch} {G : GC} (hG : GOK G) {rr : Int32} {hh : PH} {p : Program} {e : Env} {s : State} {m : MethodId} {args : Array Value} {below : List Frame} {meth : Method} {c : Code} (C : MC l G p s m args meth c RX8 cX8_strayed 5 (some .int)) (x1 : Int32) : ∀ (n : Nat) (x2 : Int32) (x3 : Int32) (h : PH) (H : Heap) (locs : List Loc) (ls : Array Slot), lv_has ls 5 [(0, .ref (gB G 0)), (1, .int x1), (2, .int x2), (3, .int x3)] → WP G h H → SP G s H locs → f_X8_strayed_19 x1 n x2 x3 h = some (rr, hh) → W p l e rmX8_strayed s m args below meth c H locs 0 0 (MQ below (QI G rr hh) args s 0 0 (gA G)) (F0 m 19 ls []) := by
  obtain ⟨hx, hb, hr, hlocks, hml, hown, hts, hK⟩ := id C
  intro n
  induction n with
  | zero => intro x2 x3 h H locs ls hl hP hS hf; rw [f_X8_strayed_19] at hf; cases hf
  | succ n ih =>
    intro x2 x3 h H locs ls hl hP hS hf
    rw [f_X8_strayed_19] at hf
    refine lv_iload_n hx hb dX8_strayed_19 rfl (lv_at hl 3 rfl) ?_
    refine lv_aload_n hx hb dX8_strayed_20 rfl (lv_at hl 0 rfl) ?_
    refine r_get (a := 0) (v := .ref (gB G 4)) (C := RX8) (T := TX8) (N := 14) hx hb hts hinX8 hown hK hP (ltX8 rfl) (ceX8 rfl) rfl 2 (by decide) wd364 rfl dX8_strayed_21 ?_
    refine r_get (a := 4) (v := .int (h.1 4 0)) (C := RX7) (T := TX7) (N := 10) hx hb hts hinX7 hown hK hP (ltX7 (Or.inl rfl)) (ceX7 (Or.inl rfl)) rfl 0 (by decide) wd156 rfl dX8_strayed_24 ?_
    refine lv_icmp_ge (tgt := 56) hx hb dX8_strayed_27 (by decide) (fun c27 => ?_) (fun c27 => ?_)
    · replace hf := if_t c27 hf
      refine lv_iconst (v := 0) hx hb dX8_strayed_56 (by decide) ?_
      refine lv_istore_n (lv' := [(3, .int 0), (0, .ref (gB G 0)), (1, .int x1), (2, .int x2)]) hx hb dX8_strayed_57 rfl hl (by decide) rfl (fun ls hl => ?_)
      refine lv_iconst (v := 0) hx hb dX8_strayed_58 (by decide) ?_
      refine lv_istore (lv' := [(4, .int 0), (3, .int 0), (0, .ref (gB G 0)), (1, .int x1), (2, .int x2)]) hx hb dX8_strayed_59 hl (by decide) rfl (fun ls hl => ?_)
      exact w_X8_strayed_61 hG C x1 x2 FU 0 0 h _ _ _ (lv_sub hl [2, 3, 4, 1, 0] rfl) hP hS hf
    · replace hf := if_f c27 hf
      refine lv_aload_n hx hb dX8_strayed_30 rfl (lv_at hl 0 rfl) ?_
      refine r_get (a := 0) (v := .ref (gB G 28)) (C := RX8) (T := TX8) (N := 14) hx hb hts hinX8 hown hK hP (ltX8 rfl) (ceX8 rfl) rfl 6 (by decide) wd368 rfl dX8_strayed_31 ?_
      refine r_get (a := 28) (v := .ref (gB G 30)) (C := RX0) (T := TX0) (N := 10) hx hb hts hinX0 hown hK hP (ltX0 (Or.inl rfl)) (ceX0 (Or.inl rfl)) rfl 2 (by decide) wd242 rfl dX8_strayed_34 ?_
      refine lv_iload_n hx hb dX8_strayed_37 rfl (lv_at hl 1 rfl) ?_
      obtain ⟨v38, ev38, hf⟩ := bO_s hf
      refine r_iald hx hb hK hP (arX0_2 (Or.inl rfl)) ev38 dX8_strayed_38 ?_
      refine lv_iload_n hx hb dX8_strayed_39 rfl (lv_at hl 3 rfl) ?_
      obtain ⟨r40, er40, hf⟩ := bO_s hf
      refine r_callI (va_runS (As := [.int v38, .int x3]) (rest := []) ⟨hx, hb, hml, hown, hts⟩ (k_X8_has l hG (h := h) er40) (va_cwS 2 hts (gS wd704 wd522 wd73 wd523) rfl rfl rfl (by decide +kernel) ⟨Nat.le_of_ble_eq_true rfl, Nat.le_of_ble_eq_true rfl⟩) (r_ps hK hP hS) rfl rfl hl.1 rfl (lv_room (Nat.le_of_ble_eq_true rfl)) dX8_strayed_40 ⟨Nat.le_of_ble_eq_true rfl, Nat.le_of_ble_eq_true rfl⟩) hS (fun H locs hP hS => ?_)
      refine lv_if_eq (tgt := 50) hx hb dX8_strayed_43 (by decide) (fun c43 => ?_) (fun c43 => ?_)
      · replace hf := if_t c43 hf
        refine lv_iinc (v := (x3 + 1)) (lv' := [(3, .int (x3 + 1)), (0, .ref (gB G 0)), (1, .int x1), (2, .int x2)]) hx hb dX8_strayed_50 hl (k := 3) rfl rfl (by decide) rfl (fun ls hl => ?_)
        refine lv_goto (tgt := 19) hx hb dX8_strayed_53 (by decide) ?_
        exact ih x2 (x3 + 1) h _ _ _ (lv_sub hl [1, 2, 3, 0] rfl) hP hS hf
      · replace hf := if_f c43 hf
        refine lv_iload_n hx hb dX8_strayed_46 rfl (lv_at hl 3 rfl) ?_
        refine lv_iconst (v := 1) hx hb dX8_strayed_47 (by decide) ?_
        refine lv_iadd hx hb dX8_strayed_48 ?_
        refine lv_topi (fun x2_49 ex2_49 => ?_)
        replace hf := lt_at ex2_49 hf
        refine lv_istore_n (lv' := [(2, .int x2_49), (0, .ref (gB G 0)), (1, .int x1), (3, .int x3)]) hx hb dX8_strayed_49 rfl hl (by decide) rfl (fun ls hl => ?_)
        refine lv_iinc (v := (x3 + 1)) (lv' := [(3, .int (x3 + 1)), (2, .int x2_49), (0, .ref (gB G 0)), (1, .int x1)]) hx hb dX8_strayed_50 hl (k := 3) rfl rfl (by decide) rfl (fun ls hl => ?_)
        refine lv_goto (tgt := 19) hx hb dX8_strayed_53 (by decide) ?_
        exact ih x2_49 (x3 + 1) h _ _ _ (lv_sub hl [2, 3, 1, 0] rfl) hP hS hf
def f_X8_strayed (x1 : Int32) (h : PH) : Option (Int32 × PH) := bP (f_X0_hasLine 28 x1 h) (fun r5 h5 => if r5 = 0 then (some ((-1001), h5)) else (f_X8_strayed_19 x1 FU 0 0 h5))
set_option maxHeartbeats 4000000 in
set_option maxRecDepth 100000 in
theorem k_X8_strayed (l : Launch) {G : GC} (hG : GOK G) {x1 : Int32} {rr : Int32} {h hh : PH} (hf : f_X8_strayed x1 h = some (rr, hh)) : CI l yX8_strayed vX8_strayed rmX8_strayed G [.ref (gB G 0), .int x1] h rr hh := by
  refine Met.ofW (cc := cX8_strayed) (maxL := 5) (ret := (some .int)) (by decide +kernel) rfl ?_
  intro p e s m args below meth c s₁ B hml hv
  obtain ⟨rfl, hP, hK⟩ := hv
  have C : MC l G p s m _ meth c RX8 cX8_strayed 5 (some .int) := ⟨B.exec, B.bytes, B.returns, B.notSynchronized, hml, findClass_of_methodNamed B.named, fun w hw => atoms_spec (ws := vX8_strayed) B.pre w (List.mem_cons_of_mem _ hw), hK⟩
  obtain ⟨hx, hb, hr, hlocks, -, hown, hts, -⟩ := id C
  have hl := lv_entry ([.ref (gB G 0), .int x1]) (n := 5) (Nat.le_of_ble_eq_true rfl)
  rw [lg_entry_eq]
  generalize (lg_sl ([.ref (gB G 0), .int x1]) ++ List.replicate (5 - (lg_sl ([.ref (gB G 0), .int x1])).length) Slot.unset).toArray = ls at hl ⊢
  have hl : lv_has ls 5 [(0, .ref (gB G 0)), (1, .int x1)] := hl
  have hS : SP G s s.heap [] := va_S.rf
  replace hP : WP G h s.heap := hP
  rw [f_X8_strayed] at hf
  refine lv_aload_n hx hb dX8_strayed_0 rfl (lv_at hl 0 rfl) ?_
  refine r_get (a := 0) (v := .ref (gB G 28)) (C := RX8) (T := TX8) (N := 14) hx hb hts hinX8 hown hK hP (ltX8 rfl) (ceX8 rfl) rfl 6 (by decide) wd368 rfl dX8_strayed_1 ?_
  refine lv_iload_n hx hb dX8_strayed_4 rfl (lv_at hl 1 rfl) ?_
  obtain ⟨r5, h5, er5, hf⟩ := bP_s hf
  refine r_callI (va_runV (As := [.int x1]) (rest := []) ⟨hx, hb, hml, hown, hts⟩ (k_X0_hasLine l hG 28 (Or.inl rfl) er5) (cwV 1 hts (gV wd684 wd685 wd686 wd78 wd687) rfl rfl rfl (by decide +kernel) ⟨Nat.le_of_ble_eq_true rfl, Nat.le_of_ble_eq_true rfl⟩) (r_pv hK hP hS (ltX0 (Or.inl rfl)) (ceX0 (Or.inl rfl)) rfl) rfl rfl hl.1 rfl (lv_room (Nat.le_of_ble_eq_true rfl)) dX8_strayed_5 ⟨Nat.le_of_ble_eq_true rfl, Nat.le_of_ble_eq_true rfl⟩) hS (fun H locs hP hS => ?_)
  refine lv_if_ne (tgt := 15) hx hb dX8_strayed_8 (by decide) (fun c8 => ?_) (fun c8 => ?_)
  · replace hf := if_f c8 hf
    refine lv_iconst (v := 0) hx hb dX8_strayed_15 (by decide) ?_
    refine lv_istore_n (lv' := [(2, .int 0), (0, .ref (gB G 0)), (1, .int x1)]) hx hb dX8_strayed_16 rfl hl (by decide) rfl (fun ls hl => ?_)
    refine lv_iconst (v := 0) hx hb dX8_strayed_17 (by decide) ?_
    refine lv_istore_n (lv' := [(3, .int 0), (2, .int 0), (0, .ref (gB G 0)), (1, .int x1)]) hx hb dX8_strayed_18 rfl hl (by decide) rfl (fun ls hl => ?_)
    exact w_X8_strayed_19 hG C x1 FU 0 0 h5 _ _ _ (lv_sub hl [2, 3, 1, 0] rfl) hP hS hf
  · replace hf := if_t c8 hf
    refine lv_sipush (v := (-1001)) hx hb dX8_strayed_11 (by decide) ?_
    exact r_iret hx hb hr hlocks hP hS (re2 (Option.some.inj hf)) dX8_strayed_14
/-! CarriedBack.bestCut(III)I -/
abbrev rmX8_bestCut : Room := { frames := 4, cells := 0, slots := 0, locals := 88 }
abbrev vX8_bestCut : List Cond := Cond.code yX8_bestCut cX8_bestCut 8 (some .int) :: GW
def f_X8_bestCut_69 (x2 : Int32) (x3 : Int32) : Nat → Int32 → Int32 → Int32 → PH → Option (Int32 × PH)
  | 0, _, _, _, _ => none
  | n + 1, x4, x5, x6, h => if x2 < x6 then (if x3 = 0 then (some (x4, h)) else (some (x5, h))) else (bO (f_X8_firstOnes x6) (fun r81 => bP (f_X7_weightIn 4 r81 h) (fun r84 h84 => if x5 < r84 then ((f_X8_bestCut_69 x2 x3 n) x4 x5 (x6 + 1) h84) else ((f_X8_bestCut_69 x2 x3 n) x6 r84 (x6 + 1) h84))))
set_option maxHeartbeats 4000000 in
set_option maxRecDepth 100000 in
theorem w_X8_bestCut_69 {l : Launch} {G : GC} (hG : GOK G) {rr : Int32} {hh : PH} {p : Program} {e : Env} {s : State} {m : MethodId} {args : Array Value} {below : List Frame} {meth : Method} {c : Code} (C : MC l G p s m args meth c RX8 cX8_bestCut 8 (some .int)) (x2 : Int32) (x3 : Int32) : ∀ (n : Nat) (x4 : Int32) (x5 : Int32) (x6 : Int32) (h : PH) (H : Heap) (locs : List Loc) (ls : Array Slot), lv_has ls 8 [(0, .ref (gB G 0)), (2, .int x2), (3, .int x3), (4, .int x4), (5, .int x5), (6, .int x6)] → WP G h H → SP G s H locs → f_X8_bestCut_69 x2 x3 n x4 x5 x6 h = some (rr, hh) → W p l e rmX8_bestCut s m args below meth c H locs 0 0 (MQ below (QI G rr hh) args s 0 0 (gA G)) (F0 m 69 ls []) := by
  obtain ⟨hx, hb, hr, hlocks, hml, hown, hts, hK⟩ := id C
  intro n
  induction n with
  | zero => intro x4 x5 x6 h H locs ls hl hP hS hf; rw [f_X8_bestCut_69] at hf; cases hf
  | succ n ih =>
    intro x4 x5 x6 h H locs ls hl hP hS hf
    rw [f_X8_bestCut_69] at hf
    refine lv_iload hx hb dX8_bestCut_69 (lv_at hl 5 rfl) ?_
    refine lv_iload_n hx hb dX8_bestCut_71 rfl (lv_at hl 1 rfl) ?_
    refine lv_icmp_gt (tgt := 110) hx hb dX8_bestCut_72 (by decide) (fun c72 => ?_) (fun c72 => ?_)
    · replace hf := if_t c72 hf
      refine lv_iload_n hx hb dX8_bestCut_110 rfl (lv_at hl 2 rfl) ?_
      refine lv_if_ne (tgt := 119) hx hb dX8_bestCut_111 (by decide) (fun c111 => ?_) (fun c111 => ?_)
      · replace hf := if_f c111 hf
        refine lv_iload hx hb dX8_bestCut_119 (lv_at hl 4 rfl) ?_
        exact r_iret hx hb hr hlocks hP hS (re2 (Option.some.inj hf)) dX8_bestCut_121
      · replace hf := if_t c111 hf
        refine lv_iload hx hb dX8_bestCut_114 (lv_at hl 3 rfl) ?_
        refine lv_goto (tgt := 121) hx hb dX8_bestCut_116 (by decide) ?_
        exact r_iret hx hb hr hlocks hP hS (re2 (Option.some.inj hf)) dX8_bestCut_121
    · replace hf := if_f c72 hf
      refine lv_aload_n hx hb dX8_bestCut_75 rfl (lv_at hl 0 rfl) ?_
      refine r_get (a := 0) (v := .ref (gB G 4)) (C := RX8) (T := TX8) (N := 14) hx hb hts hinX8 hown hK hP (ltX8 rfl) (ceX8 rfl) rfl 2 (by decide) wd364 rfl dX8_bestCut_76 ?_
      refine lv_iload hx hb dX8_bestCut_79 (lv_at hl 5 rfl) ?_
      obtain ⟨r81, er81, hf⟩ := bO_s hf
      refine r_callI (va_runS (As := [.int x6]) (rest := [.ref (gB G 4)]) ⟨hx, hb, hml, hown, hts⟩ (k_X8_firstOnes l hG (h := h) er81) (va_cwS 1 hts (gS wd813 wd677 wd73 wd678) rfl rfl rfl (by decide +kernel) ⟨Nat.le_of_ble_eq_true rfl, Nat.le_of_ble_eq_true rfl⟩) (r_ps hK hP hS) rfl rfl hl.1 rfl (lv_room (Nat.le_of_ble_eq_true rfl)) dX8_bestCut_81 ⟨Nat.le_of_ble_eq_true rfl, Nat.le_of_ble_eq_true rfl⟩) hS (fun H locs hP hS => ?_)
      obtain ⟨r84, h84, er84, hf⟩ := bP_s hf
      refine r_callI (va_runV (As := [.int r81]) (rest := []) ⟨hx, hb, hml, hown, hts⟩ (k_X7_weightIn l hG 4 (Or.inl rfl) er84) (cwV 1 hts (gV wd837 wd838 wd839 wd76 wd840) rfl rfl rfl (by decide +kernel) ⟨Nat.le_of_ble_eq_true rfl, Nat.le_of_ble_eq_true rfl⟩) (r_pv hK hP hS (ltX7 (Or.inl rfl)) (ceX7 (Or.inl rfl)) rfl) rfl rfl hl.1 rfl (lv_room (Nat.le_of_ble_eq_true rfl)) dX8_bestCut_84 ⟨Nat.le_of_ble_eq_true rfl, Nat.le_of_ble_eq_true rfl⟩) hS (fun H locs hP hS => ?_)
      refine lv_istore (lv' := [(7, .int r84), (0, .ref (gB G 0)), (2, .int x2), (3, .int x3), (4, .int x4), (5, .int x5), (6, .int x6)]) hx hb dX8_bestCut_87 hl (by decide) rfl (fun ls hl => ?_)
      refine lv_iload hx hb dX8_bestCut_89 (lv_at hl 0 rfl) ?_
      refine lv_iload hx hb dX8_bestCut_91 (lv_at hl 5 rfl) ?_
      refine lv_icmp_gt (tgt := 104) hx hb dX8_bestCut_93 (by decide) (fun c93 => ?_) (fun c93 => ?_)
      · replace hf := if_t c93 hf
        refine lv_iinc (v := (x6 + 1)) (lv' := [(6, .int (x6 + 1)), (7, .int r84), (0, .ref (gB G 0)), (2, .int x2), (3, .int x3), (4, .int x4), (5, .int x5)]) hx hb dX8_bestCut_104 hl (k := 6) rfl rfl (by decide) rfl (fun ls hl => ?_)
        refine lv_goto (tgt := 69) hx hb dX8_bestCut_107 (by decide) ?_
        exact ih x4 x5 (x6 + 1) h84 _ _ _ (lv_sub hl [2, 3, 4, 5, 6, 0] rfl) hP hS hf
      · replace hf := if_f c93 hf
        refine lv_iload hx hb dX8_bestCut_96 (lv_at hl 6 rfl) ?_
        refine lv_istore (lv' := [(4, .int x6), (7, .int r84), (0, .ref (gB G 0)), (2, .int x2), (3, .int x3), (5, .int x5), (6, .int x6)]) hx hb dX8_bestCut_98 hl (by decide) rfl (fun ls hl => ?_)
        refine lv_iload hx hb dX8_bestCut_100 (lv_at hl 1 rfl) ?_
        refine lv_istore (lv' := [(5, .int r84), (4, .int x6), (7, .int r84), (0, .ref (gB G 0)), (2, .int x2), (3, .int x3), (6, .int x6)]) hx hb dX8_bestCut_102 hl (by decide) rfl (fun ls hl => ?_)
        refine lv_iinc (v := (x6 + 1)) (lv' := [(6, .int (x6 + 1)), (5, .int r84), (4, .int x6), (7, .int r84), (0, .ref (gB G 0)), (2, .int x2), (3, .int x3)]) hx hb dX8_bestCut_104 hl (k := 6) rfl rfl (by decide) rfl (fun ls hl => ?_)
        refine lv_goto (tgt := 69) hx hb dX8_bestCut_107 (by decide) ?_
        exact ih x6 r84 (x6 + 1) h84 _ _ _ (lv_sub hl [4, 5, 6, 2, 1, 0] rfl) hP hS hf
def f_X8_bestCut (x1 : Int32) (x2 : Int32) (x3 : Int32) (h : PH) : Option (Int32 × PH) := if x1 < 0 then (some ((-1002), h)) else (if (h.1 4 0) < x1 then (some ((-1002), h)) else (if x2 < x1 then (some ((-1002), h)) else (if x2 ≤ (h.1 4 0) then (if x3 < 0 then (some ((-1002), h)) else (if x3 ≤ 1 then (bO (f_X8_firstOnes x1) (fun r56 => bP (f_X7_weightIn 4 r56 h) (fun r59 h59 => lt' ((x1 + 1)) (fun x6_67 => f_X8_bestCut_69 x2 x3 FU x1 r59 x6_67 h59)))) else (some ((-1002), h)))) else (some ((-1002), h)))))
set_option maxHeartbeats 4000000 in
set_option maxRecDepth 100000 in
theorem k_X8_bestCut (l : Launch) {G : GC} (hG : GOK G) {x1 : Int32} {x2 : Int32} {x3 : Int32} {rr : Int32} {h hh : PH} (hf : f_X8_bestCut x1 x2 x3 h = some (rr, hh)) : CI l yX8_bestCut vX8_bestCut rmX8_bestCut G [.ref (gB G 0), .int x1, .int x2, .int x3] h rr hh := by
  refine Met.ofW (cc := cX8_bestCut) (maxL := 8) (ret := (some .int)) (by decide +kernel) rfl ?_
  intro p e s m args below meth c s₁ B hml hv
  obtain ⟨rfl, hP, hK⟩ := hv
  have C : MC l G p s m _ meth c RX8 cX8_bestCut 8 (some .int) := ⟨B.exec, B.bytes, B.returns, B.notSynchronized, hml, findClass_of_methodNamed B.named, fun w hw => atoms_spec (ws := vX8_bestCut) B.pre w (List.mem_cons_of_mem _ hw), hK⟩
  obtain ⟨hx, hb, hr, hlocks, -, hown, hts, -⟩ := id C
  have hl := lv_entry ([.ref (gB G 0), .int x1, .int x2, .int x3]) (n := 8) (Nat.le_of_ble_eq_true rfl)
  rw [lg_entry_eq]
  generalize (lg_sl ([.ref (gB G 0), .int x1, .int x2, .int x3]) ++ List.replicate (8 - (lg_sl ([.ref (gB G 0), .int x1, .int x2, .int x3])).length) Slot.unset).toArray = ls at hl ⊢
  have hl : lv_has ls 8 [(0, .ref (gB G 0)), (1, .int x1), (2, .int x2), (3, .int x3)] := hl
  have hS : SP G s s.heap [] := va_S.rf
  replace hP : WP G h s.heap := hP
  rw [f_X8_bestCut] at hf
  refine lv_iload_n hx hb dX8_bestCut_0 rfl (lv_at hl 1 rfl) ?_
  refine lv_if_lt (tgt := 31) hx hb dX8_bestCut_1 (by decide) (fun c1 => ?_) (fun c1 => ?_)
  · replace hf := if_t c1 hf
    refine lv_sipush (v := (-1002)) hx hb dX8_bestCut_31 (by decide) ?_
    exact r_iret hx hb hr hlocks hP hS (re2 (Option.some.inj hf)) dX8_bestCut_34
  · replace hf := if_f c1 hf
    refine lv_iload_n hx hb dX8_bestCut_4 rfl (lv_at hl 1 rfl) ?_
    refine lv_aload_n hx hb dX8_bestCut_5 rfl (lv_at hl 0 rfl) ?_
    refine r_get (a := 0) (v := .ref (gB G 4)) (C := RX8) (T := TX8) (N := 14) hx hb hts hinX8 hown hK hP (ltX8 rfl) (ceX8 rfl) rfl 2 (by decide) wd364 rfl dX8_bestCut_6 ?_
    refine r_get (a := 4) (v := .int (h.1 4 0)) (C := RX7) (T := TX7) (N := 10) hx hb hts hinX7 hown hK hP (ltX7 (Or.inl rfl)) (ceX7 (Or.inl rfl)) rfl 0 (by decide) wd156 rfl dX8_bestCut_9 ?_
    refine lv_icmp_gt (tgt := 31) hx hb dX8_bestCut_12 (by decide) (fun c12 => ?_) (fun c12 => ?_)
    · replace hf := if_t c12 hf
      refine lv_sipush (v := (-1002)) hx hb dX8_bestCut_31 (by decide) ?_
      exact r_iret hx hb hr hlocks hP hS (re2 (Option.some.inj hf)) dX8_bestCut_34
    · replace hf := if_f c12 hf
      refine lv_iload_n hx hb dX8_bestCut_15 rfl (lv_at hl 2 rfl) ?_
      refine lv_iload_n hx hb dX8_bestCut_16 rfl (lv_at hl 1 rfl) ?_
      refine lv_icmp_lt (tgt := 31) hx hb dX8_bestCut_17 (by decide) (fun c17 => ?_) (fun c17 => ?_)
      · replace hf := if_t c17 hf
        refine lv_sipush (v := (-1002)) hx hb dX8_bestCut_31 (by decide) ?_
        exact r_iret hx hb hr hlocks hP hS (re2 (Option.some.inj hf)) dX8_bestCut_34
      · replace hf := if_f c17 hf
        refine lv_iload_n hx hb dX8_bestCut_20 rfl (lv_at hl 2 rfl) ?_
        refine lv_aload_n hx hb dX8_bestCut_21 rfl (lv_at hl 0 rfl) ?_
        refine r_get (a := 0) (v := .ref (gB G 4)) (C := RX8) (T := TX8) (N := 14) hx hb hts hinX8 hown hK hP (ltX8 rfl) (ceX8 rfl) rfl 2 (by decide) wd364 rfl dX8_bestCut_22 ?_
        refine r_get (a := 4) (v := .int (h.1 4 0)) (C := RX7) (T := TX7) (N := 10) hx hb hts hinX7 hown hK hP (ltX7 (Or.inl rfl)) (ceX7 (Or.inl rfl)) rfl 0 (by decide) wd156 rfl dX8_bestCut_25 ?_
        refine lv_icmp_le (tgt := 35) hx hb dX8_bestCut_28 (by decide) (fun c28 => ?_) (fun c28 => ?_)
        · replace hf := if_t c28 hf
          refine lv_iload_n hx hb dX8_bestCut_35 rfl (lv_at hl 3 rfl) ?_
          refine lv_if_lt (tgt := 44) hx hb dX8_bestCut_36 (by decide) (fun c36 => ?_) (fun c36 => ?_)
          · replace hf := if_t c36 hf
            refine lv_sipush (v := (-1002)) hx hb dX8_bestCut_44 (by decide) ?_
            exact r_iret hx hb hr hlocks hP hS (re2 (Option.some.inj hf)) dX8_bestCut_47
          · replace hf := if_f c36 hf
            refine lv_iload_n hx hb dX8_bestCut_39 rfl (lv_at hl 3 rfl) ?_
            refine lv_iconst (v := 1) hx hb dX8_bestCut_40 (by decide) ?_
            refine lv_icmp_le (tgt := 48) hx hb dX8_bestCut_41 (by decide) (fun c41 => ?_) (fun c41 => ?_)
            · replace hf := if_t c41 hf
              refine lv_iload_n hx hb dX8_bestCut_48 rfl (lv_at hl 1 rfl) ?_
              refine lv_istore (lv' := [(4, .int x1), (0, .ref (gB G 0)), (1, .int x1), (2, .int x2), (3, .int x3)]) hx hb dX8_bestCut_49 hl (by decide) rfl (fun ls hl => ?_)
              refine lv_aload_n hx hb dX8_bestCut_51 rfl (lv_at hl 1 rfl) ?_
              refine r_get (a := 0) (v := .ref (gB G 4)) (C := RX8) (T := TX8) (N := 14) hx hb hts hinX8 hown hK hP (ltX8 rfl) (ceX8 rfl) rfl 2 (by decide) wd364 rfl dX8_bestCut_52 ?_
              refine lv_iload_n hx hb dX8_bestCut_55 rfl (lv_at hl 2 rfl) ?_
              obtain ⟨r56, er56, hf⟩ := bO_s hf
              refine r_callI (va_runS (As := [.int x1]) (rest := [.ref (gB G 4)]) ⟨hx, hb, hml, hown, hts⟩ (k_X8_firstOnes l hG (h := h) er56) (va_cwS 1 hts (gS wd813 wd677 wd73 wd678) rfl rfl rfl (by decide +kernel) ⟨Nat.le_of_ble_eq_true rfl, Nat.le_of_ble_eq_true rfl⟩) (r_ps hK hP hS) rfl rfl hl.1 rfl (lv_room (Nat.le_of_ble_eq_true rfl)) dX8_bestCut_56 ⟨Nat.le_of_ble_eq_true rfl, Nat.le_of_ble_eq_true rfl⟩) hS (fun H locs hP hS => ?_)
              obtain ⟨r59, h59, er59, hf⟩ := bP_s hf
              refine r_callI (va_runV (As := [.int r56]) (rest := []) ⟨hx, hb, hml, hown, hts⟩ (k_X7_weightIn l hG 4 (Or.inl rfl) er59) (cwV 1 hts (gV wd837 wd838 wd839 wd76 wd840) rfl rfl rfl (by decide +kernel) ⟨Nat.le_of_ble_eq_true rfl, Nat.le_of_ble_eq_true rfl⟩) (r_pv hK hP hS (ltX7 (Or.inl rfl)) (ceX7 (Or.inl rfl)) rfl) rfl rfl hl.1 rfl (lv_room (Nat.le_of_ble_eq_true rfl)) dX8_bestCut_59 ⟨Nat.le_of_ble_eq_true rfl, Nat.le_of_ble_eq_true rfl⟩) hS (fun H locs hP hS => ?_)
              refine lv_istore (lv' := [(5, .int r59), (4, .int x1), (0, .ref (gB G 0)), (1, .int x1), (2, .int x2), (3, .int x3)]) hx hb dX8_bestCut_62 hl (by decide) rfl (fun ls hl => ?_)
              refine lv_iload_n hx hb dX8_bestCut_64 rfl (lv_at hl 3 rfl) ?_
              refine lv_iconst (v := 1) hx hb dX8_bestCut_65 (by decide) ?_
              refine lv_iadd hx hb dX8_bestCut_66 ?_
              refine lv_topi (fun x6_67 ex6_67 => ?_)
              replace hf := lt_at ex6_67 hf
              refine lv_istore (lv' := [(6, .int x6_67), (5, .int r59), (4, .int x1), (0, .ref (gB G 0)), (1, .int x1), (2, .int x2), (3, .int x3)]) hx hb dX8_bestCut_67 hl (by decide) rfl (fun ls hl => ?_)
              exact w_X8_bestCut_69 hG C x2 x3 FU x1 r59 x6_67 h59 _ _ _ (lv_sub hl [3, 5, 6, 2, 1, 0] rfl) hP hS hf
            · replace hf := if_f c41 hf
              refine lv_sipush (v := (-1002)) hx hb dX8_bestCut_44 (by decide) ?_
              exact r_iret hx hb hr hlocks hP hS (re2 (Option.some.inj hf)) dX8_bestCut_47
        · replace hf := if_f c28 hf
          refine lv_sipush (v := (-1002)) hx hb dX8_bestCut_31 (by decide) ?_
          exact r_iret hx hb hr hlocks hP hS (re2 (Option.some.inj hf)) dX8_bestCut_34
/-! CarriedBack.leadsUp(III)Z -/
abbrev rmX8_leadsUp : Room := { frames := 3, cells := 0, slots := 0, locals := 67 }
abbrev vX8_leadsUp : List Cond := Cond.code yX8_leadsUp cX8_leadsUp 6 (some .boolean) :: GW
def f_X8_leadsUp (x1 : Int32) (x2 : Int32) (x3 : Int32) (h : PH) : Option (Int32 × PH) := bO (ag h 35 20 x1) (fun v12 => bP (f_X7_faultsIn 4 v12 h) (fun r13 h13 => bO (ag h13 35 20 x2) (fun v30 => bP (f_X7_faultsIn 4 v30 h13) (fun r31 h31 => bO (f_X8_has r31 x3) (fun r39 => if r39 = 0 then (if (r31 &&& (r13 ^^^ (-1))) = 0 then (some (1, h31)) else (some (0, h31))) else (some (0, h31)))))))
set_option maxHeartbeats 4000000 in
set_option maxRecDepth 100000 in
theorem k_X8_leadsUp (l : Launch) {G : GC} (hG : GOK G) {x1 : Int32} {x2 : Int32} {x3 : Int32} {rr : Int32} {h hh : PH} (hf : f_X8_leadsUp x1 x2 x3 h = some (rr, hh)) : CI l yX8_leadsUp vX8_leadsUp rmX8_leadsUp G [.ref (gB G 0), .int x1, .int x2, .int x3] h rr hh := by
  refine Met.ofW (cc := cX8_leadsUp) (maxL := 6) (ret := (some .boolean)) (by decide +kernel) rfl ?_
  intro p e s m args below meth c s₁ B hml hv
  obtain ⟨rfl, hP, hK⟩ := hv
  have C : MC l G p s m _ meth c RX8 cX8_leadsUp 6 (some .boolean) := ⟨B.exec, B.bytes, B.returns, B.notSynchronized, hml, findClass_of_methodNamed B.named, fun w hw => atoms_spec (ws := vX8_leadsUp) B.pre w (List.mem_cons_of_mem _ hw), hK⟩
  obtain ⟨hx, hb, hr, hlocks, -, hown, hts, -⟩ := id C
  have hl := lv_entry ([.ref (gB G 0), .int x1, .int x2, .int x3]) (n := 6) (Nat.le_of_ble_eq_true rfl)
  rw [lg_entry_eq]
  generalize (lg_sl ([.ref (gB G 0), .int x1, .int x2, .int x3]) ++ List.replicate (6 - (lg_sl ([.ref (gB G 0), .int x1, .int x2, .int x3])).length) Slot.unset).toArray = ls at hl ⊢
  have hl : lv_has ls 6 [(0, .ref (gB G 0)), (1, .int x1), (2, .int x2), (3, .int x3)] := hl
  have hS : SP G s s.heap [] := va_S.rf
  replace hP : WP G h s.heap := hP
  rw [f_X8_leadsUp] at hf
  refine lv_aload_n hx hb dX8_leadsUp_0 rfl (lv_at hl 0 rfl) ?_
  refine r_get (a := 0) (v := .ref (gB G 4)) (C := RX8) (T := TX8) (N := 14) hx hb hts hinX8 hown hK hP (ltX8 rfl) (ceX8 rfl) rfl 2 (by decide) wd364 rfl dX8_leadsUp_1 ?_
  refine lv_aload_n hx hb dX8_leadsUp_4 rfl (lv_at hl 0 rfl) ?_
  refine r_get (a := 0) (v := .ref (gB G 28)) (C := RX8) (T := TX8) (N := 14) hx hb hts hinX8 hown hK hP (ltX8 rfl) (ceX8 rfl) rfl 6 (by decide) wd368 rfl dX8_leadsUp_5 ?_
  refine r_get (a := 28) (v := .ref (gB G 35)) (C := RX0) (T := TX0) (N := 10) hx hb hts hinX0 hown hK hP (ltX0 (Or.inl rfl)) (ceX0 (Or.inl rfl)) rfl 8 (by decide) wd255 rfl dX8_leadsUp_8 ?_
  refine lv_iload_n hx hb dX8_leadsUp_11 rfl (lv_at hl 1 rfl) ?_
  obtain ⟨v12, ev12, hf⟩ := bO_s hf
  refine r_iald hx hb hK hP (arX0_8 (Or.inl rfl)) ev12 dX8_leadsUp_12 ?_
  obtain ⟨r13, h13, er13, hf⟩ := bP_s hf
  refine r_callI (va_runV (As := [.int v12]) (rest := []) ⟨hx, hb, hml, hown, hts⟩ (k_X7_faultsIn l hG 4 (Or.inl rfl) er13) (cwV 1 hts (gV wd688 wd689 wd690 wd76 wd691) rfl rfl rfl (by decide +kernel) ⟨Nat.le_of_ble_eq_true rfl, Nat.le_of_ble_eq_true rfl⟩) (r_pv hK hP hS (ltX7 (Or.inl rfl)) (ceX7 (Or.inl rfl)) rfl) rfl rfl hl.1 rfl (lv_room (Nat.le_of_ble_eq_true rfl)) dX8_leadsUp_13 ⟨Nat.le_of_ble_eq_true rfl, Nat.le_of_ble_eq_true rfl⟩) hS (fun H locs hP hS => ?_)
  refine lv_istore (lv' := [(4, .int r13), (0, .ref (gB G 0)), (1, .int x1), (2, .int x2), (3, .int x3)]) hx hb dX8_leadsUp_16 hl (by decide) rfl (fun ls hl => ?_)
  refine lv_aload_n hx hb dX8_leadsUp_18 rfl (lv_at hl 1 rfl) ?_
  refine r_get (a := 0) (v := .ref (gB G 4)) (C := RX8) (T := TX8) (N := 14) hx hb hts hinX8 hown hK hP (ltX8 rfl) (ceX8 rfl) rfl 2 (by decide) wd364 rfl dX8_leadsUp_19 ?_
  refine lv_aload_n hx hb dX8_leadsUp_22 rfl (lv_at hl 1 rfl) ?_
  refine r_get (a := 0) (v := .ref (gB G 28)) (C := RX8) (T := TX8) (N := 14) hx hb hts hinX8 hown hK hP (ltX8 rfl) (ceX8 rfl) rfl 6 (by decide) wd368 rfl dX8_leadsUp_23 ?_
  refine r_get (a := 28) (v := .ref (gB G 35)) (C := RX0) (T := TX0) (N := 10) hx hb hts hinX0 hown hK hP (ltX0 (Or.inl rfl)) (ceX0 (Or.inl rfl)) rfl 8 (by decide) wd255 rfl dX8_leadsUp_26 ?_
  refine lv_iload_n hx hb dX8_leadsUp_29 rfl (lv_at hl 3 rfl) ?_
  obtain ⟨v30, ev30, hf⟩ := bO_s hf
  refine r_iald hx hb hK hP (arX0_8 (Or.inl rfl)) ev30 dX8_leadsUp_30 ?_
  obtain ⟨r31, h31, er31, hf⟩ := bP_s hf
  refine r_callI (va_runV (As := [.int v30]) (rest := []) ⟨hx, hb, hml, hown, hts⟩ (k_X7_faultsIn l hG 4 (Or.inl rfl) er31) (cwV 1 hts (gV wd688 wd689 wd690 wd76 wd691) rfl rfl rfl (by decide +kernel) ⟨Nat.le_of_ble_eq_true rfl, Nat.le_of_ble_eq_true rfl⟩) (r_pv hK hP hS (ltX7 (Or.inl rfl)) (ceX7 (Or.inl rfl)) rfl) rfl rfl hl.1 rfl (lv_room (Nat.le_of_ble_eq_true rfl)) dX8_leadsUp_31 ⟨Nat.le_of_ble_eq_true rfl, Nat.le_of_ble_eq_true rfl⟩) hS (fun H locs hP hS => ?_)
  refine lv_istore (lv' := [(5, .int r31), (4, .int r13), (0, .ref (gB G 0)), (1, .int x1), (2, .int x2), (3, .int x3)]) hx hb dX8_leadsUp_34 hl (by decide) rfl (fun ls hl => ?_)
  refine lv_iload hx hb dX8_leadsUp_36 (lv_at hl 0 rfl) ?_
  refine lv_iload_n hx hb dX8_leadsUp_38 rfl (lv_at hl 5 rfl) ?_
  obtain ⟨r39, er39, hf⟩ := bO_s hf
  refine r_callI (va_runS (As := [.int r31, .int x3]) (rest := []) ⟨hx, hb, hml, hown, hts⟩ (k_X8_has l hG (h := h31) er39) (va_cwS 2 hts (gS wd704 wd522 wd73 wd523) rfl rfl rfl (by decide +kernel) ⟨Nat.le_of_ble_eq_true rfl, Nat.le_of_ble_eq_true rfl⟩) (r_ps hK hP hS) rfl rfl hl.1 rfl (lv_room (Nat.le_of_ble_eq_true rfl)) dX8_leadsUp_39 ⟨Nat.le_of_ble_eq_true rfl, Nat.le_of_ble_eq_true rfl⟩) hS (fun H locs hP hS => ?_)
  refine lv_if_ne (tgt := 59) hx hb dX8_leadsUp_42 (by decide) (fun c42 => ?_) (fun c42 => ?_)
  · replace hf := if_f c42 hf
    refine lv_iconst (v := 0) hx hb dX8_leadsUp_59 (by decide) ?_
    exact r_zret hx hb hr rfl hlocks hP hS (re2 (Option.some.inj hf)) dX8_leadsUp_60
  · replace hf := if_t c42 hf
    refine lv_iload hx hb dX8_leadsUp_45 (lv_at hl 0 rfl) ?_
    refine lv_iload hx hb dX8_leadsUp_47 (lv_at hl 1 rfl) ?_
    refine lv_iconst (v := (-1)) hx hb dX8_leadsUp_49 (by decide) ?_
    refine lv_ixor hx hb dX8_leadsUp_50 ?_
    refine lv_iand hx hb dX8_leadsUp_51 ?_
    refine lv_if_ne (tgt := 59) hx hb dX8_leadsUp_52 (by decide) (fun c52 => ?_) (fun c52 => ?_)
    · replace hf := if_f c52 hf
      refine lv_iconst (v := 0) hx hb dX8_leadsUp_59 (by decide) ?_
      exact r_zret hx hb hr rfl hlocks hP hS (re2 (Option.some.inj hf)) dX8_leadsUp_60
    · replace hf := if_t c52 hf
      refine lv_iconst (v := 1) hx hb dX8_leadsUp_55 (by decide) ?_
      refine lv_goto (tgt := 60) hx hb dX8_leadsUp_56 (by decide) ?_
      exact r_zret hx hb hr rfl hlocks hP hS (re2 (Option.some.inj hf)) dX8_leadsUp_60
/-! CarriedBack.up(III)I -/
abbrev rmX8_up : Room := { frames := 4, cells := 0, slots := 0, locals := 92 }
abbrev vX8_up : List Cond := Cond.code yX8_up cX8_up 8 (some .int) :: GW
def f_X8_up_63 (x1 : Int32) (x2 : Int32) (x3 : Int32) : Nat → Int32 → Int32 → Int32 → PH → Option (Int32 × PH)
  | 0, _, _, _, _ => none
  | n + 1, x4, x5, x6, h => if (h.1 28 5) ≤ x6 then (if x3 = 0 then (some (x4, h)) else (some (x5, h))) else (bP (f_X8_leadsUp x1 x6 x2 h) (fun r80 h80 => if r80 = 0 then ((f_X8_up_63 x1 x2 x3 n) x4 x5 (x6 + 1) h80) else (bO (ag h80 35 20 x1) (fun v98 => bO (ag h80 35 20 x6) (fun v108 => bP (f_X7_riskOf 4 (v98 ^^^ v108) h80) (fun r110 h110 => if x4 = (-1) then ((f_X8_up_63 x1 x2 x3 n) x6 r110 (x6 + 1) h110) else (if x5 ≤ r110 then ((f_X8_up_63 x1 x2 x3 n) x4 x5 (x6 + 1) h110) else ((f_X8_up_63 x1 x2 x3 n) x6 r110 (x6 + 1) h110))))))))
set_option maxHeartbeats 4000000 in
set_option maxRecDepth 100000 in
theorem w_X8_up_63 {l : Launch} {G : GC} (hG : GOK G) {rr : Int32} {hh : PH} {p : Program} {e : Env} {s : State} {m : MethodId} {args : Array Value} {below : List Frame} {meth : Method} {c : Code} (C : MC l G p s m args meth c RX8 cX8_up 8 (some .int)) (x1 : Int32) (x2 : Int32) (x3 : Int32) : ∀ (n : Nat) (x4 : Int32) (x5 : Int32) (x6 : Int32) (h : PH) (H : Heap) (locs : List Loc) (ls : Array Slot), lv_has ls 8 [(0, .ref (gB G 0)), (1, .int x1), (2, .int x2), (3, .int x3), (4, .int x4), (5, .int x5), (6, .int x6)] → WP G h H → SP G s H locs → f_X8_up_63 x1 x2 x3 n x4 x5 x6 h = some (rr, hh) → W p l e rmX8_up s m args below meth c H locs 0 0 (MQ below (QI G rr hh) args s 0 0 (gA G)) (F0 m 63 ls []) := by
  obtain ⟨hx, hb, hr, hlocks, hml, hown, hts, hK⟩ := id C
  intro n
  induction n with
  | zero => intro x4 x5 x6 h H locs ls hl hP hS hf; rw [f_X8_up_63] at hf; cases hf
  | succ n ih =>
    intro x4 x5 x6 h H locs ls hl hP hS hf
    rw [f_X8_up_63] at hf
    refine lv_iload hx hb dX8_up_63 (lv_at hl 6 rfl) ?_
    refine lv_aload_n hx hb dX8_up_65 rfl (lv_at hl 0 rfl) ?_
    refine r_get (a := 0) (v := .ref (gB G 28)) (C := RX8) (T := TX8) (N := 14) hx hb hts hinX8 hown hK hP (ltX8 rfl) (ceX8 rfl) rfl 6 (by decide) wd368 rfl dX8_up_66 ?_
    refine r_get (a := 28) (v := .int (h.1 28 5)) (C := RX0) (T := TX0) (N := 10) hx hb hts hinX0 hown hK hP (ltX0 (Or.inl rfl)) (ceX0 (Or.inl rfl)) rfl 5 (by decide) wd249 rfl dX8_up_69 ?_
    refine lv_icmp_ge (tgt := 142) hx hb dX8_up_72 (by decide) (fun c72 => ?_) (fun c72 => ?_)
    · replace hf := if_t c72 hf
      refine lv_iload_n hx hb dX8_up_142 rfl (lv_at hl 3 rfl) ?_
      refine lv_if_ne (tgt := 151) hx hb dX8_up_143 (by decide) (fun c143 => ?_) (fun c143 => ?_)
      · replace hf := if_f c143 hf
        refine lv_iload hx hb dX8_up_151 (lv_at hl 5 rfl) ?_
        exact r_iret hx hb hr hlocks hP hS (re2 (Option.some.inj hf)) dX8_up_153
      · replace hf := if_t c143 hf
        refine lv_iload hx hb dX8_up_146 (lv_at hl 4 rfl) ?_
        refine lv_goto (tgt := 153) hx hb dX8_up_148 (by decide) ?_
        exact r_iret hx hb hr hlocks hP hS (re2 (Option.some.inj hf)) dX8_up_153
    · replace hf := if_f c72 hf
      refine lv_aload_n hx hb dX8_up_75 rfl (lv_at hl 0 rfl) ?_
      refine lv_iload_n hx hb dX8_up_76 rfl (lv_at hl 1 rfl) ?_
      refine lv_iload hx hb dX8_up_77 (lv_at hl 6 rfl) ?_
      refine lv_iload_n hx hb dX8_up_79 rfl (lv_at hl 2 rfl) ?_
      obtain ⟨r80, h80, er80, hf⟩ := bP_s hf
      refine r_callI (va_runV (As := [.int x1, .int x6, .int x2]) (rest := []) ⟨hx, hb, hml, hown, hts⟩ (k_X8_leadsUp l hG er80) (cwV 3 hts (gV wd982 wd984 wd25 wd73 wd985) rfl rfl rfl (by decide +kernel) ⟨Nat.le_of_ble_eq_true rfl, Nat.le_of_ble_eq_true rfl⟩) (r_pv hK hP hS (ltX8 rfl) (ceX8 rfl) rfl) rfl rfl hl.1 rfl (lv_room (Nat.le_of_ble_eq_true rfl)) dX8_up_80 ⟨Nat.le_of_ble_eq_true rfl, Nat.le_of_ble_eq_true rfl⟩) hS (fun H locs hP hS => ?_)
      refine lv_if_eq (tgt := 136) hx hb dX8_up_83 (by decide) (fun c83 => ?_) (fun c83 => ?_)
      · replace hf := if_t c83 hf
        refine lv_iinc (v := (x6 + 1)) (lv' := [(6, .int (x6 + 1)), (0, .ref (gB G 0)), (1, .int x1), (2, .int x2), (3, .int x3), (4, .int x4), (5, .int x5)]) hx hb dX8_up_136 hl (k := 6) rfl rfl (by decide) rfl (fun ls hl => ?_)
        refine lv_goto (tgt := 63) hx hb dX8_up_139 (by decide) ?_
        exact ih x4 x5 (x6 + 1) h80 _ _ _ (lv_sub hl [1, 2, 3, 4, 5, 6, 0] rfl) hP hS hf
      · replace hf := if_f c83 hf
        refine lv_aload_n hx hb dX8_up_86 rfl (lv_at hl 0 rfl) ?_
        refine r_get (a := 0) (v := .ref (gB G 4)) (C := RX8) (T := TX8) (N := 14) hx hb hts hinX8 hown hK hP (ltX8 rfl) (ceX8 rfl) rfl 2 (by decide) wd364 rfl dX8_up_87 ?_
        refine lv_aload_n hx hb dX8_up_90 rfl (lv_at hl 0 rfl) ?_
        refine r_get (a := 0) (v := .ref (gB G 28)) (C := RX8) (T := TX8) (N := 14) hx hb hts hinX8 hown hK hP (ltX8 rfl) (ceX8 rfl) rfl 6 (by decide) wd368 rfl dX8_up_91 ?_
        refine r_get (a := 28) (v := .ref (gB G 35)) (C := RX0) (T := TX0) (N := 10) hx hb hts hinX0 hown hK hP (ltX0 (Or.inl rfl)) (ceX0 (Or.inl rfl)) rfl 8 (by decide) wd255 rfl dX8_up_94 ?_
        refine lv_iload_n hx hb dX8_up_97 rfl (lv_at hl 1 rfl) ?_
        obtain ⟨v98, ev98, hf⟩ := bO_s hf
        refine r_iald hx hb hK hP (arX0_8 (Or.inl rfl)) ev98 dX8_up_98 ?_
        refine lv_aload_n hx hb dX8_up_99 rfl (lv_at hl 0 rfl) ?_
        refine r_get (a := 0) (v := .ref (gB G 28)) (C := RX8) (T := TX8) (N := 14) hx hb hts hinX8 hown hK hP (ltX8 rfl) (ceX8 rfl) rfl 6 (by decide) wd368 rfl dX8_up_100 ?_
        refine r_get (a := 28) (v := .ref (gB G 35)) (C := RX0) (T := TX0) (N := 10) hx hb hts hinX0 hown hK hP (ltX0 (Or.inl rfl)) (ceX0 (Or.inl rfl)) rfl 8 (by decide) wd255 rfl dX8_up_103 ?_
        refine lv_iload hx hb dX8_up_106 (lv_at hl 6 rfl) ?_
        obtain ⟨v108, ev108, hf⟩ := bO_s hf
        refine r_iald hx hb hK hP (arX0_8 (Or.inl rfl)) ev108 dX8_up_108 ?_
        refine lv_ixor hx hb dX8_up_109 ?_
        obtain ⟨r110, h110, er110, hf⟩ := bP_s hf
        refine r_callI (va_runV (As := [.int (v98 ^^^ v108)]) (rest := []) ⟨hx, hb, hml, hown, hts⟩ (k_X7_riskOf l hG 4 (Or.inl rfl) er110) (cwV 1 hts (gV wd692 wd693 wd694 wd76 wd695) rfl rfl rfl (by decide +kernel) ⟨Nat.le_of_ble_eq_true rfl, Nat.le_of_ble_eq_true rfl⟩) (r_pv hK hP hS (ltX7 (Or.inl rfl)) (ceX7 (Or.inl rfl)) rfl) rfl rfl hl.1 rfl (lv_room (Nat.le_of_ble_eq_true rfl)) dX8_up_110 ⟨Nat.le_of_ble_eq_true rfl, Nat.le_of_ble_eq_true rfl⟩) hS (fun H locs hP hS => ?_)
        refine lv_istore (lv' := [(7, .int r110), (0, .ref (gB G 0)), (1, .int x1), (2, .int x2), (3, .int x3), (4, .int x4), (5, .int x5), (6, .int x6)]) hx hb dX8_up_113 hl (by decide) rfl (fun ls hl => ?_)
        refine lv_iload hx hb dX8_up_115 (lv_at hl 5 rfl) ?_
        refine lv_iconst (v := (-1)) hx hb dX8_up_117 (by decide) ?_
        refine lv_icmp_eq (tgt := 128) hx hb dX8_up_118 (by decide) (fun c118 => ?_) (fun c118 => ?_)
        · replace hf := if_t c118 hf
          refine lv_iload hx hb dX8_up_128 (lv_at hl 7 rfl) ?_
          refine lv_istore (lv' := [(4, .int x6), (7, .int r110), (0, .ref (gB G 0)), (1, .int x1), (2, .int x2), (3, .int x3), (5, .int x5), (6, .int x6)]) hx hb dX8_up_130 hl (by decide) rfl (fun ls hl => ?_)
          refine lv_iload hx hb dX8_up_132 (lv_at hl 1 rfl) ?_
          refine lv_istore (lv' := [(5, .int r110), (4, .int x6), (7, .int r110), (0, .ref (gB G 0)), (1, .int x1), (2, .int x2), (3, .int x3), (6, .int x6)]) hx hb dX8_up_134 hl (by decide) rfl (fun ls hl => ?_)
          refine lv_iinc (v := (x6 + 1)) (lv' := [(6, .int (x6 + 1)), (5, .int r110), (4, .int x6), (7, .int r110), (0, .ref (gB G 0)), (1, .int x1), (2, .int x2), (3, .int x3)]) hx hb dX8_up_136 hl (k := 7) rfl rfl (by decide) rfl (fun ls hl => ?_)
          refine lv_goto (tgt := 63) hx hb dX8_up_139 (by decide) ?_
          exact ih x6 r110 (x6 + 1) h110 _ _ _ (lv_sub hl [4, 5, 6, 7, 2, 1, 0] rfl) hP hS hf
        · replace hf := if_f c118 hf
          refine lv_iload hx hb dX8_up_121 (lv_at hl 0 rfl) ?_
          refine lv_iload hx hb dX8_up_123 (lv_at hl 6 rfl) ?_
          refine lv_icmp_ge (tgt := 136) hx hb dX8_up_125 (by decide) (fun c125 => ?_) (fun c125 => ?_)
          · replace hf := if_t c125 hf
            refine lv_iinc (v := (x6 + 1)) (lv' := [(6, .int (x6 + 1)), (7, .int r110), (0, .ref (gB G 0)), (1, .int x1), (2, .int x2), (3, .int x3), (4, .int x4), (5, .int x5)]) hx hb dX8_up_136 hl (k := 7) rfl rfl (by decide) rfl (fun ls hl => ?_)
            refine lv_goto (tgt := 63) hx hb dX8_up_139 (by decide) ?_
            exact ih x4 x5 (x6 + 1) h110 _ _ _ (lv_sub hl [2, 3, 4, 5, 6, 7, 0] rfl) hP hS hf
          · replace hf := if_f c125 hf
            refine lv_iload hx hb dX8_up_128 (lv_at hl 7 rfl) ?_
            refine lv_istore (lv' := [(4, .int x6), (7, .int r110), (0, .ref (gB G 0)), (1, .int x1), (2, .int x2), (3, .int x3), (5, .int x5), (6, .int x6)]) hx hb dX8_up_130 hl (by decide) rfl (fun ls hl => ?_)
            refine lv_iload hx hb dX8_up_132 (lv_at hl 1 rfl) ?_
            refine lv_istore (lv' := [(5, .int r110), (4, .int x6), (7, .int r110), (0, .ref (gB G 0)), (1, .int x1), (2, .int x2), (3, .int x3), (6, .int x6)]) hx hb dX8_up_134 hl (by decide) rfl (fun ls hl => ?_)
            refine lv_iinc (v := (x6 + 1)) (lv' := [(6, .int (x6 + 1)), (5, .int r110), (4, .int x6), (7, .int r110), (0, .ref (gB G 0)), (1, .int x1), (2, .int x2), (3, .int x3)]) hx hb dX8_up_136 hl (k := 7) rfl rfl (by decide) rfl (fun ls hl => ?_)
            refine lv_goto (tgt := 63) hx hb dX8_up_139 (by decide) ?_
            exact ih x6 r110 (x6 + 1) h110 _ _ _ (lv_sub hl [4, 5, 6, 7, 2, 1, 0] rfl) hP hS hf
def f_X8_up (x1 : Int32) (x2 : Int32) (x3 : Int32) (h : PH) : Option (Int32 × PH) := bP (f_X0_hasRelease 28 x1 h) (fun r5 h5 => if r5 = 0 then (some ((-1001), h5)) else (bP (f_X7_hasFault 4 x2 h5) (fun r16 h16 => if r16 = 0 then (some ((-1001), h16)) else (if x3 < 0 then (some ((-1002), h16)) else (if x3 ≤ 1 then (bP (f_X8_isFree x1 x2 h16) (fun r42 h42 => if r42 = 0 then (lt' ((x1 + 1)) (fun x6_61 => f_X8_up_63 x1 x2 x3 FU (-1) (-1) x6_61 h42)) else (some ((-1003), h42)))) else (some ((-1002), h16)))))))
set_option maxHeartbeats 4000000 in
set_option maxRecDepth 100000 in
theorem k_X8_up (l : Launch) {G : GC} (hG : GOK G) {x1 : Int32} {x2 : Int32} {x3 : Int32} {rr : Int32} {h hh : PH} (hf : f_X8_up x1 x2 x3 h = some (rr, hh)) : CI l yX8_up vX8_up rmX8_up G [.ref (gB G 0), .int x1, .int x2, .int x3] h rr hh := by
  refine Met.ofW (cc := cX8_up) (maxL := 8) (ret := (some .int)) (by decide +kernel) rfl ?_
  intro p e s m args below meth c s₁ B hml hv
  obtain ⟨rfl, hP, hK⟩ := hv
  have C : MC l G p s m _ meth c RX8 cX8_up 8 (some .int) := ⟨B.exec, B.bytes, B.returns, B.notSynchronized, hml, findClass_of_methodNamed B.named, fun w hw => atoms_spec (ws := vX8_up) B.pre w (List.mem_cons_of_mem _ hw), hK⟩
  obtain ⟨hx, hb, hr, hlocks, -, hown, hts, -⟩ := id C
  have hl := lv_entry ([.ref (gB G 0), .int x1, .int x2, .int x3]) (n := 8) (Nat.le_of_ble_eq_true rfl)
  rw [lg_entry_eq]
  generalize (lg_sl ([.ref (gB G 0), .int x1, .int x2, .int x3]) ++ List.replicate (8 - (lg_sl ([.ref (gB G 0), .int x1, .int x2, .int x3])).length) Slot.unset).toArray = ls at hl ⊢
  have hl : lv_has ls 8 [(0, .ref (gB G 0)), (1, .int x1), (2, .int x2), (3, .int x3)] := hl
  have hS : SP G s s.heap [] := va_S.rf
  replace hP : WP G h s.heap := hP
  rw [f_X8_up] at hf
  refine lv_aload_n hx hb dX8_up_0 rfl (lv_at hl 0 rfl) ?_
  refine r_get (a := 0) (v := .ref (gB G 28)) (C := RX8) (T := TX8) (N := 14) hx hb hts hinX8 hown hK hP (ltX8 rfl) (ceX8 rfl) rfl 6 (by decide) wd368 rfl dX8_up_1 ?_
  refine lv_iload_n hx hb dX8_up_4 rfl (lv_at hl 1 rfl) ?_
  obtain ⟨r5, h5, er5, hf⟩ := bP_s hf
  refine r_callI (va_runV (As := [.int x1]) (rest := []) ⟨hx, hb, hml, hown, hts⟩ (k_X0_hasRelease l hG 28 (Or.inl rfl) er5) (cwV 1 hts (gV wd862 wd863 wd864 wd78 wd865) rfl rfl rfl (by decide +kernel) ⟨Nat.le_of_ble_eq_true rfl, Nat.le_of_ble_eq_true rfl⟩) (r_pv hK hP hS (ltX0 (Or.inl rfl)) (ceX0 (Or.inl rfl)) rfl) rfl rfl hl.1 rfl (lv_room (Nat.le_of_ble_eq_true rfl)) dX8_up_5 ⟨Nat.le_of_ble_eq_true rfl, Nat.le_of_ble_eq_true rfl⟩) hS (fun H locs hP hS => ?_)
  refine lv_if_eq (tgt := 22) hx hb dX8_up_8 (by decide) (fun c8 => ?_) (fun c8 => ?_)
  · replace hf := if_t c8 hf
    refine lv_sipush (v := (-1001)) hx hb dX8_up_22 (by decide) ?_
    exact r_iret hx hb hr hlocks hP hS (re2 (Option.some.inj hf)) dX8_up_25
  · replace hf := if_f c8 hf
    refine lv_aload_n hx hb dX8_up_11 rfl (lv_at hl 0 rfl) ?_
    refine r_get (a := 0) (v := .ref (gB G 4)) (C := RX8) (T := TX8) (N := 14) hx hb hts hinX8 hown hK hP (ltX8 rfl) (ceX8 rfl) rfl 2 (by decide) wd364 rfl dX8_up_12 ?_
    refine lv_iload_n hx hb dX8_up_15 rfl (lv_at hl 2 rfl) ?_
    obtain ⟨r16, h16, er16, hf⟩ := bP_s hf
    refine r_callI (va_runV (As := [.int x2]) (rest := []) ⟨hx, hb, hml, hown, hts⟩ (k_X7_hasFault l hG 4 (Or.inl rfl) er16) (cwV 1 hts (gV wd660 wd661 wd662 wd76 wd663) rfl rfl rfl (by decide +kernel) ⟨Nat.le_of_ble_eq_true rfl, Nat.le_of_ble_eq_true rfl⟩) (r_pv hK hP hS (ltX7 (Or.inl rfl)) (ceX7 (Or.inl rfl)) rfl) rfl rfl hl.1 rfl (lv_room (Nat.le_of_ble_eq_true rfl)) dX8_up_16 ⟨Nat.le_of_ble_eq_true rfl, Nat.le_of_ble_eq_true rfl⟩) hS (fun H locs hP hS => ?_)
    refine lv_if_ne (tgt := 26) hx hb dX8_up_19 (by decide) (fun c19 => ?_) (fun c19 => ?_)
    · replace hf := if_f c19 hf
      refine lv_iload_n hx hb dX8_up_26 rfl (lv_at hl 3 rfl) ?_
      refine lv_if_lt (tgt := 35) hx hb dX8_up_27 (by decide) (fun c27 => ?_) (fun c27 => ?_)
      · replace hf := if_t c27 hf
        refine lv_sipush (v := (-1002)) hx hb dX8_up_35 (by decide) ?_
        exact r_iret hx hb hr hlocks hP hS (re2 (Option.some.inj hf)) dX8_up_38
      · replace hf := if_f c27 hf
        refine lv_iload_n hx hb dX8_up_30 rfl (lv_at hl 3 rfl) ?_
        refine lv_iconst (v := 1) hx hb dX8_up_31 (by decide) ?_
        refine lv_icmp_le (tgt := 39) hx hb dX8_up_32 (by decide) (fun c32 => ?_) (fun c32 => ?_)
        · replace hf := if_t c32 hf
          refine lv_aload_n hx hb dX8_up_39 rfl (lv_at hl 0 rfl) ?_
          refine lv_iload_n hx hb dX8_up_40 rfl (lv_at hl 1 rfl) ?_
          refine lv_iload_n hx hb dX8_up_41 rfl (lv_at hl 2 rfl) ?_
          obtain ⟨r42, h42, er42, hf⟩ := bP_s hf
          refine r_callI (va_runV (As := [.int x1, .int x2]) (rest := []) ⟨hx, hb, hml, hown, hts⟩ (k_X8_isFree l hG er42) (cwV 2 hts (gV wd878 wd880 wd18 wd73 wd881) rfl rfl rfl (by decide +kernel) ⟨Nat.le_of_ble_eq_true rfl, Nat.le_of_ble_eq_true rfl⟩) (r_pv hK hP hS (ltX8 rfl) (ceX8 rfl) rfl) rfl rfl hl.1 rfl (lv_room (Nat.le_of_ble_eq_true rfl)) dX8_up_42 ⟨Nat.le_of_ble_eq_true rfl, Nat.le_of_ble_eq_true rfl⟩) hS (fun H locs hP hS => ?_)
          refine lv_if_eq (tgt := 52) hx hb dX8_up_45 (by decide) (fun c45 => ?_) (fun c45 => ?_)
          · replace hf := if_t c45 hf
            refine lv_iconst (v := (-1)) hx hb dX8_up_52 (by decide) ?_
            refine lv_istore (lv' := [(4, .int (-1)), (0, .ref (gB G 0)), (1, .int x1), (2, .int x2), (3, .int x3)]) hx hb dX8_up_53 hl (by decide) rfl (fun ls hl => ?_)
            refine lv_iconst (v := (-1)) hx hb dX8_up_55 (by decide) ?_
            refine lv_istore (lv' := [(5, .int (-1)), (4, .int (-1)), (0, .ref (gB G 0)), (1, .int x1), (2, .int x2), (3, .int x3)]) hx hb dX8_up_56 hl (by decide) rfl (fun ls hl => ?_)
            refine lv_iload_n hx hb dX8_up_58 rfl (lv_at hl 3 rfl) ?_
            refine lv_iconst (v := 1) hx hb dX8_up_59 (by decide) ?_
            refine lv_iadd hx hb dX8_up_60 ?_
            refine lv_topi (fun x6_61 ex6_61 => ?_)
            replace hf := lt_at ex6_61 hf
            refine lv_istore (lv' := [(6, .int x6_61), (5, .int (-1)), (4, .int (-1)), (0, .ref (gB G 0)), (1, .int x1), (2, .int x2), (3, .int x3)]) hx hb dX8_up_61 hl (by decide) rfl (fun ls hl => ?_)
            exact w_X8_up_63 hG C x1 x2 x3 FU (-1) (-1) x6_61 h42 _ _ _ (lv_sub hl [3, 4, 5, 6, 2, 1, 0] rfl) hP hS hf
          · replace hf := if_f c45 hf
            refine lv_sipush (v := (-1003)) hx hb dX8_up_48 (by decide) ?_
            exact r_iret hx hb hr hlocks hP hS (re2 (Option.some.inj hf)) dX8_up_51
        · replace hf := if_f c32 hf
          refine lv_sipush (v := (-1002)) hx hb dX8_up_35 (by decide) ?_
          exact r_iret hx hb hr hlocks hP hS (re2 (Option.some.inj hf)) dX8_up_38
    · replace hf := if_t c19 hf
      refine lv_sipush (v := (-1001)) hx hb dX8_up_22 (by decide) ?_
      exact r_iret hx hb hr hlocks hP hS (re2 (Option.some.inj hf)) dX8_up_25
/-! CarriedBack.spans(IIII)I -/
abbrev rmX8_spans : Room := { frames := 4, cells := 0, slots := 0, locals := 89 }
abbrev vX8_spans : List Cond := Cond.code yX8_spans cX8_spans 10 (some .int) :: GW
def f_X8_spans_129 (x1 : Int32) (x2 : Int32) (x3 : Int32) (x4 : Int32) (k53 : Int32 → Int32 → Int32 → Int32 → PH → Option (Int32 × PH)) (x5 : Int32) (x6 : Int32) (x7 : Int32) (x8 : Int32) (x9 : Int32) (h : PH) : Option (Int32 × PH) := if x6 = 0 then (k53 x5 x6 x7 (x8 + 1) h) else (if (x5 - 1) = x3 then (if x9 = 0 then (if x4 = 1 then (k53 x5 x6 x8 (x8 + 1) h) else (k53 x5 x6 x7 (x8 + 1) h)) else (k53 x5 x6 x8 (x8 + 1) h)) else (k53 x5 x6 x7 (x8 + 1) h))
set_option maxHeartbeats 4000000 in
set_option maxRecDepth 100000 in
theorem w_X8_spans_129 {l : Launch} {G : GC} (hG : GOK G) {rr : Int32} {hh : PH} {p : Program} {e : Env} {s : State} {m : MethodId} {args : Array Value} {below : List Frame} {meth : Method} {c : Code} (C : MC l G p s m args meth c RX8 cX8_spans 10 (some .int)) (x1 : Int32) (x2 : Int32) (x3 : Int32) (x4 : Int32) (k53 : Int32 → Int32 → Int32 → Int32 → PH → Option (Int32 × PH)) (hk53 : ∀ (x5 : Int32) (x6 : Int32) (x7 : Int32) (x8 : Int32) (h : PH) (H : Heap) (locs : List Loc) (ls : Array Slot), lv_has ls 10 [(0, .ref (gB G 0)), (1, .int x1), (2, .int x2), (3, .int x3), (4, .int x4), (5, .int x5), (6, .int x6), (7, .int x7), (8, .int x8)] → WP G h H → SP G s H locs → k53 x5 x6 x7 x8 h = some (rr, hh) → W p l e rmX8_spans s m args below meth c H locs 0 0 (MQ below (QI G rr hh) args s 0 0 (gA G)) (F0 m 53 ls [])) : ∀ (x5 : Int32) (x6 : Int32) (x7 : Int32) (x8 : Int32) (x9 : Int32) (h : PH) (H : Heap) (locs : List Loc) (ls : Array Slot), lv_has ls 10 [(0, .ref (gB G 0)), (1, .int x1), (2, .int x2), (3, .int x3), (4, .int x4), (5, .int x5), (6, .int x6), (7, .int x7), (8, .int x8), (9, .int x9)] → WP G h H → SP G s H locs → f_X8_spans_129 x1 x2 x3 x4 k53 x5 x6 x7 x8 x9 h = some (rr, hh) → W p l e rmX8_spans s m args below meth c H locs 0 0 (MQ below (QI G rr hh) args s 0 0 (gA G)) (F0 m 129 ls []) := by
  obtain ⟨hx, hb, hr, hlocks, hml, hown, hts, hK⟩ := id C
  intro x5 x6 x7 x8 x9 h H locs ls hl hP hS hf
  rw [f_X8_spans_129] at hf
  refine lv_iload hx hb dX8_spans_129 (lv_at hl 6 rfl) ?_
  refine lv_if_eq (tgt := 157) hx hb dX8_spans_131 (by decide) (fun c131 => ?_) (fun c131 => ?_)
  · replace hf := if_t c131 hf
    refine lv_iinc (v := (x8 + 1)) (lv' := [(8, .int (x8 + 1)), (0, .ref (gB G 0)), (1, .int x1), (2, .int x2), (3, .int x3), (4, .int x4), (5, .int x5), (6, .int x6), (7, .int x7), (9, .int x9)]) hx hb dX8_spans_157 hl (k := 8) rfl rfl (by decide) rfl (fun ls hl => ?_)
    refine lv_goto (tgt := 53) hx hb dX8_spans_160 (by decide) ?_
    exact hk53 x5 x6 x7 (x8 + 1) h _ _ _ (lv_sub hl [1, 2, 3, 4, 5, 6, 7, 8, 0] rfl) hP hS hf
  · replace hf := if_f c131 hf
    refine lv_iload hx hb dX8_spans_134 (lv_at hl 5 rfl) ?_
    refine lv_iconst (v := 1) hx hb dX8_spans_136 (by decide) ?_
    refine lv_isub hx hb dX8_spans_137 ?_
    refine lv_iload_n hx hb dX8_spans_138 rfl (lv_at hl 3 rfl) ?_
    refine lv_icmp_ne (tgt := 157) hx hb dX8_spans_139 (by decide) (fun c139 => ?_) (fun c139 => ?_)
    · replace hf := if_f c139 hf
      refine lv_iinc (v := (x8 + 1)) (lv' := [(8, .int (x8 + 1)), (0, .ref (gB G 0)), (1, .int x1), (2, .int x2), (3, .int x3), (4, .int x4), (5, .int x5), (6, .int x6), (7, .int x7), (9, .int x9)]) hx hb dX8_spans_157 hl (k := 8) rfl rfl (by decide) rfl (fun ls hl => ?_)
      refine lv_goto (tgt := 53) hx hb dX8_spans_160 (by decide) ?_
      exact hk53 x5 x6 x7 (x8 + 1) h _ _ _ (lv_sub hl [1, 2, 3, 4, 5, 6, 7, 8, 0] rfl) hP hS hf
    · replace hf := if_t c139 hf
      refine lv_iload hx hb dX8_spans_142 (lv_at hl 9 rfl) ?_
      refine lv_if_ne (tgt := 153) hx hb dX8_spans_144 (by decide) (fun c144 => ?_) (fun c144 => ?_)
      · replace hf := if_f c144 hf
        refine lv_iload hx hb dX8_spans_153 (lv_at hl 8 rfl) ?_
        refine lv_istore (lv' := [(7, .int x8), (0, .ref (gB G 0)), (1, .int x1), (2, .int x2), (3, .int x3), (4, .int x4), (5, .int x5), (6, .int x6), (8, .int x8), (9, .int x9)]) hx hb dX8_spans_155 hl (by decide) rfl (fun ls hl => ?_)
        refine lv_iinc (v := (x8 + 1)) (lv' := [(8, .int (x8 + 1)), (7, .int x8), (0, .ref (gB G 0)), (1, .int x1), (2, .int x2), (3, .int x3), (4, .int x4), (5, .int x5), (6, .int x6), (9, .int x9)]) hx hb dX8_spans_157 hl (k := 8) rfl rfl (by decide) rfl (fun ls hl => ?_)
        refine lv_goto (tgt := 53) hx hb dX8_spans_160 (by decide) ?_
        exact hk53 x5 x6 x8 (x8 + 1) h _ _ _ (lv_sub hl [2, 3, 4, 5, 6, 7, 8, 1, 0] rfl) hP hS hf
      · replace hf := if_t c144 hf
        refine lv_iload hx hb dX8_spans_147 (lv_at hl 4 rfl) ?_
        refine lv_iconst (v := 1) hx hb dX8_spans_149 (by decide) ?_
        refine lv_icmp_ne (tgt := 157) hx hb dX8_spans_150 (by decide) (fun c150 => ?_) (fun c150 => ?_)
        · replace hf := if_f c150 hf
          refine lv_iinc (v := (x8 + 1)) (lv' := [(8, .int (x8 + 1)), (0, .ref (gB G 0)), (1, .int x1), (2, .int x2), (3, .int x3), (4, .int x4), (5, .int x5), (6, .int x6), (7, .int x7), (9, .int x9)]) hx hb dX8_spans_157 hl (k := 8) rfl rfl (by decide) rfl (fun ls hl => ?_)
          refine lv_goto (tgt := 53) hx hb dX8_spans_160 (by decide) ?_
          exact hk53 x5 x6 x7 (x8 + 1) h _ _ _ (lv_sub hl [1, 2, 3, 4, 5, 6, 7, 8, 0] rfl) hP hS hf
        · replace hf := if_t c150 hf
          refine lv_iload hx hb dX8_spans_153 (lv_at hl 8 rfl) ?_
          refine lv_istore (lv' := [(7, .int x8), (0, .ref (gB G 0)), (1, .int x1), (2, .int x2), (3, .int x3), (4, .int x4), (5, .int x5), (6, .int x6), (8, .int x8), (9, .int x9)]) hx hb dX8_spans_155 hl (by decide) rfl (fun ls hl => ?_)
          refine lv_iinc (v := (x8 + 1)) (lv' := [(8, .int (x8 + 1)), (7, .int x8), (0, .ref (gB G 0)), (1, .int x1), (2, .int x2), (3, .int x3), (4, .int x4), (5, .int x5), (6, .int x6), (9, .int x9)]) hx hb dX8_spans_157 hl (k := 8) rfl rfl (by decide) rfl (fun ls hl => ?_)
          refine lv_goto (tgt := 53) hx hb dX8_spans_160 (by decide) ?_
          exact hk53 x5 x6 x8 (x8 + 1) h _ _ _ (lv_sub hl [2, 3, 4, 5, 6, 7, 8, 1, 0] rfl) hP hS hf
def f_X8_spans_119 (x1 : Int32) (x2 : Int32) (x3 : Int32) (x4 : Int32) (k53 : Int32 → Int32 → Int32 → Int32 → PH → Option (Int32 × PH)) (x5 : Int32) (x7 : Int32) (x8 : Int32) (x9 : Int32) (t0 : Int32) (h : PH) : Option (Int32 × PH) := if x9 = 0 then (f_X8_spans_129 x1 x2 x3 x4 k53 x5 t0 x7 x8 x9 h) else (f_X8_spans_129 x1 x2 x3 x4 k53 (x5 + 1) t0 x7 x8 x9 h)
set_option maxHeartbeats 4000000 in
set_option maxRecDepth 100000 in
theorem w_X8_spans_119 {l : Launch} {G : GC} (hG : GOK G) {rr : Int32} {hh : PH} {p : Program} {e : Env} {s : State} {m : MethodId} {args : Array Value} {below : List Frame} {meth : Method} {c : Code} (C : MC l G p s m args meth c RX8 cX8_spans 10 (some .int)) (x1 : Int32) (x2 : Int32) (x3 : Int32) (x4 : Int32) (k53 : Int32 → Int32 → Int32 → Int32 → PH → Option (Int32 × PH)) (hk53 : ∀ (x5 : Int32) (x6 : Int32) (x7 : Int32) (x8 : Int32) (h : PH) (H : Heap) (locs : List Loc) (ls : Array Slot), lv_has ls 10 [(0, .ref (gB G 0)), (1, .int x1), (2, .int x2), (3, .int x3), (4, .int x4), (5, .int x5), (6, .int x6), (7, .int x7), (8, .int x8)] → WP G h H → SP G s H locs → k53 x5 x6 x7 x8 h = some (rr, hh) → W p l e rmX8_spans s m args below meth c H locs 0 0 (MQ below (QI G rr hh) args s 0 0 (gA G)) (F0 m 53 ls [])) : ∀ (x5 : Int32) (x7 : Int32) (x8 : Int32) (x9 : Int32) (t0 : Int32) (h : PH) (H : Heap) (locs : List Loc) (ls : Array Slot), lv_has ls 10 [(0, .ref (gB G 0)), (1, .int x1), (2, .int x2), (3, .int x3), (4, .int x4), (5, .int x5), (7, .int x7), (8, .int x8), (9, .int x9)] → WP G h H → SP G s H locs → f_X8_spans_119 x1 x2 x3 x4 k53 x5 x7 x8 x9 t0 h = some (rr, hh) → W p l e rmX8_spans s m args below meth c H locs 0 0 (MQ below (QI G rr hh) args s 0 0 (gA G)) (F0 m 119 ls [.int t0]) := by
  obtain ⟨hx, hb, hr, hlocks, hml, hown, hts, hK⟩ := id C
  intro x5 x7 x8 x9 t0 h H locs ls hl hP hS hf
  rw [f_X8_spans_119] at hf
  refine lv_istore (lv' := [(6, .int t0), (0, .ref (gB G 0)), (1, .int x1), (2, .int x2), (3, .int x3), (4, .int x4), (5, .int x5), (7, .int x7), (8, .int x8), (9, .int x9)]) hx hb dX8_spans_119 hl (by decide) rfl (fun ls hl => ?_)
  refine lv_iload hx hb dX8_spans_121 (lv_at hl 9 rfl) ?_
  refine lv_if_eq (tgt := 129) hx hb dX8_spans_123 (by decide) (fun c123 => ?_) (fun c123 => ?_)
  · replace hf := if_t c123 hf
    exact w_X8_spans_129 hG C x1 x2 x3 x4 k53 hk53 x5 t0 x7 x8 x9 h _ _ _ (lv_sub hl [1, 2, 3, 4, 5, 6, 0, 7, 8, 9] rfl) hP hS hf
  · replace hf := if_f c123 hf
    refine lv_iinc (v := (x5 + 1)) (lv' := [(5, .int (x5 + 1)), (6, .int t0), (0, .ref (gB G 0)), (1, .int x1), (2, .int x2), (3, .int x3), (4, .int x4), (7, .int x7), (8, .int x8), (9, .int x9)]) hx hb dX8_spans_126 hl (k := 6) rfl rfl (by decide) rfl (fun ls hl => ?_)
    exact w_X8_spans_129 hG C x1 x2 x3 x4 k53 hk53 (x5 + 1) t0 x7 x8 x9 h _ _ _ (lv_sub hl [2, 3, 4, 5, 6, 0, 1, 7, 8, 9] rfl) hP hS hf
def f_X8_spans_102 (x1 : Int32) (x2 : Int32) (x3 : Int32) (x4 : Int32) (k53 : Int32 → Int32 → Int32 → Int32 → PH → Option (Int32 × PH)) (x5 : Int32) (x7 : Int32) (x8 : Int32) (t0 : Int32) (h : PH) : Option (Int32 × PH) := bP (f_X8_isFree x8 x1 h) (fun r108 h108 => if r108 = 0 then (f_X8_spans_119 x1 x2 x3 x4 k53 x5 x7 x8 t0 1 h108) else (f_X8_spans_119 x1 x2 x3 x4 k53 x5 x7 x8 t0 0 h108))
set_option maxHeartbeats 4000000 in
set_option maxRecDepth 100000 in
theorem w_X8_spans_102 {l : Launch} {G : GC} (hG : GOK G) {rr : Int32} {hh : PH} {p : Program} {e : Env} {s : State} {m : MethodId} {args : Array Value} {below : List Frame} {meth : Method} {c : Code} (C : MC l G p s m args meth c RX8 cX8_spans 10 (some .int)) (x1 : Int32) (x2 : Int32) (x3 : Int32) (x4 : Int32) (k53 : Int32 → Int32 → Int32 → Int32 → PH → Option (Int32 × PH)) (hk53 : ∀ (x5 : Int32) (x6 : Int32) (x7 : Int32) (x8 : Int32) (h : PH) (H : Heap) (locs : List Loc) (ls : Array Slot), lv_has ls 10 [(0, .ref (gB G 0)), (1, .int x1), (2, .int x2), (3, .int x3), (4, .int x4), (5, .int x5), (6, .int x6), (7, .int x7), (8, .int x8)] → WP G h H → SP G s H locs → k53 x5 x6 x7 x8 h = some (rr, hh) → W p l e rmX8_spans s m args below meth c H locs 0 0 (MQ below (QI G rr hh) args s 0 0 (gA G)) (F0 m 53 ls [])) : ∀ (x5 : Int32) (x7 : Int32) (x8 : Int32) (t0 : Int32) (h : PH) (H : Heap) (locs : List Loc) (ls : Array Slot), lv_has ls 10 [(0, .ref (gB G 0)), (1, .int x1), (2, .int x2), (3, .int x3), (4, .int x4), (5, .int x5), (7, .int x7), (8, .int x8)] → WP G h H → SP G s H locs → f_X8_spans_102 x1 x2 x3 x4 k53 x5 x7 x8 t0 h = some (rr, hh) → W p l e rmX8_spans s m args below meth c H locs 0 0 (MQ below (QI G rr hh) args s 0 0 (gA G)) (F0 m 102 ls [.int t0]) := by
  obtain ⟨hx, hb, hr, hlocks, hml, hown, hts, hK⟩ := id C
  intro x5 x7 x8 t0 h H locs ls hl hP hS hf
  rw [f_X8_spans_102] at hf
  refine lv_istore (lv' := [(9, .int t0), (0, .ref (gB G 0)), (1, .int x1), (2, .int x2), (3, .int x3), (4, .int x4), (5, .int x5), (7, .int x7), (8, .int x8)]) hx hb dX8_spans_102 hl (by decide) rfl (fun ls hl => ?_)
  refine lv_aload_n hx hb dX8_spans_104 rfl (lv_at hl 1 rfl) ?_
  refine lv_iload hx hb dX8_spans_105 (lv_at hl 8 rfl) ?_
  refine lv_iload_n hx hb dX8_spans_107 rfl (lv_at hl 2 rfl) ?_
  obtain ⟨r108, h108, er108, hf⟩ := bP_s hf
  refine r_callI (va_runV (As := [.int x8, .int x1]) (rest := []) ⟨hx, hb, hml, hown, hts⟩ (k_X8_isFree l hG er108) (cwV 2 hts (gV wd878 wd880 wd18 wd73 wd881) rfl rfl rfl (by decide +kernel) ⟨Nat.le_of_ble_eq_true rfl, Nat.le_of_ble_eq_true rfl⟩) (r_pv hK hP hS (ltX8 rfl) (ceX8 rfl) rfl) rfl rfl hl.1 rfl (lv_room (Nat.le_of_ble_eq_true rfl)) dX8_spans_108 ⟨Nat.le_of_ble_eq_true rfl, Nat.le_of_ble_eq_true rfl⟩) hS (fun H locs hP hS => ?_)
  refine lv_if_ne (tgt := 118) hx hb dX8_spans_111 (by decide) (fun c111 => ?_) (fun c111 => ?_)
  · replace hf := if_f c111 hf
    refine lv_iconst (v := 0) hx hb dX8_spans_118 (by decide) ?_
    exact w_X8_spans_119 hG C x1 x2 x3 x4 k53 hk53 x5 x7 x8 t0 0 h108 _ _ _ (lv_sub hl [1, 2, 3, 4, 5, 6, 7, 8, 0] rfl) hP hS hf
  · replace hf := if_t c111 hf
    refine lv_iconst (v := 1) hx hb dX8_spans_114 (by decide) ?_
    refine lv_goto (tgt := 119) hx hb dX8_spans_115 (by decide) ?_
    exact w_X8_spans_119 hG C x1 x2 x3 x4 k53 hk53 x5 x7 x8 t0 1 h108 _ _ _ (lv_sub hl [1, 2, 3, 4, 5, 6, 7, 8, 0] rfl) hP hS hf
def f_X8_spans_101 (x1 : Int32) (x2 : Int32) (x3 : Int32) (x4 : Int32) (k53 : Int32 → Int32 → Int32 → Int32 → PH → Option (Int32 × PH)) (x5 : Int32) (x7 : Int32) (x8 : Int32) (h : PH) : Option (Int32 × PH) := f_X8_spans_102 x1 x2 x3 x4 k53 x5 x7 x8 0 h
set_option maxHeartbeats 4000000 in
set_option maxRecDepth 100000 in
theorem w_X8_spans_101 {l : Launch} {G : GC} (hG : GOK G) {rr : Int32} {hh : PH} {p : Program} {e : Env} {s : State} {m : MethodId} {args : Array Value} {below : List Frame} {meth : Method} {c : Code} (C : MC l G p s m args meth c RX8 cX8_spans 10 (some .int)) (x1 : Int32) (x2 : Int32) (x3 : Int32) (x4 : Int32) (k53 : Int32 → Int32 → Int32 → Int32 → PH → Option (Int32 × PH)) (hk53 : ∀ (x5 : Int32) (x6 : Int32) (x7 : Int32) (x8 : Int32) (h : PH) (H : Heap) (locs : List Loc) (ls : Array Slot), lv_has ls 10 [(0, .ref (gB G 0)), (1, .int x1), (2, .int x2), (3, .int x3), (4, .int x4), (5, .int x5), (6, .int x6), (7, .int x7), (8, .int x8)] → WP G h H → SP G s H locs → k53 x5 x6 x7 x8 h = some (rr, hh) → W p l e rmX8_spans s m args below meth c H locs 0 0 (MQ below (QI G rr hh) args s 0 0 (gA G)) (F0 m 53 ls [])) : ∀ (x5 : Int32) (x7 : Int32) (x8 : Int32) (h : PH) (H : Heap) (locs : List Loc) (ls : Array Slot), lv_has ls 10 [(0, .ref (gB G 0)), (1, .int x1), (2, .int x2), (3, .int x3), (4, .int x4), (5, .int x5), (7, .int x7), (8, .int x8)] → WP G h H → SP G s H locs → f_X8_spans_101 x1 x2 x3 x4 k53 x5 x7 x8 h = some (rr, hh) → W p l e rmX8_spans s m args below meth c H locs 0 0 (MQ below (QI G rr hh) args s 0 0 (gA G)) (F0 m 101 ls []) := by
  obtain ⟨hx, hb, hr, hlocks, hml, hown, hts, hK⟩ := id C
  intro x5 x7 x8 h H locs ls hl hP hS hf
  rw [f_X8_spans_101] at hf
  refine lv_iconst (v := 0) hx hb dX8_spans_101 (by decide) ?_
  exact w_X8_spans_102 hG C x1 x2 x3 x4 k53 hk53 x5 x7 x8 0 h _ _ _ (lv_sub hl [0, 1, 2, 3, 4, 5, 6, 7] rfl) hP hS hf
def f_X8_spans_53 (x1 : Int32) (x2 : Int32) (x3 : Int32) (x4 : Int32) : Nat → Int32 → Int32 → Int32 → Int32 → PH → Option (Int32 × PH)
  | 0, _, _, _, _, _ => none
  | n + 1, x5, x6, x7, x8, h => if (h.1 28 5) ≤ x8 then (if x3 = (-1) then (some (x5, h)) else (some (x7, h))) else (bO (ag h 33 20 x8) (fun v74 => if v74 = x2 then (if x6 = 0 then (bP (f_X8_isFree x8 x1 h) (fun r91 h91 => if r91 = 0 then (f_X8_spans_102 x1 x2 x3 x4 (f_X8_spans_53 x1 x2 x3 x4 n) x5 x7 x8 1 h91) else (f_X8_spans_101 x1 x2 x3 x4 (f_X8_spans_53 x1 x2 x3 x4 n) x5 x7 x8 h91))) else (f_X8_spans_101 x1 x2 x3 x4 (f_X8_spans_53 x1 x2 x3 x4 n) x5 x7 x8 h)) else ((f_X8_spans_53 x1 x2 x3 x4 n) x5 x6 x7 (x8 + 1) h)))
set_option maxHeartbeats 4000000 in
set_option maxRecDepth 100000 in
theorem w_X8_spans_53 {l : Launch} {G : GC} (hG : GOK G) {rr : Int32} {hh : PH} {p : Program} {e : Env} {s : State} {m : MethodId} {args : Array Value} {below : List Frame} {meth : Method} {c : Code} (C : MC l G p s m args meth c RX8 cX8_spans 10 (some .int)) (x1 : Int32) (x2 : Int32) (x3 : Int32) (x4 : Int32) : ∀ (n : Nat) (x5 : Int32) (x6 : Int32) (x7 : Int32) (x8 : Int32) (h : PH) (H : Heap) (locs : List Loc) (ls : Array Slot), lv_has ls 10 [(0, .ref (gB G 0)), (1, .int x1), (2, .int x2), (3, .int x3), (4, .int x4), (5, .int x5), (6, .int x6), (7, .int x7), (8, .int x8)] → WP G h H → SP G s H locs → f_X8_spans_53 x1 x2 x3 x4 n x5 x6 x7 x8 h = some (rr, hh) → W p l e rmX8_spans s m args below meth c H locs 0 0 (MQ below (QI G rr hh) args s 0 0 (gA G)) (F0 m 53 ls []) := by
  obtain ⟨hx, hb, hr, hlocks, hml, hown, hts, hK⟩ := id C
  intro n
  induction n with
  | zero => intro x5 x6 x7 x8 h H locs ls hl hP hS hf; rw [f_X8_spans_53] at hf; cases hf
  | succ n ih =>
    intro x5 x6 x7 x8 h H locs ls hl hP hS hf
    rw [f_X8_spans_53] at hf
    refine lv_iload hx hb dX8_spans_53 (lv_at hl 8 rfl) ?_
    refine lv_aload_n hx hb dX8_spans_55 rfl (lv_at hl 0 rfl) ?_
    refine r_get (a := 0) (v := .ref (gB G 28)) (C := RX8) (T := TX8) (N := 14) hx hb hts hinX8 hown hK hP (ltX8 rfl) (ceX8 rfl) rfl 6 (by decide) wd368 rfl dX8_spans_56 ?_
    refine r_get (a := 28) (v := .int (h.1 28 5)) (C := RX0) (T := TX0) (N := 10) hx hb hts hinX0 hown hK hP (ltX0 (Or.inl rfl)) (ceX0 (Or.inl rfl)) rfl 5 (by decide) wd249 rfl dX8_spans_59 ?_
    refine lv_icmp_ge (tgt := 163) hx hb dX8_spans_62 (by decide) (fun c62 => ?_) (fun c62 => ?_)
    · replace hf := if_t c62 hf
      refine lv_iload_n hx hb dX8_spans_163 rfl (lv_at hl 3 rfl) ?_
      refine lv_iconst (v := (-1)) hx hb dX8_spans_164 (by decide) ?_
      refine lv_icmp_ne (tgt := 173) hx hb dX8_spans_165 (by decide) (fun c165 => ?_) (fun c165 => ?_)
      · replace hf := if_f c165 hf
        refine lv_iload hx hb dX8_spans_173 (lv_at hl 7 rfl) ?_
        exact r_iret hx hb hr hlocks hP hS (re2 (Option.some.inj hf)) dX8_spans_175
      · replace hf := if_t c165 hf
        refine lv_iload hx hb dX8_spans_168 (lv_at hl 5 rfl) ?_
        refine lv_goto (tgt := 175) hx hb dX8_spans_170 (by decide) ?_
        exact r_iret hx hb hr hlocks hP hS (re2 (Option.some.inj hf)) dX8_spans_175
    · replace hf := if_f c62 hf
      refine lv_aload_n hx hb dX8_spans_65 rfl (lv_at hl 0 rfl) ?_
      refine r_get (a := 0) (v := .ref (gB G 28)) (C := RX8) (T := TX8) (N := 14) hx hb hts hinX8 hown hK hP (ltX8 rfl) (ceX8 rfl) rfl 6 (by decide) wd368 rfl dX8_spans_66 ?_
      refine r_get (a := 28) (v := .ref (gB G 33)) (C := RX0) (T := TX0) (N := 10) hx hb hts hinX0 hown hK hP (ltX0 (Or.inl rfl)) (ceX0 (Or.inl rfl)) rfl 6 (by decide) wd251 rfl dX8_spans_69 ?_
      refine lv_iload hx hb dX8_spans_72 (lv_at hl 8 rfl) ?_
      obtain ⟨v74, ev74, hf⟩ := bO_s hf
      refine r_iald hx hb hK hP (arX0_6 (Or.inl rfl)) ev74 dX8_spans_74 ?_
      refine lv_iload_n hx hb dX8_spans_75 rfl (lv_at hl 2 rfl) ?_
      refine lv_icmp_eq (tgt := 82) hx hb dX8_spans_76 (by decide) (fun c76 => ?_) (fun c76 => ?_)
      · replace hf := if_t c76 hf
        refine lv_iload hx hb dX8_spans_82 (lv_at hl 6 rfl) ?_
        refine lv_if_ne (tgt := 101) hx hb dX8_spans_84 (by decide) (fun c84 => ?_) (fun c84 => ?_)
        · replace hf := if_f c84 hf
          exact w_X8_spans_101 hG C x1 x2 x3 x4 (f_X8_spans_53 x1 x2 x3 x4 n) ih x5 x7 x8 h _ _ _ (lv_sub hl [0, 1, 2, 3, 4, 5, 7, 8] rfl) hP hS hf
        · replace hf := if_t c84 hf
          refine lv_aload_n hx hb dX8_spans_87 rfl (lv_at hl 0 rfl) ?_
          refine lv_iload hx hb dX8_spans_88 (lv_at hl 8 rfl) ?_
          refine lv_iload_n hx hb dX8_spans_90 rfl (lv_at hl 1 rfl) ?_
          obtain ⟨r91, h91, er91, hf⟩ := bP_s hf
          refine r_callI (va_runV (As := [.int x8, .int x1]) (rest := []) ⟨hx, hb, hml, hown, hts⟩ (k_X8_isFree l hG er91) (cwV 2 hts (gV wd878 wd880 wd18 wd73 wd881) rfl rfl rfl (by decide +kernel) ⟨Nat.le_of_ble_eq_true rfl, Nat.le_of_ble_eq_true rfl⟩) (r_pv hK hP hS (ltX8 rfl) (ceX8 rfl) rfl) rfl rfl hl.1 rfl (lv_room (Nat.le_of_ble_eq_true rfl)) dX8_spans_91 ⟨Nat.le_of_ble_eq_true rfl, Nat.le_of_ble_eq_true rfl⟩) hS (fun H locs hP hS => ?_)
          refine lv_if_ne (tgt := 101) hx hb dX8_spans_94 (by decide) (fun c94 => ?_) (fun c94 => ?_)
          · replace hf := if_f c94 hf
            exact w_X8_spans_101 hG C x1 x2 x3 x4 (f_X8_spans_53 x1 x2 x3 x4 n) ih x5 x7 x8 h91 _ _ _ (lv_sub hl [0, 1, 2, 3, 4, 5, 7, 8] rfl) hP hS hf
          · replace hf := if_t c94 hf
            refine lv_iconst (v := 1) hx hb dX8_spans_97 (by decide) ?_
            refine lv_goto (tgt := 102) hx hb dX8_spans_98 (by decide) ?_
            exact w_X8_spans_102 hG C x1 x2 x3 x4 (f_X8_spans_53 x1 x2 x3 x4 n) ih x5 x7 x8 1 h91 _ _ _ (lv_sub hl [0, 1, 2, 3, 4, 5, 7, 8] rfl) hP hS hf
      · replace hf := if_f c76 hf
        refine lv_goto (tgt := 157) hx hb dX8_spans_79 (by decide) ?_
        refine lv_iinc (v := (x8 + 1)) (lv' := [(8, .int (x8 + 1)), (0, .ref (gB G 0)), (1, .int x1), (2, .int x2), (3, .int x3), (4, .int x4), (5, .int x5), (6, .int x6), (7, .int x7)]) hx hb dX8_spans_157 hl (k := 8) rfl rfl (by decide) rfl (fun ls hl => ?_)
        refine lv_goto (tgt := 53) hx hb dX8_spans_160 (by decide) ?_
        exact ih x5 x6 x7 (x8 + 1) h _ _ _ (lv_sub hl [1, 2, 3, 4, 5, 6, 7, 8, 0] rfl) hP hS hf
def f_X8_spans (x1 : Int32) (x2 : Int32) (x3 : Int32) (x4 : Int32) (h : PH) : Option (Int32 × PH) := bP (f_X7_hasFault 4 x1 h) (fun r5 h5 => if r5 = 0 then (some ((-1001), h5)) else (bP (f_X0_hasLine 28 x2 h5) (fun r16 h16 => if r16 = 0 then (some ((-1001), h16)) else (if x4 < 0 then (some ((-1002), h16)) else (if x4 ≤ 1 then (f_X8_spans_53 x1 x2 x3 x4 FU 0 0 (-1) 0 h16) else (some ((-1002), h16)))))))
set_option maxHeartbeats 4000000 in
set_option maxRecDepth 100000 in
theorem k_X8_spans (l : Launch) {G : GC} (hG : GOK G) {x1 : Int32} {x2 : Int32} {x3 : Int32} {x4 : Int32} {rr : Int32} {h hh : PH} (hf : f_X8_spans x1 x2 x3 x4 h = some (rr, hh)) : CI l yX8_spans vX8_spans rmX8_spans G [.ref (gB G 0), .int x1, .int x2, .int x3, .int x4] h rr hh := by
  refine Met.ofW (cc := cX8_spans) (maxL := 10) (ret := (some .int)) (by decide +kernel) rfl ?_
  intro p e s m args below meth c s₁ B hml hv
  obtain ⟨rfl, hP, hK⟩ := hv
  have C : MC l G p s m _ meth c RX8 cX8_spans 10 (some .int) := ⟨B.exec, B.bytes, B.returns, B.notSynchronized, hml, findClass_of_methodNamed B.named, fun w hw => atoms_spec (ws := vX8_spans) B.pre w (List.mem_cons_of_mem _ hw), hK⟩
  obtain ⟨hx, hb, hr, hlocks, -, hown, hts, -⟩ := id C
  have hl := lv_entry ([.ref (gB G 0), .int x1, .int x2, .int x3, .int x4]) (n := 10) (Nat.le_of_ble_eq_true rfl)
  rw [lg_entry_eq]
  generalize (lg_sl ([.ref (gB G 0), .int x1, .int x2, .int x3, .int x4]) ++ List.replicate (10 - (lg_sl ([.ref (gB G 0), .int x1, .int x2, .int x3, .int x4])).length) Slot.unset).toArray = ls at hl ⊢
  have hl : lv_has ls 10 [(0, .ref (gB G 0)), (1, .int x1), (2, .int x2), (3, .int x3), (4, .int x4)] := hl
  have hS : SP G s s.heap [] := va_S.rf
  replace hP : WP G h s.heap := hP
  rw [f_X8_spans] at hf
  refine lv_aload_n hx hb dX8_spans_0 rfl (lv_at hl 0 rfl) ?_
  refine r_get (a := 0) (v := .ref (gB G 4)) (C := RX8) (T := TX8) (N := 14) hx hb hts hinX8 hown hK hP (ltX8 rfl) (ceX8 rfl) rfl 2 (by decide) wd364 rfl dX8_spans_1 ?_
  refine lv_iload_n hx hb dX8_spans_4 rfl (lv_at hl 1 rfl) ?_
  obtain ⟨r5, h5, er5, hf⟩ := bP_s hf
  refine r_callI (va_runV (As := [.int x1]) (rest := []) ⟨hx, hb, hml, hown, hts⟩ (k_X7_hasFault l hG 4 (Or.inl rfl) er5) (cwV 1 hts (gV wd660 wd661 wd662 wd76 wd663) rfl rfl rfl (by decide +kernel) ⟨Nat.le_of_ble_eq_true rfl, Nat.le_of_ble_eq_true rfl⟩) (r_pv hK hP hS (ltX7 (Or.inl rfl)) (ceX7 (Or.inl rfl)) rfl) rfl rfl hl.1 rfl (lv_room (Nat.le_of_ble_eq_true rfl)) dX8_spans_5 ⟨Nat.le_of_ble_eq_true rfl, Nat.le_of_ble_eq_true rfl⟩) hS (fun H locs hP hS => ?_)
  refine lv_if_eq (tgt := 22) hx hb dX8_spans_8 (by decide) (fun c8 => ?_) (fun c8 => ?_)
  · replace hf := if_t c8 hf
    refine lv_sipush (v := (-1001)) hx hb dX8_spans_22 (by decide) ?_
    exact r_iret hx hb hr hlocks hP hS (re2 (Option.some.inj hf)) dX8_spans_25
  · replace hf := if_f c8 hf
    refine lv_aload_n hx hb dX8_spans_11 rfl (lv_at hl 0 rfl) ?_
    refine r_get (a := 0) (v := .ref (gB G 28)) (C := RX8) (T := TX8) (N := 14) hx hb hts hinX8 hown hK hP (ltX8 rfl) (ceX8 rfl) rfl 6 (by decide) wd368 rfl dX8_spans_12 ?_
    refine lv_iload_n hx hb dX8_spans_15 rfl (lv_at hl 2 rfl) ?_
    obtain ⟨r16, h16, er16, hf⟩ := bP_s hf
    refine r_callI (va_runV (As := [.int x2]) (rest := []) ⟨hx, hb, hml, hown, hts⟩ (k_X0_hasLine l hG 28 (Or.inl rfl) er16) (cwV 1 hts (gV wd684 wd685 wd686 wd78 wd687) rfl rfl rfl (by decide +kernel) ⟨Nat.le_of_ble_eq_true rfl, Nat.le_of_ble_eq_true rfl⟩) (r_pv hK hP hS (ltX0 (Or.inl rfl)) (ceX0 (Or.inl rfl)) rfl) rfl rfl hl.1 rfl (lv_room (Nat.le_of_ble_eq_true rfl)) dX8_spans_16 ⟨Nat.le_of_ble_eq_true rfl, Nat.le_of_ble_eq_true rfl⟩) hS (fun H locs hP hS => ?_)
    refine lv_if_ne (tgt := 26) hx hb dX8_spans_19 (by decide) (fun c19 => ?_) (fun c19 => ?_)
    · replace hf := if_f c19 hf
      refine lv_iload hx hb dX8_spans_26 (lv_at hl 4 rfl) ?_
      refine lv_if_lt (tgt := 37) hx hb dX8_spans_28 (by decide) (fun c28 => ?_) (fun c28 => ?_)
      · replace hf := if_t c28 hf
        refine lv_sipush (v := (-1002)) hx hb dX8_spans_37 (by decide) ?_
        exact r_iret hx hb hr hlocks hP hS (re2 (Option.some.inj hf)) dX8_spans_40
      · replace hf := if_f c28 hf
        refine lv_iload hx hb dX8_spans_31 (lv_at hl 4 rfl) ?_
        refine lv_iconst (v := 1) hx hb dX8_spans_33 (by decide) ?_
        refine lv_icmp_le (tgt := 41) hx hb dX8_spans_34 (by decide) (fun c34 => ?_) (fun c34 => ?_)
        · replace hf := if_t c34 hf
          refine lv_iconst (v := 0) hx hb dX8_spans_41 (by decide) ?_
          refine lv_istore (lv' := [(5, .int 0), (0, .ref (gB G 0)), (1, .int x1), (2, .int x2), (3, .int x3), (4, .int x4)]) hx hb dX8_spans_42 hl (by decide) rfl (fun ls hl => ?_)
          refine lv_iconst (v := 0) hx hb dX8_spans_44 (by decide) ?_
          refine lv_istore (lv' := [(6, .int 0), (5, .int 0), (0, .ref (gB G 0)), (1, .int x1), (2, .int x2), (3, .int x3), (4, .int x4)]) hx hb dX8_spans_45 hl (by decide) rfl (fun ls hl => ?_)
          refine lv_iconst (v := (-1)) hx hb dX8_spans_47 (by decide) ?_
          refine lv_istore (lv' := [(7, .int (-1)), (6, .int 0), (5, .int 0), (0, .ref (gB G 0)), (1, .int x1), (2, .int x2), (3, .int x3), (4, .int x4)]) hx hb dX8_spans_48 hl (by decide) rfl (fun ls hl => ?_)
          refine lv_iconst (v := 0) hx hb dX8_spans_50 (by decide) ?_
          refine lv_istore (lv' := [(8, .int 0), (7, .int (-1)), (6, .int 0), (5, .int 0), (0, .ref (gB G 0)), (1, .int x1), (2, .int x2), (3, .int x3), (4, .int x4)]) hx hb dX8_spans_51 hl (by decide) rfl (fun ls hl => ?_)
          exact w_X8_spans_53 hG C x1 x2 x3 x4 FU 0 0 (-1) 0 h16 _ _ _ (lv_sub hl [4, 5, 6, 7, 8, 3, 2, 1, 0] rfl) hP hS hf
        · replace hf := if_f c34 hf
          refine lv_sipush (v := (-1002)) hx hb dX8_spans_37 (by decide) ?_
          exact r_iret hx hb hr hlocks hP hS (re2 (Option.some.inj hf)) dX8_spans_40
    · replace hf := if_t c19 hf
      refine lv_sipush (v := (-1001)) hx hb dX8_spans_22 (by decide) ?_
      exact r_iret hx hb hr hlocks hP hS (re2 (Option.some.inj hf)) dX8_spans_25
/-! CarriedBack$Rules.isFrozen(I)Z -/
abbrev rmX5_isFrozen : Room := { frames := 0, cells := 0, slots := 0, locals := 0 }
abbrev vX5_isFrozen : List Cond := Cond.code yX5_isFrozen cX5_isFrozen 3 (some .boolean) :: GW
def f_X5_isFrozen_2 (a0 : Nat) (x1 : Int32) : Nat → Int32 → PH → Option (Int32 × PH)
  | 0, _, _ => none
  | n + 1, x2, h => if (h.1 a0 1) ≤ x2 then (some (0, h)) else (bO (ag h (a0 + 1) 8 x2) (fun v16 => if x1 < v16 then ((f_X5_isFrozen_2 a0 x1 n) (x2 + 1) h) else (bO (ag h (a0 + 2) 8 x2) (fun v26 => if v26 < x1 then ((f_X5_isFrozen_2 a0 x1 n) (x2 + 1) h) else (some (1, h))))))
set_option maxHeartbeats 4000000 in
set_option maxRecDepth 100000 in
theorem w_X5_isFrozen_2 {l : Launch} {G : GC} (hG : GOK G) {rr : Int32} {hh : PH} {p : Program} {e : Env} {s : State} {m : MethodId} {args : Array Value} {below : List Frame} {meth : Method} {c : Code} (C : MC l G p s m args meth c RX5 cX5_isFrozen 3 (some .boolean)) (a0 : Nat) (ha0 : kdX5 a0) (x1 : Int32) : ∀ (n : Nat) (x2 : Int32) (h : PH) (H : Heap) (locs : List Loc) (ls : Array Slot), lv_has ls 3 [(0, .ref (gB G a0)), (1, .int x1), (2, .int x2)] → WP G h H → SP G s H locs → f_X5_isFrozen_2 a0 x1 n x2 h = some (rr, hh) → W p l e rmX5_isFrozen s m args below meth c H locs 0 0 (MQ below (QI G rr hh) args s 0 0 (gA G)) (F0 m 2 ls []) := by
  obtain ⟨hx, hb, hr, hlocks, hml, hown, hts, hK⟩ := id C
  intro n
  induction n with
  | zero => intro x2 h H locs ls hl hP hS hf; rw [f_X5_isFrozen_2] at hf; cases hf
  | succ n ih =>
    intro x2 h H locs ls hl hP hS hf
    rw [f_X5_isFrozen_2] at hf
    refine lv_iload_n hx hb dX5_isFrozen_2 rfl (lv_at hl 2 rfl) ?_
    refine lv_aload_n hx hb dX5_isFrozen_3 rfl (lv_at hl 0 rfl) ?_
    refine r_get (a := a0) (v := .int (h.1 a0 1)) (C := RX5) (T := TX5) (N := 7) hx hb hts hinX5 hown hK hP (ltX5 ha0) (ceX5 ha0) rfl 1 (by decide) wd208 rfl dX5_isFrozen_4 ?_
    refine lv_icmp_ge (tgt := 38) hx hb dX5_isFrozen_7 (by decide) (fun c7 => ?_) (fun c7 => ?_)
    · replace hf := if_t c7 hf
      refine lv_iconst (v := 0) hx hb dX5_isFrozen_38 (by decide) ?_
      exact r_zret hx hb hr rfl hlocks hP hS (re2 (Option.some.inj hf)) dX5_isFrozen_39
    · replace hf := if_f c7 hf
      refine lv_iload_n hx hb dX5_isFrozen_10 rfl (lv_at hl 1 rfl) ?_
      refine lv_aload_n hx hb dX5_isFrozen_11 rfl (lv_at hl 0 rfl) ?_
      refine r_get (a := a0) (v := .ref (gB G (a0 + 1))) (C := RX5) (T := TX5) (N := 7) hx hb hts hinX5 hown hK hP (ltX5 ha0) (ceX5 ha0) rfl 2 (by decide) wd209 rfl dX5_isFrozen_12 ?_
      refine lv_iload_n hx hb dX5_isFrozen_15 rfl (lv_at hl 2 rfl) ?_
      obtain ⟨v16, ev16, hf⟩ := bO_s hf
      refine r_iald hx hb hK hP (arX5_2 ha0) ev16 dX5_isFrozen_16 ?_
      refine lv_icmp_lt (tgt := 32) hx hb dX5_isFrozen_17 (by decide) (fun c17 => ?_) (fun c17 => ?_)
      · replace hf := if_t c17 hf
        refine lv_iinc (v := (x2 + 1)) (lv' := [(2, .int (x2 + 1)), (0, .ref (gB G a0)), (1, .int x1)]) hx hb dX5_isFrozen_32 hl (k := 2) rfl rfl (by decide) rfl (fun ls hl => ?_)
        refine lv_goto (tgt := 2) hx hb dX5_isFrozen_35 (by decide) ?_
        exact ih (x2 + 1) h _ _ _ (lv_sub hl [1, 2, 0] rfl) hP hS hf
      · replace hf := if_f c17 hf
        refine lv_iload_n hx hb dX5_isFrozen_20 rfl (lv_at hl 1 rfl) ?_
        refine lv_aload_n hx hb dX5_isFrozen_21 rfl (lv_at hl 0 rfl) ?_
        refine r_get (a := a0) (v := .ref (gB G (a0 + 2))) (C := RX5) (T := TX5) (N := 7) hx hb hts hinX5 hown hK hP (ltX5 ha0) (ceX5 ha0) rfl 3 (by decide) wd210 rfl dX5_isFrozen_22 ?_
        refine lv_iload_n hx hb dX5_isFrozen_25 rfl (lv_at hl 2 rfl) ?_
        obtain ⟨v26, ev26, hf⟩ := bO_s hf
        refine r_iald hx hb hK hP (arX5_3 ha0) ev26 dX5_isFrozen_26 ?_
        refine lv_icmp_gt (tgt := 32) hx hb dX5_isFrozen_27 (by decide) (fun c27 => ?_) (fun c27 => ?_)
        · replace hf := if_t c27 hf
          refine lv_iinc (v := (x2 + 1)) (lv' := [(2, .int (x2 + 1)), (0, .ref (gB G a0)), (1, .int x1)]) hx hb dX5_isFrozen_32 hl (k := 2) rfl rfl (by decide) rfl (fun ls hl => ?_)
          refine lv_goto (tgt := 2) hx hb dX5_isFrozen_35 (by decide) ?_
          exact ih (x2 + 1) h _ _ _ (lv_sub hl [1, 2, 0] rfl) hP hS hf
        · replace hf := if_f c27 hf
          refine lv_iconst (v := 1) hx hb dX5_isFrozen_30 (by decide) ?_
          exact r_zret hx hb hr rfl hlocks hP hS (re2 (Option.some.inj hf)) dX5_isFrozen_31
def f_X5_isFrozen (a0 : Nat) (x1 : Int32) (h : PH) : Option (Int32 × PH) := f_X5_isFrozen_2 a0 x1 FU 0 h
set_option maxHeartbeats 4000000 in
set_option maxRecDepth 100000 in
theorem k_X5_isFrozen (l : Launch) {G : GC} (hG : GOK G) (a0 : Nat) (ha0 : kdX5 a0) {x1 : Int32} {rr : Int32} {h hh : PH} (hf : f_X5_isFrozen a0 x1 h = some (rr, hh)) : CI l yX5_isFrozen vX5_isFrozen rmX5_isFrozen G [.ref (gB G a0), .int x1] h rr hh := by
  refine Met.ofW (cc := cX5_isFrozen) (maxL := 3) (ret := (some .boolean)) (by decide +kernel) rfl ?_
  intro p e s m args below meth c s₁ B hml hv
  obtain ⟨rfl, hP, hK⟩ := hv
  have C : MC l G p s m _ meth c RX5 cX5_isFrozen 3 (some .boolean) := ⟨B.exec, B.bytes, B.returns, B.notSynchronized, hml, findClass_of_methodNamed B.named, fun w hw => atoms_spec (ws := vX5_isFrozen) B.pre w (List.mem_cons_of_mem _ hw), hK⟩
  obtain ⟨hx, hb, hr, hlocks, -, hown, hts, -⟩ := id C
  have hl := lv_entry ([.ref (gB G a0), .int x1]) (n := 3) (Nat.le_of_ble_eq_true rfl)
  rw [lg_entry_eq]
  generalize (lg_sl ([.ref (gB G a0), .int x1]) ++ List.replicate (3 - (lg_sl ([.ref (gB G a0), .int x1])).length) Slot.unset).toArray = ls at hl ⊢
  have hl : lv_has ls 3 [(0, .ref (gB G a0)), (1, .int x1)] := hl
  have hS : SP G s s.heap [] := va_S.rf
  replace hP : WP G h s.heap := hP
  rw [f_X5_isFrozen] at hf
  refine lv_iconst (v := 0) hx hb dX5_isFrozen_0 (by decide) ?_
  refine lv_istore_n (lv' := [(2, .int 0), (0, .ref (gB G a0)), (1, .int x1)]) hx hb dX5_isFrozen_1 rfl hl (by decide) rfl (fun ls hl => ?_)
  exact w_X5_isFrozen_2 hG C a0 ha0 x1 FU 0 h _ _ _ (lv_sub hl [1, 2, 0] rfl) hP hS hf
/-! CarriedBack$Rules.allowsLine(I)Z -/
abbrev rmX5_allowsLine : Room := { frames := 1, cells := 0, slots := 0, locals := 21 }
abbrev vX5_allowsLine : List Cond := Cond.code yX5_allowsLine cX5_allowsLine 2 (some .boolean) :: GW
def f_X5_allowsLine (a0 : Nat) (x1 : Int32) (h : PH) : Option (Int32 × PH) := if (h.1 a0 6) = 0 then (some (1, h)) else (bO (f_X8_has (h.1 a0 6) x1) (fun r12 => if r12 = 0 then (some (0, h)) else (some (1, h))))
set_option maxHeartbeats 4000000 in
set_option maxRecDepth 100000 in
theorem k_X5_allowsLine (l : Launch) {G : GC} (hG : GOK G) (a0 : Nat) (ha0 : kdX5 a0) {x1 : Int32} {rr : Int32} {h hh : PH} (hf : f_X5_allowsLine a0 x1 h = some (rr, hh)) : CI l yX5_allowsLine vX5_allowsLine rmX5_allowsLine G [.ref (gB G a0), .int x1] h rr hh := by
  refine Met.ofW (cc := cX5_allowsLine) (maxL := 2) (ret := (some .boolean)) (by decide +kernel) rfl ?_
  intro p e s m args below meth c s₁ B hml hv
  obtain ⟨rfl, hP, hK⟩ := hv
  have C : MC l G p s m _ meth c RX5 cX5_allowsLine 2 (some .boolean) := ⟨B.exec, B.bytes, B.returns, B.notSynchronized, hml, findClass_of_methodNamed B.named, fun w hw => atoms_spec (ws := vX5_allowsLine) B.pre w (List.mem_cons_of_mem _ hw), hK⟩
  obtain ⟨hx, hb, hr, hlocks, -, hown, hts, -⟩ := id C
  have hl := lv_entry ([.ref (gB G a0), .int x1]) (n := 2) (Nat.le_of_ble_eq_true rfl)
  rw [lg_entry_eq]
  generalize (lg_sl ([.ref (gB G a0), .int x1]) ++ List.replicate (2 - (lg_sl ([.ref (gB G a0), .int x1])).length) Slot.unset).toArray = ls at hl ⊢
  have hl : lv_has ls 2 [(0, .ref (gB G a0)), (1, .int x1)] := hl
  have hS : SP G s s.heap [] := va_S.rf
  replace hP : WP G h s.heap := hP
  rw [f_X5_allowsLine] at hf
  refine lv_aload_n hx hb dX5_allowsLine_0 rfl (lv_at hl 0 rfl) ?_
  refine r_get (a := a0) (v := .int (h.1 a0 6)) (C := RX5) (T := TX5) (N := 7) hx hb hts hinX5 hown hK hP (ltX5 ha0) (ceX5 ha0) rfl 6 (by decide) wd213 rfl dX5_allowsLine_1 ?_
  refine lv_if_eq (tgt := 18) hx hb dX5_allowsLine_4 (by decide) (fun c4 => ?_) (fun c4 => ?_)
  · replace hf := if_t c4 hf
    refine lv_iconst (v := 1) hx hb dX5_allowsLine_18 (by decide) ?_
    refine lv_goto (tgt := 23) hx hb dX5_allowsLine_19 (by decide) ?_
    exact r_zret hx hb hr rfl hlocks hP hS (re2 (Option.some.inj hf)) dX5_allowsLine_23
  · replace hf := if_f c4 hf
    refine lv_aload_n hx hb dX5_allowsLine_7 rfl (lv_at hl 0 rfl) ?_
    refine r_get (a := a0) (v := .int (h.1 a0 6)) (C := RX5) (T := TX5) (N := 7) hx hb hts hinX5 hown hK hP (ltX5 ha0) (ceX5 ha0) rfl 6 (by decide) wd213 rfl dX5_allowsLine_8 ?_
    refine lv_iload_n hx hb dX5_allowsLine_11 rfl (lv_at hl 1 rfl) ?_
    obtain ⟨r12, er12, hf⟩ := bO_s hf
    refine r_callI (va_runSN (As := [.int (h.1 a0 6), .int x1]) (rest := []) ⟨hx, hb, hml, hown, hts⟩ (k_X8_has l hG (h := h) er12) ⟨va_cnB 2 hts (gC wd523) rfl rfl rfl (host := "CarriedBack") (hK.2.1 _ (by decide +kernel)) (hts _ wd73) (by decide +kernel) ⟨Nat.le_of_ble_eq_true rfl, Nat.le_of_ble_eq_true rfl⟩, hts _ wd522, trivial⟩ (r_ps hK hP hS) rfl rfl hl.1 rfl (lv_room (Nat.le_of_ble_eq_true rfl)) dX5_allowsLine_12 ⟨Nat.le_of_ble_eq_true rfl, Nat.le_of_ble_eq_true rfl⟩) hS (fun H locs hP hS => ?_)
    refine lv_if_eq (tgt := 22) hx hb dX5_allowsLine_15 (by decide) (fun c15 => ?_) (fun c15 => ?_)
    · replace hf := if_t c15 hf
      refine lv_iconst (v := 0) hx hb dX5_allowsLine_22 (by decide) ?_
      exact r_zret hx hb hr rfl hlocks hP hS (re2 (Option.some.inj hf)) dX5_allowsLine_23
    · replace hf := if_f c15 hf
      refine lv_iconst (v := 1) hx hb dX5_allowsLine_18 (by decide) ?_
      refine lv_goto (tgt := 23) hx hb dX5_allowsLine_19 (by decide) ?_
      exact r_zret hx hb hr rfl hlocks hP hS (re2 (Option.some.inj hf)) dX5_allowsLine_23
/-! CarriedBack$Rules.allowsRisk(I)Z -/
abbrev rmX5_allowsRisk : Room := { frames := 0, cells := 0, slots := 0, locals := 0 }
abbrev vX5_allowsRisk : List Cond := Cond.code yX5_allowsRisk cX5_allowsRisk 2 (some .boolean) :: GW
def f_X5_allowsRisk (a0 : Nat) (x1 : Int32) (h : PH) : Option (Int32 × PH) := if (h.1 a0 4) = (-1) then (some (1, h)) else (if (h.1 a0 4) < x1 then (some (0, h)) else (some (1, h)))
set_option maxHeartbeats 4000000 in
set_option maxRecDepth 100000 in
theorem k_X5_allowsRisk (l : Launch) {G : GC} (hG : GOK G) (a0 : Nat) (ha0 : kdX5 a0) {x1 : Int32} {rr : Int32} {h hh : PH} (hf : f_X5_allowsRisk a0 x1 h = some (rr, hh)) : CI l yX5_allowsRisk vX5_allowsRisk rmX5_allowsRisk G [.ref (gB G a0), .int x1] h rr hh := by
  refine Met.ofW (cc := cX5_allowsRisk) (maxL := 2) (ret := (some .boolean)) (by decide +kernel) rfl ?_
  intro p e s m args below meth c s₁ B hml hv
  obtain ⟨rfl, hP, hK⟩ := hv
  have C : MC l G p s m _ meth c RX5 cX5_allowsRisk 2 (some .boolean) := ⟨B.exec, B.bytes, B.returns, B.notSynchronized, hml, findClass_of_methodNamed B.named, fun w hw => atoms_spec (ws := vX5_allowsRisk) B.pre w (List.mem_cons_of_mem _ hw), hK⟩
  obtain ⟨hx, hb, hr, hlocks, -, hown, hts, -⟩ := id C
  have hl := lv_entry ([.ref (gB G a0), .int x1]) (n := 2) (Nat.le_of_ble_eq_true rfl)
  rw [lg_entry_eq]
  generalize (lg_sl ([.ref (gB G a0), .int x1]) ++ List.replicate (2 - (lg_sl ([.ref (gB G a0), .int x1])).length) Slot.unset).toArray = ls at hl ⊢
  have hl : lv_has ls 2 [(0, .ref (gB G a0)), (1, .int x1)] := hl
  have hS : SP G s s.heap [] := va_S.rf
  replace hP : WP G h s.heap := hP
  rw [f_X5_allowsRisk] at hf
  refine lv_aload_n hx hb dX5_allowsRisk_0 rfl (lv_at hl 0 rfl) ?_
  refine r_get (a := a0) (v := .int (h.1 a0 4)) (C := RX5) (T := TX5) (N := 7) hx hb hts hinX5 hown hK hP (ltX5 ha0) (ceX5 ha0) rfl 4 (by decide) wd211 rfl dX5_allowsRisk_1 ?_
  refine lv_iconst (v := (-1)) hx hb dX5_allowsRisk_4 (by decide) ?_
  refine lv_icmp_eq (tgt := 16) hx hb dX5_allowsRisk_5 (by decide) (fun c5 => ?_) (fun c5 => ?_)
  · replace hf := if_t c5 hf
    refine lv_iconst (v := 1) hx hb dX5_allowsRisk_16 (by decide) ?_
    refine lv_goto (tgt := 21) hx hb dX5_allowsRisk_17 (by decide) ?_
    exact r_zret hx hb hr rfl hlocks hP hS (re2 (Option.some.inj hf)) dX5_allowsRisk_21
  · replace hf := if_f c5 hf
    refine lv_iload_n hx hb dX5_allowsRisk_8 rfl (lv_at hl 1 rfl) ?_
    refine lv_aload_n hx hb dX5_allowsRisk_9 rfl (lv_at hl 0 rfl) ?_
    refine r_get (a := a0) (v := .int (h.1 a0 4)) (C := RX5) (T := TX5) (N := 7) hx hb hts hinX5 hown hK hP (ltX5 ha0) (ceX5 ha0) rfl 4 (by decide) wd211 rfl dX5_allowsRisk_10 ?_
    refine lv_icmp_gt (tgt := 20) hx hb dX5_allowsRisk_13 (by decide) (fun c13 => ?_) (fun c13 => ?_)
    · replace hf := if_t c13 hf
      refine lv_iconst (v := 0) hx hb dX5_allowsRisk_20 (by decide) ?_
      exact r_zret hx hb hr rfl hlocks hP hS (re2 (Option.some.inj hf)) dX5_allowsRisk_21
    · replace hf := if_f c13 hf
      refine lv_iconst (v := 1) hx hb dX5_allowsRisk_16 (by decide) ?_
      refine lv_goto (tgt := 21) hx hb dX5_allowsRisk_17 (by decide) ?_
      exact r_zret hx hb hr rfl hlocks hP hS (re2 (Option.some.inj hf)) dX5_allowsRisk_21
/-! CarriedBack$Rules.allowsWeight(I)Z -/
abbrev rmX5_allowsWeight : Room := { frames := 0, cells := 0, slots := 0, locals := 0 }
abbrev vX5_allowsWeight : List Cond := Cond.code yX5_allowsWeight cX5_allowsWeight 2 (some .boolean) :: GW
def f_X5_allowsWeight (a0 : Nat) (x1 : Int32) (h : PH) : Option (Int32 × PH) := if (h.1 a0 5) = (-1) then (some (1, h)) else (if x1 < (h.1 a0 5) then (some (0, h)) else (some (1, h)))
set_option maxHeartbeats 4000000 in
set_option maxRecDepth 100000 in
theorem k_X5_allowsWeight (l : Launch) {G : GC} (hG : GOK G) (a0 : Nat) (ha0 : kdX5 a0) {x1 : Int32} {rr : Int32} {h hh : PH} (hf : f_X5_allowsWeight a0 x1 h = some (rr, hh)) : CI l yX5_allowsWeight vX5_allowsWeight rmX5_allowsWeight G [.ref (gB G a0), .int x1] h rr hh := by
  refine Met.ofW (cc := cX5_allowsWeight) (maxL := 2) (ret := (some .boolean)) (by decide +kernel) rfl ?_
  intro p e s m args below meth c s₁ B hml hv
  obtain ⟨rfl, hP, hK⟩ := hv
  have C : MC l G p s m _ meth c RX5 cX5_allowsWeight 2 (some .boolean) := ⟨B.exec, B.bytes, B.returns, B.notSynchronized, hml, findClass_of_methodNamed B.named, fun w hw => atoms_spec (ws := vX5_allowsWeight) B.pre w (List.mem_cons_of_mem _ hw), hK⟩
  obtain ⟨hx, hb, hr, hlocks, -, hown, hts, -⟩ := id C
  have hl := lv_entry ([.ref (gB G a0), .int x1]) (n := 2) (Nat.le_of_ble_eq_true rfl)
  rw [lg_entry_eq]
  generalize (lg_sl ([.ref (gB G a0), .int x1]) ++ List.replicate (2 - (lg_sl ([.ref (gB G a0), .int x1])).length) Slot.unset).toArray = ls at hl ⊢
  have hl : lv_has ls 2 [(0, .ref (gB G a0)), (1, .int x1)] := hl
  have hS : SP G s s.heap [] := va_S.rf
  replace hP : WP G h s.heap := hP
  rw [f_X5_allowsWeight] at hf
  refine lv_aload_n hx hb dX5_allowsWeight_0 rfl (lv_at hl 0 rfl) ?_
  refine r_get (a := a0) (v := .int (h.1 a0 5)) (C := RX5) (T := TX5) (N := 7) hx hb hts hinX5 hown hK hP (ltX5 ha0) (ceX5 ha0) rfl 5 (by decide) wd212 rfl dX5_allowsWeight_1 ?_
  refine lv_iconst (v := (-1)) hx hb dX5_allowsWeight_4 (by decide) ?_
  refine lv_icmp_eq (tgt := 16) hx hb dX5_allowsWeight_5 (by decide) (fun c5 => ?_) (fun c5 => ?_)
  · replace hf := if_t c5 hf
    refine lv_iconst (v := 1) hx hb dX5_allowsWeight_16 (by decide) ?_
    refine lv_goto (tgt := 21) hx hb dX5_allowsWeight_17 (by decide) ?_
    exact r_zret hx hb hr rfl hlocks hP hS (re2 (Option.some.inj hf)) dX5_allowsWeight_21
  · replace hf := if_f c5 hf
    refine lv_iload_n hx hb dX5_allowsWeight_8 rfl (lv_at hl 1 rfl) ?_
    refine lv_aload_n hx hb dX5_allowsWeight_9 rfl (lv_at hl 0 rfl) ?_
    refine r_get (a := a0) (v := .int (h.1 a0 5)) (C := RX5) (T := TX5) (N := 7) hx hb hts hinX5 hown hK hP (ltX5 ha0) (ceX5 ha0) rfl 5 (by decide) wd212 rfl dX5_allowsWeight_10 ?_
    refine lv_icmp_lt (tgt := 20) hx hb dX5_allowsWeight_13 (by decide) (fun c13 => ?_) (fun c13 => ?_)
    · replace hf := if_t c13 hf
      refine lv_iconst (v := 0) hx hb dX5_allowsWeight_20 (by decide) ?_
      exact r_zret hx hb hr rfl hlocks hP hS (re2 (Option.some.inj hf)) dX5_allowsWeight_21
    · replace hf := if_f c13 hf
      refine lv_iconst (v := 1) hx hb dX5_allowsWeight_16 (by decide) ?_
      refine lv_goto (tgt := 21) hx hb dX5_allowsWeight_17 (by decide) ?_
      exact r_zret hx hb hr rfl hlocks hP hS (re2 (Option.some.inj hf)) dX5_allowsWeight_21
/-! CarriedBack.lets(III)I -/
abbrev rmX8_lets : Room := { frames := 4, cells := 0, slots := 0, locals := 101 }
abbrev vX8_lets : List Cond := Cond.code yX8_lets cX8_lets 8 (some .int) :: GW
def f_X8_lets_121 (x5 : Int32) (x6 : Int32) (t0 : Int32) (h : PH) : Option (Int32 × PH) := if t0 = 0 then (some (0, h)) else (bP (f_X7_riskOf 4 x5 h) (fun r138 h138 => bP (f_X5_allowsRisk 22 r138 h138) (fun r141 h141 => if r141 = 0 then (some (0, h141)) else (bP (f_X7_weightOf 4 x6 h141) (fun r157 h157 => bP (f_X5_allowsWeight 22 r157 h157) (fun r160 h160 => if r160 = 0 then (some (0, h160)) else (some (1, h160))))))))
set_option maxHeartbeats 4000000 in
set_option maxRecDepth 100000 in
theorem w_X8_lets_121 {l : Launch} {G : GC} (hG : GOK G) {rr : Int32} {hh : PH} {p : Program} {e : Env} {s : State} {m : MethodId} {args : Array Value} {below : List Frame} {meth : Method} {c : Code} (C : MC l G p s m args meth c RX8 cX8_lets 8 (some .int)) : ∀ (x5 : Int32) (x6 : Int32) (t0 : Int32) (h : PH) (H : Heap) (locs : List Loc) (ls : Array Slot), lv_has ls 8 [(0, .ref (gB G 0)), (5, .int x5), (6, .int x6)] → WP G h H → SP G s H locs → f_X8_lets_121 x5 x6 t0 h = some (rr, hh) → W p l e rmX8_lets s m args below meth c H locs 0 0 (MQ below (QI G rr hh) args s 0 0 (gA G)) (F0 m 121 ls [.int t0]) := by
  obtain ⟨hx, hb, hr, hlocks, hml, hown, hts, hK⟩ := id C
  intro x5 x6 t0 h H locs ls hl hP hS hf
  rw [f_X8_lets_121] at hf
  refine lv_istore (lv' := [(7, .int t0), (0, .ref (gB G 0)), (5, .int x5), (6, .int x6)]) hx hb dX8_lets_121 hl (by decide) rfl (fun ls hl => ?_)
  refine lv_iload hx hb dX8_lets_123 (lv_at hl 0 rfl) ?_
  refine lv_if_eq (tgt := 170) hx hb dX8_lets_125 (by decide) (fun c125 => ?_) (fun c125 => ?_)
  · replace hf := if_t c125 hf
    refine lv_iconst (v := 0) hx hb dX8_lets_170 (by decide) ?_
    exact r_iret hx hb hr hlocks hP hS (re2 (Option.some.inj hf)) dX8_lets_171
  · replace hf := if_f c125 hf
    refine lv_aload_n hx hb dX8_lets_128 rfl (lv_at hl 1 rfl) ?_
    refine r_get (a := 0) (v := .ref (gB G 22)) (C := RX8) (T := TX8) (N := 14) hx hb hts hinX8 hown hK hP (ltX8 rfl) (ceX8 rfl) rfl 4 (by decide) wd366 rfl dX8_lets_129 ?_
    refine lv_aload_n hx hb dX8_lets_132 rfl (lv_at hl 1 rfl) ?_
    refine r_get (a := 0) (v := .ref (gB G 4)) (C := RX8) (T := TX8) (N := 14) hx hb hts hinX8 hown hK hP (ltX8 rfl) (ceX8 rfl) rfl 2 (by decide) wd364 rfl dX8_lets_133 ?_
    refine lv_iload hx hb dX8_lets_136 (lv_at hl 2 rfl) ?_
    obtain ⟨r138, h138, er138, hf⟩ := bP_s hf
    refine r_callI (va_runV (As := [.int x5]) (rest := [.ref (gB G 22)]) ⟨hx, hb, hml, hown, hts⟩ (k_X7_riskOf l hG 4 (Or.inl rfl) er138) (cwV 1 hts (gV wd692 wd693 wd694 wd76 wd695) rfl rfl rfl (by decide +kernel) ⟨Nat.le_of_ble_eq_true rfl, Nat.le_of_ble_eq_true rfl⟩) (r_pv hK hP hS (ltX7 (Or.inl rfl)) (ceX7 (Or.inl rfl)) rfl) rfl rfl hl.1 rfl (lv_room (Nat.le_of_ble_eq_true rfl)) dX8_lets_138 ⟨Nat.le_of_ble_eq_true rfl, Nat.le_of_ble_eq_true rfl⟩) hS (fun H locs hP hS => ?_)
    obtain ⟨r141, h141, er141, hf⟩ := bP_s hf
    refine r_callI (va_runV (As := [.int r138]) (rest := []) ⟨hx, hb, hml, hown, hts⟩ (k_X5_allowsRisk l hG 22 (Or.inl rfl) er141) (cwV 1 hts (gV wd1004 wd1005 wd1006 wd77 wd1007) rfl rfl rfl (by decide +kernel) ⟨Nat.le_of_ble_eq_true rfl, Nat.le_of_ble_eq_true rfl⟩) (r_pv hK hP hS (ltX5 (Or.inl rfl)) (ceX5 (Or.inl rfl)) rfl) rfl rfl hl.1 rfl (lv_room (Nat.le_of_ble_eq_true rfl)) dX8_lets_141 ⟨Nat.le_of_ble_eq_true rfl, Nat.le_of_ble_eq_true rfl⟩) hS (fun H locs hP hS => ?_)
    refine lv_if_eq (tgt := 170) hx hb dX8_lets_144 (by decide) (fun c144 => ?_) (fun c144 => ?_)
    · replace hf := if_t c144 hf
      refine lv_iconst (v := 0) hx hb dX8_lets_170 (by decide) ?_
      exact r_iret hx hb hr hlocks hP hS (re2 (Option.some.inj hf)) dX8_lets_171
    · replace hf := if_f c144 hf
      refine lv_aload_n hx hb dX8_lets_147 rfl (lv_at hl 1 rfl) ?_
      refine r_get (a := 0) (v := .ref (gB G 22)) (C := RX8) (T := TX8) (N := 14) hx hb hts hinX8 hown hK hP (ltX8 rfl) (ceX8 rfl) rfl 4 (by decide) wd366 rfl dX8_lets_148 ?_
      refine lv_aload_n hx hb dX8_lets_151 rfl (lv_at hl 1 rfl) ?_
      refine r_get (a := 0) (v := .ref (gB G 4)) (C := RX8) (T := TX8) (N := 14) hx hb hts hinX8 hown hK hP (ltX8 rfl) (ceX8 rfl) rfl 2 (by decide) wd364 rfl dX8_lets_152 ?_
      refine lv_iload hx hb dX8_lets_155 (lv_at hl 3 rfl) ?_
      obtain ⟨r157, h157, er157, hf⟩ := bP_s hf
      refine r_callI (va_runV (As := [.int x6]) (rest := [.ref (gB G 22)]) ⟨hx, hb, hml, hown, hts⟩ (k_X7_weightOf l hG 4 (Or.inl rfl) er157) (cwV 1 hts (gV wd1008 wd824 wd825 wd76 wd826) rfl rfl rfl (by decide +kernel) ⟨Nat.le_of_ble_eq_true rfl, Nat.le_of_ble_eq_true rfl⟩) (r_pv hK hP hS (ltX7 (Or.inl rfl)) (ceX7 (Or.inl rfl)) rfl) rfl rfl hl.1 rfl (lv_room (Nat.le_of_ble_eq_true rfl)) dX8_lets_157 ⟨Nat.le_of_ble_eq_true rfl, Nat.le_of_ble_eq_true rfl⟩) hS (fun H locs hP hS => ?_)
      obtain ⟨r160, h160, er160, hf⟩ := bP_s hf
      refine r_callI (va_runV (As := [.int r157]) (rest := []) ⟨hx, hb, hml, hown, hts⟩ (k_X5_allowsWeight l hG 22 (Or.inl rfl) er160) (cwV 1 hts (gV wd1009 wd1010 wd1011 wd77 wd1012) rfl rfl rfl (by decide +kernel) ⟨Nat.le_of_ble_eq_true rfl, Nat.le_of_ble_eq_true rfl⟩) (r_pv hK hP hS (ltX5 (Or.inl rfl)) (ceX5 (Or.inl rfl)) rfl) rfl rfl hl.1 rfl (lv_room (Nat.le_of_ble_eq_true rfl)) dX8_lets_160 ⟨Nat.le_of_ble_eq_true rfl, Nat.le_of_ble_eq_true rfl⟩) hS (fun H locs hP hS => ?_)
      refine lv_if_eq (tgt := 170) hx hb dX8_lets_163 (by decide) (fun c163 => ?_) (fun c163 => ?_)
      · replace hf := if_t c163 hf
        refine lv_iconst (v := 0) hx hb dX8_lets_170 (by decide) ?_
        exact r_iret hx hb hr hlocks hP hS (re2 (Option.some.inj hf)) dX8_lets_171
      · replace hf := if_f c163 hf
        refine lv_iconst (v := 1) hx hb dX8_lets_166 (by decide) ?_
        refine lv_goto (tgt := 171) hx hb dX8_lets_167 (by decide) ?_
        exact r_iret hx hb hr hlocks hP hS (re2 (Option.some.inj hf)) dX8_lets_171
def f_X8_lets_120 (x5 : Int32) (x6 : Int32) (h : PH) : Option (Int32 × PH) := f_X8_lets_121 x5 x6 0 h
set_option maxHeartbeats 4000000 in
set_option maxRecDepth 100000 in
theorem w_X8_lets_120 {l : Launch} {G : GC} (hG : GOK G) {rr : Int32} {hh : PH} {p : Program} {e : Env} {s : State} {m : MethodId} {args : Array Value} {below : List Frame} {meth : Method} {c : Code} (C : MC l G p s m args meth c RX8 cX8_lets 8 (some .int)) : ∀ (x5 : Int32) (x6 : Int32) (h : PH) (H : Heap) (locs : List Loc) (ls : Array Slot), lv_has ls 8 [(0, .ref (gB G 0)), (5, .int x5), (6, .int x6)] → WP G h H → SP G s H locs → f_X8_lets_120 x5 x6 h = some (rr, hh) → W p l e rmX8_lets s m args below meth c H locs 0 0 (MQ below (QI G rr hh) args s 0 0 (gA G)) (F0 m 120 ls []) := by
  obtain ⟨hx, hb, hr, hlocks, hml, hown, hts, hK⟩ := id C
  intro x5 x6 h H locs ls hl hP hS hf
  rw [f_X8_lets_120] at hf
  refine lv_iconst (v := 0) hx hb dX8_lets_120 (by decide) ?_
  exact w_X8_lets_121 hG C x5 x6 0 h _ _ _ (lv_sub hl [0, 1, 2] rfl) hP hS hf
def f_X8_lets (x1 : Int32) (x2 : Int32) (x3 : Int32) (h : PH) : Option (Int32 × PH) := bP (f_X0_hasLine 28 x1 h) (fun r5 h5 => if r5 = 0 then (some ((-1001), h5)) else (bP (f_X7_hasChange 4 x2 h5) (fun r16 h16 => if r16 = 0 then (some ((-1001), h16)) else (bO (f_X8_isDay x3) (fun r27 => if r27 = 0 then (some ((-1002), h16)) else (bP (f_X2_needsOf x1 x2 h16) (fun r43 h43 => if r43 = (-1) then (some ((-1003), h43)) else (lt' ((r43 ||| (1 <<< (x2 &&& 31)))) (fun x5_64 => bO (ag h43 30 4 x1) (fun v78 => bP (f_X7_faultsIn 4 v78 h43) (fun r79 h79 => bP (f_X7_removedBy 4 x5_64 h79) (fun r88 h88 => lt' ((r79 &&& r88)) (fun x6_92 => bP (f_X5_isFrozen 22 x3 h88) (fun r99 h99 => if r99 = 0 then (bP (f_X5_allowsLine 22 x1 h99) (fun r110 h110 => if r110 = 0 then (f_X8_lets_120 x5_64 x6_92 h110) else (f_X8_lets_121 x5_64 x6_92 1 h110))) else (f_X8_lets_120 x5_64 x6_92 h99)))))))))))))))
set_option maxHeartbeats 4000000 in
set_option maxRecDepth 100000 in
theorem k_X8_lets (l : Launch) {G : GC} (hG : GOK G) {x1 : Int32} {x2 : Int32} {x3 : Int32} {rr : Int32} {h hh : PH} (hf : f_X8_lets x1 x2 x3 h = some (rr, hh)) : CI l yX8_lets vX8_lets rmX8_lets G [.ref (gB G 0), .int x1, .int x2, .int x3] h rr hh := by
  refine Met.ofW (cc := cX8_lets) (maxL := 8) (ret := (some .int)) (by decide +kernel) rfl ?_
  intro p e s m args below meth c s₁ B hml hv
  obtain ⟨rfl, hP, hK⟩ := hv
  have C : MC l G p s m _ meth c RX8 cX8_lets 8 (some .int) := ⟨B.exec, B.bytes, B.returns, B.notSynchronized, hml, findClass_of_methodNamed B.named, fun w hw => atoms_spec (ws := vX8_lets) B.pre w (List.mem_cons_of_mem _ hw), hK⟩
  obtain ⟨hx, hb, hr, hlocks, -, hown, hts, -⟩ := id C
  have hl := lv_entry ([.ref (gB G 0), .int x1, .int x2, .int x3]) (n := 8) (Nat.le_of_ble_eq_true rfl)
  rw [lg_entry_eq]
  generalize (lg_sl ([.ref (gB G 0), .int x1, .int x2, .int x3]) ++ List.replicate (8 - (lg_sl ([.ref (gB G 0), .int x1, .int x2, .int x3])).length) Slot.unset).toArray = ls at hl ⊢
  have hl : lv_has ls 8 [(0, .ref (gB G 0)), (1, .int x1), (2, .int x2), (3, .int x3)] := hl
  have hS : SP G s s.heap [] := va_S.rf
  replace hP : WP G h s.heap := hP
  rw [f_X8_lets] at hf
  refine lv_aload_n hx hb dX8_lets_0 rfl (lv_at hl 0 rfl) ?_
  refine r_get (a := 0) (v := .ref (gB G 28)) (C := RX8) (T := TX8) (N := 14) hx hb hts hinX8 hown hK hP (ltX8 rfl) (ceX8 rfl) rfl 6 (by decide) wd368 rfl dX8_lets_1 ?_
  refine lv_iload_n hx hb dX8_lets_4 rfl (lv_at hl 1 rfl) ?_
  obtain ⟨r5, h5, er5, hf⟩ := bP_s hf
  refine r_callI (va_runV (As := [.int x1]) (rest := []) ⟨hx, hb, hml, hown, hts⟩ (k_X0_hasLine l hG 28 (Or.inl rfl) er5) (cwV 1 hts (gV wd684 wd685 wd686 wd78 wd687) rfl rfl rfl (by decide +kernel) ⟨Nat.le_of_ble_eq_true rfl, Nat.le_of_ble_eq_true rfl⟩) (r_pv hK hP hS (ltX0 (Or.inl rfl)) (ceX0 (Or.inl rfl)) rfl) rfl rfl hl.1 rfl (lv_room (Nat.le_of_ble_eq_true rfl)) dX8_lets_5 ⟨Nat.le_of_ble_eq_true rfl, Nat.le_of_ble_eq_true rfl⟩) hS (fun H locs hP hS => ?_)
  refine lv_if_eq (tgt := 22) hx hb dX8_lets_8 (by decide) (fun c8 => ?_) (fun c8 => ?_)
  · replace hf := if_t c8 hf
    refine lv_sipush (v := (-1001)) hx hb dX8_lets_22 (by decide) ?_
    exact r_iret hx hb hr hlocks hP hS (re2 (Option.some.inj hf)) dX8_lets_25
  · replace hf := if_f c8 hf
    refine lv_aload_n hx hb dX8_lets_11 rfl (lv_at hl 0 rfl) ?_
    refine r_get (a := 0) (v := .ref (gB G 4)) (C := RX8) (T := TX8) (N := 14) hx hb hts hinX8 hown hK hP (ltX8 rfl) (ceX8 rfl) rfl 2 (by decide) wd364 rfl dX8_lets_12 ?_
    refine lv_iload_n hx hb dX8_lets_15 rfl (lv_at hl 2 rfl) ?_
    obtain ⟨r16, h16, er16, hf⟩ := bP_s hf
    refine r_callI (va_runV (As := [.int x2]) (rest := []) ⟨hx, hb, hml, hown, hts⟩ (k_X7_hasChange l hG 4 (Or.inl rfl) er16) (cwV 1 hts (gV wd629 wd630 wd631 wd76 wd632) rfl rfl rfl (by decide +kernel) ⟨Nat.le_of_ble_eq_true rfl, Nat.le_of_ble_eq_true rfl⟩) (r_pv hK hP hS (ltX7 (Or.inl rfl)) (ceX7 (Or.inl rfl)) rfl) rfl rfl hl.1 rfl (lv_room (Nat.le_of_ble_eq_true rfl)) dX8_lets_16 ⟨Nat.le_of_ble_eq_true rfl, Nat.le_of_ble_eq_true rfl⟩) hS (fun H locs hP hS => ?_)
    refine lv_if_ne (tgt := 26) hx hb dX8_lets_19 (by decide) (fun c19 => ?_) (fun c19 => ?_)
    · replace hf := if_f c19 hf
      refine lv_iload_n hx hb dX8_lets_26 rfl (lv_at hl 3 rfl) ?_
      obtain ⟨r27, er27, hf⟩ := bO_s hf
      refine r_callI (va_runS (As := [.int x3]) (rest := []) ⟨hx, hb, hml, hown, hts⟩ (k_X8_isDay l hG (h := h16) er27) (va_cwS 1 hts (gS wd847 wd848 wd73 wd849) rfl rfl rfl (by decide +kernel) ⟨Nat.le_of_ble_eq_true rfl, Nat.le_of_ble_eq_true rfl⟩) (r_ps hK hP hS) rfl rfl hl.1 rfl (lv_room (Nat.le_of_ble_eq_true rfl)) dX8_lets_27 ⟨Nat.le_of_ble_eq_true rfl, Nat.le_of_ble_eq_true rfl⟩) hS (fun H locs hP hS => ?_)
      refine lv_if_ne (tgt := 37) hx hb dX8_lets_30 (by decide) (fun c30 => ?_) (fun c30 => ?_)
      · replace hf := if_f c30 hf
        refine lv_aload_n hx hb dX8_lets_37 rfl (lv_at hl 0 rfl) ?_
        refine r_get (a := 0) (v := .ref (gB G 55)) (C := RX8) (T := TX8) (N := 14) hx hb hts hinX8 hown hK hP (ltX8 rfl) (ceX8 rfl) rfl 9 (by decide) wd371 rfl dX8_lets_38 ?_
        refine lv_iload_n hx hb dX8_lets_41 rfl (lv_at hl 1 rfl) ?_
        refine lv_iload_n hx hb dX8_lets_42 rfl (lv_at hl 2 rfl) ?_
        obtain ⟨r43, h43, er43, hf⟩ := bP_s hf
        refine r_callI (va_runV (As := [.int x1, .int x2]) (rest := []) ⟨hx, hb, hml, hown, hts⟩ (k_X2_needsOf l hG er43) (cwV 2 hts (gV wd744 wd745 wd746 wd79 wd747) rfl rfl rfl (by decide +kernel) ⟨Nat.le_of_ble_eq_true rfl, Nat.le_of_ble_eq_true rfl⟩) (r_pv hK hP hS (ltX2 rfl) (ceX2 rfl) rfl) rfl rfl hl.1 rfl (lv_room (Nat.le_of_ble_eq_true rfl)) dX8_lets_43 ⟨Nat.le_of_ble_eq_true rfl, Nat.le_of_ble_eq_true rfl⟩) hS (fun H locs hP hS => ?_)
        refine lv_istore (lv' := [(4, .int r43), (0, .ref (gB G 0)), (1, .int x1), (2, .int x2), (3, .int x3)]) hx hb dX8_lets_46 hl (by decide) rfl (fun ls hl => ?_)
        refine lv_iload hx hb dX8_lets_48 (lv_at hl 0 rfl) ?_
        refine lv_iconst (v := (-1)) hx hb dX8_lets_50 (by decide) ?_
        refine lv_icmp_ne (tgt := 58) hx hb dX8_lets_51 (by decide) (fun c51 => ?_) (fun c51 => ?_)
        · replace hf := if_f c51 hf
          refine lv_iload hx hb dX8_lets_58 (lv_at hl 0 rfl) ?_
          refine lv_iconst (v := 1) hx hb dX8_lets_60 (by decide) ?_
          refine lv_iload_n hx hb dX8_lets_61 rfl (lv_at hl 3 rfl) ?_
          refine lv_ishl hx hb dX8_lets_62 ?_
          refine lv_ior hx hb dX8_lets_63 ?_
          refine lv_topi (fun x5_64 ex5_64 => ?_)
          replace hf := lt_at ex5_64 hf
          refine lv_istore (lv' := [(5, .int x5_64), (4, .int r43), (0, .ref (gB G 0)), (1, .int x1), (2, .int x2), (3, .int x3)]) hx hb dX8_lets_64 hl (by decide) rfl (fun ls hl => ?_)
          refine lv_aload_n hx hb dX8_lets_66 rfl (lv_at hl 2 rfl) ?_
          refine r_get (a := 0) (v := .ref (gB G 4)) (C := RX8) (T := TX8) (N := 14) hx hb hts hinX8 hown hK hP (ltX8 rfl) (ceX8 rfl) rfl 2 (by decide) wd364 rfl dX8_lets_67 ?_
          refine lv_aload_n hx hb dX8_lets_70 rfl (lv_at hl 2 rfl) ?_
          refine r_get (a := 0) (v := .ref (gB G 28)) (C := RX8) (T := TX8) (N := 14) hx hb hts hinX8 hown hK hP (ltX8 rfl) (ceX8 rfl) rfl 6 (by decide) wd368 rfl dX8_lets_71 ?_
          refine r_get (a := 28) (v := .ref (gB G 30)) (C := RX0) (T := TX0) (N := 10) hx hb hts hinX0 hown hK hP (ltX0 (Or.inl rfl)) (ceX0 (Or.inl rfl)) rfl 2 (by decide) wd242 rfl dX8_lets_74 ?_
          refine lv_iload_n hx hb dX8_lets_77 rfl (lv_at hl 3 rfl) ?_
          obtain ⟨v78, ev78, hf⟩ := bO_s hf
          refine r_iald hx hb hK hP (arX0_2 (Or.inl rfl)) ev78 dX8_lets_78 ?_
          obtain ⟨r79, h79, er79, hf⟩ := bP_s hf
          refine r_callI (va_runV (As := [.int v78]) (rest := []) ⟨hx, hb, hml, hown, hts⟩ (k_X7_faultsIn l hG 4 (Or.inl rfl) er79) (cwV 1 hts (gV wd688 wd689 wd690 wd76 wd691) rfl rfl rfl (by decide +kernel) ⟨Nat.le_of_ble_eq_true rfl, Nat.le_of_ble_eq_true rfl⟩) (r_pv hK hP hS (ltX7 (Or.inl rfl)) (ceX7 (Or.inl rfl)) rfl) rfl rfl hl.1 rfl (lv_room (Nat.le_of_ble_eq_true rfl)) dX8_lets_79 ⟨Nat.le_of_ble_eq_true rfl, Nat.le_of_ble_eq_true rfl⟩) hS (fun H locs hP hS => ?_)
          refine lv_aload_n hx hb dX8_lets_82 rfl (lv_at hl 2 rfl) ?_
          refine r_get (a := 0) (v := .ref (gB G 4)) (C := RX8) (T := TX8) (N := 14) hx hb hts hinX8 hown hK hP (ltX8 rfl) (ceX8 rfl) rfl 2 (by decide) wd364 rfl dX8_lets_83 ?_
          refine lv_iload hx hb dX8_lets_86 (lv_at hl 0 rfl) ?_
          obtain ⟨r88, h88, er88, hf⟩ := bP_s hf
          refine r_callI (va_runV (As := [.int x5_64]) (rest := [.int r79]) ⟨hx, hb, hml, hown, hts⟩ (k_X7_removedBy l hG 4 (Or.inl rfl) er88) (cwV 1 hts (gV wd994 wd642 wd643 wd76 wd644) rfl rfl rfl (by decide +kernel) ⟨Nat.le_of_ble_eq_true rfl, Nat.le_of_ble_eq_true rfl⟩) (r_pv hK hP hS (ltX7 (Or.inl rfl)) (ceX7 (Or.inl rfl)) rfl) rfl rfl hl.1 rfl (lv_room (Nat.le_of_ble_eq_true rfl)) dX8_lets_88 ⟨Nat.le_of_ble_eq_true rfl, Nat.le_of_ble_eq_true rfl⟩) hS (fun H locs hP hS => ?_)
          refine lv_iand hx hb dX8_lets_91 ?_
          refine lv_topi (fun x6_92 ex6_92 => ?_)
          replace hf := lt_at ex6_92 hf
          refine lv_istore (lv' := [(6, .int x6_92), (5, .int x5_64), (4, .int r43), (0, .ref (gB G 0)), (1, .int x1), (2, .int x2), (3, .int x3)]) hx hb dX8_lets_92 hl (by decide) rfl (fun ls hl => ?_)
          refine lv_aload_n hx hb dX8_lets_94 rfl (lv_at hl 3 rfl) ?_
          refine r_get (a := 0) (v := .ref (gB G 22)) (C := RX8) (T := TX8) (N := 14) hx hb hts hinX8 hown hK hP (ltX8 rfl) (ceX8 rfl) rfl 4 (by decide) wd366 rfl dX8_lets_95 ?_
          refine lv_iload_n hx hb dX8_lets_98 rfl (lv_at hl 6 rfl) ?_
          obtain ⟨r99, h99, er99, hf⟩ := bP_s hf
          refine r_callI (va_runV (As := [.int x3]) (rest := []) ⟨hx, hb, hml, hown, hts⟩ (k_X5_isFrozen l hG 22 (Or.inl rfl) er99) (cwV 1 hts (gV wd995 wd996 wd997 wd77 wd998) rfl rfl rfl (by decide +kernel) ⟨Nat.le_of_ble_eq_true rfl, Nat.le_of_ble_eq_true rfl⟩) (r_pv hK hP hS (ltX5 (Or.inl rfl)) (ceX5 (Or.inl rfl)) rfl) rfl rfl hl.1 rfl (lv_room (Nat.le_of_ble_eq_true rfl)) dX8_lets_99 ⟨Nat.le_of_ble_eq_true rfl, Nat.le_of_ble_eq_true rfl⟩) hS (fun H locs hP hS => ?_)
          refine lv_if_ne (tgt := 120) hx hb dX8_lets_102 (by decide) (fun c102 => ?_) (fun c102 => ?_)
          · replace hf := if_f c102 hf
            exact w_X8_lets_120 hG C x5_64 x6_92 h99 _ _ _ (lv_sub hl [3, 1, 0] rfl) hP hS hf
          · replace hf := if_t c102 hf
            refine lv_aload_n hx hb dX8_lets_105 rfl (lv_at hl 3 rfl) ?_
            refine r_get (a := 0) (v := .ref (gB G 22)) (C := RX8) (T := TX8) (N := 14) hx hb hts hinX8 hown hK hP (ltX8 rfl) (ceX8 rfl) rfl 4 (by decide) wd366 rfl dX8_lets_106 ?_
            refine lv_iload_n hx hb dX8_lets_109 rfl (lv_at hl 4 rfl) ?_
            obtain ⟨r110, h110, er110, hf⟩ := bP_s hf
            refine r_callI (va_runV (As := [.int x1]) (rest := []) ⟨hx, hb, hml, hown, hts⟩ (k_X5_allowsLine l hG 22 (Or.inl rfl) er110) (cwV 1 hts (gV wd999 wd1000 wd1001 wd77 wd1002) rfl rfl rfl (by decide +kernel) ⟨Nat.le_of_ble_eq_true rfl, Nat.le_of_ble_eq_true rfl⟩) (r_pv hK hP hS (ltX5 (Or.inl rfl)) (ceX5 (Or.inl rfl)) rfl) rfl rfl hl.1 rfl (lv_room (Nat.le_of_ble_eq_true rfl)) dX8_lets_110 ⟨Nat.le_of_ble_eq_true rfl, Nat.le_of_ble_eq_true rfl⟩) hS (fun H locs hP hS => ?_)
            refine lv_if_eq (tgt := 120) hx hb dX8_lets_113 (by decide) (fun c113 => ?_) (fun c113 => ?_)
            · replace hf := if_t c113 hf
              exact w_X8_lets_120 hG C x5_64 x6_92 h110 _ _ _ (lv_sub hl [3, 1, 0] rfl) hP hS hf
            · replace hf := if_f c113 hf
              refine lv_iconst (v := 1) hx hb dX8_lets_116 (by decide) ?_
              refine lv_goto (tgt := 121) hx hb dX8_lets_117 (by decide) ?_
              exact w_X8_lets_121 hG C x5_64 x6_92 1 h110 _ _ _ (lv_sub hl [3, 1, 0] rfl) hP hS hf
        · replace hf := if_t c51 hf
          refine lv_sipush (v := (-1003)) hx hb dX8_lets_54 (by decide) ?_
          exact r_iret hx hb hr hlocks hP hS (re2 (Option.some.inj hf)) dX8_lets_57
      · replace hf := if_t c30 hf
        refine lv_sipush (v := (-1002)) hx hb dX8_lets_33 (by decide) ?_
        exact r_iret hx hb hr hlocks hP hS (re2 (Option.some.inj hf)) dX8_lets_36
    · replace hf := if_t c19 hf
      refine lv_sipush (v := (-1001)) hx hb dX8_lets_22 (by decide) ?_
      exact r_iret hx hb hr hlocks hP hS (re2 (Option.some.inj hf)) dX8_lets_25
/-! CarriedBack.imageOf(I)LCarriedBack$Book; -/
abbrev rmX8_imageOf : Room := { frames := 0, cells := 0, slots := 0, locals := 0 }
abbrev vX8_imageOf : List Cond := Cond.code yX8_imageOf cX8_imageOf 2 (some (.object "CarriedBack$Book")) :: GW
def f_X8_imageOf (x1 : Int32) (h : PH) : Option (Nat × PH) := if x1 = 0 then (some (37, h)) else (some (46, h))
set_option maxHeartbeats 4000000 in
set_option maxRecDepth 100000 in
theorem k_X8_imageOf (l : Launch) {G : GC} (hG : GOK G) {x1 : Int32} {rr : Nat} {h hh : PH} (hf : f_X8_imageOf x1 h = some (rr, hh)) : CR l yX8_imageOf vX8_imageOf rmX8_imageOf G [.ref (gB G 0), .int x1] h rr hh := by
  refine Met.ofW (cc := cX8_imageOf) (maxL := 2) (ret := (some (.object "CarriedBack$Book"))) (by decide +kernel) rfl ?_
  intro p e s m args below meth c s₁ B hml hv
  obtain ⟨rfl, hP, hK⟩ := hv
  have C : MC l G p s m _ meth c RX8 cX8_imageOf 2 (some (.object "CarriedBack$Book")) := ⟨B.exec, B.bytes, B.returns, B.notSynchronized, hml, findClass_of_methodNamed B.named, fun w hw => atoms_spec (ws := vX8_imageOf) B.pre w (List.mem_cons_of_mem _ hw), hK⟩
  obtain ⟨hx, hb, hr, hlocks, -, hown, hts, -⟩ := id C
  have hl := lv_entry ([.ref (gB G 0), .int x1]) (n := 2) (Nat.le_of_ble_eq_true rfl)
  rw [lg_entry_eq]
  generalize (lg_sl ([.ref (gB G 0), .int x1]) ++ List.replicate (2 - (lg_sl ([.ref (gB G 0), .int x1])).length) Slot.unset).toArray = ls at hl ⊢
  have hl : lv_has ls 2 [(0, .ref (gB G 0)), (1, .int x1)] := hl
  have hS : SP G s s.heap [] := va_S.rf
  replace hP : WP G h s.heap := hP
  rw [f_X8_imageOf] at hf
  refine lv_iload_n hx hb dX8_imageOf_0 rfl (lv_at hl 1 rfl) ?_
  refine lv_if_ne (tgt := 11) hx hb dX8_imageOf_1 (by decide) (fun c1 => ?_) (fun c1 => ?_)
  · replace hf := if_f c1 hf
    refine lv_aload_n hx hb dX8_imageOf_11 rfl (lv_at hl 0 rfl) ?_
    refine r_get (a := 0) (v := .ref (gB G 46)) (C := RX8) (T := TX8) (N := 14) hx hb hts hinX8 hown hK hP (ltX8 rfl) (ceX8 rfl) rfl 8 (by decide) wd370 rfl dX8_imageOf_12 ?_
    exact r_aret hx hb hr hlocks hP hS (re2 (Option.some.inj hf)) dX8_imageOf_15
  · replace hf := if_t c1 hf
    refine lv_aload_n hx hb dX8_imageOf_4 rfl (lv_at hl 0 rfl) ?_
    refine r_get (a := 0) (v := .ref (gB G 37)) (C := RX8) (T := TX8) (N := 14) hx hb hts hinX8 hown hK hP (ltX8 rfl) (ceX8 rfl) rfl 7 (by decide) wd369 rfl dX8_imageOf_5 ?_
    refine lv_goto (tgt := 15) hx hb dX8_imageOf_8 (by decide) ?_
    exact r_aret hx hb hr hlocks hP hS (re2 (Option.some.inj hf)) dX8_imageOf_15
theorem kdr_X8_imageOf {x1 : Int32} {h hh : PH} {r : Nat} (e : f_X8_imageOf x1 h = some (r, hh)) : kdX0 r := by
  rw [f_X8_imageOf] at e
  split at e <;> (have e2 := Option.some.inj e; cases e2; first | exact Or.inr (Or.inl rfl) | exact Or.inr (Or.inr rfl))
/-! CarriedBack$Book.become(LCarriedBack$Book;)V -/
abbrev rmX0_become : Room := { frames := 1, cells := 0, slots := 0, locals := 30 }
abbrev vX0_become : List Cond := Cond.code yX0_become cX0_become 2 none :: GW
def f_X0_become (a0 : Nat) (a1 : Nat) (h : PH) : Option PH := lt' (hU h a0 0 (h.1 a1 0)) (fun h5 => bO (cpy h5 (a1 + 1) 4 0 (a0 + 1) 4 0 4) (fun h19 => bO (cpy h19 (a1 + 2) 4 0 (a0 + 2) 4 0 4) (fun h33 => bO (cpy h33 (a1 + 3) 4 0 (a0 + 3) 4 0 4) (fun h47 => bO (cpy h47 (a1 + 4) 64 0 (a0 + 4) 64 0 64) (fun h62 => lt' (hU h62 a0 5 (h62.1 a1 5)) (fun h70 => bO (cpy h70 (a1 + 5) 20 0 (a0 + 5) 20 0 20) (fun h85 => bO (cpy h85 (a1 + 6) 20 0 (a0 + 6) 20 0 20) (fun h100 => bO (cpy h100 (a1 + 7) 20 0 (a0 + 7) 20 0 20) (fun h115 => bO (cpy h115 (a1 + 8) 320 0 (a0 + 8) 320 0 320) (fun h131 => some h131))))))))))
set_option maxHeartbeats 4000000 in
set_option maxRecDepth 100000 in
theorem k_X0_become (l : Launch) {G : GC} (hG : GOK G) (a0 : Nat) (ha0 : kdX0 a0) (a1 : Nat) (ha1 : kdX0 a1) {h hh : PH} (hf : f_X0_become a0 a1 h = some hh) : CV l yX0_become vX0_become rmX0_become G [.ref (gB G a0), .ref (gB G a1)] h hh := by
  refine Met.ofW (cc := cX0_become) (maxL := 2) (ret := none) (by decide +kernel) rfl ?_
  intro p e s m args below meth c s₁ B hml hv
  obtain ⟨rfl, hP, hK⟩ := hv
  have C : MC l G p s m _ meth c RX0 cX0_become 2 none := ⟨B.exec, B.bytes, B.returns, B.notSynchronized, hml, findClass_of_methodNamed B.named, fun w hw => atoms_spec (ws := vX0_become) B.pre w (List.mem_cons_of_mem _ hw), hK⟩
  obtain ⟨hx, hb, hr, hlocks, -, hown, hts, -⟩ := id C
  have hl := lv_entry ([.ref (gB G a0), .ref (gB G a1)]) (n := 2) (Nat.le_of_ble_eq_true rfl)
  rw [lg_entry_eq]
  generalize (lg_sl ([.ref (gB G a0), .ref (gB G a1)]) ++ List.replicate (2 - (lg_sl ([.ref (gB G a0), .ref (gB G a1)])).length) Slot.unset).toArray = ls at hl ⊢
  have hl : lv_has ls 2 [(0, .ref (gB G a0)), (1, .ref (gB G a1))] := hl
  have hS : SP G s s.heap [] := va_S.rf
  replace hP : WP G h s.heap := hP
  rw [f_X0_become] at hf
  refine lv_aload_n hx hb dX0_become_0 rfl (lv_at hl 0 rfl) ?_
  refine lv_aload_n hx hb dX0_become_1 rfl (lv_at hl 1 rfl) ?_
  refine r_get (a := a1) (v := .int (h.1 a1 0)) (C := RX0) (T := TX0) (N := 10) hx hb hts hinX0 hown hK hP (ltX0 ha1) (ceX0 ha1) rfl 0 (by decide) wd235 rfl dX0_become_2 ?_
  obtain ⟨h5, eh5⟩ : ∃ y, y = hU h a0 0 (h.1 a1 0) := ⟨_, rfl⟩
  replace hf := lt_at eh5 hf
  refine r_put (a := a0) (v := .int (h.1 a1 0)) (ty := .int) (h' := h5) (C := RX0) (T := TX0) (N := 10) hG hx hb hts hinX0 tyX0 tyX0_ok nmX0 hown hK hP hS (ltX0 ha0) (ceX0 ha0) rfl 0 (by decide) wd235 rfl (by decide +kernel) rfl rfl (Nat.le_of_ble_eq_true rfl) (by rw [eh5]; exact fun j hj => cE_U hj) (by rw [eh5]; exact puX0_0 ha0 _) dX0_become_5 (fun H locs hP hS => ?_)
  refine lv_aload_n hx hb dX0_become_8 rfl (lv_at hl 1 rfl) ?_
  refine r_get (a := a1) (v := .ref (gB G (a1 + 1))) (C := RX0) (T := TX0) (N := 10) hx hb hts hinX0 hown hK hP (ltX0 ha1) (ceX0 ha1) rfl 1 (by decide) wd237 rfl dX0_become_9 ?_
  refine lv_iconst (v := 0) hx hb dX0_become_12 (by decide) ?_
  refine lv_aload_n hx hb dX0_become_13 rfl (lv_at hl 0 rfl) ?_
  refine r_get (a := a0) (v := .ref (gB G (a0 + 1))) (C := RX0) (T := TX0) (N := 10) hx hb hts hinX0 hown hK hP (ltX0 ha0) (ceX0 ha0) rfl 1 (by decide) wd237 rfl dX0_become_14 ?_
  refine lv_iconst (v := 0) hx hb dX0_become_17 (by decide) ?_
  refine lv_iconst (v := 4) hx hb dX0_become_18 (by decide) ?_
  obtain ⟨h19, eh19, hf⟩ := bO_s hf
  refine r_cpy hG hx hb (by rw [hml]; exact hl.1.symm) hown hts wd679 wd553 wd552 wd87 hK hP hS (arX0_1 ha1) (arX0_1 ha0) eh19 (Nat.le_of_ble_eq_true rfl) (Nat.le_of_ble_eq_true rfl) dX0_become_19 (fun H locs hP hS => ?_)
  refine lv_aload_n hx hb dX0_become_22 rfl (lv_at hl 1 rfl) ?_
  refine r_get (a := a1) (v := .ref (gB G (a1 + 2))) (C := RX0) (T := TX0) (N := 10) hx hb hts hinX0 hown hK hP (ltX0 ha1) (ceX0 ha1) rfl 2 (by decide) wd239 rfl dX0_become_23 ?_
  refine lv_iconst (v := 0) hx hb dX0_become_26 (by decide) ?_
  refine lv_aload_n hx hb dX0_become_27 rfl (lv_at hl 0 rfl) ?_
  refine r_get (a := a0) (v := .ref (gB G (a0 + 2))) (C := RX0) (T := TX0) (N := 10) hx hb hts hinX0 hown hK hP (ltX0 ha0) (ceX0 ha0) rfl 2 (by decide) wd239 rfl dX0_become_28 ?_
  refine lv_iconst (v := 0) hx hb dX0_become_31 (by decide) ?_
  refine lv_iconst (v := 4) hx hb dX0_become_32 (by decide) ?_
  obtain ⟨h33, eh33, hf⟩ := bO_s hf
  refine r_cpy hG hx hb (by rw [hml]; exact hl.1.symm) hown hts wd679 wd553 wd552 wd87 hK hP hS (arX0_2 ha1) (arX0_2 ha0) eh33 (Nat.le_of_ble_eq_true rfl) (Nat.le_of_ble_eq_true rfl) dX0_become_33 (fun H locs hP hS => ?_)
  refine lv_aload_n hx hb dX0_become_36 rfl (lv_at hl 1 rfl) ?_
  refine r_get (a := a1) (v := .ref (gB G (a1 + 3))) (C := RX0) (T := TX0) (N := 10) hx hb hts hinX0 hown hK hP (ltX0 ha1) (ceX0 ha1) rfl 3 (by decide) wd243 rfl dX0_become_37 ?_
  refine lv_iconst (v := 0) hx hb dX0_become_40 (by decide) ?_
  refine lv_aload_n hx hb dX0_become_41 rfl (lv_at hl 0 rfl) ?_
  refine r_get (a := a0) (v := .ref (gB G (a0 + 3))) (C := RX0) (T := TX0) (N := 10) hx hb hts hinX0 hown hK hP (ltX0 ha0) (ceX0 ha0) rfl 3 (by decide) wd243 rfl dX0_become_42 ?_
  refine lv_iconst (v := 0) hx hb dX0_become_45 (by decide) ?_
  refine lv_iconst (v := 4) hx hb dX0_become_46 (by decide) ?_
  obtain ⟨h47, eh47, hf⟩ := bO_s hf
  refine r_cpy hG hx hb (by rw [hml]; exact hl.1.symm) hown hts wd679 wd553 wd552 wd87 hK hP hS (arX0_3 ha1) (arX0_3 ha0) eh47 (Nat.le_of_ble_eq_true rfl) (Nat.le_of_ble_eq_true rfl) dX0_become_47 (fun H locs hP hS => ?_)
  refine lv_aload_n hx hb dX0_become_50 rfl (lv_at hl 1 rfl) ?_
  refine r_get (a := a1) (v := .ref (gB G (a1 + 4))) (C := RX0) (T := TX0) (N := 10) hx hb hts hinX0 hown hK hP (ltX0 ha1) (ceX0 ha1) rfl 4 (by decide) wd245 rfl dX0_become_51 ?_
  refine lv_iconst (v := 0) hx hb dX0_become_54 (by decide) ?_
  refine lv_aload_n hx hb dX0_become_55 rfl (lv_at hl 0 rfl) ?_
  refine r_get (a := a0) (v := .ref (gB G (a0 + 4))) (C := RX0) (T := TX0) (N := 10) hx hb hts hinX0 hown hK hP (ltX0 ha0) (ceX0 ha0) rfl 4 (by decide) wd245 rfl dX0_become_56 ?_
  refine lv_iconst (v := 0) hx hb dX0_become_59 (by decide) ?_
  refine lv_bipush (v := 64) hx hb dX0_become_60 (by decide) ?_
  obtain ⟨h62, eh62, hf⟩ := bO_s hf
  refine r_cpy hG hx hb (by rw [hml]; exact hl.1.symm) hown hts wd679 wd553 wd552 wd87 hK hP hS (arX0_4 ha1) (arX0_4 ha0) eh62 (Nat.le_of_ble_eq_true rfl) (Nat.le_of_ble_eq_true rfl) dX0_become_62 (fun H locs hP hS => ?_)
  refine lv_aload_n hx hb dX0_become_65 rfl (lv_at hl 0 rfl) ?_
  refine lv_aload_n hx hb dX0_become_66 rfl (lv_at hl 1 rfl) ?_
  refine r_get (a := a1) (v := .int (h62.1 a1 5)) (C := RX0) (T := TX0) (N := 10) hx hb hts hinX0 hown hK hP (ltX0 ha1) (ceX0 ha1) rfl 5 (by decide) wd248 rfl dX0_become_67 ?_
  obtain ⟨h70, eh70⟩ : ∃ y, y = hU h62 a0 5 (h62.1 a1 5) := ⟨_, rfl⟩
  replace hf := lt_at eh70 hf
  refine r_put (a := a0) (v := .int (h62.1 a1 5)) (ty := .int) (h' := h70) (C := RX0) (T := TX0) (N := 10) hG hx hb hts hinX0 tyX0 tyX0_ok nmX0 hown hK hP hS (ltX0 ha0) (ceX0 ha0) rfl 5 (by decide) wd248 rfl (by decide +kernel) rfl rfl (Nat.le_of_ble_eq_true rfl) (by rw [eh70]; exact fun j hj => cE_U hj) (by rw [eh70]; exact puX0_5 ha0 _) dX0_become_70 (fun H locs hP hS => ?_)
  refine lv_aload_n hx hb dX0_become_73 rfl (lv_at hl 1 rfl) ?_
  refine r_get (a := a1) (v := .ref (gB G (a1 + 5))) (C := RX0) (T := TX0) (N := 10) hx hb hts hinX0 hown hK hP (ltX0 ha1) (ceX0 ha1) rfl 6 (by decide) wd250 rfl dX0_become_74 ?_
  refine lv_iconst (v := 0) hx hb dX0_become_77 (by decide) ?_
  refine lv_aload_n hx hb dX0_become_78 rfl (lv_at hl 0 rfl) ?_
  refine r_get (a := a0) (v := .ref (gB G (a0 + 5))) (C := RX0) (T := TX0) (N := 10) hx hb hts hinX0 hown hK hP (ltX0 ha0) (ceX0 ha0) rfl 6 (by decide) wd250 rfl dX0_become_79 ?_
  refine lv_iconst (v := 0) hx hb dX0_become_82 (by decide) ?_
  refine lv_bipush (v := 20) hx hb dX0_become_83 (by decide) ?_
  obtain ⟨h85, eh85, hf⟩ := bO_s hf
  refine r_cpy hG hx hb (by rw [hml]; exact hl.1.symm) hown hts wd679 wd553 wd552 wd87 hK hP hS (arX0_6 ha1) (arX0_6 ha0) eh85 (Nat.le_of_ble_eq_true rfl) (Nat.le_of_ble_eq_true rfl) dX0_become_85 (fun H locs hP hS => ?_)
  refine lv_aload_n hx hb dX0_become_88 rfl (lv_at hl 1 rfl) ?_
  refine r_get (a := a1) (v := .ref (gB G (a1 + 6))) (C := RX0) (T := TX0) (N := 10) hx hb hts hinX0 hown hK hP (ltX0 ha1) (ceX0 ha1) rfl 7 (by decide) wd252 rfl dX0_become_89 ?_
  refine lv_iconst (v := 0) hx hb dX0_become_92 (by decide) ?_
  refine lv_aload_n hx hb dX0_become_93 rfl (lv_at hl 0 rfl) ?_
  refine r_get (a := a0) (v := .ref (gB G (a0 + 6))) (C := RX0) (T := TX0) (N := 10) hx hb hts hinX0 hown hK hP (ltX0 ha0) (ceX0 ha0) rfl 7 (by decide) wd252 rfl dX0_become_94 ?_
  refine lv_iconst (v := 0) hx hb dX0_become_97 (by decide) ?_
  refine lv_bipush (v := 20) hx hb dX0_become_98 (by decide) ?_
  obtain ⟨h100, eh100, hf⟩ := bO_s hf
  refine r_cpy hG hx hb (by rw [hml]; exact hl.1.symm) hown hts wd679 wd553 wd552 wd87 hK hP hS (arX0_7 ha1) (arX0_7 ha0) eh100 (Nat.le_of_ble_eq_true rfl) (Nat.le_of_ble_eq_true rfl) dX0_become_100 (fun H locs hP hS => ?_)
  refine lv_aload_n hx hb dX0_become_103 rfl (lv_at hl 1 rfl) ?_
  refine r_get (a := a1) (v := .ref (gB G (a1 + 7))) (C := RX0) (T := TX0) (N := 10) hx hb hts hinX0 hown hK hP (ltX0 ha1) (ceX0 ha1) rfl 8 (by decide) wd254 rfl dX0_become_104 ?_
  refine lv_iconst (v := 0) hx hb dX0_become_107 (by decide) ?_
  refine lv_aload_n hx hb dX0_become_108 rfl (lv_at hl 0 rfl) ?_
  refine r_get (a := a0) (v := .ref (gB G (a0 + 7))) (C := RX0) (T := TX0) (N := 10) hx hb hts hinX0 hown hK hP (ltX0 ha0) (ceX0 ha0) rfl 8 (by decide) wd254 rfl dX0_become_109 ?_
  refine lv_iconst (v := 0) hx hb dX0_become_112 (by decide) ?_
  refine lv_bipush (v := 20) hx hb dX0_become_113 (by decide) ?_
  obtain ⟨h115, eh115, hf⟩ := bO_s hf
  refine r_cpy hG hx hb (by rw [hml]; exact hl.1.symm) hown hts wd679 wd553 wd552 wd87 hK hP hS (arX0_8 ha1) (arX0_8 ha0) eh115 (Nat.le_of_ble_eq_true rfl) (Nat.le_of_ble_eq_true rfl) dX0_become_115 (fun H locs hP hS => ?_)
  refine lv_aload_n hx hb dX0_become_118 rfl (lv_at hl 1 rfl) ?_
  refine r_get (a := a1) (v := .ref (gB G (a1 + 8))) (C := RX0) (T := TX0) (N := 10) hx hb hts hinX0 hown hK hP (ltX0 ha1) (ceX0 ha1) rfl 9 (by decide) wd256 rfl dX0_become_119 ?_
  refine lv_iconst (v := 0) hx hb dX0_become_122 (by decide) ?_
  refine lv_aload_n hx hb dX0_become_123 rfl (lv_at hl 0 rfl) ?_
  refine r_get (a := a0) (v := .ref (gB G (a0 + 8))) (C := RX0) (T := TX0) (N := 10) hx hb hts hinX0 hown hK hP (ltX0 ha0) (ceX0 ha0) rfl 9 (by decide) wd256 rfl dX0_become_124 ?_
  refine lv_iconst (v := 0) hx hb dX0_become_127 (by decide) ?_
  refine lv_sipush (v := 320) hx hb dX0_become_128 (by decide) ?_
  obtain ⟨h131, eh131, hf⟩ := bO_s hf
  refine r_cpy hG hx hb (by rw [hml]; exact hl.1.symm) hown hts wd679 wd553 wd552 wd87 hK hP hS (arX0_9 ha1) (arX0_9 ha0) eh131 (Nat.le_of_ble_eq_true rfl) (Nat.le_of_ble_eq_true rfl) dX0_become_131 (fun H locs hP hS => ?_)
  exact r_vret hx hb hr hlocks hP hS (Option.some.inj hf) dX0_become_134
/-! CarriedBack.keep(I)I -/
abbrev rmX8_keep : Room := { frames := 2, cells := 0, slots := 0, locals := 51 }
abbrev vX8_keep : List Cond := Cond.code yX8_keep cX8_keep 2 (some .int) :: GW
def f_X8_keep (x1 : Int32) (h : PH) : Option (Int32 × PH) := if x1 < 0 then (some ((-1001), h)) else (if x1 < 2 then (bP (f_X8_imageOf x1 h) (fun r15 h15 => bO (f_X0_become r15 28 h15) (fun h22 => lt' (hU h22 0 12 ((h22.1 0 12) ||| (1 <<< (x1 &&& 31)))) (fun h34 => some (1, h34))))) else (some ((-1001), h)))
set_option maxHeartbeats 4000000 in
set_option maxRecDepth 100000 in
theorem k_X8_keep (l : Launch) {G : GC} (hG : GOK G) {x1 : Int32} {rr : Int32} {h hh : PH} (hf : f_X8_keep x1 h = some (rr, hh)) : CI l yX8_keep vX8_keep rmX8_keep G [.ref (gB G 0), .int x1] h rr hh := by
  refine Met.ofW (cc := cX8_keep) (maxL := 2) (ret := (some .int)) (by decide +kernel) rfl ?_
  intro p e s m args below meth c s₁ B hml hv
  obtain ⟨rfl, hP, hK⟩ := hv
  have C : MC l G p s m _ meth c RX8 cX8_keep 2 (some .int) := ⟨B.exec, B.bytes, B.returns, B.notSynchronized, hml, findClass_of_methodNamed B.named, fun w hw => atoms_spec (ws := vX8_keep) B.pre w (List.mem_cons_of_mem _ hw), hK⟩
  obtain ⟨hx, hb, hr, hlocks, -, hown, hts, -⟩ := id C
  have hl := lv_entry ([.ref (gB G 0), .int x1]) (n := 2) (Nat.le_of_ble_eq_true rfl)
  rw [lg_entry_eq]
  generalize (lg_sl ([.ref (gB G 0), .int x1]) ++ List.replicate (2 - (lg_sl ([.ref (gB G 0), .int x1])).length) Slot.unset).toArray = ls at hl ⊢
  have hl : lv_has ls 2 [(0, .ref (gB G 0)), (1, .int x1)] := hl
  have hS : SP G s s.heap [] := va_S.rf
  replace hP : WP G h s.heap := hP
  rw [f_X8_keep] at hf
  refine lv_iload_n hx hb dX8_keep_0 rfl (lv_at hl 1 rfl) ?_
  refine lv_if_lt (tgt := 9) hx hb dX8_keep_1 (by decide) (fun c1 => ?_) (fun c1 => ?_)
  · replace hf := if_t c1 hf
    refine lv_sipush (v := (-1001)) hx hb dX8_keep_9 (by decide) ?_
    exact r_iret hx hb hr hlocks hP hS (re2 (Option.some.inj hf)) dX8_keep_12
  · replace hf := if_f c1 hf
    refine lv_iload_n hx hb dX8_keep_4 rfl (lv_at hl 1 rfl) ?_
    refine lv_iconst (v := 2) hx hb dX8_keep_5 (by decide) ?_
    refine lv_icmp_lt (tgt := 13) hx hb dX8_keep_6 (by decide) (fun c6 => ?_) (fun c6 => ?_)
    · replace hf := if_t c6 hf
      refine lv_aload_n hx hb dX8_keep_13 rfl (lv_at hl 0 rfl) ?_
      refine lv_iload_n hx hb dX8_keep_14 rfl (lv_at hl 1 rfl) ?_
      obtain ⟨r15, h15, er15, hf⟩ := bP_s hf
      refine r_callR (va_runV (As := [.int x1]) (rest := []) ⟨hx, hb, hml, hown, hts⟩ (k_X8_imageOf l hG er15) (cwV 1 hts (gV wd1017 wd1019 wd26 wd73 wd1020) rfl rfl rfl (by decide +kernel) ⟨Nat.le_of_ble_eq_true rfl, Nat.le_of_ble_eq_true rfl⟩) (r_pv hK hP hS (ltX8 rfl) (ceX8 rfl) rfl) rfl rfl hl.1 rfl (lv_room (Nat.le_of_ble_eq_true rfl)) dX8_keep_15 ⟨Nat.le_of_ble_eq_true rfl, Nat.le_of_ble_eq_true rfl⟩) hS (fun H locs hP hS => ?_)
      have hkr15 := kdr_X8_imageOf er15
      refine lv_aload_n hx hb dX8_keep_18 rfl (lv_at hl 0 rfl) ?_
      refine r_get (a := 0) (v := .ref (gB G 28)) (C := RX8) (T := TX8) (N := 14) hx hb hts hinX8 hown hK hP (ltX8 rfl) (ceX8 rfl) rfl 6 (by decide) wd368 rfl dX8_keep_19 ?_
      obtain ⟨h22, eh22, hf⟩ := bO_s hf
      refine r_callV (va_runV (As := [.ref (gB G 28)]) (rest := []) ⟨hx, hb, hml, hown, hts⟩ (k_X0_become l hG r15 hkr15 28 (Or.inl rfl) eh22) (cwV 1 hts (gV wd1021 wd1022 wd1023 wd78 wd1024) rfl rfl rfl (by decide +kernel) ⟨Nat.le_of_ble_eq_true rfl, Nat.le_of_ble_eq_true rfl⟩) (r_pv hK hP hS (ltX0 hkr15) (ceX0 hkr15) rfl) rfl rfl hl.1 rfl (lv_room (Nat.le_of_ble_eq_true rfl)) dX8_keep_22 ⟨Nat.le_of_ble_eq_true rfl, Nat.le_of_ble_eq_true rfl⟩) hS (fun H locs hP hS => ?_)
      refine lv_aload_n hx hb dX8_keep_25 rfl (lv_at hl 0 rfl) ?_
      refine lv_dup hx hb dX8_keep_26 rfl ?_
      refine r_get (a := 0) (v := .int (h22.1 0 12)) (C := RX8) (T := TX8) (N := 14) hx hb hts hinX8 hown hK hP (ltX8 rfl) (ceX8 rfl) rfl 12 (by decide) wd374 rfl dX8_keep_27 ?_
      refine lv_iconst (v := 1) hx hb dX8_keep_30 (by decide) ?_
      refine lv_iload_n hx hb dX8_keep_31 rfl (lv_at hl 1 rfl) ?_
      refine lv_ishl hx hb dX8_keep_32 ?_
      refine lv_ior hx hb dX8_keep_33 ?_
      obtain ⟨h34, eh34⟩ : ∃ y, y = hU h22 0 12 ((h22.1 0 12) ||| (1 <<< (x1 &&& 31))) := ⟨_, rfl⟩
      replace hf := lt_at eh34 hf
      refine r_put (a := 0) (v := .int ((h22.1 0 12) ||| (1 <<< (x1 &&& 31)))) (ty := .int) (h' := h34) (C := RX8) (T := TX8) (N := 14) hG hx hb hts hinX8 tyX8 tyX8_ok nmX8 hown hK hP hS (ltX8 rfl) (ceX8 rfl) rfl 12 (by decide) wd374 rfl (by decide +kernel) rfl rfl (Nat.le_of_ble_eq_true rfl) (by rw [eh34]; exact fun j hj => cE_U hj) (by rw [eh34]; exact puX8_12 rfl _) dX8_keep_34 (fun H locs hP hS => ?_)
      refine lv_iconst (v := 1) hx hb dX8_keep_37 (by decide) ?_
      exact r_iret hx hb hr hlocks hP hS (re2 (Option.some.inj hf)) dX8_keep_38
    · replace hf := if_f c6 hf
      refine lv_sipush (v := (-1001)) hx hb dX8_keep_9 (by decide) ?_
      exact r_iret hx hb hr hlocks hP hS (re2 (Option.some.inj hf)) dX8_keep_12
/-! CarriedBack.goBack(I)I -/
abbrev rmX8_goBack : Room := { frames := 2, cells := 0, slots := 0, locals := 51 }
abbrev vX8_goBack : List Cond := Cond.code yX8_goBack cX8_goBack 2 (some .int) :: GW
def f_X8_goBack (x1 : Int32) (h : PH) : Option (Int32 × PH) := if x1 < 0 then (some ((-1001), h)) else (if x1 < 2 then (bO (f_X8_has (h.1 0 12) x1) (fun r18 => if r18 = 0 then (some ((-1003), h)) else (bP (f_X8_imageOf x1 h) (fun r34 h34 => bO (f_X0_become 28 r34 h34) (fun h37 => some (1, h37)))))) else (some ((-1001), h)))
set_option maxHeartbeats 4000000 in
set_option maxRecDepth 100000 in
theorem k_X8_goBack (l : Launch) {G : GC} (hG : GOK G) {x1 : Int32} {rr : Int32} {h hh : PH} (hf : f_X8_goBack x1 h = some (rr, hh)) : CI l yX8_goBack vX8_goBack rmX8_goBack G [.ref (gB G 0), .int x1] h rr hh := by
  refine Met.ofW (cc := cX8_goBack) (maxL := 2) (ret := (some .int)) (by decide +kernel) rfl ?_
  intro p e s m args below meth c s₁ B hml hv
  obtain ⟨rfl, hP, hK⟩ := hv
  have C : MC l G p s m _ meth c RX8 cX8_goBack 2 (some .int) := ⟨B.exec, B.bytes, B.returns, B.notSynchronized, hml, findClass_of_methodNamed B.named, fun w hw => atoms_spec (ws := vX8_goBack) B.pre w (List.mem_cons_of_mem _ hw), hK⟩
  obtain ⟨hx, hb, hr, hlocks, -, hown, hts, -⟩ := id C
  have hl := lv_entry ([.ref (gB G 0), .int x1]) (n := 2) (Nat.le_of_ble_eq_true rfl)
  rw [lg_entry_eq]
  generalize (lg_sl ([.ref (gB G 0), .int x1]) ++ List.replicate (2 - (lg_sl ([.ref (gB G 0), .int x1])).length) Slot.unset).toArray = ls at hl ⊢
  have hl : lv_has ls 2 [(0, .ref (gB G 0)), (1, .int x1)] := hl
  have hS : SP G s s.heap [] := va_S.rf
  replace hP : WP G h s.heap := hP
  rw [f_X8_goBack] at hf
  refine lv_iload_n hx hb dX8_goBack_0 rfl (lv_at hl 1 rfl) ?_
  refine lv_if_lt (tgt := 9) hx hb dX8_goBack_1 (by decide) (fun c1 => ?_) (fun c1 => ?_)
  · replace hf := if_t c1 hf
    refine lv_sipush (v := (-1001)) hx hb dX8_goBack_9 (by decide) ?_
    exact r_iret hx hb hr hlocks hP hS (re2 (Option.some.inj hf)) dX8_goBack_12
  · replace hf := if_f c1 hf
    refine lv_iload_n hx hb dX8_goBack_4 rfl (lv_at hl 1 rfl) ?_
    refine lv_iconst (v := 2) hx hb dX8_goBack_5 (by decide) ?_
    refine lv_icmp_lt (tgt := 13) hx hb dX8_goBack_6 (by decide) (fun c6 => ?_) (fun c6 => ?_)
    · replace hf := if_t c6 hf
      refine lv_aload_n hx hb dX8_goBack_13 rfl (lv_at hl 0 rfl) ?_
      refine r_get (a := 0) (v := .int (h.1 0 12)) (C := RX8) (T := TX8) (N := 14) hx hb hts hinX8 hown hK hP (ltX8 rfl) (ceX8 rfl) rfl 12 (by decide) wd374 rfl dX8_goBack_14 ?_
      refine lv_iload_n hx hb dX8_goBack_17 rfl (lv_at hl 1 rfl) ?_
      obtain ⟨r18, er18, hf⟩ := bO_s hf
      refine r_callI (va_runS (As := [.int (h.1 0 12), .int x1]) (rest := []) ⟨hx, hb, hml, hown, hts⟩ (k_X8_has l hG (h := h) er18) (va_cwS 2 hts (gS wd704 wd522 wd73 wd523) rfl rfl rfl (by decide +kernel) ⟨Nat.le_of_ble_eq_true rfl, Nat.le_of_ble_eq_true rfl⟩) (r_ps hK hP hS) rfl rfl hl.1 rfl (lv_room (Nat.le_of_ble_eq_true rfl)) dX8_goBack_18 ⟨Nat.le_of_ble_eq_true rfl, Nat.le_of_ble_eq_true rfl⟩) hS (fun H locs hP hS => ?_)
      refine lv_if_ne (tgt := 28) hx hb dX8_goBack_21 (by decide) (fun c21 => ?_) (fun c21 => ?_)
      · replace hf := if_f c21 hf
        refine lv_aload_n hx hb dX8_goBack_28 rfl (lv_at hl 0 rfl) ?_
        refine r_get (a := 0) (v := .ref (gB G 28)) (C := RX8) (T := TX8) (N := 14) hx hb hts hinX8 hown hK hP (ltX8 rfl) (ceX8 rfl) rfl 6 (by decide) wd368 rfl dX8_goBack_29 ?_
        refine lv_aload_n hx hb dX8_goBack_32 rfl (lv_at hl 0 rfl) ?_
        refine lv_iload_n hx hb dX8_goBack_33 rfl (lv_at hl 1 rfl) ?_
        obtain ⟨r34, h34, er34, hf⟩ := bP_s hf
        refine r_callR (va_runV (As := [.int x1]) (rest := [.ref (gB G 28)]) ⟨hx, hb, hml, hown, hts⟩ (k_X8_imageOf l hG er34) (cwV 1 hts (gV wd1017 wd1019 wd26 wd73 wd1020) rfl rfl rfl (by decide +kernel) ⟨Nat.le_of_ble_eq_true rfl, Nat.le_of_ble_eq_true rfl⟩) (r_pv hK hP hS (ltX8 rfl) (ceX8 rfl) rfl) rfl rfl hl.1 rfl (lv_room (Nat.le_of_ble_eq_true rfl)) dX8_goBack_34 ⟨Nat.le_of_ble_eq_true rfl, Nat.le_of_ble_eq_true rfl⟩) hS (fun H locs hP hS => ?_)
        have hkr34 := kdr_X8_imageOf er34
        obtain ⟨h37, eh37, hf⟩ := bO_s hf
        refine r_callV (va_runV (As := [.ref (gB G r34)]) (rest := []) ⟨hx, hb, hml, hown, hts⟩ (k_X0_become l hG 28 (Or.inl rfl) r34 hkr34 eh37) (cwV 1 hts (gV wd1021 wd1022 wd1023 wd78 wd1024) rfl rfl rfl (by decide +kernel) ⟨Nat.le_of_ble_eq_true rfl, Nat.le_of_ble_eq_true rfl⟩) (r_pv hK hP hS (ltX0 (Or.inl rfl)) (ceX0 (Or.inl rfl)) rfl) rfl rfl hl.1 rfl (lv_room (Nat.le_of_ble_eq_true rfl)) dX8_goBack_37 ⟨Nat.le_of_ble_eq_true rfl, Nat.le_of_ble_eq_true rfl⟩) hS (fun H locs hP hS => ?_)
        refine lv_iconst (v := 1) hx hb dX8_goBack_40 (by decide) ?_
        exact r_iret hx hb hr hlocks hP hS (re2 (Option.some.inj hf)) dX8_goBack_41
      · replace hf := if_t c21 hf
        refine lv_sipush (v := (-1003)) hx hb dX8_goBack_24 (by decide) ?_
        exact r_iret hx hb hr hlocks hP hS (re2 (Option.some.inj hf)) dX8_goBack_27
    · replace hf := if_f c6 hf
      refine lv_sipush (v := (-1001)) hx hb dX8_goBack_9 (by decide) ?_
      exact r_iret hx hb hr hlocks hP hS (re2 (Option.some.inj hf)) dX8_goBack_12
