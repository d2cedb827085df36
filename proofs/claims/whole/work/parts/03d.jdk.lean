def chT (w : Nat) (i : Int32) : Int32 := (((bytT.getD w []).getD i.toNatClampNeg 0 &&& 255).toUInt32 % 65536).toInt32
def f_J0_length_8abf5 (w : Nat) : Option Int32 := some (nI (lenT.getD w 0))
def f_J0_charAt_5068e (w : Nat) (i : Int32) : Option Int32 := if ib i (lenT.getD w 0) = true then some (chT w i) else none
theorem lenT_lt : ∀ w, w < 10 → lenT.getD w 0 < 100 := by decide
abbrev rmJ0_coder_7d493 : Room := { frames := 0, cells := 0, slots := 0, locals := 0 }
abbrev vJ0_coder_7d493 : List Cond := Cond.code yJ0_coder_7d493 cJ0_coder_7d493 1 (some .byte) :: GW
set_option maxHeartbeats 4000000 in
set_option maxRecDepth 100000 in
theorem k_J0_coder_7d493 (l : Launch) {G : GC} (hG : GOK G) (w : Nat) (hw : w < 10) {h : PH} : CI l yJ0_coder_7d493 vJ0_coder_7d493 rmJ0_coder_7d493 G [.ref (gk G w)] h 0 h := by
  refine Met.ofW (cc := cJ0_coder_7d493) (maxL := 1) (ret := (some .byte)) (by decide +kernel) rfl ?_
  intro p e s m args below meth c s₁ B hml hv
  obtain ⟨rfl, hP, hK⟩ := hv
  have hx := B.exec
  have hb := B.bytes
  have hr := B.returns
  have hlocks := B.notSynchronized
  have hown : s.vm.findClass RJ0 = some m.cls := findClass_of_methodNamed B.named
  have hts : ∀ w ∈ GW, w.before _ s = true := fun w hw => atoms_spec (ws := vJ0_coder_7d493) B.pre w (List.mem_cons_of_mem _ hw)
  have hl := lv_entry ([.ref (gk G w)]) (n := 1) (Nat.le_of_ble_eq_true rfl)
  rw [lg_entry_eq]
  generalize (lg_sl ([.ref (gk G w)]) ++ List.replicate (1 - (lg_sl ([.ref (gk G w)])).length) Slot.unset).toArray = ls at hl ⊢
  have hl : lv_has ls 1 [(0, .ref (gk G w))] := hl
  have hS : SP G s s.heap [] := va_S.rf
  replace hP : WP G h s.heap := hP
  refine va_gets (own := RJ0) (ref := "java/lang/String") hx hb hK.2.2.2.2.1 hS hown (hts _ wd449) (fun _ q => q) dJ0_coder_7d493_0 ?_
  refine lv_if_eq (tgt := 13) hx hb dJ0_coder_7d493_3 (by decide) (fun c3 => absurd c3 (by decide)) (fun c3 => ?_)
  refine lv_aload_n hx hb dJ0_coder_7d493_6 rfl (lv_at hl 0 rfl) ?_
  refine vk_getf (own := RJ0) (ref := "java/lang/String") hx hb (hK.2.2.1.1 w hw).2.1 hS hown (hts _ wd1579) (fun _ q => q) dJ0_coder_7d493_7 ?_
  refine lv_goto (tgt := 14) hx hb dJ0_coder_7d493_10 (by decide) ?_
  exact r_zret hx hb hr rfl hlocks hP hS ⟨rfl, rfl⟩ dJ0_coder_7d493_14
abbrev rmJ0_isLatin1_aae02 : Room := { frames := 0, cells := 0, slots := 0, locals := 0 }
abbrev vJ0_isLatin1_aae02 : List Cond := Cond.code yJ0_isLatin1_aae02 cJ0_isLatin1_aae02 1 (some .boolean) :: GW
set_option maxHeartbeats 4000000 in
set_option maxRecDepth 100000 in
theorem k_J0_isLatin1_aae02 (l : Launch) {G : GC} (hG : GOK G) (w : Nat) (hw : w < 10) {h : PH} : CI l yJ0_isLatin1_aae02 vJ0_isLatin1_aae02 rmJ0_isLatin1_aae02 G [.ref (gk G w)] h 1 h := by
  refine Met.ofW (cc := cJ0_isLatin1_aae02) (maxL := 1) (ret := (some .boolean)) (by decide +kernel) rfl ?_
  intro p e s m args below meth c s₁ B hml hv
  obtain ⟨rfl, hP, hK⟩ := hv
  have hx := B.exec
  have hb := B.bytes
  have hr := B.returns
  have hlocks := B.notSynchronized
  have hown : s.vm.findClass RJ0 = some m.cls := findClass_of_methodNamed B.named
  have hts : ∀ w ∈ GW, w.before _ s = true := fun w hw => atoms_spec (ws := vJ0_isLatin1_aae02) B.pre w (List.mem_cons_of_mem _ hw)
  have hl := lv_entry ([.ref (gk G w)]) (n := 1) (Nat.le_of_ble_eq_true rfl)
  rw [lg_entry_eq]
  generalize (lg_sl ([.ref (gk G w)]) ++ List.replicate (1 - (lg_sl ([.ref (gk G w)])).length) Slot.unset).toArray = ls at hl ⊢
  have hl : lv_has ls 1 [(0, .ref (gk G w))] := hl
  have hS : SP G s s.heap [] := va_S.rf
  replace hP : WP G h s.heap := hP
  refine va_gets (own := RJ0) (ref := "java/lang/String") hx hb hK.2.2.2.2.1 hS hown (hts _ wd449) (fun _ q => q) dJ0_isLatin1_aae02_0 ?_
  refine lv_if_eq (tgt := 17) hx hb dJ0_isLatin1_aae02_3 (by decide) (fun c3 => absurd c3 (by decide)) (fun c3 => ?_)
  refine lv_aload_n hx hb dJ0_isLatin1_aae02_6 rfl (lv_at hl 0 rfl) ?_
  refine vk_getf (own := RJ0) (ref := "java/lang/String") hx hb (hK.2.2.1.1 w hw).2.1 hS hown (hts _ wd1579) (fun _ q => q) dJ0_isLatin1_aae02_7 ?_
  refine lv_if_ne (tgt := 17) hx hb dJ0_isLatin1_aae02_10 (by decide) (fun c3 => absurd rfl c3) (fun c3 => ?_)
  refine lv_iconst (v := 1) hx hb dJ0_isLatin1_aae02_13 (by decide) ?_
  refine lv_goto (tgt := 18) hx hb dJ0_isLatin1_aae02_14 (by decide) ?_
  exact r_zret hx hb hr rfl hlocks hP hS ⟨rfl, rfl⟩ dJ0_isLatin1_aae02_18
abbrev rmJ0_length_8abf5 : Room := { frames := 1, cells := 0, slots := 0, locals := 20 }
abbrev vJ0_length_8abf5 : List Cond := Cond.code yJ0_length_8abf5 cJ0_length_8abf5 1 (some .int) :: GW
set_option maxHeartbeats 4000000 in
set_option maxRecDepth 100000 in
theorem kk_J0_length_8abf5 (l : Launch) {G : GC} (hG : GOK G) (w : Nat) (hw : w < 10) {h : PH} : CI l yJ0_length_8abf5 vJ0_length_8abf5 rmJ0_length_8abf5 G [.ref (gk G w)] h (nI (lenT.getD w 0)) h := by
  refine Met.ofW (cc := cJ0_length_8abf5) (maxL := 1) (ret := (some .int)) (by decide +kernel) rfl ?_
  intro p e s m args below meth c s₁ B hml hv
  obtain ⟨rfl, hP, hK⟩ := hv
  have hx := B.exec
  have hb := B.bytes
  have hr := B.returns
  have hlocks := B.notSynchronized
  have hown : s.vm.findClass RJ0 = some m.cls := findClass_of_methodNamed B.named
  have hts : ∀ w ∈ GW, w.before _ s = true := fun w hw => atoms_spec (ws := vJ0_length_8abf5) B.pre w (List.mem_cons_of_mem _ hw)
  have hl := lv_entry ([.ref (gk G w)]) (n := 1) (Nat.le_of_ble_eq_true rfl)
  rw [lg_entry_eq]
  generalize (lg_sl ([.ref (gk G w)]) ++ List.replicate (1 - (lg_sl ([.ref (gk G w)])).length) Slot.unset).toArray = ls at hl ⊢
  have hl : lv_has ls 1 [(0, .ref (gk G w))] := hl
  have hS : SP G s s.heap [] := va_S.rf
  replace hP : WP G h s.heap := hP
  refine lv_aload_n hx hb dJ0_length_8abf5_0 rfl (lv_at hl 0 rfl) ?_
  refine vk_getf (own := RJ0) (ref := "java/lang/String") hx hb (hK.2.2.1.1 w hw).2.2.1 hS hown (hts _ wd1578) (fun _ q => q) dJ0_length_8abf5_1 ?_
  refine va_tlen (v := nI (lenT.getD w 0)) hx hb (hK.2.2.1.1 w hw).2.2.2 hS rfl dJ0_length_8abf5_4 ?_
  refine lv_aload_n hx hb dJ0_length_8abf5_5 rfl (lv_at hl 0 rfl) ?_
  refine r_callI (va_runV (As := []) (rest := [.int (nI (lenT.getD w 0))]) ⟨hx, hb, hml, hown, hts⟩ (k_J0_coder_7d493 l hG w hw (h := h)) (cwV 0 hts (gV wd445 wd446 wd447 wd83 wd448) rfl rfl rfl (by decide +kernel) ⟨Nat.le_of_ble_eq_true rfl, Nat.le_of_ble_eq_true rfl⟩) (r_pvS hK hP hS hw) rfl rfl hl.1 rfl (lv_room (Nat.le_of_ble_eq_true rfl)) dJ0_length_8abf5_6 ⟨Nat.le_of_ble_eq_true rfl, Nat.le_of_ble_eq_true rfl⟩) hS (fun H locs hP hS => ?_)
  refine lv_ishr hx hb dJ0_length_8abf5_9 ?_
  exact r_iret hx hb hr hlocks hP hS ⟨sb_shr0 _, rfl⟩ dJ0_length_8abf5_10
theorem k_J0_length_8abf5 (l : Launch) {G : GC} (hG : GOK G) (w : Nat) (hw : w < 10) {h : PH} {rr : Int32} (hf : f_J0_length_8abf5 w = some rr) : CI l yJ0_length_8abf5 vJ0_length_8abf5 rmJ0_length_8abf5 G [.ref (gk G w)] h rr h := by
  have e := Option.some.inj hf
  subst e
  exact kk_J0_length_8abf5 l hG w hw
abbrev rmJ3_checkIndex_8e157 : Room := { frames := 0, cells := 0, slots := 0, locals := 0 }
abbrev vJ3_checkIndex_8e157 : List Cond := Cond.code yJ3_checkIndex_8e157 cJ3_checkIndex_8e157 3 (some .int) :: GW
set_option maxHeartbeats 4000000 in
set_option maxRecDepth 100000 in
theorem kn_J3_checkIndex_8e157 (l : Launch) {G : GC} (hG : GOK G) {x y : Int32} (h0 : ¬ x < 0) (h1 : x < y) {h : PH} : CI l yJ3_checkIndex_8e157 vJ3_checkIndex_8e157 rmJ3_checkIndex_8e157 G [.int x, .int y, .null] h x h := by
  refine Met.ofW (cc := cJ3_checkIndex_8e157) (maxL := 3) (ret := (some .int)) (by decide +kernel) rfl ?_
  intro p e s m args below meth c s₁ B hml hv
  obtain ⟨rfl, hP, hK⟩ := hv
  have hx := B.exec
  have hb := B.bytes
  have hr := B.returns
  have hlocks := B.notSynchronized
  have hown : s.vm.findClass RJ3 = some m.cls := findClass_of_methodNamed B.named
  have hts : ∀ w ∈ GW, w.before _ s = true := fun w hw => atoms_spec (ws := vJ3_checkIndex_8e157) B.pre w (List.mem_cons_of_mem _ hw)
  have hl := lv_entry ([.int x, .int y, .null]) (n := 3) (Nat.le_of_ble_eq_true rfl)
  rw [lg_entry_eq]
  generalize (lg_sl ([.int x, .int y, .null]) ++ List.replicate (3 - (lg_sl ([.int x, .int y, .null])).length) Slot.unset).toArray = ls at hl ⊢
  have hl : lv_has ls 3 [(0, .int x), (1, .int y), (2, .null)] := hl
  have hS : SP G s s.heap [] := va_S.rf
  replace hP : WP G h s.heap := hP
  refine lv_iload_n hx hb dJ3_checkIndex_8e157_0 rfl (lv_at hl 0 rfl) ?_
  refine lv_if_lt (tgt := 9) hx hb dJ3_checkIndex_8e157_1 (by decide) (fun c3 => absurd c3 h0) (fun c3 => ?_)
  refine lv_iload_n hx hb dJ3_checkIndex_8e157_4 rfl (lv_at hl 0 rfl) ?_
  refine lv_iload_n hx hb dJ3_checkIndex_8e157_5 rfl (lv_at hl 1 rfl) ?_
  refine lv_icmp_lt (tgt := 16) hx hb dJ3_checkIndex_8e157_6 (by decide) (fun c3 => ?_) (fun c3 => absurd h1 c3)
  refine lv_iload_n hx hb dJ3_checkIndex_8e157_16 rfl (lv_at hl 0 rfl) ?_
  exact r_iret hx hb hr hlocks hP hS ⟨rfl, rfl⟩ dJ3_checkIndex_8e157_17
set_option maxHeartbeats 4000000 in
set_option maxRecDepth 100000 in
theorem kr_J3_checkIndex_8e157 (l : Launch) {G : GC} (hG : GOK G) (t : Nat) {x y : Int32} (h0 : ¬ x < 0) (h1 : x < y) {h : PH} : CI l yJ3_checkIndex_8e157 vJ3_checkIndex_8e157 rmJ3_checkIndex_8e157 G [.int x, .int y, .ref t] h x h := by
  refine Met.ofW (cc := cJ3_checkIndex_8e157) (maxL := 3) (ret := (some .int)) (by decide +kernel) rfl ?_
  intro p e s m args below meth c s₁ B hml hv
  obtain ⟨rfl, hP, hK⟩ := hv
  have hx := B.exec
  have hb := B.bytes
  have hr := B.returns
  have hlocks := B.notSynchronized
  have hown : s.vm.findClass RJ3 = some m.cls := findClass_of_methodNamed B.named
  have hts : ∀ w ∈ GW, w.before _ s = true := fun w hw => atoms_spec (ws := vJ3_checkIndex_8e157) B.pre w (List.mem_cons_of_mem _ hw)
  have hl := lv_entry ([.int x, .int y, .ref t]) (n := 3) (Nat.le_of_ble_eq_true rfl)
  rw [lg_entry_eq]
  generalize (lg_sl ([.int x, .int y, .ref t]) ++ List.replicate (3 - (lg_sl ([.int x, .int y, .ref t])).length) Slot.unset).toArray = ls at hl ⊢
  have hl : lv_has ls 3 [(0, .int x), (1, .int y), (2, .ref t)] := hl
  have hS : SP G s s.heap [] := va_S.rf
  replace hP : WP G h s.heap := hP
  refine lv_iload_n hx hb dJ3_checkIndex_8e157_0 rfl (lv_at hl 0 rfl) ?_
  refine lv_if_lt (tgt := 9) hx hb dJ3_checkIndex_8e157_1 (by decide) (fun c3 => absurd c3 h0) (fun c3 => ?_)
  refine lv_iload_n hx hb dJ3_checkIndex_8e157_4 rfl (lv_at hl 0 rfl) ?_
  refine lv_iload_n hx hb dJ3_checkIndex_8e157_5 rfl (lv_at hl 1 rfl) ?_
  refine lv_icmp_lt (tgt := 16) hx hb dJ3_checkIndex_8e157_6 (by decide) (fun c3 => ?_) (fun c3 => absurd h1 c3)
  refine lv_iload_n hx hb dJ3_checkIndex_8e157_16 rfl (lv_at hl 0 rfl) ?_
  exact r_iret hx hb hr hlocks hP hS ⟨rfl, rfl⟩ dJ3_checkIndex_8e157_17
abbrev rmJ0_checkIndex_df160 : Room := { frames := 1, cells := 0, slots := 0, locals := 22 }
abbrev vJ0_checkIndex_df160 : List Cond := Cond.code yJ0_checkIndex_df160 cJ0_checkIndex_df160 2 none :: GW
set_option maxHeartbeats 4000000 in
set_option maxRecDepth 100000 in
theorem k_J0_checkIndex_df160 (l : Launch) {G : GC} (hG : GOK G) {x y : Int32} (h0 : ¬ x < 0) (h1 : x < y) {h : PH} : CV l yJ0_checkIndex_df160 vJ0_checkIndex_df160 rmJ0_checkIndex_df160 G [.int x, .int y] h h := by
  refine Met.ofW (cc := cJ0_checkIndex_df160) (maxL := 2) (ret := none) (by decide +kernel) rfl ?_
  intro p e s m args below meth c s₁ B hml hv
  obtain ⟨rfl, hP, hK⟩ := hv
  have hx := B.exec
  have hb := B.bytes
  have hr := B.returns
  have hlocks := B.notSynchronized
  have hown : s.vm.findClass RJ0 = some m.cls := findClass_of_methodNamed B.named
  have hts : ∀ w ∈ GW, w.before _ s = true := fun w hw => atoms_spec (ws := vJ0_checkIndex_df160) B.pre w (List.mem_cons_of_mem _ hw)
  have hl := lv_entry ([.int x, .int y]) (n := 2) (Nat.le_of_ble_eq_true rfl)
  rw [lg_entry_eq]
  generalize (lg_sl ([.int x, .int y]) ++ List.replicate (2 - (lg_sl ([.int x, .int y])).length) Slot.unset).toArray = ls at hl ⊢
  have hl : lv_has ls 2 [(0, .int x), (1, .int y)] := hl
  have hS : SP G s s.heap [] := va_S.rf
  replace hP : WP G h s.heap := hP
  refine lv_iload_n hx hb dJ0_checkIndex_df160_0 rfl (lv_at hl 0 rfl) ?_
  refine lv_iload_n hx hb dJ0_checkIndex_df160_1 rfl (lv_at hl 1 rfl) ?_
  rcases hK.2.2.2.2.2 with hz | ⟨t, hz⟩
  · refine va_gets (own := RJ0) (ref := "jdk/internal/util/Preconditions") hx hb hz hS hown (hts _ wd465) (fun _ q => q) dJ0_checkIndex_df160_2 ?_
    refine r_callI (va_runS (As := [.int x, .int y, .null]) (rest := []) ⟨hx, hb, hml, hown, hts⟩ (kn_J3_checkIndex_8e157 l hG h0 h1 (h := h)) (va_cwS 3 hts (gS wd467 wd468 wd85 wd469) rfl rfl rfl (by decide +kernel) ⟨Nat.le_of_ble_eq_true rfl, Nat.le_of_ble_eq_true rfl⟩) (r_ps hK hP hS) rfl rfl hl.1 rfl (lv_room (Nat.le_of_ble_eq_true rfl)) dJ0_checkIndex_df160_5 ⟨Nat.le_of_ble_eq_true rfl, Nat.le_of_ble_eq_true rfl⟩) hS (fun H locs hP hS => ?_)
    refine lv_pop hx hb dJ0_checkIndex_df160_8 rfl ?_
    exact r_vret hx hb hr hlocks hP hS rfl dJ0_checkIndex_df160_9
  · refine va_gets (own := RJ0) (ref := "jdk/internal/util/Preconditions") hx hb hz hS hown (hts _ wd465) (fun _ q => q) dJ0_checkIndex_df160_2 ?_
    refine r_callI (va_runS (As := [.int x, .int y, .ref t]) (rest := []) ⟨hx, hb, hml, hown, hts⟩ (kr_J3_checkIndex_8e157 l hG t h0 h1 (h := h)) (va_cwS 3 hts (gS wd467 wd468 wd85 wd469) rfl rfl rfl (by decide +kernel) ⟨Nat.le_of_ble_eq_true rfl, Nat.le_of_ble_eq_true rfl⟩) (r_ps hK hP hS) rfl rfl hl.1 rfl (lv_room (Nat.le_of_ble_eq_true rfl)) dJ0_checkIndex_df160_5 ⟨Nat.le_of_ble_eq_true rfl, Nat.le_of_ble_eq_true rfl⟩) hS (fun H locs hP hS => ?_)
    refine lv_pop hx hb dJ0_checkIndex_df160_8 rfl ?_
    exact r_vret hx hb hr hlocks hP hS rfl dJ0_checkIndex_df160_9
abbrev rmJ1_charAt_3b067 : Room := { frames := 2, cells := 0, slots := 0, locals := 43 }
abbrev vJ1_charAt_3b067 : List Cond := Cond.code yJ1_charAt_3b067 cJ1_charAt_3b067 2 (some .char) :: GW
set_option maxHeartbeats 4000000 in
set_option maxRecDepth 100000 in
theorem k_J1_charAt_3b067 (l : Launch) {G : GC} (hG : GOK G) (w : Nat) (hw : w < 10) {j : Nat} (hj : j < lenT.getD w 0) {h : PH} : CI l yJ1_charAt_3b067 vJ1_charAt_3b067 rmJ1_charAt_3b067 G [.ref (gv G w), .int (nI j)] h (chT w (nI j)) h := by
  refine Met.ofW (cc := cJ1_charAt_3b067) (maxL := 2) (ret := (some .char)) (by decide +kernel) rfl ?_
  intro p e s m args below meth c s₁ B hml hv
  obtain ⟨rfl, hP, hK⟩ := hv
  have hx := B.exec
  have hb := B.bytes
  have hr := B.returns
  have hlocks := B.notSynchronized
  have hown : s.vm.findClass RJ1 = some m.cls := findClass_of_methodNamed B.named
  have hts : ∀ w ∈ GW, w.before _ s = true := fun w hw => atoms_spec (ws := vJ1_charAt_3b067) B.pre w (List.mem_cons_of_mem _ hw)
  have hl := lv_entry ([.ref (gv G w), .int (nI j)]) (n := 2) (Nat.le_of_ble_eq_true rfl)
  rw [lg_entry_eq]
  generalize (lg_sl ([.ref (gv G w), .int (nI j)]) ++ List.replicate (2 - (lg_sl ([.ref (gv G w), .int (nI j)])).length) Slot.unset).toArray = ls at hl ⊢
  have hl : lv_has ls 2 [(0, .ref (gv G w)), (1, .int (nI j))] := hl
  have hS : SP G s s.heap [] := va_S.rf
  replace hP : WP G h s.heap := hP
  have hn := lenT_lt w hw
  refine lv_iload_n hx hb dJ1_charAt_3b067_0 rfl (lv_at hl 1 rfl) ?_
  refine lv_aload_n hx hb dJ1_charAt_3b067_1 rfl (lv_at hl 0 rfl) ?_
  refine va_tlen (v := nI (lenT.getD w 0)) hx hb (hK.2.2.1.1 w hw).2.2.2 hS rfl dJ1_charAt_3b067_2 ?_
  refine r_callV (va_runS (As := [.int (nI j), .int (nI (lenT.getD w 0))]) (rest := []) ⟨hx, hb, hml, hown, hts⟩ (k_J0_checkIndex_df160 l hG (h := h) (nI_pos (by omega)) (nI_lt hj (by omega))) (va_cwS 2 hts (gS wd462 wd463 wd83 wd464) rfl rfl rfl (by decide +kernel) ⟨Nat.le_of_ble_eq_true rfl, Nat.le_of_ble_eq_true rfl⟩) (r_ps hK hP hS) rfl rfl hl.1 rfl (lv_room (Nat.le_of_ble_eq_true rfl)) dJ1_charAt_3b067_3 ⟨Nat.le_of_ble_eq_true rfl, Nat.le_of_ble_eq_true rfl⟩) hS (fun H locs hP hS => ?_)
  refine lv_aload_n hx hb dJ1_charAt_3b067_6 rfl (lv_at hl 0 rfl) ?_
  refine lv_iload_n hx hb dJ1_charAt_3b067_7 rfl (lv_at hl 1 rfl) ?_
  refine va_tb (v := .int ((bytT.getD w []).getD (nI j).toNatClampNeg 0)) hx hb (hK.2.2.1.1 w hw).2.2.2 hS (vp_in_nI hj (by omega)) rfl dJ1_charAt_3b067_8 ?_
  refine lv_sipush (v := 255) hx hb dJ1_charAt_3b067_9 (by decide) ?_
  refine lv_iand hx hb dJ1_charAt_3b067_12 ?_
  refine lv_i2c hx hb dJ1_charAt_3b067_13 rfl ?_
  exact r_zret hx hb hr (pk_nc _) hlocks hP hS ⟨rfl, rfl⟩ dJ1_charAt_3b067_14
abbrev rmJ0_charAt_5068e : Room := { frames := 3, cells := 0, slots := 0, locals := 64 }
abbrev vJ0_charAt_5068e : List Cond := Cond.code yJ0_charAt_5068e cJ0_charAt_5068e 2 (some .char) :: GW
set_option maxHeartbeats 4000000 in
set_option maxRecDepth 100000 in
theorem kk_J0_charAt_5068e (l : Launch) {G : GC} (hG : GOK G) (w : Nat) (hw : w < 10) {j : Nat} (hj : j < lenT.getD w 0) {h : PH} : CI l yJ0_charAt_5068e vJ0_charAt_5068e rmJ0_charAt_5068e G [.ref (gk G w), .int (nI j)] h (chT w (nI j)) h := by
  refine Met.ofW (cc := cJ0_charAt_5068e) (maxL := 2) (ret := (some .char)) (by decide +kernel) rfl ?_
  intro p e s m args below meth c s₁ B hml hv
  obtain ⟨rfl, hP, hK⟩ := hv
  have hx := B.exec
  have hb := B.bytes
  have hr := B.returns
  have hlocks := B.notSynchronized
  have hown : s.vm.findClass RJ0 = some m.cls := findClass_of_methodNamed B.named
  have hts : ∀ w ∈ GW, w.before _ s = true := fun w hw => atoms_spec (ws := vJ0_charAt_5068e) B.pre w (List.mem_cons_of_mem _ hw)
  have hl := lv_entry ([.ref (gk G w), .int (nI j)]) (n := 2) (Nat.le_of_ble_eq_true rfl)
  rw [lg_entry_eq]
  generalize (lg_sl ([.ref (gk G w), .int (nI j)]) ++ List.replicate (2 - (lg_sl ([.ref (gk G w), .int (nI j)])).length) Slot.unset).toArray = ls at hl ⊢
  have hl : lv_has ls 2 [(0, .ref (gk G w)), (1, .int (nI j))] := hl
  have hS : SP G s s.heap [] := va_S.rf
  replace hP : WP G h s.heap := hP
  refine lv_aload_n hx hb dJ0_charAt_5068e_0 rfl (lv_at hl 0 rfl) ?_
  refine r_callI (va_runV (As := []) (rest := []) ⟨hx, hb, hml, hown, hts⟩ (k_J0_isLatin1_aae02 l hG w hw (h := h)) (cwV 0 hts (gV wd455 wd456 wd457 wd83 wd458) rfl rfl rfl (by decide +kernel) ⟨Nat.le_of_ble_eq_true rfl, Nat.le_of_ble_eq_true rfl⟩) (r_pvS hK hP hS hw) rfl rfl hl.1 rfl (lv_room (Nat.le_of_ble_eq_true rfl)) dJ0_charAt_5068e_1 ⟨Nat.le_of_ble_eq_true rfl, Nat.le_of_ble_eq_true rfl⟩) hS (fun H locs hP hS => ?_)
  refine lv_if_eq (tgt := 16) hx hb dJ0_charAt_5068e_4 (by decide) (fun c3 => absurd c3 (by decide)) (fun c3 => ?_)
  refine lv_aload_n hx hb dJ0_charAt_5068e_7 rfl (lv_at hl 0 rfl) ?_
  refine vk_getf (own := RJ0) (ref := "java/lang/String") hx hb (hK.2.2.1.1 w hw).2.2.1 hS hown (hts _ wd1578) (fun _ q => q) dJ0_charAt_5068e_8 ?_
  refine lv_iload_n hx hb dJ0_charAt_5068e_11 rfl (lv_at hl 1 rfl) ?_
  refine r_callI (va_runS (As := [.ref (gv G w), .int (nI j)]) (rest := []) ⟨hx, hb, hml, hown, hts⟩ (k_J1_charAt_3b067 l hG w hw hj (h := h)) (va_cwS 2 hts (gS wd459 wd460 wd84 wd461) rfl rfl rfl (by decide +kernel) ⟨Nat.le_of_ble_eq_true rfl, Nat.le_of_ble_eq_true rfl⟩) (r_ps hK hP hS) rfl rfl hl.1 rfl (lv_room (Nat.le_of_ble_eq_true rfl)) dJ0_charAt_5068e_12 ⟨Nat.le_of_ble_eq_true rfl, Nat.le_of_ble_eq_true rfl⟩) hS (fun H locs hP hS => ?_)
  exact r_zret hx hb hr (pk_nc _) hlocks hP hS ⟨rfl, rfl⟩ dJ0_charAt_5068e_15
theorem k_J0_charAt_5068e (l : Launch) {G : GC} (hG : GOK G) (w : Nat) (hw : w < 10) {x1 : Int32} {h : PH} {rr : Int32} (hf : f_J0_charAt_5068e w x1 = some rr) : CI l yJ0_charAt_5068e vJ0_charAt_5068e rmJ0_charAt_5068e G [.ref (gk G w), .int x1] h rr h := by
  unfold f_J0_charAt_5068e at hf
  by_cases hi : ib x1 (lenT.getD w 0) = true
  · rw [if_pos hi] at hf
    have e := Option.some.inj hf
    subst e
    obtain ⟨j, hj, rfl⟩ := vp_in_of (ib_in hi) (by have := lenT_lt w hw; omega)
    exact kk_J0_charAt_5068e l hG w hw hj
  · rw [if_neg hi] at hf; cases hf
