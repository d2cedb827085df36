/-! ===== orders, order ===== -/
def fw (S : SD) (l : Nat) (y : Int32) : Bool := decide (bin S.2.1 l &&& y = 0) && decide (pc y (tn S.1) ≤ 8)
theorem fw_8 {S : SD} {l : Nat} {y : Int32} (h : fw S l y = true) : pc y (tn S.1) ≤ 8 := by
  unfold fw at h
  rw [Bool.and_eq_true, decide_eq_true_eq, decide_eq_true_eq] at h
  exact h.2
theorem c_ref {S : SD} (w : wfS S) {l : Nat} (hl : l < bl S.2.1) (eL : inb (nI l) (bl S.2.1) = true) {y : Int32} (eC : sbs y (tn S.1) = true) {h : PH} (c : RC S h) : f_X8_refusalOfRow (nI l) y h = some (if fw S l y = true then 0 else -1003, h) := by
  have n24 := w.n24
  have hb := (sbs_iff (by omega)).mp eC
  have hp := pc_bel hb 24 n24 (by omega)
  have hle := pc_le y 24
  rw [f_X8_refusalOfRow, c_line w _ c, bP_some, eL, if_neg (show ¬ b01 true = 0 by decide), c_hasC w y c, bP_some, eC, if_neg (show ¬ b01 true = 0 by decide), c.rin w hl, bO_some, c_bits (fun j h1 h2 => hb j h1 (by omega)), hp, fw]
  by_cases e : bin S.2.1 l &&& y = 0
  · rw [if_pos e, bO_some, ite_c (show (nI (pc y (tn S.1)) ≤ (8 : Int32)) = (pc y (tn S.1) ≤ 8) from leN (b := 8) (by omega) (by omega)), decide_eq_true e, Bool.true_and]
    by_cases e8 : pc y (tn S.1) ≤ 8
    · rw [if_pos e8, decide_eq_true e8, if_pos rfl]
    · rw [if_neg e8, decide_eq_false e8, if_neg (by decide)]
  · rw [if_neg e, decide_eq_false e, Bool.false_and, if_neg (by decide)]
theorem m_few {S : SD} (w : wfS S) {l : Nat} (hl : l < bl S.2.1) {y : Int32} (eC : sbs y (tn S.1) = true) {h : PH} (c : RM S h) : f_X9_isFew (nI l) y h = some (b01 (fw S l y), h) := by
  have n24 := w.n24
  have hb := (sbs_iff (by omega)).mp eC
  have hp := pc_bel hb 24 n24 (by omega)
  have hle := pc_le y 24
  rw [f_X9_isFew, c.rin w hl, bO_some, m_bits, hp, fw, Int32.and_comm y]
  by_cases e : bin S.2.1 l &&& y = 0
  · rw [if_pos e, bO_some, ite_c (show ((8 : Int32) < nI (pc y (tn S.1))) = (8 < pc y (tn S.1)) from ltN (a := 8) (by omega) (by omega)), decide_eq_true e, Bool.true_and]
    by_cases e8 : pc y (tn S.1) ≤ 8
    · rw [if_neg (by omega), decide_eq_true e8]; rfl
    · rw [if_pos (by omega), decide_eq_false e8]; rfl
  · rw [if_neg e, decide_eq_false e, Bool.false_and]; rfl
theorem pair_fin {F M : PH → Option (Int32 × PH)} {S : SD} {h : PH} (w : wfS S) (c : RC S h) (mm : RM S h) (z : Zr h) {r : Int32} {h1 : PH} (e1 : F h = some (r, h1)) (k1 : keepC h h1) (hM : ∃ h2, M h1 = some (r, h2) ∧ keepM h1 h2) : ∃ r h1 h2, F h = some (r, h1) ∧ M h1 = some (r, h2) ∧ Inv h2 := by
  obtain ⟨h2, e2, k2⟩ := hM
  exact ⟨r, h1, h2, e1, e2, S, w, (c.keepC k1).keepM k2, (mm.keepC k1).keepM k2, fun s hs => by rw [k2.1 18 (by decide) rfl, k1.1 18 rfl]; exact z s hs⟩
theorem wa0_le {k : Nat} (hk : k ≤ 8) (ok : Nat → Nat → Bool) : wa k ok 0 ≤ 40320 := Nat.le_trans (wa_le hk ok k _ 0 (Nat.two_pow_pos k) (Cm_0 k)) (fc8 k (by omega))
/-- how many, of the model -/
theorem m_total {S : SD} (w : wfS S) {y : Int32} {m : Nat → Nat} (hm : Mb y (tn S.1) m) (h8 : pc y (tn S.1) ≤ 8) {l : Nat} (hl : l < bl S.2.1) {ok : Nat → Nat → Bool} (ho : OK S.1 m (pc y (tn S.1)) (bval S.2.1 l) ok) {g : PH} (cg : RM S g) : ∃ h', f_X9_seek (nI l) y (-1) g = some (nI (wa (pc y (tn S.1)) ok 0), h') ∧ keepM g h' := by
  rcases m_seek (x3 := -1) w hm h8 hl ho cg with ⟨q, h', z1, z2, z3, _, _⟩ | ⟨_, h'⟩
  · have hlt := (rnk_lt h8 z1 z2 (pc y (tn S.1)) 0 (by omega)).2
    have := wa0_le h8 ok
    rw [show pre q 0 = 0 from rfl] at hlt
    exact absurd z3.symm (nI_ne_m1 (by omega))
  · exact h'
theorem c_total {S : SD} {m : Nat → Nat} {k : Nat} {ok : Nat → Nat → Bool} {g h : PH} (W : WS g k m ok h) (hW : ∀ a, a < 2 ^ k → h.1 62 a = 1 → h.1 64 a = nI (wa k ok a)) : ag h 64 256 0 = some (nI (wa k ok 0)) := by
  rw [← hW 0 (Nat.two_pow_pos k) W.2.1]; exact ag_nI (i := 0) h 64 (by omega) (by omega)
theorem p_orders (x y : Int32) : Pair (f_X8_orders x y) (f_X9_orders x y) := by
  rintro h ⟨S, w, c, mm, z⟩
  have b4 := w.b4
  have n24 := w.n24
  cases eL : inb x (bl S.2.1) with
  | false =>
    refine pair_fin w c mm z (r := -1001) (h1 := h) ?_ (keepC.rf h) ⟨h, ?_, keepM.rf h⟩
    · rw [f_X8_orders, f_X8_refusalOfRow, c_line w x c, bP_some, eL, if_pos (show b01 false = 0 from rfl), bP_some, if_neg (by decide)]
    · rw [f_X9_orders, m_line w x mm, bP_some, eL, if_pos (show b01 false = 0 from rfl)]
  | true =>
    obtain ⟨l, hl, rfl⟩ := inD (by omega) eL
    cases eC : sbs y (tn S.1) with
    | false =>
      refine pair_fin w c mm z (r := -1001) (h1 := h) ?_ (keepC.rf h) ⟨h, ?_, keepM.rf h⟩
      · rw [f_X8_orders, f_X8_refusalOfRow, c_line w _ c, bP_some, eL, if_neg (show ¬ b01 true = 0 by decide), c_hasC w y c, bP_some, eC, if_pos (show b01 false = 0 from rfl), bP_some, if_neg (by decide)]
      · rw [f_X9_orders, m_line w _ mm, bP_some, eL, if_neg (show ¬ b01 true = 0 by decide), m_areC w y mm, bP_some, eC, if_pos (show b01 false = 0 from rfl)]
    | true =>
      have eF := c_ref w hl eL eC c
      have eM : ∀ h, RM S h → f_X9_orders (nI l) y h = if b01 (fw S l y) = 0 then some (-1003, h) else f_X9_seek (nI l) y (-1) h := fun h mm => by
        rw [f_X9_orders, m_line w _ mm, bP_some, eL, if_neg (show ¬ b01 true = 0 by decide), m_areC w y mm, bP_some, eC, if_neg (show ¬ b01 true = 0 by decide), m_few w hl eC mm, bP_some]
        cases f_X9_seek (nI l) y (-1) h <;> rfl
      cases ef : fw S l y with
      | false =>
        refine pair_fin w c mm z (r := -1003) (h1 := h) ?_ (keepC.rf h) ⟨h, ?_, keepM.rf h⟩
        · rw [f_X8_orders, eF, ef, bP_some, if_neg (by decide), if_neg (by decide)]
        · rw [eM h mm, ef, if_pos (show b01 false = 0 from rfl)]
      | true =>
        have h8 := fw_8 ef
        obtain ⟨m, hm⟩ := mem_ex y (tn S.1)
        obtain ⟨ok, ho⟩ := ok_ex S.1 m (pc y (tn S.1)) (bval S.2.1 l)
        obtain ⟨h1, e1, W, hW⟩ := c_table w hm h8 hl ho c
        refine pair_fin w c mm z (r := nI (wa (pc y (tn S.1)) ok 0)) (h1 := h1) ?_ W.1.1 ?_
        · rw [f_X8_orders, eF, ef, bP_some, if_pos rfl, if_pos rfl, e1, bO_some, f_X4_howMany, c_total (S := S) W hW, bO_some, bP_some]
        · obtain ⟨h2, e2, k2⟩ := m_total w hm h8 hl ho (mm.keepC W.1.1)
          exact ⟨h2, by rw [eM h1 (mm.keepC W.1.1), ef, if_neg (show ¬ b01 true = 0 by decide), e2], k2⟩
theorem p_order (x y z t : Int32) : Pair (f_X8_order x y z t) (f_X9_order x y z t) := by
  rintro h ⟨S, w, c, mm, zr⟩
  have b4 := w.b4
  have n24 := w.n24
  cases eL : inb x (bl S.2.1) with
  | false =>
    refine pair_fin w c mm zr (r := -1001) (h1 := h) ?_ (keepC.rf h) ⟨h, ?_, keepM.rf h⟩
    · rw [f_X8_order, f_X8_refusalOfRow, c_line w x c, bP_some, eL, if_pos (show b01 false = 0 from rfl), bP_some, if_pos rfl]
    · rw [f_X9_order, m_line w x mm, bP_some, eL, if_pos (show b01 false = 0 from rfl)]
  | true =>
    obtain ⟨l, hl, rfl⟩ := inD (by omega) eL
    cases eC : sbs y (tn S.1) with
    | false =>
      refine pair_fin w c mm zr (r := -1001) (h1 := h) ?_ (keepC.rf h) ⟨h, ?_, keepM.rf h⟩
      · rw [f_X8_order, f_X8_refusalOfRow, c_line w _ c, bP_some, eL, if_neg (show ¬ b01 true = 0 by decide), c_hasC w y c, bP_some, eC, if_pos (show b01 false = 0 from rfl), bP_some, if_pos rfl]
      · rw [f_X9_order, m_line w _ mm, bP_some, eL, if_neg (show ¬ b01 true = 0 by decide), m_areC w y mm, bP_some, eC, if_pos (show b01 false = 0 from rfl)]
    | true =>
      have hb := (sbs_iff (by omega)).mp eC
      have hp := pc_bel hb 24 n24 (by omega)
      have eF := c_ref w hl eL eC c
      have eF0 : f_X8_order (nI l) y z t h = if (0 : Int32) ≤ z then (if fw S l y = true then (bO (f_X4_build 32 64 y (nI l) h) (fun h49 => f_X4_memberOf z t h49)) else (some (-1003, h))) else (some ((-1002), h)) := by
        rw [f_X8_order, eF, bP_some]
        cases fw S l y with
        | false => rw [show (if (false = true) then (0 : Int32) else -1003) = -1003 from rfl, if_neg (show ¬ (-1003 : Int32) = -1001 by decide), if_neg (show ¬ (-1003 : Int32) = 0 by decide), if_neg (show ¬ (false = true) by decide)]
        | true =>
          rw [show (if (true = true) then (0 : Int32) else -1003) = 0 from rfl, if_neg (show ¬ (0 : Int32) = -1001 by decide), if_pos (show (0 : Int32) = 0 from rfl), if_pos (show (true = true) from rfl)]
          cases f_X4_build 32 64 y (nI l) h with
          | none => rfl
          | some h49 =>
            rw [bO_some, bO_some]
            cases f_X4_memberOf z t h49 <;> rfl
      have eM : ∀ h, RM S h → f_X9_order (nI l) y z t h = if (0 : Int32) ≤ z then (if b01 (fw S l y) = 0 then some (-1003, h) else bP (f_X9_seek (nI l) y (-1) h) (fun r46 h46 => if r46 ≤ z then (some ((-1), h46)) else if b01 (inb t (pc y (tn S.1))) = 0 then (some ((-1), h46)) else (bP (f_X9_seek (nI l) y z h46) (fun r75 h75 => if r75 = z then (bO (ag h75 91 8 t) (fun v88 => some (v88, h75))) else (some ((-1), h75)))))) else some (-1002, h) := fun h mm => by
        have hle := pc_le y (tn S.1)
        rw [f_X9_order, m_line w _ mm, bP_some, eL, if_neg (show ¬ b01 true = 0 by decide), m_areC w y mm, bP_some, eC, if_neg (show ¬ b01 true = 0 by decide), m_few w hl eC mm, bP_some, m_bits, hp]
        have hin := in_n t (n := pc y (tn S.1)) (c := ((nI (pc y (tn S.1)) - 1) : Int32).toInt64) (by rw [Int32.toInt_toInt64, nIm1_toInt (by omega)])
        simp only [bO_some, hin]
      by_cases hz : (0 : Int32) ≤ z
      · cases ef : fw S l y with
        | false =>
          refine pair_fin w c mm zr (r := -1003) (h1 := h) ?_ (keepC.rf h) ⟨h, ?_, keepM.rf h⟩
          · rw [eF0, if_pos hz, ef, if_neg (by decide)]
          · rw [eM h mm, if_pos hz, ef, if_pos (show b01 false = 0 from rfl)]
        | true =>
          have h8 := fw_8 ef
          obtain ⟨m, hm⟩ := mem_ex y (tn S.1)
          obtain ⟨ok, ho⟩ := ok_ex S.1 m (pc y (tn S.1)) (bval S.2.1 l)
          obtain ⟨h1, e1, W, hW⟩ := c_table w hm h8 hl ho c
          have a0 := c_total (S := S) W hW
          have w0 := wa0_le h8 ok
          have mm1 := mm.keepC W.1.1
          obtain ⟨h2, e2, k2⟩ := m_total w hm h8 hl ho mm1
          have eF1 : f_X8_order (nI l) y z t h = f_X4_memberOf z t h1 := by rw [eF0, if_pos hz, ef, if_pos rfl, e1, bO_some]
          have eM1 := eM h1 mm1
          rw [if_pos hz, ef, if_neg (show ¬ b01 true = 0 by decide), e2, bP_some] at eM1
          have eF2 : f_X4_memberOf z t h1 = if nI (wa (pc y (tn S.1)) ok 0) ≤ z then some (-1, h1) else if t < 0 then some (-1, h1) else if t < nI (pc y (tn S.1)) then f_X4_memberOf_35 t FU 0 0 z 0 h1 else some (-1, h1) := by
            rw [f_X4_memberOf, a0, bO_some, W.1.2.1]
          by_cases hw : nI (wa (pc y (tn S.1)) ok 0) ≤ z
          · refine pair_fin w c mm zr (r := -1) (h1 := h1) ?_ W.1.1 ⟨h2, ?_, k2⟩
            · rw [eF1, eF2, if_pos hw]
            · rw [eM1, if_pos hw]
          · rw [if_neg hw] at eM1
            cases et : inb t (pc y (tn S.1)) with
            | false =>
              refine pair_fin w c mm zr (r := -1) (h1 := h1) ?_ W.1.1 ⟨h2, ?_, k2⟩
              · rw [eF1, eF2, if_neg hw]
                by_cases t0 : t < 0
                · rw [if_pos t0]
                · rw [if_neg t0, if_neg ?_]
                  intro tk
                  rw [lt0] at t0
                  rw [Int32.lt_iff_toInt_lt, nI_toInt (by omega)] at tk
                  rw [inb_t ⟨by omega, tk⟩] at et
                  cases et
              · rw [eM1, et, if_pos (show b01 false = 0 from rfl)]
            | true =>
              obtain ⟨j, hj, rfl⟩ := inD (by omega) et
              rw [et, if_neg (show ¬ b01 true = 0 by decide)] at eM1
              obtain ⟨e, he, rfl⟩ : ∃ e, e < wa (pc y (tn S.1)) ok 0 ∧ z = nI e := by
                refine inD (by omega) (inb_t ?_)
                rw [leI, nI_toInt (by omega)] at hw
                rw [leI] at hz
                exact ⟨hz, by omega⟩
              have find : ∀ g, RM S g → ∃ (q : Nat → Nat) (g' : PH), f_X9_seek (nI l) y (nI e) g = some (nI e, g') ∧ RW g (pc y (tn S.1)) (fun t => m (q t)) g' ∧ f_X4_memberOf (nI e) (nI j) h1 = some (nI (m (q j)), h1) := fun g cg => by
                rcases m_seek (x3 := nI e) w hm h8 hl ho cg with ⟨q, g', z1, z2, z3, z4, z5⟩ | ⟨no, _⟩
                · refine ⟨q, g', z5, z4, ?_⟩
                  rw [z3]
                  exact c_member h8 W hW z1 z2 hj
                · exact absurd rfl (no e he)
              obtain ⟨q, h3, e3, R3, f3⟩ := find h2 (mm1.keepM k2)
              refine pair_fin w c mm zr (r := nI (m (q j))) (h1 := h1) (by rw [eF1, f3]) W.1.1 ⟨h3, ?_, k2.tr R3.1⟩
              rw [eM1, e3, bP_some, if_pos rfl, R3.ag h8 hj, bO_some]
      · refine pair_fin w c mm zr (r := -1002) (h1 := h) ?_ (keepC.rf h) ⟨h, ?_, keepM.rf h⟩
        · rw [eF0, if_neg hz]
        · rw [eM h mm, if_neg hz]
