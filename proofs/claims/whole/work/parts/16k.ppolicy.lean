/-! ===== policy ===== -/
def R01 (o : Option (Int32 × PH)) : Prop := ∀ r h, o = some (r, h) → r = 0 ∨ r = 1
theorem R01_0 (h : PH) : R01 (some (0, h)) := fun r h' e => by cases e; exact Or.inl rfl
theorem R01_1 (h : PH) : R01 (some (1, h)) := fun r h' e => by cases e; exact Or.inr rfl
theorem R01_n : R01 none := fun r h' e => by cases e
theorem R01_bP {E : Option (Int32 × PH)} {K : Int32 → PH → Option (Int32 × PH)} (hK : ∀ r h, R01 (K r h)) : R01 (bP E K) := by
  cases E with
  | none => exact R01_n
  | some p => exact hK p.1 p.2
theorem R01_bO {α : Type} {E : Option α} {K : α → Option (Int32 × PH)} (hK : ∀ a, R01 (K a)) : R01 (bO E K) := by
  cases E with
  | none => exact R01_n
  | some p => exact hK p
theorem R01_if {c : Prop} [Decidable c] {a b : Option (Int32 × PH)} (ha : R01 a) (hb : R01 b) : R01 (if c then a else b) := by
  by_cases h : c
  · rw [if_pos h]; exact ha
  · rw [if_neg h]; exact hb
theorem R01_lt {α : Type} {e : α} {f : α → Option (Int32 × PH)} (h : R01 (f e)) : R01 (lt' e f) := h
theorem R01_freeze (h : PH) : R01 (f_X5_readFreeze 25 h) := R01_bO (fun _ => R01_bP (fun _ _ => R01_if (R01_0 _) (R01_bP (fun _ _ => R01_if (R01_0 _) (R01_bO (fun _ => R01_bO (fun _ => R01_1 _)))))))
theorem R01_risk (h : PH) : R01 (f_X5_readRisk 25 h) := R01_bO (fun _ => R01_bP (fun _ _ => R01_if (R01_0 _) (R01_1 _)))
theorem R01_weight (h : PH) : R01 (f_X5_readWeight 25 h) := R01_bO (fun _ => R01_bP (fun _ _ => R01_if (R01_0 _) (R01_1 _)))
theorem R01_lines6 : ∀ n k h, R01 (f_X5_readLines_6 25 n k h) := by
  intro n
  induction n with
  | zero => intro k h; exact R01_n
  | succ n ih =>
    intro k h
    rw [f_X5_readLines_6]
    exact R01_if (R01_0 _) (R01_bP (fun _ _ => R01_if (R01_0 _) (R01_lt (R01_bP (fun _ _ => R01_if (R01_1 _) (ih _ _))))))
theorem R01_lines (h : PH) : R01 (f_X5_readLines 25 h) := R01_bO (fun _ => R01_lines6 _ _ _)
theorem c_clauseE {X : XD} {P : PD} {k q : Nat} {h0 h : PH} (s : QC X P k q h0 h) (h8 : P.1 ≤ 8) : f_X5_readClause 25 h = if wdB X 7 q = true then (if P.1 < 8 then f_X5_readFreeze 25 h else f_X3_refuse 3 h) else if wdB X 4 q = true then (if P.2.2.2.1 = -1 then f_X5_readRisk 25 h else f_X3_refuse 3 h) else if wdB X 8 q = true then (if P.2.2.2.2.1 = -1 then f_X5_readWeight 25 h else f_X3_refuse 3 h) else if wdB X 9 q = true then (if P.2.2.2.2.2 = 0 then f_X5_readLines 25 h else f_X3_refuse 3 h) else f_X3_refuse 1 h := by
  obtain ⟨d0, d1, d2, d4, d5, d6⟩ := s.2.1
  have rf : ∀ v, bP (f_X3_refuse v h) (fun r28 h28 => zr r28 (r28, h28)) = f_X3_refuse v h := fun v => zr01 _ (fun r h' e => by rw [f_X3_refuse, lt'_eq, lt'_eq] at e; cases e; exact Or.inl rfl)
  rw [f_X5_readClause, c_isWord s.1 (w := 7) (by decide), bP_some]
  cases wdB X 7 q
  · rw [if_pos (show b01 false = 0 from rfl), if_neg (by decide), c_isWord s.1 (w := 4) (by decide), bP_some]
    cases wdB X 4 q
    · rw [if_pos (show b01 false = 0 from rfl), if_neg (by decide), c_isWord s.1 (w := 8) (by decide), bP_some]
      cases wdB X 8 q
      · rw [if_pos (show b01 false = 0 from rfl), if_neg (by decide), c_isWord s.1 (w := 9) (by decide), bP_some]
        cases wdB X 9 q
        · rw [if_pos (show b01 false = 0 from rfl), if_neg (by decide), rf]
        · rw [if_neg (show ¬ b01 true = 0 by decide), if_pos rfl, d6, rf, zr01 _ (R01_lines h)]
      · rw [if_neg (show ¬ b01 true = 0 by decide), if_pos rfl, d5, rf, zr01 _ (R01_weight h)]
    · rw [if_neg (show ¬ b01 true = 0 by decide), if_pos rfl, d4, rf, zr01 _ (R01_risk h)]
  · rw [if_neg (show ¬ b01 true = 0 by decide), if_pos rfl, d1, rf, zr01 _ (R01_freeze h)]
    by_cases z : P.1 < 8
    · rw [if_pos z, if_neg (show ¬ (8 : Int32) ≤ nI P.1 by rw [show (8 : Int32) = nI 8 from rfl, leN (by omega) (by omega)]; omega)]
    · rw [if_neg z, if_pos (show (8 : Int32) ≤ nI P.1 by rw [show (8 : Int32) = nI 8 from rfl, leN (by omega) (by omega)]; omega)]
theorem m_ruleE {X : XD} {P : PD} {q : Nat} {h0 h : PH} (wP : wfP P) (s : QM X P q h0 h) : ∃ h1, QM X P q h0 h1 ∧ h1.1 66 21 = nI q ∧ h1.1 66 20 = -1 ∧ h1.1 66 24 = nI (we X q) ∧ f_X9_takeRule h = if wdB X 7 q = true then bP (f_X9_takeFreeze h1) (fun r193 h193 => f_X9_takeRule_270 r193 h193) else if wdB X 4 q = true then (if P.2.2.2.1 = -1 then bP (f_X9_takeNumber 0 99 (hU h1 66 21 (h1.1 66 24))) (fun r225 h225 => f_X9_takeRule_228 1 r225 h225) else f_X9_takeRule_177 3 h1) else if wdB X 8 q = true then (if P.2.2.2.2.1 = -1 then bP (f_X9_takeNumber 0 99 (hU h1 66 21 (h1.1 66 24))) (fun r225 h225 => f_X9_takeRule_228 2 r225 h225) else f_X9_takeRule_177 3 h1) else if wdB X 9 q = true then (if P.2.2.2.2.2 = 0 then bP (f_X9_takeOnly (hU h1 66 21 (h1.1 66 24))) (fun r215 h215 => f_X9_takeRule_228 3 r215 h215) else f_X9_takeRule_177 3 h1) else f_X9_takeRule_177 1 h1 := by
  obtain ⟨h1, e1, t1, r1, a1, b1, w1, l1⟩ := m_readWord s.1
  have s1 := s.t t1 r1
  have hwe : kn X q = 1 → q ≤ en X q := fun _ => (en_le s.1.2.2.1).1
  obtain ⟨d1, d2, d4, d5, d6⟩ := s1.2.1
  refine ⟨h1, s1, a1, b1, w1, ?_⟩
  rw [f_X9_takeRule, e1, bO_some, cd_freeze.1, bO_some, cd_freeze.2.1, bO_some, cd_freeze.2.2, bO_some, ite_c (m_cmp l1 hwe (w := 7) (by decide)), cd_risk, bO_some, ite_c (m_cmp l1 hwe (w := 4) (by decide)), cd_weigh.1, bO_some, cd_weigh.2, bO_some, ite_c (m_cmp l1 hwe (w := 8) (by decide)), cd_only, bO_some, ite_c (m_cmp l1 hwe (w := 9) (by decide))]
  have e51 : ∀ x3, (0 : Int32) ≤ x3 → f_X9_takeRule_151 x3 h1 = f_X9_takeRule_177 3 h1 := fun x3 hx => by
    rw [f_X9_takeRule_151, f_X9_takeRule_156, if_neg (Int32.not_lt.mpr hx), if_neg (show ¬ (1 : Int32) = 0 by decide), f_X9_takeRule_167, if_pos hx]
  have g0 : f_X9_takeRule_114 0 h1 = bP (f_X9_takeFreeze h1) (fun r193 h193 => f_X9_takeRule_270 r193 h193) := by
    rw [f_X9_takeRule_114, if_neg (by decide), f_X9_takeRule_127, if_neg (by decide), f_X9_takeRule_139, if_neg (by decide), f_X9_takeRule_155, f_X9_takeRule_156, if_neg (by decide), if_pos rfl, if_pos rfl]
  have g1 : f_X9_takeRule_114 1 h1 = (if P.2.2.2.1 = -1 then bP (f_X9_takeNumber 0 99 (hU h1 66 21 (h1.1 66 24))) (fun r225 h225 => f_X9_takeRule_228 1 r225 h225) else f_X9_takeRule_177 3 h1) := by
    rw [f_X9_takeRule_114, if_pos rfl, d4, e51 1 (by decide), ite_c (m1_lt wP.2.2.1)]
    by_cases z : P.2.2.2.1 < 0
    · rw [if_neg (Int32.not_le.mpr z), if_pos z, f_X9_takeRule_127, if_neg (by decide), f_X9_takeRule_139, if_neg (by decide), f_X9_takeRule_155, f_X9_takeRule_156, if_neg (by decide), if_pos rfl, if_neg (by decide), lt'_eq, if_neg (by decide)]
    · rw [if_pos (Int32.not_lt.mp z), if_neg z]
  have g2 : f_X9_takeRule_114 2 h1 = (if P.2.2.2.2.1 = -1 then bP (f_X9_takeNumber 0 99 (hU h1 66 21 (h1.1 66 24))) (fun r225 h225 => f_X9_takeRule_228 2 r225 h225) else f_X9_takeRule_177 3 h1) := by
    rw [f_X9_takeRule_114, if_neg (by decide), f_X9_takeRule_127, if_pos rfl, d5, e51 2 (by decide), ite_c (m1_lt wP.2.2.2.1)]
    by_cases z : P.2.2.2.2.1 < 0
    · rw [if_neg (Int32.not_le.mpr z), if_pos z, f_X9_takeRule_139, if_neg (by decide), f_X9_takeRule_155, f_X9_takeRule_156, if_neg (by decide), if_pos rfl, if_neg (by decide), lt'_eq, if_neg (by decide)]
    · rw [if_pos (Int32.not_lt.mp z), if_neg z]
  have g3 : f_X9_takeRule_114 3 h1 = (if P.2.2.2.2.2 = 0 then bP (f_X9_takeOnly (hU h1 66 21 (h1.1 66 24))) (fun r215 h215 => f_X9_takeRule_228 3 r215 h215) else f_X9_takeRule_177 3 h1) := by
    rw [f_X9_takeRule_114, if_neg (by decide), f_X9_takeRule_127, if_neg (by decide), f_X9_takeRule_139, if_pos rfl, d6, e51 3 (by decide)]
    by_cases z : P.2.2.2.2.2 = 0
    · rw [if_pos z, if_pos z, f_X9_takeRule_155, f_X9_takeRule_156, if_neg (by decide), if_pos rfl, if_neg (by decide), lt'_eq, if_pos rfl]
    · rw [if_neg z, if_neg z]
  have g4 : f_X9_takeRule_114 (-1) h1 = f_X9_takeRule_177 1 h1 := by
    rw [f_X9_takeRule_114, if_neg (by decide), f_X9_takeRule_127, if_neg (by decide), f_X9_takeRule_139, if_neg (by decide), f_X9_takeRule_155, f_X9_takeRule_156, if_pos (by decide), f_X9_takeRule_167, if_neg (by decide)]
  rw [g0, g1, g2, g3, g4]
/-- refused at the clause's word -/
theorem L_ref {X : XD} {P : PD} {k q : Nat} {b : Nat} (hb : 0 < b) (hb4 : b ≤ 4) : (∀ h0 h, QC X P k q h0 h → ClS X h0 k (.inl (b, q)) (clE (f_X3_refuse (nI b) h))) ∧ (∀ h0 h, QM X P q h0 h → h.1 66 21 = nI q → ResN h0 (.inl (b, q)) (QMa X h0) (f_X9_takeRule_177 (nI b) h)) := by
  refine ⟨fun h0 h s => ClS.fail ?_, fun h0 h s e21 => brkN hb hb4 s.2.2 ?_⟩
  · obtain ⟨h1, e1, t1, f1⟩ := c_refuse s.1 b
    exact ⟨h1, e1, f1, s.2.2.on t1⟩
  · obtain ⟨h2, e2, t2, f2⟩ := m_breaks b q h
    exact ⟨h2, by rw [f_X9_takeRule_177, e21, e2, bP_some], t2, f2⟩
theorem L_rule {X : XD} {P : PD} (w : wfP P) {k q : Nat} : ∃ o : (Nat × Nat) ⊕ (PD × Nat), (∀ h0 h, QC X P k q h0 h → ClS X h0 k o (clE (f_X5_readClause 25 h))) ∧ (∀ h0 h, QM X P q h0 h → ResN h0 o (QMa X h0) (f_X9_takeRule h)) ∧ ∀ a, o = .inr a → wfP a.1 ∧ q < a.2 := by
  have r3 := @L_ref X P k q 3 (by decide) (by decide)
  have r1 := @L_ref X P k q 1 (by decide) (by decide)
  have f3 : (∀ h0 h, QC X P k q h0 h → f_X5_readClause 25 h = f_X3_refuse 3 h) → (∀ h0 h, QM X P q h0 h → ∃ h1, QM X P q h0 h1 ∧ h1.1 66 21 = nI q ∧ f_X9_takeRule h = f_X9_takeRule_177 3 h1) → ∃ o : (Nat × Nat) ⊕ (PD × Nat), (∀ h0 h, QC X P k q h0 h → ClS X h0 k o (clE (f_X5_readClause 25 h))) ∧ (∀ h0 h, QM X P q h0 h → ResN h0 o (QMa X h0) (f_X9_takeRule h)) ∧ ∀ a, o = .inr a → wfP a.1 ∧ q < a.2 := fun hc hm => by
    refine ⟨.inl (3, q), fun h0 h s => by rw [hc h0 h s]; exact r3.1 h0 h s, fun h0 h s => ?_, fun a e => by cases e⟩
    obtain ⟨h1, s1, a1, e1⟩ := hm h0 h s
    rw [e1]; exact r3.2 h0 h1 s1 a1
  have use : ∀ (cF : PH → Option (Int32 × PH)) (mF : PH → Option (Int32 × PH)) , (∃ o : (Nat × Nat) ⊕ (PD × Nat), (∀ h0 h, QC X P k q h0 h → ClS X h0 k o (clE (cF h))) ∧ (∀ h0 h, QM X P q h0 h → h.1 66 24 = nI (we X q) → h.1 66 20 = -1 → ResN h0 o (QMa X h0) (mF h)) ∧ ∀ a, o = .inr a → wfP a.1 ∧ q < a.2) → (∀ h0 h, QC X P k q h0 h → f_X5_readClause 25 h = cF h) → (∀ h0 h, QM X P q h0 h → ∃ h1, QM X P q h0 h1 ∧ h1.1 66 20 = -1 ∧ h1.1 66 24 = nI (we X q) ∧ f_X9_takeRule h = mF h1) → ∃ o : (Nat × Nat) ⊕ (PD × Nat), (∀ h0 h, QC X P k q h0 h → ClS X h0 k o (clE (f_X5_readClause 25 h))) ∧ (∀ h0 h, QM X P q h0 h → ResN h0 o (QMa X h0) (f_X9_takeRule h)) ∧ ∀ a, o = .inr a → wfP a.1 ∧ q < a.2 := fun cF mF ⟨o, oC, oM, oI⟩ hc hm => by
    refine ⟨o, fun h0 h s => by rw [hc h0 h s]; exact oC h0 h s, fun h0 h s => ?_, oI⟩
    obtain ⟨h1, s1, b1, w1, e1⟩ := hm h0 h s
    rw [e1]; exact oM h0 h1 s1 w1 b1
  cases h7 : wdB X 7 q
  · cases h4 : wdB X 4 q
    · cases h8 : wdB X 8 q
      · cases h9 : wdB X 9 q
        · refine ⟨.inl (1, q), fun h0 h s => ?_, fun h0 h s => ?_, fun a e => by cases e⟩
          · rw [c_clauseE s w.1, h7, if_neg (by decide), h4, if_neg (by decide), h8, if_neg (by decide), h9, if_neg (by decide)]
            exact r1.1 h0 h s
          · obtain ⟨h1, s1, a1, b1, w1, e1⟩ := m_ruleE w s
            rw [e1, h7, if_neg (by decide), h4, if_neg (by decide), h8, if_neg (by decide), h9, if_neg (by decide)]
            exact r1.2 h0 h1 s1 a1
        · by_cases z : P.2.2.2.2.2 = 0
          · refine use (f_X5_readLines 25) (fun h1 => bP (f_X9_takeOnly (hU h1 66 21 (h1.1 66 24))) (fun r215 h215 => f_X9_takeRule_228 3 r215 h215)) (L_lines w z (wd_kn h9)) (fun h0 h s => ?_) (fun h0 h s => ?_)
            · rw [c_clauseE s w.1, h7, if_neg (by decide), h4, if_neg (by decide), h8, if_neg (by decide), h9, if_pos rfl, if_pos z]
            · obtain ⟨h1, s1, a1, b1, w1, e1⟩ := m_ruleE w s
              exact ⟨h1, s1, b1, w1, by rw [e1, h7, if_neg (by decide), h4, if_neg (by decide), h8, if_neg (by decide), h9, if_pos rfl, if_pos z]⟩
          · refine f3 (fun h0 h s => ?_) (fun h0 h s => ?_)
            · rw [c_clauseE s w.1, h7, if_neg (by decide), h4, if_neg (by decide), h8, if_neg (by decide), h9, if_pos rfl, if_neg z]
            · obtain ⟨h1, s1, a1, b1, w1, e1⟩ := m_ruleE w s
              exact ⟨h1, s1, a1, by rw [e1, h7, if_neg (by decide), h4, if_neg (by decide), h8, if_neg (by decide), h9, if_pos rfl, if_neg z]⟩
      · by_cases z : P.2.2.2.2.1 = -1
        · refine use (f_X5_readWeight 25) (fun h1 => bP (f_X9_takeNumber 0 99 (hU h1 66 21 (h1.1 66 24))) (fun r225 h225 => f_X9_takeRule_228 2 r225 h225)) (L_weigh w (wd_kn h8)) (fun h0 h s => ?_) (fun h0 h s => ?_)
          · rw [c_clauseE s w.1, h7, if_neg (by decide), h4, if_neg (by decide), h8, if_pos rfl, if_pos z]
          · obtain ⟨h1, s1, a1, b1, w1, e1⟩ := m_ruleE w s
            exact ⟨h1, s1, b1, w1, by rw [e1, h7, if_neg (by decide), h4, if_neg (by decide), h8, if_pos rfl, if_pos z]⟩
        · refine f3 (fun h0 h s => ?_) (fun h0 h s => ?_)
          · rw [c_clauseE s w.1, h7, if_neg (by decide), h4, if_neg (by decide), h8, if_pos rfl, if_neg z]
          · obtain ⟨h1, s1, a1, b1, w1, e1⟩ := m_ruleE w s
            exact ⟨h1, s1, a1, by rw [e1, h7, if_neg (by decide), h4, if_neg (by decide), h8, if_pos rfl, if_neg z]⟩
    · by_cases z : P.2.2.2.1 = -1
      · refine use (f_X5_readRisk 25) (fun h1 => bP (f_X9_takeNumber 0 99 (hU h1 66 21 (h1.1 66 24))) (fun r225 h225 => f_X9_takeRule_228 1 r225 h225)) (L_risk w (wd_kn h4)) (fun h0 h s => ?_) (fun h0 h s => ?_)
        · rw [c_clauseE s w.1, h7, if_neg (by decide), h4, if_pos rfl, if_pos z]
        · obtain ⟨h1, s1, a1, b1, w1, e1⟩ := m_ruleE w s
          exact ⟨h1, s1, b1, w1, by rw [e1, h7, if_neg (by decide), h4, if_pos rfl, if_pos z]⟩
      · refine f3 (fun h0 h s => ?_) (fun h0 h s => ?_)
        · rw [c_clauseE s w.1, h7, if_neg (by decide), h4, if_pos rfl, if_neg z]
        · obtain ⟨h1, s1, a1, b1, w1, e1⟩ := m_ruleE w s
          exact ⟨h1, s1, a1, by rw [e1, h7, if_neg (by decide), h4, if_pos rfl, if_neg z]⟩
  · by_cases z : P.1 < 8
    · refine use (f_X5_readFreeze 25) (fun h1 => bP (f_X9_takeFreeze h1) (fun r193 h193 => f_X9_takeRule_270 r193 h193)) (L_freeze w z (wd_kn h7)) (fun h0 h s => ?_) (fun h0 h s => ?_)
      · rw [c_clauseE s w.1, h7, if_pos rfl, if_pos z]
      · obtain ⟨h1, s1, a1, b1, w1, e1⟩ := m_ruleE w s
        exact ⟨h1, s1, b1, w1, by rw [e1, h7, if_pos rfl]⟩
    · have e8 : P.1 = 8 := by have := w.1; omega
      refine ⟨.inl (3, q), fun h0 h s => ?_, fun h0 h s => ?_, fun a e => by cases e⟩
      · rw [c_clauseE s w.1, h7, if_pos rfl, if_neg z]
        exact r3.1 h0 h s
      · obtain ⟨h1, s1, a1, b1, w1, e1⟩ := m_ruleE w s
        obtain ⟨h2, e2, t2, f2⟩ := m_breaks 3 q h1
        have e2 : f_X9_breaks 3 (nI q) h1 = some (3, h2) := e2
        refine brkN (by decide) (by decide) s1.2.2 ⟨h2, ?_, t2, f2⟩
        rw [e1, h7, if_pos rfl, f_X9_takeFreeze, s1.2.1.1, e8, if_pos (by decide), a1, e2, bP_some, bP_some, f_X9_takeRule_270, if_neg (by decide)]
        rfl
def LoopN (h0 : PH) (o : (Nat × Nat) ⊕ (PD × Nat)) (res : Option (Int32 × PH)) : Prop := match o with
  | .inl bp => 0 < bp.1 ∧ bp.1 ≤ 4 ∧ ∃ h' n, res = f_X9_policy_74 n (nI bp.1) h' ∧ h'.1 66 20 = nI bp.2 ∧ FmP h0 h'
  | .inr a => ∃ h', res = f_X9_policy_74 (nI a.2) 0 h' ∧ h'.1 66 20 = -1 ∧ DPm a.1 h' ∧ FmP h0 h'
def QCe (X : XD) (h0 : PH) (a : PD × Nat) (h' : PH) : Prop := (∃ q, RD X 3 q h') ∧ DPc a.1 a.2 h' ∧ FcP h0 h'
theorem L_ploop {X : XD} (wx : wfX X) : ∀ D P q k, wfP P → q ≤ X.1 → k ≤ q → X.1 - q ≤ D → ∃ o : (Nat × Nat) ⊕ (PD × Nat), (∀ h0 h n1, D < n1 → QC X P k q h0 h → ResQ h0 o (QCe X h0) (f_X5_readFrom_27 25 n1 (nI k) h)) ∧ (∀ h0 h n2, D + 1 < n2 → QM X P q h0 h → LoopN h0 o (f_X9_policy_52 n2 (nI k) 0 h)) ∧ ∀ a, o = .inr a → wfP a.1 := by
  have hN := wx.1
  have fin : ∀ D P q k, wfP P → q = X.1 → k ≤ q → ∃ o : (Nat × Nat) ⊕ (PD × Nat), (∀ h0 h n1, D < n1 → QC X P k q h0 h → ResQ h0 o (QCe X h0) (f_X5_readFrom_27 25 n1 (nI k) h)) ∧ (∀ h0 h n2, D + 1 < n2 → QM X P q h0 h → LoopN h0 o (f_X9_policy_52 n2 (nI k) 0 h)) ∧ ∀ a, o = .inr a → wfP a.1 := by
    intro D P q k w hq hk
    refine ⟨.inr (P, k), fun h0 h n1 hn1 s => ?_, fun h0 h n2 hn2 s => ?_, fun a e => by cases e; exact w⟩
    · cases n1 with
      | zero => omega
      | succ n1 =>
        refine ⟨h, ?_, ⟨q, s.1⟩, s.2.1, s.2.2⟩
        have k0 : kn X q = 0 := if_neg (by omega)
        have e2 : h.1 3 2 = nI (kn X q) := s.1.2.2.2.2.2.1
        rw [f_X5_readFrom_27]
        by_cases z : (500 : Int32) ≤ nI k
        · rw [if_pos z]
        · rw [if_neg z, f_X3_atEnd, e2, k0, if_pos (show nI 0 = 0 from rfl), bP_some, if_neg (by decide)]
    · cases n2 with
      | zero => omega
      | succ n2 =>
        obtain ⟨h1, e1, t1, r1, a1, b1⟩ := m_here s.1
        have s1 := s.t t1 r1
        have eh : hereV X q = -1 := if_neg (by omega)
        refine ⟨h1, ?_, b1, s1.2.1, s1.2.2⟩
        rw [f_X9_policy_52, if_pos rfl, e1, bP_some, eh, if_pos (by decide)]
  intro D
  induction D with
  | zero => intro P q k w hq hk hd; exact fin 0 P q k w (by omega) hk
  | succ D ih =>
    intro P q k w hq hk hd
    by_cases hqe : q = X.1
    · exact fin (D + 1) P q k w hqe hk
    · have hql : q < X.1 := by omega
      have hk5 : ¬ (500 : Int32) ≤ nI k := by rw [show (500 : Int32) = nI 500 from rfl, leN (by omega) (by omega)]; omega
      have kn0 : ¬ kn X q = 0 := by rw [kn_kd hql]; rcases kd_cases (X.2 q) with e | e | e <;> omega
      have kn4' := kn4 X q
      have eh : ¬ hereV X q < 0 := by
        unfold hereV
        rw [if_pos hql, Int32.lt_iff_toInt_lt, i0]
        have := (wx.2 q hql).1
        omega
      obtain ⟨o1, o1C, o1M, o1I⟩ := L_rule (X := X) w (k := k) (q := q)
      have cst : ∀ h0 h, QC X P k q h0 h → ∀ n1, f_X5_readFrom_27 25 (n1 + 1) (nI k) h = clE (f_X5_readClause 25 h) (fun h52 => lt' (hU h52 25 0 ((h52.1 25 0) + 1)) (fun h67 => (f_X5_readFrom_27 25 n1) (nI (k + 1)) h67)) := fun h0 h s n1 => by
        have e2 : h.1 3 2 = nI (kn X q) := s.1.2.2.2.2.2.1
        rw [f_X5_readFrom_27, if_neg hk5, f_X3_atEnd, e2, if_neg (nI_ne0 (by omega) (by omega)), bP_some, if_pos rfl, nI1, clE]
      have mst : ∀ h0 h, QM X P q h0 h → ∃ h1, QM X P q h0 h1 ∧ ∀ n2, f_X9_policy_52 (n2 + 1) (nI k) 0 h = bP (f_X9_takeRule h1) (fun r64 h64 => (f_X9_policy_52 n2) (nI (k + 1)) r64 h64) := fun h0 h s => by
        obtain ⟨h1, e1, t1, r1, a1, b1⟩ := m_here s.1
        exact ⟨h1, s.t t1 r1, fun n2 => by rw [f_X9_policy_52, if_pos rfl, e1, bP_some, if_neg eh, nI1]⟩
      cases o1 with
      | inl bp =>
        refine ⟨.inl bp, fun h0 h n1 hn1 s => ?_, fun h0 h n2 hn2 s => ?_, fun a e => by cases e⟩
        · cases n1 with
          | zero => omega
          | succ n1 =>
            obtain ⟨h1, e1, f1, g1⟩ := o1C h0 h s
            exact ⟨h1, by rw [cst h0 h s n1, e1], f1, g1⟩
        · cases n2 with
          | zero => omega
          | succ n2 =>
            cases n2 with
            | zero => omega
            | succ n2 =>
              obtain ⟨h1, s1, e1⟩ := mst h0 h s
              obtain ⟨z1, z2, h2, e2, f2, g2⟩ := o1M h0 h1 s1
              exact ⟨z1, z2, h2, nI (k + 1), by rw [e1 (n2 + 1), e2, bP_some, f_X9_policy_52, if_neg (nI_ne0 z1 (by omega))], f2, g2⟩
      | inr a =>
        obtain ⟨wa, qa⟩ := o1I a rfl
        by_cases hqa : a.2 ≤ X.1
        · obtain ⟨o, oC, oM, oI⟩ := ih a.1 a.2 (k + 1) wa hqa (by omega) (by omega)
          refine ⟨o, fun h0 h n1 hn1 s => ?_, fun h0 h n2 hn2 s => ?_, oI⟩
          · cases n1 with
            | zero => omega
            | succ n1 =>
              obtain ⟨h1, e1, s1⟩ := o1C h0 h s
              rw [cst h0 h s n1, e1, lt'_eq, s1.2.1.1, nI1]
              exact oC h0 _ n1 (by omega) s1.n
          · cases n2 with
            | zero => omega
            | succ n2 =>
              obtain ⟨h1, s1, e1⟩ := mst h0 h s
              obtain ⟨h2, e2, s2⟩ := o1M h0 h1 s1
              rw [e1 n2, e2, bP_some]
              exact oM h0 h2 n2 (by omega) s2
        · refine ⟨.inr (P, k), fun h0 h n1 hn1 s => ?_, fun h0 h n2 hn2 s => ?_, fun b e => by cases e; exact w⟩
          · obtain ⟨h1, e1, s1⟩ := o1C h0 h s
            exact absurd s1.1.2.2.1 hqa
          · obtain ⟨h1, s1, e1⟩ := mst h0 h s
            obtain ⟨h2, e2, s2⟩ := o1M h0 h1 s1
            exact absurd s2.1.2.2.1 hqa
theorem c_becomeP (h : PH) : ∃ H, f_X5_become 22 25 h = some H ∧ (∀ j, ¬ (22 ≤ j ∧ j ≤ 24) → H.1 j = h.1 j) ∧ H.1 22 0 = h.1 25 0 ∧ ∀ (P : PD) (k : Nat), P.1 ≤ 8 → DPc P k h → CP P H := by
  obtain ⟨H1, e1, s1, o1⟩ := cpy0 (hU (hU h 22 0 (h.1 25 0)) 22 1 (h.1 25 1)) (25 + 1) (22 + 1) (n := 8) (L := 8) rfl (by omega)
  obtain ⟨H2, e2, s2, o2⟩ := cpy0 H1 (25 + 2) (22 + 2) (n := 8) (L := 8) rfl (by omega)
  obtain ⟨H, hH⟩ : ∃ H, H = hU (hU (hU H2 22 4 (h.1 25 4)) 22 5 (h.1 25 5)) 22 6 (h.1 25 6) := ⟨_, rfl⟩
  have q2 : H2.1 25 = h.1 25 := by rw [o2 25 (by decide), o1 25 (by decide), hU_n _ _ _ (by decide), hU_n _ _ _ (by decide)]
  have q22 : H2.1 22 = upd (upd (h.1 22) 0 (h.1 25 0)) 1 (h.1 25 1) := by rw [o2 22 (by decide), o1 22 (by decide)]; rfl
  have t22 : H.1 22 = upd (upd (upd (upd (upd (h.1 22) 0 (h.1 25 0)) 1 (h.1 25 1)) 4 (h.1 25 4)) 5 (h.1 25 5)) 6 (h.1 25 6) := by rw [hH, hU_s, hU_s, hU_s, q22]
  refine ⟨H, ?_, fun j hj => ?_, by rw [t22]; rfl, fun P k hP d => ?_⟩
  · rw [f_X5_become, lt'_eq, lt'_eq, hU_n _ _ _ (show 25 ≠ 22 by decide), e1, bO_some, e2, bO_some, lt'_eq, lt'_eq, lt'_eq, hU_n _ _ _ (show 25 ≠ 22 by decide), hU_n _ _ _ (show 25 ≠ 22 by decide), q2, hU_n _ _ _ (show 25 ≠ 22 by decide), q2, hH]
  · rw [hH, hU_n _ _ _ (by omega), hU_n _ _ _ (by omega), hU_n _ _ _ (by omega), o2 j (by omega), o1 j (by omega), hU_n _ _ _ (by omega), hU_n _ _ _ (by omega)]
  · obtain ⟨d0, d1, d2, d4, d5, d6⟩ := d
    refine ⟨by rw [t22]; exact d1, fun j hj => ⟨?_, ?_⟩, by rw [t22]; exact d4, by rw [t22]; exact d5, by rw [t22]; exact d6⟩
    · rw [hH, hU_n _ _ _ (by decide), hU_n _ _ _ (by decide), hU_n _ _ _ (by decide), o2 23 (by decide)]
      exact (s1 j (by omega)).trans (d2 j hj).1
    · rw [hH, hU_n _ _ _ (by decide), hU_n _ _ _ (by decide), hU_n _ _ _ (by decide)]
      exact (s2 j (by omega)).trans ((congrFun (o1 27 (by decide)) j).trans (d2 j hj).2)
theorem m_keepP {P : PD} {h : PH} (hP : P.1 ≤ 8) (d : DPm P h) (n : Int32) : ∃ H, f_X9_policy_98 n FU 0 (hU h 66 41 (nI P.1)) = some (n, H) ∧ MP P H ∧ (∀ V, V ≠ 66 → V ≠ 92 → V ≠ 93 → H.1 V = h.1 V) ∧ ∀ i, i ≠ 41 → i ≠ 44 → i ≠ 45 → i ≠ 46 → H.1 66 i = h.1 66 i := by
  obtain ⟨d1, d2, d4, d5, d6⟩ := d
  obtain ⟨g, hg⟩ : ∃ g, g = hU h 66 41 (nI P.1) := ⟨_, rfl⟩
  have g66 : g.1 66 = upd (h.1 66) 41 (nI P.1) := by rw [hg]; rfl
  have gO : ∀ V, V ≠ 66 → g.1 V = h.1 V := fun V hV => by rw [hg, hU_n _ _ _ hV]
  rw [← hg]
  refine glF (fun m (_ : Unit) i h => f_X9_policy_98 n m (nI i) h) (fun i _ H => (∀ V, V ≠ 92 → V ≠ 93 → H.1 V = g.1 V) ∧ ∀ j, j < i → H.1 92 j = P.2.1 j ∧ H.1 93 j = P.2.2.1 j) P.1 (fun o => ∃ H, o = some (n, H) ∧ MP P H ∧ (∀ V, V ≠ 66 → V ≠ 92 → V ≠ 93 → H.1 V = h.1 V) ∧ ∀ i, i ≠ 41 → i ≠ 44 → i ≠ 45 → i ≠ 46 → H.1 66 i = h.1 66 i) (by omega) (fun _ H hI m => ?_) (fun i _ H hi hI => Or.inr ?_) (i := 0) (b := ()) (Nat.zero_le _) ⟨fun _ _ _ => rfl, fun c hc => absurd hc (Nat.not_lt_zero c)⟩
  · obtain ⟨i1, i2⟩ := hI
    have e66 : H.1 66 = upd (h.1 66) 41 (nI P.1) := (i1 66 (by decide) (by decide)).trans g66
    obtain ⟨H', hH'⟩ : ∃ H', H' = hU (hU (hU H 66 44 (h.1 66 50)) 66 45 (h.1 66 51)) 66 46 (h.1 66 52) := ⟨_, rfl⟩
    have t66 : H'.1 66 = upd (upd (upd (upd (h.1 66) 41 (nI P.1)) 44 (h.1 66 50)) 45 (h.1 66 51)) 46 (h.1 66 52) := by rw [hH', hU_s, hU_s, hU_s, e66]
    refine ⟨H', ?_, ⟨by rw [t66]; rfl, fun j hj => ?_, by rw [t66]; exact d4, by rw [t66]; exact d5, by rw [t66]; exact d6⟩, fun V h1 h2 h3 => ?_, fun i h1 h2 h3 h4 => ?_⟩
    · have x50 : H.1 66 50 = h.1 66 50 := by rw [e66, upd_n _ _ (by decide)]
      have x51 : (hU H 66 44 (h.1 66 50)).1 66 51 = h.1 66 51 := by rw [hU_s, upd_n _ _ (by decide), e66, upd_n _ _ (by decide)]
      have x52 : (hU (hU H 66 44 (h.1 66 50)) 66 45 (h.1 66 51)).1 66 52 = h.1 66 52 := by rw [hU_s, upd_n _ _ (by decide), hU_s, upd_n _ _ (by decide), e66, upd_n _ _ (by decide)]
      show f_X9_policy_98 n (m + 1) (nI P.1) H = _
      rw [f_X9_policy_98, e66, upd_s, if_pos (Int32.le_refl _), ← e66, lt'_eq, x50, lt'_eq, x51, lt'_eq, x52, hH']
    · rw [hH', hU_n _ _ _ (by decide), hU_n _ _ _ (by decide), hU_n _ _ _ (by decide), hU_n _ _ _ (by decide), hU_n _ _ _ (by decide), hU_n _ _ _ (by decide)]
      exact i2 j hj
    · rw [hH', hU_n _ _ _ h1, hU_n _ _ _ h1, hU_n _ _ _ h1, i1 V h2 h3, gO V h1]
    · rw [t66, upd_n _ _ h4, upd_n _ _ h3, upd_n _ _ h2, upd_n _ _ h1]
  · obtain ⟨i1, i2⟩ := hI
    have e66 : H.1 66 41 = nI P.1 := by rw [i1 66 (by decide) (by decide), g66, upd_s]
    refine ⟨(), hU (hU H 92 i (P.2.1 i)) 93 i (P.2.2.1 i), ⟨fun V h1 h2 => by rw [hU_n _ _ _ h2, hU_n _ _ _ h1]; exact i1 V h1 h2, fun j hj => ?_⟩, fun m => ?_⟩
    · show upd (H.1 92) i (P.2.1 i) j = _ ∧ upd (H.1 93) i (P.2.2.1 i) j = _
      by_cases e : j = i
      · subst e; rw [upd_s, upd_s]; exact ⟨rfl, rfl⟩
      · rw [upd_n _ _ e, upd_n _ _ e]; exact i2 j (by omega)
    · show f_X9_policy_98 n (m + 1) (nI i) H = f_X9_policy_98 n m (nI (i + 1)) _
      rw [f_X9_policy_98, e66, if_neg (nle hi (by omega)), ag_nI H 94 (by omega) (by omega), bO_some, i1 94 (by decide) (by decide), gO 94 (by decide), (d2 i hi).1, asg_nI _ 92 _ (by omega) (by omega), bO_some, ag_nI _ 95 (by omega) (by omega), bO_some, hU_n _ _ _ (show 95 ≠ 92 by decide), i1 95 (by decide) (by decide), gO 95 (by decide), (d2 i hi).2, asg_nI _ 93 _ (by omega) (by omega), bO_some, nI1]
