/-! ===== a trunk's text: the whole of it; trunk ===== -/
theorem L_clause {X : XD} {T : TD} (w : wfT T) {q : Nat} (hq : q < X.1) : ∃ o : (Nat × Nat) ⊕ (TD × Nat), (∀ h0 h, PCo X h0 (T, q) h → ∃ res, ResC h0 o (PCo X h0) res ∧ ∀ (K : Int32 → PH → Option (Int32 × PH)) (x2 : Int32), bP (f_X3_isWord 0 h) (fun r29 h29 => if r29 = 0 then (bP (f_X3_isWord 1 h29) (fun r47 h47 => if r47 = 0 then (bP (f_X3_refuse 1 h47) (fun r64 h64 => f_X7_readFrom_68 13 K x2 r64 h64)) else (bP (f_X7_readFault 13 h47) (fun r55 h55 => f_X7_readFrom_68 13 K x2 r55 h55)))) else (bP (f_X7_readChange 13 h29) (fun r37 h37 => f_X7_readFrom_68 13 K x2 r37 h37))) = bP res (fun r h => f_X7_readFrom_68 13 K x2 r h)) ∧ (∀ h0 h, PMo X h0 (T, q) h → ResM h0 o (PMo X h0) (f_X9_takeClause h)) ∧ ∀ a, o = .inr a → wfT a.1 ∧ q < a.2 := by
  have hx := nx_lt hq
  have m1 : ∀ h0 h, PMo X h0 (T, q) h → ∃ h1, PMo X h0 (T, q) h1 ∧ tM h h1 ∧ h1.1 66 21 = nI q ∧ h1.1 66 20 = -1 ∧ h1.1 66 24 = nI (we X q) ∧ f_X9_takeClause h = (if wdB X 0 q = true then f_X9_takeClause_79 (nI q) 1 h1 else if wdB X 1 q = true then f_X9_takeClause_79 (nI q) 0 h1 else (bP (f_X9_breaks 1 (nI q) h1) (fun r75 h75 => some (r75, h75)))) := fun h0 h s => by
    obtain ⟨h1, e1, t1, r1, a1, b1, w1, l1⟩ := m_readWord s.1
    have hwe : kn X q = 1 → q ≤ en X q := fun _ => (en_le (Nat.le_of_lt hq)).1
    refine ⟨h1, s.t t1 r1, t1, a1, b1, w1, ?_⟩
    rw [f_X9_takeClause, e1, bO_some, lt'_eq, a1, cd_change.1, bO_some, cd_change.2.1, bO_some, cd_change.2.2, bO_some, ite_c (m_cmp l1 hwe (w := 0) (by decide)), f_X9_takeClause_43, f_X9_takeClause_43, if_neg (show ¬ (1 : Int32) = 0 by decide), if_pos (show (0 : Int32) = 0 from rfl), cd_fault.1, bO_some, cd_fault.2, bO_some, ite_c (m_cmp l1 hwe (w := 1) (by decide))]
  cases hb0 : wdB X 0 q
  · cases hb1 : wdB X 1 q
    · refine ⟨.inl (1, q), fun h0 h s => ?_, fun h0 h s => ?_, fun a e => by cases e⟩
      · obtain ⟨h1, e1, t1, f1⟩ := c_refuse s.1 1
        have e1 : f_X3_refuse 1 h = some (0, h1) := e1
        refine ⟨some (0, h1), ⟨h1, rfl, f1, s.2.2.tC t1⟩, fun K x2 => ?_⟩
        rw [c_isWord s.1 (w := 0) (by decide), bP_some, hb0, if_pos (show b01 false = 0 from rfl), c_isWord s.1 (w := 1) (by decide), bP_some, hb1, if_pos (show b01 false = 0 from rfl), e1]
      · obtain ⟨h1, s1, t1, a1, b1, w1, e1⟩ := m1 h0 h s
        obtain ⟨h2, e2, t2, f2⟩ := m_breaks 1 q h1
        have e2 : f_X9_breaks 1 (nI q) h1 = some (1, h2) := e2
        exact brk_r (X := X) (by decide) (by decide) s1.2.2 ⟨h2, by rw [e1, hb0, if_neg (by decide), hb1, if_neg (by decide), e2, bP_some]; rfl, t2, f2⟩
    · obtain ⟨o, oC, oM, oI⟩ := L_fault w hb1
      refine ⟨o, fun h0 h s => ⟨_, oC h0 h s, fun K x2 => ?_⟩, fun h0 h s => ?_, fun a e => ?_⟩
      · rw [c_isWord s.1 (w := 0) (by decide), bP_some, hb0, if_pos (show b01 false = 0 from rfl), c_isWord s.1 (w := 1) (by decide), bP_some, hb1, if_neg (show ¬ b01 true = 0 by decide)]
      · obtain ⟨h1, s1, t1, a1, b1, w1, e1⟩ := m1 h0 h s
        have hk := wd_kn hb1
        rw [e1, hb0, if_neg (by decide), hb1, if_pos rfl, f_X9_takeClause_79, lt'_eq, if_pos rfl, bP_id, w1, we_en hk]
        exact oM h0 _ (s1.t (tM.u _ rfl) (s1.1.word hk b1))
      · obtain ⟨b1, b2⟩ := oI a e
        exact ⟨b1, by omega⟩
  · obtain ⟨o, oC, oM, oI⟩ := L_change w hb0
    refine ⟨o, fun h0 h s => ⟨_, oC h0 h s, fun K x2 => ?_⟩, fun h0 h s => ?_, fun a e => ?_⟩
    · rw [c_isWord s.1 (w := 0) (by decide), bP_some, hb0, if_neg (show ¬ b01 true = 0 by decide)]
    · obtain ⟨h1, s1, t1, a1, b1, w1, e1⟩ := m1 h0 h s
      have hk := wd_kn hb0
      rw [e1, hb0, if_pos rfl, f_X9_takeClause_79, lt'_eq, if_neg (by decide), bP_id, w1, we_en hk]
      exact oM h0 _ (s1.t (tM.u _ rfl) (s1.1.word hk b1))
    · obtain ⟨b1, b2⟩ := oI a e
      exact ⟨b1, by omega⟩
def LoopM (h0 : PH) (o : (Nat × Nat) ⊕ TD) (res : Option (Int32 × PH)) : Prop := match o with
  | .inl bp => 0 < bp.1 ∧ bp.1 ≤ 4 ∧ ∃ h', res = f_X9_trunk_46 (nI bp.1) h' ∧ h'.1 66 20 = nI bp.2 ∧ FrM h0 h'
  | .inr T => ∃ h', res = f_X9_trunk_46 0 h' ∧ h'.1 66 20 = -1 ∧ DMt T h' ∧ FrM h0 h'
def PCe (X : XD) (h0 : PH) (T : TD) (h' : PH) : Prop := (∃ q, RD X 2 q h') ∧ DCt T h' ∧ FrC h0 h'
theorem L_loop {X : XD} (wx : wfX X) : ∀ D T q k, wfT T → q ≤ X.1 → k ≤ q → X.1 - q ≤ D → ∃ o : (Nat × Nat) ⊕ TD, (∀ h0 h n1, D < n1 → PCo X h0 (T, q) h → ResC h0 o (PCe X h0) (f_X7_readFrom_12 13 n1 (nI k) h)) ∧ (∀ h0 h n2, D + 1 < n2 → PMo X h0 (T, q) h → LoopM h0 o (f_X9_trunk_27 n2 0 h)) ∧ ∀ a, o = .inr a → wfT a := by
  have hN := wx.1
  -- at the end of the text
  have fin : ∀ D T q k, wfT T → q = X.1 → k ≤ q → ∃ o : (Nat × Nat) ⊕ TD, (∀ h0 h n1, D < n1 → PCo X h0 (T, q) h → ResC h0 o (PCe X h0) (f_X7_readFrom_12 13 n1 (nI k) h)) ∧ (∀ h0 h n2, D + 1 < n2 → PMo X h0 (T, q) h → LoopM h0 o (f_X9_trunk_27 n2 0 h)) ∧ ∀ a, o = .inr a → wfT a := by
    intro D T q k w hq hk
    refine ⟨.inr T, fun h0 h n1 hn1 s => ?_, fun h0 h n2 hn2 s => ?_, fun a e => by cases e; exact w⟩
    · cases n1 with
      | zero => omega
      | succ n1 =>
        refine ⟨h, ?_, ⟨q, s.1⟩, s.2.1, s.2.2⟩
        have k0 : kn X q = 0 := if_neg (by omega)
        rw [f_X7_readFrom_12]
        by_cases z : (500 : Int32) ≤ nI k
        · rw [if_pos z]
        · rw [if_neg z, f_X3_atEnd, s.1.2.2.2.2.2.1, show (T, q).2 = q from rfl, k0, if_pos (show nI 0 = 0 from rfl), bP_some, if_neg (by decide)]
    · cases n2 with
      | zero => omega
      | succ n2 =>
        obtain ⟨h1, e1, t1, r1, a1, b1⟩ := m_here s.1
        have eh : hereV X q = -1 := if_neg (by omega)
        have e1 : f_X9_here h = some (hereV X q, h1) := e1
        refine ⟨h1, ?_, b1, s.2.1.tM t1, s.2.2.tM t1⟩
        rw [f_X9_trunk_27, if_pos rfl, e1, bP_some, eh, if_pos (by decide)]
  intro D
  induction D with
  | zero => intro T q k w hq hk hd; exact fin 0 T q k w (by omega) hk
  | succ D ih =>
    intro T q k w hq hk hd
    by_cases hqe : q = X.1
    · exact fin (D + 1) T q k w hqe hk
    · have hql : q < X.1 := by omega
      have hk5 : ¬ (500 : Int32) ≤ nI k := by rw [show (500 : Int32) = nI 500 from rfl, leN (by omega) (by omega)]; omega
      have kn0 : ¬ kn X q = 0 := by rw [kn_kd hql]; rcases kd_cases (X.2 q) with e | e | e <;> omega
      have kn4' := kn4 X q
      have eh : ¬ hereV X q < 0 := by
        unfold hereV
        rw [if_pos hql, Int32.lt_iff_toInt_lt, i0]
        have := (wx.2 q hql).1
        omega
      obtain ⟨o1, o1C, o1M, o1I⟩ := L_clause w hql
      have cst : ∀ h0 h, PCo X h0 (T, q) h → ∃ res, ResC h0 o1 (PCo X h0) res ∧ ∀ n1, f_X7_readFrom_12 13 (n1 + 1) (nI k) h = bP res (fun r h => f_X7_readFrom_68 13 (f_X7_readFrom_12 13 n1) (nI k) r h) := fun h0 h s => by
        obtain ⟨res, hr, hK⟩ := o1C h0 h s
        refine ⟨res, hr, fun n1 => ?_⟩
        have e2 : h.1 3 2 = nI (kn X q) := s.1.2.2.2.2.2.1
        rw [f_X7_readFrom_12, if_neg hk5, f_X3_atEnd, e2, if_neg (nI_ne0 (by omega) (by omega)), bP_some, if_pos rfl, hK]
      have mst : ∀ h0 h, PMo X h0 (T, q) h → ∃ h1, PMo X h0 (T, q) h1 ∧ ∀ n2, f_X9_trunk_27 (n2 + 1) 0 h = bP (f_X9_takeClause h1) (fun r39 h39 => (f_X9_trunk_27 n2) r39 h39) := fun h0 h s => by
        obtain ⟨h1, e1, t1, r1, a1, b1⟩ := m_here s.1
        have e1 : f_X9_here h = some (hereV X q, h1) := e1
        exact ⟨h1, s.t t1 r1, fun n2 => by rw [f_X9_trunk_27, if_pos rfl, e1, bP_some, if_neg eh]⟩
      cases o1 with
      | inl bp =>
        refine ⟨.inl bp, fun h0 h n1 hn1 s => ?_, fun h0 h n2 hn2 s => ?_, fun a e => by cases e⟩
        · cases n1 with
          | zero => omega
          | succ n1 =>
            obtain ⟨res, ⟨h1, e1, f1, g1⟩, e⟩ := cst h0 h s
            exact ⟨h1, by rw [e n1, e1, bP_some, f_X7_readFrom_68, if_pos rfl], f1, g1⟩
        · cases n2 with
          | zero => omega
          | succ n2 =>
            cases n2 with
            | zero => omega
            | succ n2 =>
              obtain ⟨h1, s1, e1⟩ := mst h0 h s
              obtain ⟨z1, z2, h2, e2, f2, g2⟩ := o1M h0 h1 s1
              exact ⟨z1, z2, h2, by rw [e1 (n2 + 1), e2, bP_some, f_X9_trunk_27, if_neg (nI_ne0 z1 (by omega))], f2, g2⟩
      | inr a =>
        obtain ⟨wa, qa⟩ := o1I a rfl
        by_cases hqa : a.2 ≤ X.1
        · obtain ⟨o, oC, oM, oI⟩ := ih a.1 a.2 (k + 1) wa hqa (by omega) (by omega)
          refine ⟨o, fun h0 h n1 hn1 s => ?_, fun h0 h n2 hn2 s => ?_, oI⟩
          · cases n1 with
            | zero => omega
            | succ n1 =>
              obtain ⟨res, ⟨h1, e1, s1⟩, e⟩ := cst h0 h s
              rw [e n1, e1, bP_some, f_X7_readFrom_68, if_neg (by decide), nI1]
              exact oC h0 h1 n1 (by omega) s1
          · cases n2 with
            | zero => omega
            | succ n2 =>
              obtain ⟨h1, s1, e1⟩ := mst h0 h s
              obtain ⟨h2, e2, s2⟩ := o1M h0 h1 s1
              rw [e1 n2, e2, bP_some]
              exact oM h0 h2 n2 (by omega) s2
        · -- no reader stands behind the text
          refine ⟨.inr T, fun h0 h n1 hn1 s => ?_, fun h0 h n2 hn2 s => ?_, fun b e => by cases e; exact w⟩
          · obtain ⟨res, ⟨h1, e1, s1⟩, e⟩ := cst h0 h s
            exact absurd s1.1.2.2.1 hqa
          · obtain ⟨h1, s1, e1⟩ := mst h0 h s
            obtain ⟨h2, e2, s2⟩ := o1M h0 h1 s1
            exact absurd s2.1.2.2.1 hqa
/-! the draft becomes the trunk -/
theorem c_becomeT (h : PH) : ∃ H, f_X7_become 4 13 h = some H ∧ (∀ j, ¬ (4 ≤ j ∧ j ≤ 12) → H.1 j = h.1 j) ∧ ∀ T : TD, tn T ≤ 24 → tf T ≤ 10 → DCt T h → CT T H := by
  obtain ⟨H1, e1, s1, o1⟩ := cpy0 (hU (hU h 4 0 (h.1 13 0)) 4 6 (h.1 13 6)) (13 + 1) (4 + 1) (n := 24) (L := 24) rfl (by omega)
  obtain ⟨H2, e2, s2, o2⟩ := cpy0 H1 (13 + 2) (4 + 2) (n := 24) (L := 24) rfl (by omega)
  obtain ⟨H3, e3, s3, o3⟩ := cpy0 H2 (13 + 3) (4 + 3) (n := 24) (L := 24) rfl (by omega)
  obtain ⟨H4, e4, s4, o4⟩ := cpy0 H3 (13 + 4) (4 + 4) (n := 384) (L := 384) rfl (by omega)
  obtain ⟨H5, e5, s5, o5⟩ := cpy0 H4 (13 + 5) (4 + 5) (n := 400) (L := 400) rfl (by omega)
  obtain ⟨H6, e6, s6, o6⟩ := cpy0 H5 (13 + 6) (4 + 6) (n := 10) (L := 10) rfl (by omega)
  obtain ⟨H7, e7, s7, o7⟩ := cpy0 H6 (13 + 7) (4 + 7) (n := 10) (L := 10) rfl (by omega)
  obtain ⟨H8, e8, s8, o8⟩ := cpy0 H7 (13 + 8) (4 + 8) (n := 10) (L := 10) rfl (by omega)
  have u0 : ∀ j, j ≠ 4 → (hU (hU h 4 0 (h.1 13 0)) 4 6 (h.1 13 6)).1 j = h.1 j := fun j hj => by rw [hU_n _ _ _ hj, hU_n _ _ _ hj]
  have a8 : H8.1 4 = upd (upd (h.1 4) 0 (h.1 13 0)) 6 (h.1 13 6) := by rw [o8 _ (by omega), o7 _ (by omega), o6 _ (by omega), o5 _ (by omega), o4 _ (by omega), o3 _ (by omega), o2 _ (by omega), o1 _ (by omega), hU_s, hU_s]
  refine ⟨H8, ?_, fun j hj => ?_, fun T hn hf hD => ?_⟩
  · rw [f_X7_become, lt'_eq, lt'_eq, hU_n _ _ _ (show 13 ≠ 4 by decide), e1, bO_some, e2, bO_some, e3, bO_some, e4, bO_some, e5, bO_some, e6, bO_some, e7, bO_some, e8, bO_some]
  · rw [o8 _ (by omega), o7 _ (by omega), o6 _ (by omega), o5 _ (by omega), o4 _ (by omega), o3 _ (by omega), o2 _ (by omega), o1 _ (by omega), u0 _ (by omega)]
  · obtain ⟨d0, d6, d1, d2, d3⟩ := hD
    have c5 : ∀ j, j < 24 → H8.1 5 j = h.1 14 j := fun j hj => by rw [o8 _ (by omega), o7 _ (by omega), o6 _ (by omega), o5 _ (by omega), o4 _ (by omega), o3 _ (by omega), o2 _ (by omega)]; exact (s1 j hj).trans (by rw [u0 _ (by omega)])
    have c6 : ∀ j, j < 24 → H8.1 6 j = h.1 15 j := fun j hj => by rw [o8 _ (by omega), o7 _ (by omega), o6 _ (by omega), o5 _ (by omega), o4 _ (by omega), o3 _ (by omega)]; exact (s2 j hj).trans (by rw [o1 _ (by omega), u0 _ (by omega)])
    have c7 : ∀ j, j < 24 → H8.1 7 j = h.1 16 j := fun j hj => by rw [o8 _ (by omega), o7 _ (by omega), o6 _ (by omega), o5 _ (by omega), o4 _ (by omega)]; exact (s3 j hj).trans (by rw [o2 _ (by omega), o1 _ (by omega), u0 _ (by omega)])
    have c8 : ∀ j, j < 384 → H8.1 8 j = h.1 17 j := fun j hj => by rw [o8 _ (by omega), o7 _ (by omega), o6 _ (by omega), o5 _ (by omega)]; exact (s4 j hj).trans (by rw [o3 _ (by omega), o2 _ (by omega), o1 _ (by omega), u0 _ (by omega)])
    have c9 : ∀ j, j < 400 → H8.1 9 j = h.1 18 j := fun j hj => by rw [o8 _ (by omega), o7 _ (by omega), o6 _ (by omega)]; exact (s5 j hj).trans (by rw [o4 _ (by omega), o3 _ (by omega), o2 _ (by omega), o1 _ (by omega), u0 _ (by omega)])
    have c10 : ∀ j, j < 10 → H8.1 10 j = h.1 19 j := fun j hj => by rw [o8 _ (by omega), o7 _ (by omega)]; exact (s6 j hj).trans (by rw [o5 _ (by omega), o4 _ (by omega), o3 _ (by omega), o2 _ (by omega), o1 _ (by omega), u0 _ (by omega)])
    have c11 : ∀ j, j < 10 → H8.1 11 j = h.1 20 j := fun j hj => by rw [o8 _ (by omega)]; exact (s7 j hj).trans (by rw [o6 _ (by omega), o5 _ (by omega), o4 _ (by omega), o3 _ (by omega), o2 _ (by omega), o1 _ (by omega), u0 _ (by omega)])
    have c12 : ∀ j, j < 10 → H8.1 12 j = h.1 21 j := fun j hj => (s8 j hj).trans (by rw [o7 _ (by omega), o6 _ (by omega), o5 _ (by omega), o4 _ (by omega), o3 _ (by omega), o2 _ (by omega), o1 _ (by omega), u0 _ (by omega)])
    refine ⟨?_, ?_, fun c hc => ?_, fun c hc s hs => ?_, fun f hf2 => ?_⟩
    · rw [a8, upd_n _ _ (by decide), upd_s]; exact d0
    · rw [a8, upd_s]; exact d6
    · obtain ⟨q1, q2, q3, q4⟩ := d1 c hc
      exact ⟨(c5 c (by omega)).trans q1, (c6 c (by omega)).trans q2, (c7 c (by omega)).trans q3, fun s hs => (c8 _ (by omega)).trans (q4 s hs)⟩
    · exact (c9 _ (by omega)).trans (d2 c hc s hs)
    · obtain ⟨q1, q2, q3⟩ := d3 f hf2
      exact ⟨(c10 f (by omega)).trans q1, (c11 f (by omega)).trans q2, (c12 f (by omega)).trans q3⟩
theorem ahd_last (T : TD) (s : Nat) : ∀ c, (lastS T s c = -1 ∧ ahd T c s = 0) ∨ ∃ d, d < c ∧ lastS T s c = nI d ∧ ahd T c s = tst T d s := by
  intro c
  induction c with
  | zero => exact Or.inl ⟨rfl, rfl⟩
  | succ c ih =>
    rw [lastS, ahd]
    by_cases hb : sb T c s = true
    · rw [if_pos hb, if_pos hb]; exact Or.inr ⟨c, by omega, rfl, rfl⟩
    · rw [if_neg hb, if_neg hb]
      rcases ih with e | ⟨d, hd, e⟩
      · exact Or.inl e
      · exact Or.inr ⟨d, by omega, e⟩
theorem m_setter2 {T : TD} {h : PH} (hn : tn T ≤ 24) (h67 : ∀ k, k < tn T → ∀ s, s < 16 → h.1 67 (16 * k + s) = tst T k s) {c s : Nat} (hc : c ≤ tn T) (hs : s < 16) : f_X9_setter (nI c) (nI s) h = some (lastS T s c, h) := by
  rw [f_X9_setter, show (-1 : Int32) = lastS T s 0 from rfl, show (0 : Int32) = nI 0 from rfl]
  refine lp_up (fun n a i => f_X9_setter_5 (nI c) (nI s) n a (nI i) h) (lastS T s) c _ (fun n => ?_) (fun n i hi => ?_) FU 0 (Nat.zero_le _) (FU_gt (by omega))
  · show f_X9_setter_5 (nI c) (nI s) (n + 1) _ _ h = _
    rw [f_X9_setter_5, if_pos (Int32.le_refl _)]
  · show f_X9_setter_5 (nI c) (nI s) (n + 1) _ _ h = f_X9_setter_5 (nI c) (nI s) n _ _ h
    have e : ag h 67 384 (16 * nI i + nI s) = some (tst T i s) := by rw [ixM, ag_nI h _ (by omega) (by decide)]; exact congrArg some (h67 i (by omega) s hs)
    rw [f_X9_setter_5, if_neg (by rw [leN (by omega) (by omega)]; omega), e, bO_some, lastS, nI1]
    by_cases hb : tst T i s ≤ 0
    · rw [if_pos hb, if_neg (by simp [sb, hb])]
    · rw [if_neg hb, if_pos (by simp [sb, hb])]
theorem m_ahead12 {T : TD} {h : PH} (hn : tn T ≤ 24) (h67 : ∀ k, k < tn T → ∀ s, s < 16 → h.1 67 (16 * k + s) = tst T k s) {c : Nat} (hc : c ≤ tn T) (k2 : Int32 → PH → Option PH) : f_X9_findAhead_12 (nI c) k2 FU 0 h = k2 (nI (c + 1)) (hC h 88 (segF (h.1 88) (16 * c) (ahd T c) 16)) := by
  have h00 : h = hC h 88 (segF (h.1 88) (16 * c) (ahd T c) 0) := by rw [segF_0, hC_self]
  conv => lhs; rw [h00]
  refine lp_up (fun n a i => f_X9_findAhead_12 (nI c) k2 n (nI i) a) (fun i => hC h 88 (segF (h.1 88) (16 * c) (ahd T c) i)) 16 _ (fun n => ?_) (fun n i hi => ?_) FU 0 (Nat.zero_le _) (FU_gt (by omega))
  · show f_X9_findAhead_12 _ _ (n + 1) (nI 16) _ = _
    rw [f_X9_findAhead_12, if_pos (p16 (by omega) (by omega)), nI1]
  · show f_X9_findAhead_12 _ _ (n + 1) (nI i) _ = f_X9_findAhead_12 _ _ n (nI (i + 1)) _
    have es := m_setter2 (h := hC h 88 (segF (h.1 88) (16 * c) (ahd T c) i)) hn (fun k hk s hs => by rw [hC_n _ _ (by decide)]; exact h67 k hk s hs) hc hi
    have e54 : ∀ v, f_X9_findAhead_54 (nI c) k2 (f_X9_findAhead_12 (nI c) k2 n) (nI i) (16 * nI c + nI i) v (hC h 88 (segF (h.1 88) (16 * c) (ahd T c) i)) = f_X9_findAhead_12 (nI c) k2 n (nI (i + 1)) (hC h 88 (upd (segF (h.1 88) (16 * c) (ahd T c) i) (16 * c + i) v)) := fun v => by
      rw [f_X9_findAhead_54, ixM, asg_nI _ 88 _ (by omega) (by omega), bO_some, nI1, hC_hU]
    rw [f_X9_findAhead_12, if_neg (n16 hi), es, bP_some, e54, ← segF_s]
    rcases ahd_last T i c with ⟨l1, l2⟩ | ⟨d, hd, l1, l2⟩
    · rw [l1, if_neg (by decide), l2]
    · rw [l1, if_pos (nIne (by omega)), l2, ixM, ag_nI _ 67 (by omega) (by omega), bO_some, hC_n _ _ (show 67 ≠ 88 by decide), h67 d (by omega) i hi, e54]
theorem m_findAhead {T : TD} {h : PH} (hn : tn T ≤ 24) (h0 : h.1 66 0 = nI (tn T)) (h67 : ∀ k, k < tn T → ∀ s, s < 16 → h.1 67 (16 * k + s) = tst T k s) : ∃ H, f_X9_findAhead h = some H ∧ (∀ V, V ≠ 88 → H.1 V = h.1 V) ∧ ∀ c, c ≤ tn T → ∀ s, s < 16 → H.1 88 (16 * c + s) = ahd T c s := by
  refine glF (fun n (_ : Unit) i h => f_X9_findAhead_2 n (nI i) h) (fun i _ H => (∀ V, V ≠ 88 → H.1 V = h.1 V) ∧ ∀ c, c < i → ∀ s, s < 16 → H.1 88 (16 * c + s) = ahd T c s) (tn T + 1) (fun o => ∃ H, o = some H ∧ (∀ V, V ≠ 88 → H.1 V = h.1 V) ∧ ∀ c, c ≤ tn T → ∀ s, s < 16 → H.1 88 (16 * c + s) = ahd T c s) (by omega) (fun _ H hI n => ?_) (fun i _ H hi hI => Or.inr ?_) (i := 0) (b := ()) (Nat.zero_le _) ⟨fun _ _ => rfl, fun c hc => absurd hc (Nat.not_lt_zero c)⟩
  · refine ⟨H, ?_, hI.1, fun c hc => hI.2 c (by omega)⟩
    show f_X9_findAhead_2 (n + 1) (nI (tn T + 1)) H = _
    rw [f_X9_findAhead_2, hI.1 66 (by decide), h0, if_pos (by rw [ltN (by omega) (by omega)]; omega)]
  · obtain ⟨i1, i2⟩ := hI
    have h67' : ∀ k, k < tn T → ∀ s, s < 16 → H.1 67 (16 * k + s) = tst T k s := fun k hk s hs => by rw [i1 67 (by decide)]; exact h67 k hk s hs
    refine ⟨(), hC H 88 (segF (H.1 88) (16 * i) (ahd T i) 16), ⟨fun V hV => (hC_n _ _ hV).trans (i1 V hV), fun c hc s hs => ?_⟩, fun n => ?_⟩
    · rw [hC_s]
      by_cases e : c = i
      · subst e; rw [segF_in hs]
      · rw [segF_out (by omega)]; exact i2 c (by omega) s hs
    · show f_X9_findAhead_2 (n + 1) (nI i) H = f_X9_findAhead_2 n (nI (i + 1)) _
      rw [f_X9_findAhead_2, i1 66 (by decide), h0, if_neg (by rw [ltN (by omega) (by omega)]; omega), m_ahead12 hn h67' (by omega)]
