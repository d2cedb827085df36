/-! ===== a policy's text: the rules ===== -/
theorem QC.z {X : XD} {P : PD} {k q : Nat} {h0 h : PH} (s : QC X P k q h0 h) (a b : Int32) : QC X (addZ P a b) k q h0 (hU (hU (hU h 26 P.1 a) 27 P.1 b) 25 1 (nI (P.1 + 1))) := by
  obtain ⟨d0, d1, d2, d4, d5, d6⟩ := s.2.1
  refine ⟨s.1.k3 rfl rfl rfl, ⟨by rw [hU_s, upd_n _ _ (by decide)]; exact d0, by rw [hU_s, upd_s]; rfl, fun j hj => ?_, by rw [hU_s, upd_n _ _ (by decide)]; exact d4, by rw [hU_s, upd_n _ _ (by decide)]; exact d5, by rw [hU_s, upd_n _ _ (by decide)]; exact d6⟩, ((s.2.2.u _ _ (by omega)).u _ _ (by omega)).u _ _ (by omega)⟩
  have hj : j < P.1 + 1 := hj
  show upd (h.1 26) P.1 a j = upd P.2.1 P.1 a j ∧ upd (h.1 27) P.1 b j = upd P.2.2.1 P.1 b j
  by_cases e : j = P.1
  · subst e; rw [upd_s, upd_s, upd_s, upd_s]; exact ⟨rfl, rfl⟩
  · rw [upd_n _ _ e, upd_n _ _ e, upd_n _ _ e, upd_n _ _ e]; exact d2 j (by omega)
theorem QM.z {X : XD} {P : PD} {q : Nat} {h0 h : PH} (s : QM X P q h0 h) (a b : Int32) : QM X (addZ P a b) q h0 (hU (hU (hU h 94 P.1 a) 95 P.1 b) 66 47 (nI (P.1 + 1))) := by
  obtain ⟨d1, d2, d4, d5, d6⟩ := s.2.1
  refine ⟨s.1.k rfl (fun i h1 h2 => by rw [hU_s, upd_n _ _ (by omega)]; rfl), ⟨by rw [hU_s, upd_s]; rfl, fun j hj => ?_, by rw [hU_s, upd_n _ _ (by decide)]; exact d4, by rw [hU_s, upd_n _ _ (by decide)]; exact d5, by rw [hU_s, upd_n _ _ (by decide)]; exact d6⟩, ((s.2.2.u _ _ (by omega)).u _ _ (by omega)).u66 _ rfl⟩
  have hj : j < P.1 + 1 := hj
  show upd (h.1 94) P.1 a j = upd P.2.1 P.1 a j ∧ upd (h.1 95) P.1 b j = upd P.2.2.1 P.1 b j
  by_cases e : j = P.1
  · subst e; rw [upd_s, upd_s, upd_s, upd_s]; exact ⟨rfl, rfl⟩
  · rw [upd_n _ _ e, upd_n _ _ e, upd_n _ _ e, upd_n _ _ e]; exact d2 j (by omega)
theorem brkN {α : Type} {h0 h : PH} {n q : Nat} {Q : α → PH → Prop} {res : Option (Int32 × PH)} (hn : 0 < n) (hn4 : n ≤ 4) (f : FmP h0 h) (e : ∃ h', res = some (nI n, h') ∧ tM h h' ∧ h'.1 66 20 = nI q) : ResN h0 (.inl (n, q)) Q res := by
  obtain ⟨h', e1, t, e2⟩ := e
  exact ⟨hn, hn4, h', e1, e2, f.on t⟩
/-- freeze: from the word's place q -/
theorem L_freeze {X : XD} {P : PD} (w : wfP P) (h8 : P.1 < 8) {k q : Nat} (hk1 : kn X q = 1) : ∃ o : (Nat × Nat) ⊕ (PD × Nat), (∀ h0 h, QC X P k q h0 h → ClS X h0 k o (clE (f_X5_readFreeze 25 h))) ∧ (∀ h0 h, QM X P q h0 h → h.1 66 24 = nI (we X q) → h.1 66 20 = -1 → ResN h0 o (QMa X h0) (bP (f_X9_takeFreeze h) (fun r193 h193 => f_X9_takeRule_270 r193 h193))) ∧ ∀ a, o = .inr a → wfP a.1 ∧ q < a.2 := by
  have hqN : q < X.1 := kn_lt (by omega)
  have hx := nx_lt hqN
  have x1 := nx_le (Nat.le_of_lt hqN)
  have n8 : ¬ nI P.1 = 8 := by rw [show (8 : Int32) = nI 8 from rfl, eqN (by omega) (by omega)]; omega
  generalize hq1 : nx X q = q1 at hx x1
  have fl1 := ft_le X 3 q1 0 999
  have c0 : ∀ h0 h, QC X P k q h0 h → ∃ h1, QC X P k q1 h0 h1 ∧ f_X3_step h = some h1 := fun h0 h s => by
    obtain ⟨h1, e1, t1, r1, -⟩ := c_stepR s.1
    have r1 : RD X 3 q1 h1 := by rw [← hq1]; exact r1
    exact ⟨h1, s.t t1 r1, e1⟩
  have m0 : ∀ h0 h, QM X P q h0 h → h.1 66 24 = nI (we X q) → h.1 66 20 = -1 → ∃ h1, QM X P q1 h0 h1 ∧ f_X9_takeFreeze h = (bP (f_X9_takeNumber 0 999 h1) (fun r32 h32 => lt' ((h32.1 66 25)) (fun x2_40 => if r32 ≤ 0 then (bP (f_X9_takeNumber x2_40 999 h32) (fun r54 h54 => f_X9_takeFreeze_57 x2_40 r54 h54)) else (f_X9_takeFreeze_57 x2_40 r32 h32)))) := fun h0 h s e24 e20 => by
    have r1 := s.1.word hk1 e20
    rw [hq1] at r1
    refine ⟨hU h 66 21 (nI (en X q)), s.t (tM.u _ rfl) r1, ?_⟩
    rw [f_X9_takeFreeze, s.2.1.1, if_neg n8, lt'_eq, e24, we_en hk1]
  -- a fault in the model: what it lays then
  have m57 : ∀ h0 (h : PH) (a : Int32) (b p : Nat), 0 < b → b ≤ 4 → FmP h0 h → h.1 66 47 = nI P.1 → h.1 66 20 = nI p → ResN h0 (.inl (b, p)) (QMa X h0) (bP (f_X9_takeFreeze_57 a (nI b) h) (fun r193 h193 => f_X9_takeRule_270 r193 h193)) := fun h0 h a b p hb hb4 f e47 e20 => by
    refine ⟨hb, hb4, hU (hU (hU h 94 P.1 a) 95 P.1 (h.1 66 25)) 66 47 (nI (P.1 + 1)), ?_, ?_, ((f.u _ _ (by omega)).u _ _ (by omega)).u66 _ rfl⟩
    · rw [f_X9_takeFreeze_57, e47, asg_nI h 94 _ h8 (by omega), bO_some, hU_n _ _ _ (show 66 ≠ 94 by decide), e47, asg_nI _ 95 _ h8 (by omega), bO_some, lt'_eq, hU_n _ _ _ (show 66 ≠ 95 by decide), hU_n _ _ _ (show 66 ≠ 94 by decide), e47, nI1, bP_some, f_X9_takeRule_270, if_neg (nI_nle hb (by omega))]
    · rw [hU_s, upd_n _ _ (by decide), hU_n _ _ _ (by decide), hU_n _ _ _ (by decide)]; exact e20
  by_cases f1 : ft X 3 q1 0 999 = 0
  · have nv1 := (ft_nv f1).2.2
    have x2 := nx_le x1.2.1
    generalize ha : nv X q1 = a at nv1
    generalize hq2 : nx X q1 = q2 at x2
    have fl2 := ft_le X 3 q2 (nI a) 999
    by_cases f2 : ft X 3 q2 (nI a) 999 = 0
    · have nv2 := (ft_nv f2).2.2
      have x3 := nx_le x2.2.1
      generalize hb : nv X q2 = b at nv2
      generalize hq3 : nx X q2 = q3 at x3
      obtain ⟨o, oC, oM, oI⟩ := pend (X := X) (addZ P (nI a) (nI b)) k q3
      refine ⟨o, fun h0 h s => ?_, fun h0 h s e24 e20 => ?_, fun c e => ?_⟩
      · obtain ⟨h1, s1, e1⟩ := c0 h0 h s
        rcases c_needNumber s1.1 (by omega) 0 999 with ⟨-, h2, e2, t2, r2⟩ | ⟨g, -⟩
        · have r2 : RD X 3 q2 h2 := by rw [← hq2]; exact r2
          rw [ha] at e2
          have s2 := s1.t t2 r2
          rcases c_needNumber s2.1 (by omega) (nI a) 999 with ⟨-, h3, e3, t3, r3⟩ | ⟨g, -⟩
          · have r3 : RD X 3 q3 h3 := by rw [← hq3]; exact r3
            rw [hb] at e3
            have s3 := s2.t t3 r3
            have a1 : asg h3 (25 + 1) 8 (nI P.1) (nI a) = some (hU h3 26 P.1 (nI a)) := asg_nI h3 26 _ h8 (by omega)
            have a2 : asg (hU h3 26 P.1 (nI a)) (25 + 2) 8 (nI P.1) (nI b) = some (hU (hU h3 26 P.1 (nI a)) 27 P.1 (nI b)) := asg_nI _ 27 _ h8 (by omega)
            have e : f_X5_readFreeze 25 h = some (1, hU (hU (hU h3 26 P.1 (nI a)) 27 P.1 (nI b)) 25 1 (nI (P.1 + 1))) := by
              rw [f_X5_readFreeze, e1, bO_some, e2, bP_some, if_neg (nI_ne_m1 (by omega)), e3, bP_some, if_neg (nI_ne_m1 (by omega)), s3.2.1.2.1, a1, bO_some, hU_n _ _ _ (show 25 ≠ 26 by decide), s3.2.1.2.1, a2, bO_some, lt'_eq, hU_n _ _ _ (show 25 ≠ 27 by decide), hU_n _ _ _ (show 25 ≠ 26 by decide), s3.2.1.2.1, nI1]
            rw [e]
            exact oC h0 _ (s3.z (nI a) (nI b))
          · exact absurd f2 g
        · exact absurd f1 g
      · obtain ⟨h1, s1, e1⟩ := m0 h0 h s e24 e20
        rcases m_takeNumber s1.1 (by omega) 0 999 with ⟨-, h2, e2, t2, r2, v2, -⟩ | ⟨g, -⟩
        · have r2 : PM X 3 q2 h2 := by rw [← hq2]; exact r2
          rw [ha] at v2
          have s2 := s1.t t2 r2
          rcases m_takeNumber s2.1 (by omega) (nI a) 999 with ⟨-, h3, e3, t3, r3, v3, -⟩ | ⟨g, -⟩
          · have r3 : PM X 3 q3 h3 := by rw [← hq3]; exact r3
            rw [hb] at v3
            have s3 := s2.t t3 r3
            have e : f_X9_takeFreeze h = some (0, hU (hU (hU h3 94 P.1 (nI a)) 95 P.1 (nI b)) 66 47 (nI (P.1 + 1))) := by
              rw [e1, e2, bP_some, lt'_eq, v2, if_pos (by decide), e3, bP_some, f_X9_takeFreeze_57, s3.2.1.1, asg_nI h3 94 _ h8 (by omega), bO_some, hU_n _ _ _ (show 66 ≠ 94 by decide), s3.2.1.1, v3, asg_nI _ 95 _ h8 (by omega), bO_some, lt'_eq, hU_n _ _ _ (show 66 ≠ 95 by decide), hU_n _ _ _ (show 66 ≠ 94 by decide), s3.2.1.1, nI1]
            rw [e, bP_some]
            exact oM h0 _ (s3.z (nI a) (nI b))
          · exact absurd f2 g
        · exact absurd f1 g
      · obtain ⟨g1, g2⟩ := oI c e
        exact ⟨by rw [g1]; exact wfP_Z w h8 (by omega) (by omega), by omega⟩
    · refine ⟨.inl (ft X 3 q2 (nI a) 999, q2), fun h0 h s => ClS.fail ?_, fun h0 h s e24 e20 => ?_, fun c e => by cases e⟩
      · obtain ⟨h1, s1, e1⟩ := c0 h0 h s
        rcases c_needNumber s1.1 (by omega) 0 999 with ⟨-, h2, e2, t2, r2⟩ | ⟨g, -⟩
        · have r2 : RD X 3 q2 h2 := by rw [← hq2]; exact r2
          rw [ha] at e2
          have s2 := s1.t t2 r2
          rcases c_needNumber s2.1 (by omega) (nI a) 999 with ⟨g, -⟩ | ⟨-, h3, e3, t3, f3⟩
          · exact absurd g f2
          · exact ⟨h3, by rw [f_X5_readFreeze, e1, bO_some, e2, bP_some, if_neg (nI_ne_m1 (by omega)), e3, bP_some, if_pos rfl], f3, s2.2.2.on t3⟩
        · exact absurd f1 g
      · obtain ⟨h1, s1, e1⟩ := m0 h0 h s e24 e20
        rcases m_takeNumber s1.1 (by omega) 0 999 with ⟨-, h2, e2, t2, r2, v2, -⟩ | ⟨g, -⟩
        · have r2 : PM X 3 q2 h2 := by rw [← hq2]; exact r2
          rw [ha] at v2
          have s2 := s1.t t2 r2
          rcases m_takeNumber s2.1 (by omega) (nI a) 999 with ⟨g, -⟩ | ⟨-, h3, e3, t3, f3⟩
          · exact absurd g f2
          · rw [e1, e2, bP_some, lt'_eq, v2, if_pos (by decide), e3, bP_some]
            exact m57 h0 h3 _ _ _ (by omega) (by omega) (s2.2.2.on t3) (by rw [t3.2 47 rfl]; exact s2.2.1.1) f3
        · exact absurd f1 g
  · refine ⟨.inl (ft X 3 q1 0 999, q1), fun h0 h s => ClS.fail ?_, fun h0 h s e24 e20 => ?_, fun c e => by cases e⟩
    · obtain ⟨h1, s1, e1⟩ := c0 h0 h s
      rcases c_needNumber s1.1 (by omega) 0 999 with ⟨g, -⟩ | ⟨-, h2, e2, t2, f2⟩
      · exact absurd g f1
      · exact ⟨h2, by rw [f_X5_readFreeze, e1, bO_some, e2, bP_some, if_pos rfl], f2, s1.2.2.on t2⟩
    · obtain ⟨h1, s1, e1⟩ := m0 h0 h s e24 e20
      rcases m_takeNumber s1.1 (by omega) 0 999 with ⟨g, -⟩ | ⟨-, h2, e2, t2, f2⟩
      · exact absurd g f1
      · rw [e1, e2, bP_some, lt'_eq, if_neg (show ¬ nI (ft X 3 q1 0 999) ≤ 0 from nI_nle (by omega) (by omega))]
        exact m57 h0 h2 _ _ _ (by omega) (by omega) (s1.2.2.on t2) (by rw [t2.2 47 rfl]; exact s1.2.1.1) f2
/-- risk, weigh: a number below 100 -/
theorem L_num {X : XD} {P P' : PD} {k q : Nat} (hk1 : kn X q = 1) (cF : PH → Option (Int32 × PH)) (mF : Int32 → PH → Option (Int32 × PH)) (wr : Nat → PD) (hC : ∀ h h1 v, f_X3_step h = some h1 → ∀ h2, f_X3_needNumber 0 99 h1 = some (v, h2) → ∃ i, (i = 4 ∨ i = 5) ∧ cF h = (if v = -1 then some (0, hU h2 25 i v) else some (1, hU h2 25 i v))) (hC2 : ∀ h0 h2 v q', QC X P k q' h0 h2 → ∀ h h1, f_X3_step h = some h1 → f_X3_needNumber 0 99 h1 = some (nI v, h2) → v ≤ 99 → ∃ h3, cF h = some (1, h3) ∧ QC X (wr v) k q' h0 h3) (hM : ∀ h0 h v q', QM X P q' h0 h → h.1 66 25 = nI v → v ≤ 99 → ∃ h3, mF 0 h = f_X9_takeRule_270 0 h3 ∧ QM X (wr v) q' h0 h3) (hM2 : ∀ h0 h b, FmP h0 h → 0 < b → b ≤ 4 → ∃ h3, mF (nI b) h = some (nI b, h3) ∧ FmP h0 h3 ∧ h3.1 66 20 = h.1 66 20) (hw : ∀ v, v ≤ 99 → wfP (wr v)) : ∃ o : (Nat × Nat) ⊕ (PD × Nat), (∀ h0 h, QC X P k q h0 h → ClS X h0 k o (clE (cF h))) ∧ (∀ h0 h, QM X P q h0 h → h.1 66 24 = nI (we X q) → h.1 66 20 = -1 → ResN h0 o (QMa X h0) (bP (f_X9_takeNumber 0 99 (hU h 66 21 (h.1 66 24))) (fun r225 h225 => mF r225 h225))) ∧ ∀ a, o = .inr a → wfP a.1 ∧ q < a.2 := by
  have hqN : q < X.1 := kn_lt (by omega)
  have hx := nx_lt hqN
  have x1 := nx_le (Nat.le_of_lt hqN)
  generalize hq1 : nx X q = q1 at hx x1
  have fl1 := ft_le X 3 q1 0 99
  have m0 : ∀ h0 h, QM X P q h0 h → h.1 66 24 = nI (we X q) → h.1 66 20 = -1 → QM X P q1 h0 (hU h 66 21 (h.1 66 24)) := fun h0 h s e24 e20 => by
    have r1 := s.1.word hk1 e20
    rw [hq1] at r1
    rw [e24, we_en hk1]
    exact s.t (tM.u _ rfl) r1
  by_cases f1 : ft X 3 q1 0 99 = 0
  · have nv1 := (ft_nv f1).2.2
    have x2 := nx_le x1.2.1
    have hv : nv X q1 ≤ 99 := by have := nv1.1; rw [show (99 : Int32).toInt = 99 from rfl] at this; omega
    obtain ⟨o, oC, oM, oI⟩ := pend (X := X) (wr (nv X q1)) k (nx X q1)
    refine ⟨o, fun h0 h s => ?_, fun h0 h s e24 e20 => ?_, fun c e => ?_⟩
    · obtain ⟨h1, e1, t1, r1, -⟩ := c_stepR s.1
      have r1 : RD X 3 q1 h1 := by rw [← hq1]; exact r1
      have s1 := s.t t1 r1
      rcases c_needNumber s1.1 (by omega) 0 99 with ⟨-, h2, e2, t2, r2⟩ | ⟨g, -⟩
      · obtain ⟨h3, e3, s3⟩ := hC2 h0 h2 _ _ (s1.t t2 r2) h h1 e1 e2 hv
        rw [e3]
        exact oC h0 h3 s3
      · exact absurd f1 g
    · have s1 := m0 h0 h s e24 e20
      rcases m_takeNumber s1.1 (by omega) 0 99 with ⟨-, h2, e2, t2, r2, v2, -⟩ | ⟨g, -⟩
      · obtain ⟨h3, e3, s3⟩ := hM h0 h2 _ _ (s1.t t2 r2) v2 hv
        rw [e2, bP_some, e3]
        exact oM h0 h3 s3
      · exact absurd f1 g
    · obtain ⟨g1, g2⟩ := oI c e
      exact ⟨by rw [g1]; exact hw _ hv, by omega⟩
  · refine ⟨.inl (ft X 3 q1 0 99, q1), fun h0 h s => ClS.fail ?_, fun h0 h s e24 e20 => ?_, fun c e => by cases e⟩
    · obtain ⟨h1, e1, t1, r1, -⟩ := c_stepR s.1
      have r1 : RD X 3 q1 h1 := by rw [← hq1]; exact r1
      have s1 := s.t t1 r1
      rcases c_needNumber s1.1 (by omega) 0 99 with ⟨g, -⟩ | ⟨-, h2, e2, t2, f2⟩
      · exact absurd g f1
      · obtain ⟨i, hi, e3⟩ := hC h h1 (-1) e1 h2 e2
        rw [if_pos rfl] at e3
        exact ⟨_, e3, f2, (s1.2.2.on t2).u _ _ (by decide)⟩
    · have s1 := m0 h0 h s e24 e20
      rcases m_takeNumber s1.1 (by omega) 0 99 with ⟨g, -⟩ | ⟨-, h2, e2, t2, f2⟩
      · exact absurd g f1
      · obtain ⟨h3, e3, g3, b3⟩ := hM2 h0 h2 (ft X 3 q1 0 99) (s1.2.2.on t2) (by omega) (by omega)
        exact ⟨by show 0 < ft X 3 q1 0 99; omega, by show ft X 3 q1 0 99 ≤ 4; omega, h3, by rw [e2, bP_some, e3], by rw [b3]; exact f2, g3⟩
theorem r228 (x3 r : Int32) (h : PH) : f_X9_takeRule_228 x3 r h = f_X9_takeRule_270 r (hU (hU h 66 50 (if x3 = 1 then h.1 66 25 else h.1 66 50)) 66 51 (if x3 = 2 then h.1 66 25 else h.1 66 51)) := by
  have e25 : ∀ v, (hU h 66 50 v).1 66 25 = h.1 66 25 := fun v => by rw [hU_s, upd_n _ _ (by decide)]
  have e51 : ∀ v, (hU h 66 50 v).1 66 51 = h.1 66 51 := fun v => by rw [hU_s, upd_n _ _ (by decide)]
  rw [f_X9_takeRule_228, f_X9_takeRule_247, f_X9_takeRule_247, lt'_eq, lt'_eq, f_X9_takeRule_267, f_X9_takeRule_267, f_X9_takeRule_267, f_X9_takeRule_267, lt'_eq, lt'_eq, lt'_eq, lt'_eq, e25, e25, e51, e51]
  by_cases h1 : x3 = 1
  · rw [if_pos h1, if_pos h1]
    by_cases h2 : x3 = 2
    · rw [if_pos h2, if_pos h2]
    · rw [if_neg h2, if_neg h2]
  · rw [if_neg h1, if_neg h1]
    by_cases h2 : x3 = 2
    · rw [if_pos h2, if_pos h2]
    · rw [if_neg h2, if_neg h2]
theorem hU_same (h : PH) (V k : Nat) : hU h V k (h.1 V k) = h := by
  have uu : upd (h.1 V) k (h.1 V k) = h.1 V := by
    funext j; unfold upd; by_cases e : j = k
    · subst e; rw [if_pos rfl]
    · rw [if_neg e]
  show hC h V (upd (h.1 V) k (h.1 V k)) = h
  rw [uu, hC_self]
theorem m270 (b : Nat) (h : PH) (hb : 0 < b) (h4 : b ≤ 4) : f_X9_takeRule_270 (nI b) h = some (nI b, h) := by rw [f_X9_takeRule_270, if_neg (nI_nle hb (by omega))]
theorem L_risk {X : XD} {P : PD} (w : wfP P) {k q : Nat} (hk1 : kn X q = 1) : ∃ o : (Nat × Nat) ⊕ (PD × Nat), (∀ h0 h, QC X P k q h0 h → ClS X h0 k o (clE (f_X5_readRisk 25 h))) ∧ (∀ h0 h, QM X P q h0 h → h.1 66 24 = nI (we X q) → h.1 66 20 = -1 → ResN h0 o (QMa X h0) (bP (f_X9_takeNumber 0 99 (hU h 66 21 (h.1 66 24))) (fun r225 h225 => f_X9_takeRule_228 1 r225 h225))) ∧ ∀ a, o = .inr a → wfP a.1 ∧ q < a.2 := by
  have eC : ∀ h h1 v, f_X3_step h = some h1 → ∀ h2, f_X3_needNumber 0 99 h1 = some (v, h2) → f_X5_readRisk 25 h = (if v = -1 then some (0, hU h2 25 4 v) else some (1, hU h2 25 4 v)) := fun h h1 v e1 h2 e2 => by
    rw [f_X5_readRisk, e1, bO_some, e2, bP_some, lt'_eq, hU_s, upd_s]
  have eM : ∀ r h, f_X9_takeRule_228 1 r h = f_X9_takeRule_270 r (hU h 66 50 (h.1 66 25)) := fun r h => by
    rw [r228, if_pos rfl, if_neg (by decide)]
    have : h.1 66 51 = (hU h 66 50 (h.1 66 25)).1 66 51 := by rw [hU_s, upd_n _ _ (by decide)]
    rw [this, hU_same]
  refine L_num (P' := P) hk1 (f_X5_readRisk 25) (f_X9_takeRule_228 1) (fun v => setR P (nI v)) (fun h h1 v e1 h2 e2 => ⟨4, Or.inl rfl, eC h h1 v e1 h2 e2⟩) (fun h0 h2 v q' s h h1 e1 e2 hv => ⟨_, by rw [eC h h1 _ e1 h2 e2, if_neg (nI_ne_m1 (by omega))], s.r (nI v)⟩) (fun h0 h v q' s e25 hv => ⟨_, eM 0 h, by rw [e25]; exact s.r (nI v)⟩) (fun h0 h b f hb hb4 => ⟨_, by rw [eM, m270 b _ hb hb4], f.u66 _ rfl, by rw [hU_s, upd_n _ _ (by decide)]⟩) (fun v hv => wfP_R w (Or.inr (by rw [nI_toInt (by omega)]; omega)))
theorem L_weigh {X : XD} {P : PD} (w : wfP P) {k q : Nat} (hk1 : kn X q = 1) : ∃ o : (Nat × Nat) ⊕ (PD × Nat), (∀ h0 h, QC X P k q h0 h → ClS X h0 k o (clE (f_X5_readWeight 25 h))) ∧ (∀ h0 h, QM X P q h0 h → h.1 66 24 = nI (we X q) → h.1 66 20 = -1 → ResN h0 o (QMa X h0) (bP (f_X9_takeNumber 0 99 (hU h 66 21 (h.1 66 24))) (fun r225 h225 => f_X9_takeRule_228 2 r225 h225))) ∧ ∀ a, o = .inr a → wfP a.1 ∧ q < a.2 := by
  have eC : ∀ h h1 v, f_X3_step h = some h1 → ∀ h2, f_X3_needNumber 0 99 h1 = some (v, h2) → f_X5_readWeight 25 h = (if v = -1 then some (0, hU h2 25 5 v) else some (1, hU h2 25 5 v)) := fun h h1 v e1 h2 e2 => by
    rw [f_X5_readWeight, e1, bO_some, e2, bP_some, lt'_eq, hU_s, upd_s]
  have eM : ∀ r h, f_X9_takeRule_228 2 r h = f_X9_takeRule_270 r (hU h 66 51 (h.1 66 25)) := fun r h => by
    rw [r228, if_neg (by decide), if_pos rfl, hU_same]
  refine L_num (P' := P) hk1 (f_X5_readWeight 25) (f_X9_takeRule_228 2) (fun v => setW P (nI v)) (fun h h1 v e1 h2 e2 => ⟨5, Or.inr rfl, eC h h1 v e1 h2 e2⟩) (fun h0 h2 v q' s h h1 e1 e2 hv => ⟨_, by rw [eC h h1 _ e1 h2 e2, if_neg (nI_ne_m1 (by omega))], s.w (nI v)⟩) (fun h0 h v q' s e25 hv => ⟨_, eM 0 h, by rw [e25]; exact s.w (nI v)⟩) (fun h0 h b f hb hb4 => ⟨_, by rw [eM, m270 b _ hb hb4], f.u66 _ rfl, by rw [hU_s, upd_n _ _ (by decide)]⟩) (fun v hv => wfP_W w (Or.inr (by rw [nI_toInt (by omega)]; omega)))
theorem L_lines {X : XD} {P : PD} (w : wfP P) (h0' : P.2.2.2.2.2 = 0) {k q : Nat} (hk1 : kn X q = 1) : ∃ o : (Nat × Nat) ⊕ (PD × Nat), (∀ h0 h, QC X P k q h0 h → ClS X h0 k o (clE (f_X5_readLines 25 h))) ∧ (∀ h0 h, QM X P q h0 h → h.1 66 24 = nI (we X q) → h.1 66 20 = -1 → ResN h0 o (QMa X h0) (bP (f_X9_takeOnly (hU h 66 21 (h.1 66 24))) (fun r215 h215 => f_X9_takeRule_228 3 r215 h215))) ∧ ∀ a, o = .inr a → wfP a.1 ∧ q < a.2 := by
  have hqN : q < X.1 := kn_lt (by omega)
  have hx := nx_lt hqN
  have x1 := nx_le (Nat.le_of_lt hqN)
  have eP : setO P 0 = P := by unfold setO; rw [← h0']
  have eM : ∀ r h, f_X9_takeRule_228 3 r h = f_X9_takeRule_270 r h := fun r h => by
    have : (hU h 66 50 (h.1 66 50)) = h := hU_same h 66 50
    rw [r228, if_neg (by decide), if_neg (by decide), this, hU_same]
  obtain ⟨o1, o1C, o1M, o1I⟩ := L_only (X := X) (P := P) (c := k) 4 0 0 (nx X q) (by omega) (pc_zero 4) (bel_zero _)
  have c0 : ∀ h0 h, QC X P k q h0 h → ∃ h1, QC X (setO P 0) k (nx X q) h0 h1 ∧ f_X5_readLines 25 h = f_X5_readLines_6 25 FU (nI 0) h1 := fun h0 h s => by
    obtain ⟨h1, e1, t1, r1, -⟩ := c_stepR s.1
    exact ⟨h1, by rw [eP]; exact s.t t1 r1, by rw [f_X5_readLines, e1, bO_some]; rfl⟩
  have m0 : ∀ h0 h, QM X P q h0 h → h.1 66 24 = nI (we X q) → h.1 66 20 = -1 → ∃ h1, QM X P (nx X q) h0 h1 ∧ h1.1 66 35 = 0 ∧ f_X9_takeOnly (hU h 66 21 (h.1 66 24)) = f_X9_takeOnly_7 FU 1 h1 := fun h0 h s e24 e20 => by
    have r1 := s.1.word hk1 e20
    refine ⟨hU (hU h 66 21 (nI (en X q))) 66 35 0, (s.t (tM.u _ rfl) r1).l 0, by rw [hU_s, upd_s], by rw [f_X9_takeOnly, lt'_eq, e24, we_en hk1]⟩
  cases o1 with
  | inl bp =>
    obtain ⟨b, p⟩ := bp
    refine ⟨.inl (b, p), fun h0 h s => ClS.fail ?_, fun h0 h s e24 e20 => ?_, fun c e => by cases e⟩
    · obtain ⟨h1, s1, e1⟩ := c0 h0 h s
      rw [e1]
      exact o1C h0 h1 FU (by decide) s1
    · obtain ⟨h1, s1, e35, e1⟩ := m0 h0 h s e24 e20
      obtain ⟨z1, z2, h2, e2, f2, g2⟩ := o1M h0 h1 FU (by decide) s1 e35
      exact ⟨z1, z2, h2, by rw [e1, e2, bP_some, eM, m270 b h2 z1 z2], f2, g2⟩
  | inr a =>
    obtain ⟨a1, a2⟩ := o1I a rfl
    obtain ⟨o, oC, oM, oI⟩ := pend (X := X) (setO P a.1) k a.2
    refine ⟨o, fun h0 h s => ?_, fun h0 h s e24 e20 => ?_, fun c e => ?_⟩
    · obtain ⟨h1, s1, e1⟩ := c0 h0 h s
      obtain ⟨h2, e2, s2⟩ := o1C h0 h1 FU (by decide) s1
      rw [e1, e2]
      exact oC h0 h2 s2
    · obtain ⟨h1, s1, e35, e1⟩ := m0 h0 h s e24 e20
      obtain ⟨h2, e2, s2⟩ := o1M h0 h1 FU (by decide) s1 e35
      rw [e1, e2, bP_some, eM]
      exact oM h0 h2 s2
    · obtain ⟨g1, g2⟩ := oI c e
      exact ⟨by rw [g1]; exact wfP_O w a1, by omega⟩
theorem zr01 (E : Option (Int32 × PH)) (hE : ∀ r h, E = some (r, h) → r = 0 ∨ r = 1) : bP E (fun r h => zr r (r, h)) = E := by
  cases E with
  | none => rfl
  | some p =>
    obtain ⟨r, h⟩ := p
    rcases hE r h rfl with e | e
    · subst e; rfl
    · subst e; rfl
