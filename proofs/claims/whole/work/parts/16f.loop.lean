/-! ===== a trunk's text: faults, the whole text ===== -/
theorem brk_r {α : Type} {X : XD} {h0 h : PH} {n q : Nat} {P : α → PH → Prop} {res : Option (Int32 × PH)} (hn : 0 < n) (hn4 : n ≤ 4) (f : FrM h0 h) (e : ∃ h', res = some (nI n, h') ∧ tM h h' ∧ h'.1 66 20 = nI q) : ResM h0 (.inl (n, q)) P res := by
  obtain ⟨h', e1, t, e2⟩ := e
  exact ⟨hn, hn4, h', e1, e2, f.tM t⟩
theorem L_fault {X : XD} {T : TD} (w : wfT T) {q : Nat} (hb : wdB X 1 q = true) : ∃ o : (Nat × Nat) ⊕ (TD × Nat), (∀ h0 h, PCo X h0 (T, q) h → ResC h0 o (PCo X h0) (f_X7_readFault 13 h)) ∧ (∀ h0 h, PMo X h0 (T, nx X q) h → ResM h0 o (PMo X h0) (f_X9_takeFault (nI q) h)) ∧ ∀ a, o = .inr a → wfT a.1 ∧ nx X q ≤ a.2 := by
  have n24 := w.1
  have f10 := w.2.1
  have hqN : q < X.1 := kn_lt (by have := wd_kn hb; omega)
  by_cases hf : tf T < 10
  · have lt10 : nI (tf T) < 10 := by rw [show (10 : Int32) = nI 10 from rfl, ltN (by omega) (by omega)]; exact hf
    have ne10 : ¬ nI (tf T) = 10 := by rw [show (10 : Int32) = nI 10 from rfl, eqN (by omega) (by omega)]; omega
    have x1 := nx_le (Nat.le_of_lt hqN)
    generalize hq1 : nx X q = q1 at x1
    have fl1 := ft_le X 2 q1 1 99
    -- the class up to the weight
    have c0 : ∀ h0 h, PCo X h0 (T, q) h → ∃ h1, PCo X h0 (T, q1) h1 ∧ ∀ K : Int32 → PH → Option (Int32 × PH), f_X7_readFault 13 h = bP (f_X3_needNumber 1 99 h1) (fun r25 h25 => if r25 = (-1) then (some (0, h25)) else (bP (f_X3_needWord 5 h25) (fun r37 h37 => if r37 = 0 then (some (0, h37)) else (bP (f_X3_needNumber 0 ((h37.1 13 0) - 1) h37) (fun r53 h53 => if r53 = (-1) then (some (0, h53)) else (bP (f_X3_takeWord 6 h53) (fun r72 h72 => if r72 = 0 then (f_X7_readFault_102 13 (nI (tf T)) r25 r53 (-1) h72) else (bP (f_X3_needNumber (r53 + 1) ((h72.1 13 0) - 1) h72) (fun r89 h89 => if r89 = (-1) then (some (0, h89)) else (f_X7_readFault_102 13 (nI (tf T)) r25 r53 r89 h89)))))))))) := fun h0 h s => by
      obtain ⟨h1, e1, t1, r1, -⟩ := c_stepR s.1
      have r1 : RD X 2 q1 h1 := by rw [← hq1]; exact r1
      refine ⟨h1, s.t t1 r1, fun _ => ?_⟩
      rw [f_X7_readFault, lt'_eq, s.2.1.2.1, if_pos lt10, e1, bO_some]
    by_cases f1 : ft X 2 q1 1 99 = 0
    · have nv1 := ft_nv f1
      rw [show (1 : Int32).toInt = 1 from rfl, show (99 : Int32).toInt = 99 from rfl] at nv1
      have x2 := nx_le x1.2.1
      generalize hwt : nv X q1 = wt at nv1
      generalize hq2 : nx X q1 = q2 at x2
      -- both sides up to 'from'
      have c1 : ∀ h0 h, PCo X h0 (T, q) h → ∃ h2, PCo X h0 (T, q2) h2 ∧ f_X7_readFault 13 h = (bP (f_X3_needWord 5 h2) (fun r37 h37 => if r37 = 0 then (some (0, h37)) else (bP (f_X3_needNumber 0 ((h37.1 13 0) - 1) h37) (fun r53 h53 => if r53 = (-1) then (some (0, h53)) else (bP (f_X3_takeWord 6 h53) (fun r72 h72 => if r72 = 0 then (f_X7_readFault_102 13 (nI (tf T)) (nI wt) r53 (-1) h72) else (bP (f_X3_needNumber (r53 + 1) ((h72.1 13 0) - 1) h72) (fun r89 h89 => if r89 = (-1) then (some (0, h89)) else (f_X7_readFault_102 13 (nI (tf T)) (nI wt) r53 r89 h89))))))))) := fun h0 h s => by
        obtain ⟨h1, s1, e1⟩ := c0 h0 h s
        rcases c_needNumber s1.1 (by omega) 1 99 with ⟨-, h2, e2, t2, r2⟩ | ⟨g, -⟩
        · have r2 : RD X 2 q2 h2 := by rw [← hq2]; exact r2
          have e2 : f_X3_needNumber 1 99 h1 = some (nI wt, h2) := by rw [← hwt]; exact e2
          exact ⟨h2, s1.t t2 r2, by rw [e1 (fun _ h => some (0, h)), e2, bP_some, if_neg (nI_ne_m1 (by omega))]⟩
        · exact absurd f1 g
      have m1 : ∀ h0 h, PMo X h0 (T, q1) h → ∃ h2, PMo X h0 (T, q2) h2 ∧ h2.1 85 (tf T) = nI wt ∧ h2.1 66 21 = nI q2 ∧ h2.1 66 20 = -1 ∧ h2.1 66 24 = nI (we X q2) ∧ (lg_cmp h2.2 (lN (wc 5 (lenT.getD 5 0))) = 0) = (wdB X 5 q2 = true) ∧ f_X9_takeFault (nI q) h = (bO (f_X9_code 102 114 111 109) (fun r59 => if (lg_cmp h2.2 r59) = 0 then (lt' (hU h2 66 21 (h2.1 66 24)) (fun h81 => bP (f_X9_takeNumber 0 ((h81.1 66 27) - 1) h81) (fun r92 h92 => bO (asg h92 86 10 (h92.1 66 31) (h92.1 66 25)) (fun h108 => bO (asg h108 87 10 (h108.1 66 31) (-1)) (fun h118 => if r92 ≤ 0 then (bP (f_X9_here h118) (fun r126 h126 => if r126 = 59 then (f_X9_takeFault_210 r92 h126) else (bO (f_X9_readWord h126) (fun h135 => bO (f_X9_code 116 105 108 108) (fun r150 => if (lg_cmp h135.2 r150) = 0 then (lt' (hU h135 66 21 (h135.1 66 24)) (fun h172 => bO (ag h172 86 10 (h172.1 66 31)) (fun v184 => bP (f_X9_takeNumber (v184 + 1) ((h172.1 66 27) - 1) h172) (fun r193 h193 => bO (asg h193 87 10 (h193.1 66 31) (h193.1 66 25)) (fun h209 => f_X9_takeFault_210 r193 h209))))) else (bP (f_X9_breaks 1 (h135.1 66 21) h135) (fun r163 h163 => some (r163, h163)))))))) else (some (r92, h118))))))) else (bP (f_X9_breaks 1 (h2.1 66 21) h2) (fun r72 h72 => some (r72, h72))))) := fun h0 h s => by
        rcases m_takeNumber s.1 (by omega) 1 99 with ⟨-, h2, e2, t2, r2, s25, -⟩ | ⟨g, -⟩
        · have r2 : PM X 2 q2 h2 := by rw [← hq2]; exact r2
          have s25 : h2.1 66 25 = nI wt := by rw [← hwt]; exact s25
          have s2 := s.t t2 r2
          have s3 := s2.f (Or.inl rfl) (nI wt)
          obtain ⟨h4, e4, t4, r4, a4, b4, w4, l4⟩ := m_readWord s3.1
          refine ⟨h4, s3.t t4 r4, by rw [t4.1 85 (by decide), hU_s, upd_s], a4, b4, w4, m_cmp l4 (fun _ => (en_le x2.2.1).1) (by decide), ?_⟩
          rw [f_X9_takeFault, s.2.1.2.1, if_neg ne10, e2, bP_some, s2.2.1.2.1, s25, asg_nI h2 85 _ hf (by omega), bO_some, if_pos (by decide), e4, bO_some]
        · exact absurd f1 g
      cases hfw : wdB X 5 q2
      · refine ⟨.inl (1, q2), fun h0 h s => ?_, fun h0 h s => ?_, fun a e => by cases e⟩
        · obtain ⟨h2, s2, e2⟩ := c1 h0 h s
          rcases c_needWord s2.1 (w := 5) (by decide) with ⟨-, h3, e3, t3, f3⟩ | ⟨g, -⟩
          · exact ⟨h3, by rw [e2, e3, bP_some, if_pos rfl], f3, s2.2.2.tC t3⟩
          · rw [hfw] at g; cases g
        · obtain ⟨h2, s2, -, a2, b2, w2, l2, e2⟩ := m1 h0 h s
          obtain ⟨h3, e3, t3, f3⟩ := m_breaks 1 q2 h2
          have e3 : f_X9_breaks 1 (nI q2) h2 = some (1, h3) := e3
          exact brk_r (X := X) (by decide) (by decide) s2.2.2 ⟨h3, by rw [e2, cd_from, bO_some, ite_c l2, hfw, if_neg (by decide), a2, e3, bP_some]; rfl, t3, f3⟩
      · have hk2 := wd_kn hfw
        have x3 := nx_le x2.2.1
        generalize hq3 : nx X q2 = q3 at x3
        have fl3 := ft_le X 2 q3 0 (nI (tn T) - 1)
        have hfin : ∀ k, k ≤ tn T → (nI k - 1 : Int32).toInt = (k : Int) - 1 := fun k hk => nIm1_toInt (by omega)
        have c2 : ∀ h0 h, PCo X h0 (T, q) h → ∃ h3, PCo X h0 (T, q3) h3 ∧ f_X7_readFault 13 h = (bP (f_X3_needNumber 0 (nI (tn T) - 1) h3) (fun r53 h53 => if r53 = (-1) then (some (0, h53)) else (bP (f_X3_takeWord 6 h53) (fun r72 h72 => if r72 = 0 then (f_X7_readFault_102 13 (nI (tf T)) (nI wt) r53 (-1) h72) else (bP (f_X3_needNumber (r53 + 1) ((h72.1 13 0) - 1) h72) (fun r89 h89 => if r89 = (-1) then (some (0, h89)) else (f_X7_readFault_102 13 (nI (tf T)) (nI wt) r53 r89 h89))))))) := fun h0 h s => by
          obtain ⟨h2, s2, e2⟩ := c1 h0 h s
          rcases c_needWord s2.1 (w := 5) (by decide) with ⟨g, -⟩ | ⟨-, h3, e3, t3, r3⟩
          · rw [hfw] at g; cases g
          · have r3 : RD X 2 q3 h3 := by rw [← hq3]; exact r3
            have s3 := s2.t t3 r3
            exact ⟨h3, s3, by rw [e2, e3, bP_some, if_neg (by decide), s3.2.1.1]⟩
        have m2 : ∀ h0 h, PMo X h0 (T, q1) h → ∃ h3, PMo X h0 (T, q3) h3 ∧ h3.1 85 (tf T) = nI wt ∧ f_X9_takeFault (nI q) h = (bP (f_X9_takeNumber 0 (nI (tn T) - 1) h3) (fun r92 h92 => bO (asg h92 86 10 (h92.1 66 31) (h92.1 66 25)) (fun h108 => bO (asg h108 87 10 (h108.1 66 31) (-1)) (fun h118 => if r92 ≤ 0 then (bP (f_X9_here h118) (fun r126 h126 => if r126 = 59 then (f_X9_takeFault_210 r92 h126) else (bO (f_X9_readWord h126) (fun h135 => bO (f_X9_code 116 105 108 108) (fun r150 => if (lg_cmp h135.2 r150) = 0 then (lt' (hU h135 66 21 (h135.1 66 24)) (fun h172 => bO (ag h172 86 10 (h172.1 66 31)) (fun v184 => bP (f_X9_takeNumber (v184 + 1) ((h172.1 66 27) - 1) h172) (fun r193 h193 => bO (asg h193 87 10 (h193.1 66 31) (h193.1 66 25)) (fun h209 => f_X9_takeFault_210 r193 h209))))) else (bP (f_X9_breaks 1 (h135.1 66 21) h135) (fun r163 h163 => some (r163, h163)))))))) else (some (r92, h118)))))) := fun h0 h s => by
          obtain ⟨h2, s2, v2, a2, b2, w2, l2, e2⟩ := m1 h0 h s
          have r3 := s2.1.word hk2 b2
          rw [hq3] at r3
          have s3 := s2.t (tM.u (h := h2) (k := 21) (nI (en X q2)) rfl) r3
          refine ⟨hU h2 66 21 (nI (en X q2)), s3, v2, ?_⟩
          rw [e2, cd_from, bO_some, ite_c l2, hfw, if_pos rfl, lt'_eq, w2, we_en hk2, s3.2.1.1]
        by_cases f3 : ft X 2 q3 0 (nI (tn T) - 1) = 0
        · have nv3 := ft_nv f3
          rw [hfin _ (Nat.le_refl _)] at nv3
          have x4 := nx_le x3.2.1
          generalize hfr : nv X q3 = fr at nv3
          generalize hq4 : nx X q3 = q4 at x4
          have c3 : ∀ h0 h, PCo X h0 (T, q) h → ∃ h4, PCo X h0 (T, q4) h4 ∧ f_X7_readFault 13 h = (bP (f_X3_takeWord 6 h4) (fun r72 h72 => if r72 = 0 then (f_X7_readFault_102 13 (nI (tf T)) (nI wt) (nI fr) (-1) h72) else (bP (f_X3_needNumber (nI fr + 1) ((h72.1 13 0) - 1) h72) (fun r89 h89 => if r89 = (-1) then (some (0, h89)) else (f_X7_readFault_102 13 (nI (tf T)) (nI wt) (nI fr) r89 h89))))) := fun h0 h s => by
            obtain ⟨h3, s3, e3⟩ := c2 h0 h s
            rcases c_needNumber s3.1 (by omega) 0 (nI (tn T) - 1) with ⟨-, h4, e4, t4, r4⟩ | ⟨g, -⟩
            · have r4 : RD X 2 q4 h4 := by rw [← hq4]; exact r4
              have e4 : f_X3_needNumber 0 (nI (tn T) - 1) h3 = some (nI fr, h4) := by rw [← hfr]; exact e4
              exact ⟨h4, s3.t t4 r4, by rw [e3, e4, bP_some, if_neg (nI_ne_m1 (by omega))]⟩
            · exact absurd f3 g
          have m3 : ∀ h0 h, PMo X h0 (T, q1) h → ∃ h4, PMo X h0 (T, q4) h4 ∧ h4.1 85 (tf T) = nI wt ∧ h4.1 86 (tf T) = nI fr ∧ h4.1 87 (tf T) = -1 ∧ h4.1 66 21 = nI q4 ∧ f_X9_takeFault (nI q) h = (if hereV X q4 = 59 then (f_X9_takeFault_210 0 h4) else (bO (f_X9_readWord h4) (fun h135 => bO (f_X9_code 116 105 108 108) (fun r150 => if (lg_cmp h135.2 r150) = 0 then (lt' (hU h135 66 21 (h135.1 66 24)) (fun h172 => bO (ag h172 86 10 (h172.1 66 31)) (fun v184 => bP (f_X9_takeNumber (v184 + 1) ((h172.1 66 27) - 1) h172) (fun r193 h193 => bO (asg h193 87 10 (h193.1 66 31) (h193.1 66 25)) (fun h209 => f_X9_takeFault_210 r193 h209))))) else (bP (f_X9_breaks 1 (h135.1 66 21) h135) (fun r163 h163 => some (r163, h163))))))) := fun h0 h s => by
            obtain ⟨h3, s3, v3, e3⟩ := m2 h0 h s
            rcases m_takeNumber s3.1 (by omega) 0 (nI (tn T) - 1) with ⟨-, h4, e4, t4, r4, s25, -⟩ | ⟨g, -⟩
            · have r4 : PM X 2 q4 h4 := by rw [← hq4]; exact r4
              have s25 : h4.1 66 25 = nI fr := by rw [← hfr]; exact s25
              have s4 := s3.t t4 r4
              have s5 := s4.f (Or.inr (Or.inl rfl)) (nI fr)
              have s6 := s5.f (Or.inr (Or.inr rfl)) (-1)
              obtain ⟨h7, e7, t7, r7, a7, b7⟩ := m_here s6.1
              refine ⟨h7, s6.t t7 r7, ?_, ?_, ?_, a7, ?_⟩
              · rw [t7.1 85 (by decide)]
                show h4.1 85 (tf T) = nI wt
                rw [t4.1 85 (by decide)]; exact v3
              · rw [t7.1 86 (by decide)]
                show upd (h4.1 86) (tf T) (nI fr) (tf T) = nI fr
                rw [upd_s]
              · rw [t7.1 87 (by decide)]
                show upd (h4.1 87) (tf T) (-1) (tf T) = -1
                rw [upd_s]
              · rw [e3, e4, bP_some, s4.2.1.2.1, s25, asg_nI h4 86 _ hf (by omega), bO_some, s5.2.1.2.1, asg_nI _ 87 _ hf (by omega), bO_some, if_pos (by decide), e7, bP_some]
            · exact absurd f3 g
          have es : (hereV X q4 = 59) = (sgB X 59 q4 = true) := by
            unfold hereV sgB kn
            by_cases z : q4 < X.1
            · rw [if_pos z, if_pos z]
              apply propext
              constructor
              · intro e; rw [e, show kd 59 = 3 by decide]; rfl
              · intro e
                rw [Bool.and_eq_true, decide_eq_true_eq, decide_eq_true_eq] at e
                exact e.2
            · rw [if_neg z, if_neg z]
              apply propext
              constructor
              · intro e; exact absurd e (by decide)
              · intro e; cases e
          cases htw : wdB X 6 q4
          · -- no 'till'
            obtain ⟨o, oC, oM, oI⟩ := L_fend (X := X) w hf (wt := nI wt) (fr := nI fr) (tl := -1) (by rw [nI_toInt (by omega)]; omega) ⟨fr, by omega, rfl⟩ (Or.inl rfl) q4
            cases hsg : sgB X 59 q4
            · refine ⟨.inl (1, q4), fun h0 h s => ?_, fun h0 h s => ?_, fun a e => by cases e⟩
              · obtain ⟨h4, s4, e4⟩ := c3 h0 h s
                rcases c_takeWord s4.1 (w := 6) (by decide) with ⟨-, e5⟩ | ⟨g, -⟩
                · rcases c_needSign s4.1 59 with ⟨-, h6, e6, t6, f6⟩ | ⟨g, -⟩
                  · exact ⟨h6, by rw [e4, e5, bP_some, if_pos rfl, f_X7_readFault_102, e6, bP_some, if_pos rfl], f6, s4.2.2.tC t6⟩
                  · rw [hsg] at g; cases g
                · rw [htw] at g; cases g
              · obtain ⟨h4, s4, -, -, -, a4, e4⟩ := m3 h0 h s
                obtain ⟨h5, e5, t5, r5, a5, b5, w5, l5⟩ := m_readWord s4.1
                have lc := m_cmp l5 (fun _ => (en_le x4.2.1).1) (w := 6) (by decide)
                obtain ⟨h6, e6, t6, f6⟩ := m_breaks 1 q4 h5
                have e6 : f_X9_breaks 1 (nI q4) h5 = some (1, h6) := e6
                exact brk_r (X := X) (by decide) (by decide) s4.2.2 ⟨h6, by rw [e4, ite_c es, hsg, if_neg (by decide), e5, bO_some, cd_till, bO_some, ite_c lc, htw, if_neg (by decide), a5, e6, bP_some]; rfl, t5.tr t6, f6⟩
            · refine ⟨o, fun h0 h s => ?_, fun h0 h s => ?_, fun a e => ?_⟩
              · obtain ⟨h4, s4, e4⟩ := c3 h0 h s
                rcases c_takeWord s4.1 (w := 6) (by decide) with ⟨-, e5⟩ | ⟨g, -⟩
                · rw [e4, e5, bP_some, if_pos rfl]
                  exact oC h0 h4 s4
                · rw [htw] at g; cases g
              · obtain ⟨h4, s4, v85, v86, v87, a4, e4⟩ := m3 h0 h s
                rw [e4, ite_c es, hsg, if_pos rfl]
                exact oM h0 h4 s4 v85 v86 v87
              · obtain ⟨b1, b2⟩ := oI a e
                exact ⟨b1, by omega⟩
          · -- 'till'
            have hk4 := wd_kn htw
            have hns : sgB X 59 q4 = false := by unfold sgB; rw [decide_eq_false (by omega)]; rfl
            have x5 := nx_le x4.2.1
            generalize hq5 : nx X q4 = q5 at x5
            have fl5 := ft_le X 2 q5 (nI (fr + 1)) (nI (tn T) - 1)
            have c4 : ∀ h0 h, PCo X h0 (T, q) h → ∃ h5, PCo X h0 (T, q5) h5 ∧ f_X7_readFault 13 h = (bP (f_X3_needNumber (nI (fr + 1)) (nI (tn T) - 1) h5) (fun r89 h89 => if r89 = (-1) then (some (0, h89)) else (f_X7_readFault_102 13 (nI (tf T)) (nI wt) (nI fr) r89 h89))) := fun h0 h s => by
              obtain ⟨h4, s4, e4⟩ := c3 h0 h s
              rcases c_takeWord s4.1 (w := 6) (by decide) with ⟨g, -⟩ | ⟨-, h5, e5, t5, r5⟩
              · rw [htw] at g; cases g
              · have r5 : RD X 2 q5 h5 := by rw [← hq5]; exact r5
                have s5 := s4.t t5 r5
                exact ⟨h5, s5, by rw [e4, e5, bP_some, if_neg (by decide), s5.2.1.1, nI1]⟩
            have m4 : ∀ h0 h, PMo X h0 (T, q1) h → ∃ h5, PMo X h0 (T, q5) h5 ∧ h5.1 85 (tf T) = nI wt ∧ h5.1 86 (tf T) = nI fr ∧ f_X9_takeFault (nI q) h = (bP (f_X9_takeNumber (nI (fr + 1)) (nI (tn T) - 1) h5) (fun r193 h193 => bO (asg h193 87 10 (h193.1 66 31) (h193.1 66 25)) (fun h209 => f_X9_takeFault_210 r193 h209))) := fun h0 h s => by
              obtain ⟨h4, s4, v85, v86, v87, a4, e4⟩ := m3 h0 h s
              obtain ⟨h5, e5, t5, r5, a5, b5, w5, l5⟩ := m_readWord s4.1
              have lc := m_cmp l5 (fun _ => (en_le x4.2.1).1) (w := 6) (by decide)
              have r6 := r5.word hk4 b5
              rw [hq5] at r6
              have s6 := s4.t (t5.tr (tM.u (h := h5) (k := 21) (nI (en X q4)) rfl)) r6
              have v86' : (hU h5 66 21 (nI (en X q4))).1 86 (tf T) = nI fr := by
                show h5.1 86 (tf T) = nI fr
                rw [t5.1 86 (by decide)]; exact v86
              refine ⟨hU h5 66 21 (nI (en X q4)), s6, ?_, v86', ?_⟩
              · show h5.1 85 (tf T) = nI wt
                rw [t5.1 85 (by decide)]; exact v85
              · rw [e4, ite_c es, hns, if_neg (by decide), e5, bO_some, cd_till, bO_some, ite_c lc, htw, if_pos rfl, lt'_eq, w5, we_en hk4, s6.2.1.2.1, ag_nI _ 86 hf (by omega), bO_some, v86', s6.2.1.1, nI1]
            by_cases f5 : ft X 2 q5 (nI (fr + 1)) (nI (tn T) - 1) = 0
            · have nv5 := ft_nv f5
              rw [hfin _ (Nat.le_refl _), nI_toInt (by omega)] at nv5
              have x6 := nx_le x5.2.1
              generalize htl : nv X q5 = tl at nv5
              generalize hq6 : nx X q5 = q6 at x6
              obtain ⟨o, oC, oM, oI⟩ := L_fend (X := X) w hf (wt := nI wt) (fr := nI fr) (tl := nI tl) (by rw [nI_toInt (by omega)]; omega) ⟨fr, by omega, rfl⟩ (Or.inr ⟨tl, by omega, rfl⟩) q6
              refine ⟨o, fun h0 h s => ?_, fun h0 h s => ?_, fun a e => ?_⟩
              · obtain ⟨h5, s5, e5⟩ := c4 h0 h s
                rcases c_needNumber s5.1 (by omega) (nI (fr + 1)) (nI (tn T) - 1) with ⟨-, h6, e6, t6, r6⟩ | ⟨g, -⟩
                · have r6 : RD X 2 q6 h6 := by rw [← hq6]; exact r6
                  rw [htl] at e6
                  rw [e5, e6, bP_some, if_neg (nI_ne_m1 (by omega))]
                  exact oC h0 h6 (s5.t t6 r6)
                · exact absurd f5 g
              · obtain ⟨h5, s5, v85, v86, e5⟩ := m4 h0 h s
                rcases m_takeNumber s5.1 (by omega) (nI (fr + 1)) (nI (tn T) - 1) with ⟨-, h6, e6, t6, r6, s25, -⟩ | ⟨g, -⟩
                · have r6 : PM X 2 q6 h6 := by rw [← hq6]; exact r6
                  rw [htl] at s25
                  have s6 := s5.t t6 r6
                  rw [e5, e6, bP_some, s6.2.1.2.1, s25, asg_nI h6 87 _ hf (by omega), bO_some]
                  refine oM h0 _ (s6.f (Or.inr (Or.inr rfl)) (nI tl)) ?_ ?_ ?_
                  · show h6.1 85 (tf T) = nI wt
                    rw [t6.1 85 (by decide)]; exact v85
                  · show h6.1 86 (tf T) = nI fr
                    rw [t6.1 86 (by decide)]; exact v86
                  · show upd (h6.1 87) (tf T) (nI tl) (tf T) = nI tl
                    rw [upd_s]
                · exact absurd f5 g
              · obtain ⟨b1, b2⟩ := oI a e
                exact ⟨b1, by omega⟩
            · refine ⟨.inl (ft X 2 q5 (nI (fr + 1)) (nI (tn T) - 1), q5), fun h0 h s => ?_, fun h0 h s => ?_, fun a e => by cases e⟩
              · obtain ⟨h5, s5, e5⟩ := c4 h0 h s
                rcases c_needNumber s5.1 (by omega) (nI (fr + 1)) (nI (tn T) - 1) with ⟨g, -⟩ | ⟨-, h6, e6, t6, f6⟩
                · exact absurd g f5
                · exact ⟨h6, by rw [e5, e6, bP_some, if_pos rfl], f6, s5.2.2.tC t6⟩
              · obtain ⟨h5, s5, v85, v86, e5⟩ := m4 h0 h s
                rcases m_takeNumber s5.1 (by omega) (nI (fr + 1)) (nI (tn T) - 1) with ⟨g, -⟩ | ⟨-, h6, e6, t6, f6⟩
                · exact absurd g f5
                · have d31 : h6.1 66 31 = nI (tf T) := by rw [t6.2 31 rfl]; exact s5.2.1.2.1
                  refine ⟨by show 0 < ft X 2 q5 (nI (fr + 1)) (nI (tn T) - 1); omega, by show ft X 2 q5 (nI (fr + 1)) (nI (tn T) - 1) ≤ 4; omega, hU (hU h6 87 (tf T) (h6.1 66 25)) 66 31 (nI (tf T + 1)), ?_, f6, ((s5.2.2.tM t6).u _ _ (by decide)).u66 _ rfl⟩
                  rw [e5, e6, bP_some, d31, asg_nI h6 87 _ hf (by omega), bO_some, f_X9_takeFault_210, lt'_eq, hU_n _ _ _ (show 66 ≠ 87 by decide), d31, nI1, if_neg (show ¬ nI (ft X 2 q5 (nI (fr + 1)) (nI (tn T) - 1)) ≤ 0 from nI_nle (by omega) (by omega))]
        · refine ⟨.inl (ft X 2 q3 0 (nI (tn T) - 1), q3), fun h0 h s => ?_, fun h0 h s => ?_, fun a e => by cases e⟩
          · obtain ⟨h3, s3, e3⟩ := c2 h0 h s
            rcases c_needNumber s3.1 (by omega) 0 (nI (tn T) - 1) with ⟨g, -⟩ | ⟨-, h4, e4, t4, f4⟩
            · exact absurd g f3
            · exact ⟨h4, by rw [e3, e4, bP_some, if_pos rfl], f4, s3.2.2.tC t4⟩
          · obtain ⟨h3, s3, v3, e3⟩ := m2 h0 h s
            rcases m_takeNumber s3.1 (by omega) 0 (nI (tn T) - 1) with ⟨g, -⟩ | ⟨-, h4, e4, t4, f4⟩
            · exact absurd g f3
            · have d31 : h4.1 66 31 = nI (tf T) := by rw [t4.2 31 rfl]; exact s3.2.1.2.1
              refine ⟨by show 0 < ft X 2 q3 0 (nI (tn T) - 1); omega, by show ft X 2 q3 0 (nI (tn T) - 1) ≤ 4; omega, hU (hU h4 86 (tf T) (h4.1 66 25)) 87 (tf T) (-1), ?_, f4, ((s3.2.2.tM t4).u _ _ (by decide)).u _ _ (by decide)⟩
              rw [e3, e4, bP_some, d31, asg_nI h4 86 _ hf (by omega), bO_some, hU_n _ _ _ (show 66 ≠ 86 by decide), d31, asg_nI _ 87 _ hf (by omega), bO_some, if_neg (show ¬ nI (ft X 2 q3 0 (nI (tn T) - 1)) ≤ 0 from nI_nle (by omega) (by omega))]
    · refine ⟨.inl (ft X 2 q1 1 99, q1), fun h0 h s => ?_, fun h0 h s => ?_, fun a e => by cases e⟩
      · obtain ⟨h1, s1, e1⟩ := c0 h0 h s
        rcases c_needNumber s1.1 (by omega) 1 99 with ⟨g, -⟩ | ⟨-, h2, e2, t2, f2⟩
        · exact absurd g f1
        · exact ⟨h2, by rw [e1 (fun _ h => some (0, h)), e2, bP_some, if_pos rfl], f2, s1.2.2.tC t2⟩
      · rcases m_takeNumber s.1 (by omega) 1 99 with ⟨g, -⟩ | ⟨-, h2, e2, t2, f2⟩
        · exact absurd g f1
        · have d31 : h2.1 66 31 = nI (tf T) := by rw [t2.2 31 rfl]; exact s.2.1.2.1
          refine ⟨by show 0 < ft X 2 q1 1 99; omega, by show ft X 2 q1 1 99 ≤ 4; omega, hU h2 85 (tf T) (h2.1 66 25), ?_, f2, (s.2.2.tM t2).u _ _ (by decide)⟩
          rw [f_X9_takeFault, s.2.1.2.1, if_neg ne10, e2, bP_some, d31, asg_nI h2 85 _ hf (by omega), bO_some, if_neg (show ¬ nI (ft X 2 q1 1 99) ≤ 0 from nI_nle (by omega) (by omega))]
  · have e10 : tf T = 10 := by omega
    refine ⟨.inl (3, q), fun h0 h s => ?_, fun h0 h s => ?_, fun a e => by cases e⟩
    · obtain ⟨h1, e1, t1, f1⟩ := c_refuse s.1 3
      have e1 : f_X3_refuse 3 h = some (0, h1) := e1
      refine ⟨h1, ?_, f1, s.2.2.tC t1⟩
      rw [f_X7_readFault, lt'_eq, s.2.1.2.1, e10, if_neg (by decide), e1, bP_some]
      rfl
    · obtain ⟨h1, e1, t1, f1⟩ := m_breaks 3 q h
      have e1 : f_X9_breaks 3 (nI q) h = some (3, h1) := e1
      refine ⟨show 0 < 3 by decide, show 3 ≤ 4 by decide, h1, ?_, f1, s.2.2.tM t1⟩
      rw [f_X9_takeFault, s.2.1.2.1, e10, if_pos (by decide), e1, bP_some]
      rfl
