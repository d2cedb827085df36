/-! ===== easy questions ===== -/
theorem bP_id (o : Option (Int32 × PH)) : bP o (fun r h => some (r, h)) = o := by
  cases o with
  | none => rfl
  | some p => rfl
theorem p_breach : Pair f_X8_breach f_X9_breach := Pair.two (fun S w => Two.of S.2.2.2.2.1 (Q.pt fun h c => by rw [f_X8_breach, c.2.2.2.2.1]) (P9.pt fun h c => by rw [f_X9_breach, c.2.2.2.2.1]))
theorem p_count (x : Int32) : Pair (f_X8_count x) (f_X9_count x) := Pair.two (fun S w => by
  refine Two.ite (fun _ => ?_) (fun _ => Two.ite (fun _ => ?_) (fun _ => Two.ite (fun _ => ?_) (fun _ => Two.ite (fun _ => ?_) (fun _ => Two.ite (fun _ => ?_) (fun _ => Two.ret _)))))
  · exact Two.of (nI (tn S.1)) (Q.pt fun h c => by rw [c.1.1]) (P9.pt fun h c => by rw [c.1.1])
  · exact Two.of (nI (tf S.1)) (Q.pt fun h c => by rw [c.1.2.1]) (P9.pt fun h c => by rw [c.1.2.1])
  · exact Two.of (nI (bl S.2.1)) (Q.pt fun h c => by rw [c.2.1.1]) (P9.pt fun h c => by rw [c.2.1.1])
  · exact Two.of (nI (br S.2.1)) (Q.pt fun h c => by rw [c.2.1.2.1]) (P9.pt fun h c => by rw [c.2.1.2.1])
  · exact Two.of (nI S.2.2.2.1.1) (Q.pt fun h c => by rw [c.2.2.2.1.1]) (P9.pt fun h c => by rw [c.2.2.2.1.1]))
def byM (T : TD) (g : Nat → Int32) (x : Int32) : Int32 := mkI (fun f => decide (g f = x)) (tf T)
theorem c_comingWith {T : TD} {h : PH} (hT : wfT T) (hC : CT T h) (x : Int32) : f_X7_comingWith 4 x h = some (byM T (tfr T) x, h) := by
  obtain ⟨w1, w2, w3, w4, w5, w6, w7, w8⟩ := hT
  obtain ⟨q0, q6, q1, q2, q3⟩ := hC
  refine lp_up (fun n a i => f_X7_comingWith_4 4 x n a (nI i) h) (mkI (fun f => decide (tfr T f = x))) (tf T) _ (fun n => ?_) (fun n i hi => ?_) FU 0 (Nat.zero_le _) (FU_gt (by omega))
  · show f_X7_comingWith_4 4 x (n + 1) _ _ h = _
    rw [f_X7_comingWith_4, q6, if_pos (Int32.le_refl _)]
    rfl
  · show f_X7_comingWith_4 4 x (n + 1) _ _ h = f_X7_comingWith_4 4 x n _ _ h
    have e11 : ag h (4 + 7) 10 (nI i) = some (tfr T i) := by rw [ag_nI h _ (by omega) (by decide)]; exact congrArg some (q3 i hi).2.1
    rw [f_X7_comingWith_4, q6, if_neg (by rw [leN (by omega) (by omega)]; omega), e11, bO_some, mkI, nI1]
    by_cases hb : tfr T i = x
    · rw [if_pos hb, lt'_eq, if_pos (by simp [hb])]
    · rw [if_neg hb, if_neg (by simp [hb])]
theorem m_faultsBy {T : TD} {h : PH} (hT : wfT T) (h4 : h.1 66 4 = nI (tf T)) {V : Nat} {g : Nat → Int32} (hV : ∀ f, f < tf T → h.1 V f = g f) (x : Int32) : f_X9_faultsBy V 10 x h = some (byM T g x, h) := by
  have w2 := hT.2.1
  refine lp_up (fun n a i => f_X9_faultsBy_5 V 10 x n a (nI i) h) (mkI (fun f => decide (g f = x))) (tf T) _ (fun n => ?_) (fun n i hi => ?_) FU 0 (Nat.zero_le _) (FU_gt (by omega))
  · show f_X9_faultsBy_5 V 10 x (n + 1) _ _ h = _
    rw [f_X9_faultsBy_5, h4, if_pos (Int32.le_refl _)]
    rfl
  · show f_X9_faultsBy_5 V 10 x (n + 1) _ _ h = f_X9_faultsBy_5 V 10 x n _ _ h
    rw [f_X9_faultsBy_5, h4, if_neg (by rw [leN (by omega) (by omega)]; omega), ag_nI h _ (by omega) (by decide), bO_some, mkI, nI1, hV i hi]
    by_cases hb : g i = x
    · rw [if_pos hb, lt'_eq, if_pos (by simp [hb])]
    · rw [if_neg hb, lt'_eq, or0, if_neg (by simp [hb])]
theorem by_till {T : TD} (hT : wfT T) {k : Nat} (hk : k < tn T) : mkI (rmP T (1 <<< (nI k &&& 31))) (tf T) = byM T (ttl T) (nI k) := by
  obtain ⟨w1, w2, w3, w4, w5, w6, w7, w8⟩ := hT
  refine mkI_congr (fun f hf => ?_)
  rcases w8 f hf with e | ⟨j, hj, e⟩
  · rw [rmP, e]
    simp only [decide_true, Bool.not_true, Bool.false_and]
    symm
    exact decide_eq_false (fun z => nI_ne_m1 (by omega) z.symm)
  · rw [rmP, tlN_eq (T := T) (by omega) e, e, bt_one k (by omega) j (by omega), decide_eq_false (nI_ne_m1 (k := j) (by omega)), Bool.not_false, Bool.true_and, decide_eq_decide]
    rw [eqN (by omega) (by omega)]
theorem p_change (x y : Int32) : Pair (f_X8_change x y) (f_X9_change x y) := Pair.two (fun S w => by
  refine two_change w (fun _ => rfl) (fun _ => rfl) (fun k hk e => ?_)
  subst e
  refine Two.ite (fun _ => ?_) (fun _ => Two.ite (fun _ => ?_) (fun _ => Two.ite (fun _ => ?_) (fun _ => Two.ite (fun _ => ?_) (fun _ => Two.ite (fun _ => ?_) (fun _ => Two.ret _)))))
  · exact Two.of (setsM S.1 k) (Q.pt fun h c => by rw [c.rset w hk, bO_some]) (P9.pt fun h c => by rw [m_setsOf w.1 c.1 hk, bP_some])
  · exact Two.rd _ (fun _ c => c.rread w hk) (fun _ c => c.rread w hk) (Two.ret _)
  · exact Two.rd _ (fun _ c => c.rrisk w hk) (fun _ c => c.rrisk w hk) (Two.ret _)
  · exact Two.of (byM S.1 (tfr S.1) (nI k)) (Q.pt fun h c => by rw [c_comingWith w.1 c.1, bP_some]) (P9.pt fun h c => by rw [m_faultsBy w.1 c.1.2.1 (fun f hf => (c.1.2.2.2.2 f hf).2.1), bP_some])
  · exact Two.of (byM S.1 (ttl S.1) (nI k)) (Q.pt fun h c => by rw [f_X7_goingWith, c_removedBy w.1 c.1, bP_some, bP_some, by_till w.1 hk]) (P9.pt fun h c => by rw [m_faultsBy w.1 c.1.2.1 (fun f hf => (c.1.2.2.2.2 f hf).2.2), bP_some]))
theorem p_sets (x y : Int32) : Pair (f_X8_sets x y) (f_X9_sets x y) := Pair.two (fun S w => by
  refine two_change w (fun _ => rfl) (fun _ => rfl) (fun k hk e => ?_)
  subst e
  refine two_slot (fun _ => rfl) (fun _ => rfl) (fun s hs e => ?_)
  subst e
  exact Two.rd _ (fun _ c => c.rst w hk hs) (fun _ c => c.rst w hk hs) (Two.ret _))
theorem two_in {S : SD} {x u : Int32} {n : Nat} (hn : n < 2 ^ 30) {g : PH → Int32} (hg : ∀ h, RC S h → g h = nI n) {F M KF KM : PH → Option (Int32 × PH)} {e : PH → Int64} (he : ∀ h, RM S h → (e h).toInt = n) (hF : ∀ h, F h = if x < 0 then some (u, h) else if g h < x then some (u, h) else KF h) (hM : ∀ h, M h = bO (f_X9_in x.toInt64 0 (e h)) (fun r => if r = 0 then some (u, h) else KM h)) (hk : ∀ k, k ≤ n → x = nI k → Two S KF KM) : Two S F M := by
  by_cases hb : 0 ≤ x.toInt ∧ x.toInt < ((n + 1 : Nat) : Int)
  · have hb2 := inb_t hb
    obtain ⟨k, hk1, e1⟩ := inD (by omega) hb2
    refine (hk k (by omega) e1).eqv (fun h c => ?_) (fun h c => ?_)
    · rw [hF, if_neg (by rw [lt0]; omega), if_neg (by rw [hg h c, ltI, nI_toInt (by omega)]; omega)]
    · rw [hM, in_n x (n := n + 1) (by rw [he h c]; omega), hb2]; rfl
  · refine Two.of u (Q.pt fun h c => ?_) (P9.pt fun h c => ?_)
    · rw [hF]
      by_cases h1 : x < 0
      · rw [if_pos h1]
      · rw [if_neg h1]
        rw [lt0] at h1
        rw [if_pos (by rw [hg h c, ltI, nI_toInt (by omega)]; omega)]
    · rw [hM, in_n x (n := n + 1) (by rw [he h c]; omega), inb_f hb]; rfl
theorem two_in2 {S : SD} {x u : Int32} {n : Nat} (hn : n < 2 ^ 30) {F M KF KM : PH → Option (Int32 × PH)} {e : Int64} {d : Int32} (hd : d = nI n) (he : e.toInt = n) (hF : ∀ h, F h = if x < 0 then some (u, h) else if x ≤ d then KF h else some (u, h)) (hM : ∀ h, M h = bO (f_X9_in x.toInt64 0 e) (fun r => if r = 0 then some (u, h) else KM h)) (hk : ∀ k, k ≤ n → x = nI k → Two S KF KM) : Two S F M := by
  refine two_in hn (g := fun _ => nI n) (fun _ _ => rfl) (e := fun _ => e) (fun _ _ => he) (KF := KF) (fun h => ?_) hM hk
  rw [hF]
  by_cases h1 : x < 0
  · rw [if_pos h1, if_pos h1]
  · rw [if_neg h1, if_neg h1]
    by_cases h2 : x ≤ d
    · rw [if_pos h2]
      rw [leI, hd] at h2
      rw [if_neg (by rw [ltI]; omega)]
    · rw [if_neg h2]
      rw [leI, hd] at h2
      rw [if_pos (by rw [ltI]; omega)]
theorem p_ahead (x y : Int32) : Pair (f_X8_ahead x y) (f_X9_ahead x y) := Pair.two (fun S w => by
  have := w.n24
  refine two_in (n := tn S.1) (by omega) (g := fun h => h.1 4 0) (fun h c => c.1.1) (e := fun h => (h.1 66 0).toInt64) (fun h c => by rw [c.1.1, Int32.toInt_toInt64, nI_toInt (by omega)]) (fun _ => rfl) (fun _ => rfl) (fun k hk e => ?_)
  subst e
  refine two_slot (fun _ => rfl) (fun _ => rfl) (fun s hs e => ?_)
  subst e
  exact Two.of (ahd S.1 k s) (Q.pt fun h c => by rw [c.rah w hk hs, bO_some]) (P9.pt fun h c => by rw [c.rah w hk hs, bP_some]))
theorem p_fault (x y : Int32) : Pair (f_X8_fault x y) (f_X9_fault x y) := Pair.two (fun S w => by
  refine two_fault w (fun _ => rfl) (fun _ => rfl) (fun k hk e => ?_)
  subst e
  refine Two.ite (fun _ => ?_) (fun _ => Two.ite (fun _ => ?_) (fun _ => Two.ite (fun _ => ?_) (fun _ => Two.ret _)))
  · exact Two.rd _ (fun _ c => c.rwt w hk) (fun _ c => c.rwt w hk) (Two.ret _)
  · exact Two.rd _ (fun _ c => c.rfr w hk) (fun _ c => c.rfr w hk) (Two.ret _)
  · exact Two.rd _ (fun _ c => c.rtl w hk) (fun _ c => c.rtl w hk) (Two.ret _))
theorem two_fin {S : SD} (w : wfS S) (x : Int32) : Two S (fun h => bP (f_X7_faultsIn 4 x h) (fun r h => some (r, h))) (fun h => bP (f_X9_faultsIn x h) (fun r h => some (r, h))) := Two.of (faultsM S.1 x) (Q.pt fun h c => by rw [c_faultsIn w.1 c.1, bP_some]) (P9.pt fun h c => by rw [m_faultsIn w.1 c.1, bP_some])
theorem two_risk {S : SD} (w : wfS S) (x : Int32) : Two S (fun h => bP (f_X7_riskOf 4 x h) (fun r h => some (r, h))) (fun h => bP (f_X9_riskOf x h) (fun r h => some (r, h))) := Two.of (riskM S.1 x) (Q.pt fun h c => by rw [c_riskOf w.1 c.1, bP_some]) (P9.pt fun h c => by rw [m_riskOf w.1 c.1, bP_some])
theorem p_line (x y : Int32) : Pair (f_X8_line x y) (f_X9_line x y) := Pair.two (fun S w => by
  refine two_line w (fun _ => rfl) (fun _ => rfl) (fun k hk e => ?_)
  subst e
  refine Two.ite (fun _ => ?_) (fun _ => Two.ite (fun _ => ?_) (fun _ => Two.ite (fun _ => ?_) (fun _ => Two.ite (fun _ => ?_) (fun _ => Two.ite (fun _ => ?_) (fun _ => Two.ret _)))))
  · exact Two.rd _ (fun _ c => c.rcut w hk) (fun _ c => c.rcut w hk) (Two.ret _)
  · exact Two.rd _ (fun _ c => c.rin w hk) (fun _ c => c.rin w hk) (Two.ret _)
  · exact Two.rd (KF := fun v h => bP (f_X7_faultsIn 4 v h) (fun r h => some (r, h))) (KM := fun v h => bP (f_X9_faultsIn v h) (fun r h => some (r, h))) _ (fun _ c => c.rin w hk) (fun _ c => c.rin w hk) (two_fin w _)
  · exact Two.rd (KF := fun v h => bP (f_X7_riskOf 4 v h) (fun r h => some (r, h))) (KM := fun v h => bP (f_X9_riskOf v h) (fun r h => some (r, h))) _ (fun _ c => c.rin w hk) (fun _ c => c.rin w hk) (two_risk w _)
  · exact Two.rd _ (fun _ c => c.rev w hk) (fun _ c => c.rev w hk) (Two.ret _))
theorem p_value (x y : Int32) : Pair (f_X8_value x y) (f_X9_value x y) := Pair.two (fun S w => by
  refine two_line w (fun _ => rfl) (fun _ => rfl) (fun k hk e => ?_)
  subst e
  refine two_slot (fun _ => rfl) (fun _ => rfl) (fun s hs e => ?_)
  subst e
  exact Two.rd _ (fun _ c => c.rval w hk hs) (fun _ c => c.rval w hk hs) (Two.ret _))
theorem p_released (x y : Int32) : Pair (f_X8_released x y) (f_X9_released x y) := Pair.two (fun S w => by
  refine two_rel w (fun _ => rfl) (fun _ => rfl) (fun k hk e => ?_)
  subst e
  refine Two.ite (fun _ => ?_) (fun _ => Two.ite (fun _ => ?_) (fun _ => Two.ite (fun _ => ?_) (fun _ => Two.ite (fun _ => ?_) (fun _ => Two.ret _))))
  · exact Two.rd _ (fun _ c => c.rof w hk) (fun _ c => c.rof w hk) (Two.ret _)
  · exact Two.rd _ (fun _ c => c.rday w hk) (fun _ c => c.rday w hk) (Two.ret _)
  · exact Two.rd _ (fun _ c => c.rrin w hk) (fun _ c => c.rrin w hk) (Two.ret _)
  · exact Two.rd (KF := fun v h => bP (f_X7_faultsIn 4 v h) (fun r h => some (r, h))) (KM := fun v h => bP (f_X9_faultsIn v h) (fun r h => some (r, h))) _ (fun _ c => c.rrin w hk) (fun _ c => c.rrin w hk) (two_fin w _))
theorem p_notes (x y z : Int32) : Pair (f_X8_notes x y z) (f_X9_notes x y z) := Pair.two (fun S w => by
  refine two_rel w (fun _ => rfl) (fun _ => rfl) (fun k hk e => ?_)
  subst e
  refine two_rel w (fun _ => rfl) (fun _ => rfl) (fun j hj e => ?_)
  subst e
  refine Two.of (if z = 0 then brin S.2.1 j &&& (brin S.2.1 k ^^^ (-1)) else if z = 1 then brin S.2.1 k &&& (brin S.2.1 j ^^^ (-1)) else if z = 2 then faultsM S.1 (brin S.2.1 k) &&& (faultsM S.1 (brin S.2.1 j) ^^^ (-1)) else if z = 3 then faultsM S.1 (brin S.2.1 j) &&& (faultsM S.1 (brin S.2.1 k) ^^^ (-1)) else -1002) (Q.pt fun h c => ?_) (P9.pt fun h c => ?_)
  · rw [c.rrin w hk, bO_some, c.rrin w hj, bO_some, c_faultsIn w.1 c.1, bP_some, c_faultsIn w.1 c.1, bP_some, bP_some, c_faultsIn w.1 c.1, bP_some]
    by_cases h0 : z = 0
    · rw [if_pos h0, if_pos h0]
    · rw [if_neg h0, if_neg h0]
      by_cases h1 : z = 1
      · rw [if_pos h1, if_pos h1]
      · rw [if_neg h1, if_neg h1]
        by_cases h2 : z = 2
        · rw [if_pos h2, if_pos h2]
        · rw [if_neg h2, if_neg h2]
          by_cases h3 : z = 3
          · rw [if_pos h3, if_pos h3]
          · rw [if_neg h3, if_neg h3]
  · simp only [c.rrin w hk, c.rrin w hj, bO_some, m_faultsIn w.1 c.1, bP_some]
    by_cases h0 : z = 0
    · rw [if_pos h0, if_pos h0]
    · rw [if_neg h0, if_neg h0]
      by_cases h1 : z = 1
      · rw [if_pos h1, if_pos h1]
      · rw [if_neg h1, if_neg h1]
        by_cases h2 : z = 2
        · rw [if_pos h2, if_pos h2]
        · rw [if_neg h2, if_neg h2]
          by_cases h3 : z = 3
          · rw [if_pos h3, if_pos h3]
          · rw [if_neg h3, if_neg h3])
