/-! ===== strayed, bestCut, later, up, spans ===== -/
theorem l_str61 {S : SD} (w : wfS S) {l k : Nat} (hl : l < bl S.2.1) (hk : k ≤ tn S.1) : Two S (fun h => f_X8_strayed_61 (nI l) (nI k) FU 0 0 h) (fun h => f_X9_strayed_56 (nI l) (nI k) FU 0 0 h) := by
  refine two_lp0 (fun n a i h => f_X8_strayed_61 (nI l) (nI k) n a (nI i) h) (fun n a i h => f_X9_strayed_56 (nI l) (nI k) n a (nI i) h) 16 (by omega) (fun _ a b => a = b) (fun a b e => ?_) (fun i a b hi e => ?_) (i := 0) (a := 0) (b := 0) (by omega) rfl
  · subst e
    refine ⟨a, fun n => Q.pt fun h c => ?_, fun n => P9.pt fun h c => ?_⟩
    · show f_X8_strayed_61 _ _ (n + 1) _ _ h = _
      rw [f_X8_strayed_61, if_pos (p16 (by omega) (by omega))]
    · show f_X9_strayed_56 _ _ (n + 1) _ _ h = _
      rw [f_X9_strayed_56, if_pos (p16 (by omega) (by omega))]
  · subst e
    by_cases hv : bval S.2.1 l i = ahd S.1 k i
    · refine ⟨a, a, rfl, fun n h c => ?_, fun n h c => ?_⟩
      · show f_X8_strayed_61 _ _ (n + 1) _ _ h = f_X8_strayed_61 _ _ n _ _ h
        rw [f_X8_strayed_61, if_neg (n16 hi), c.rval w hl hi, bO_some, c.rah w hk hi, bO_some, if_pos hv, nI1]
      · show f_X9_strayed_56 _ _ (n + 1) _ _ h = f_X9_strayed_56 _ _ n _ _ h
        rw [f_X9_strayed_56, if_neg (n16 hi), c.rval w hl hi, bO_some, c.rah w hk hi, bP_some, if_pos hv, lt'_eq, or0, nI1]
    · refine ⟨a ||| (1 <<< (nI i &&& 31)), a ||| (1 <<< (nI i &&& 31)), rfl, fun n h c => ?_, fun n h c => ?_⟩
      · show f_X8_strayed_61 _ _ (n + 1) _ _ h = f_X8_strayed_61 _ _ n _ _ h
        rw [f_X8_strayed_61, if_neg (n16 hi), c.rval w hl hi, bO_some, c.rah w hk hi, bO_some, if_neg hv, lt'_eq, nI1]
      · show f_X9_strayed_56 _ _ (n + 1) _ _ h = f_X9_strayed_56 _ _ n _ _ h
        rw [f_X9_strayed_56, if_neg (n16 hi), c.rval w hl hi, bO_some, c.rah w hk hi, bP_some, if_neg hv, lt'_eq, nI1]
theorem l_str19 {S : SD} (w : wfS S) {l : Nat} (hl : l < bl S.2.1) : Two S (fun h => f_X8_strayed_19 (nI l) FU 0 0 h) (fun h => f_X9_strayed_16 (nI l) FU 0 0 h) := by
  have n24 := w.n24
  refine two_lp0 (fun n (a : Nat) i h => f_X8_strayed_19 (nI l) n (nI a) (nI i) h) (fun n (a : Nat) i h => f_X9_strayed_16 (nI l) n (nI a) (nI i) h) (tn S.1) (by omega) (fun _ a b => a = b ∧ a ≤ tn S.1) (fun a b e => ?_) (fun i a b hi e => ?_) (i := 0) (a := 0) (b := 0) (by omega) ⟨rfl, by omega⟩
  · obtain ⟨rfl, ha⟩ := e
    obtain ⟨r, h1, h2⟩ := l_str61 w hl ha
    refine ⟨r, fun n h c => ?_, fun n h c => ?_⟩
    · show ∃ h', f_X8_strayed_19 _ (n + 1) _ _ h = _ ∧ _
      rw [f_X8_strayed_19, c.1.1, if_pos (Int32.le_refl _)]
      exact h1 h c
    · show ∃ h', f_X9_strayed_16 _ (n + 1) _ _ h = _ ∧ _
      rw [f_X9_strayed_16, c.1.1, if_pos (Int32.le_refl _)]
      exact h2 h c
  · obtain ⟨rfl, ha⟩ := e
    cases hb : bt (bin S.2.1 l) i
    · refine ⟨a, a, ⟨rfl, ha⟩, fun n h c => ?_, fun n h c => ?_⟩
      · show f_X8_strayed_19 _ (n + 1) _ _ h = f_X8_strayed_19 _ n _ _ h
        rw [f_X8_strayed_19, c.1.1, if_neg (nle hi (by omega)), c.rin w hl, bO_some, has8 _ (by omega), bO_some, hb, if_pos (by decide), nI1]
      · show f_X9_strayed_16 _ (n + 1) _ _ h = f_X9_strayed_16 _ n _ _ h
        rw [f_X9_strayed_16, c.1.1, if_neg (nle hi (by omega)), c.rin w hl, bO_some, has9 _ (by omega), bO_some, hb, if_pos (by decide), nI1]
    · refine ⟨i + 1, i + 1, ⟨rfl, hi⟩, fun n h c => ?_, fun n h c => ?_⟩
      · show f_X8_strayed_19 _ (n + 1) _ _ h = f_X8_strayed_19 _ n _ _ h
        rw [f_X8_strayed_19, c.1.1, if_neg (nle hi (by omega)), c.rin w hl, bO_some, has8 _ (by omega), bO_some, hb, if_neg (by decide), lt'_eq, nI1]
      · show f_X9_strayed_16 _ (n + 1) _ _ h = f_X9_strayed_16 _ n _ _ h
        rw [f_X9_strayed_16, c.1.1, if_neg (nle hi (by omega)), c.rin w hl, bO_some, has9 _ (by omega), bO_some, hb, if_neg (by decide), lt'_eq, nI1]
theorem p_strayed (x : Int32) : Pair (f_X8_strayed x) (f_X9_strayed x) := Pair.two (fun S w => by
  refine two_line w (fun _ => rfl) (fun _ => rfl) (fun l hl e => ?_)
  subst e
  exact l_str19 w hl)
theorem c_weightIn {T : TD} {h : PH} (hT : wfT T) (hC : CT T h) (x : Int32) : f_X7_weightIn 4 x h = some (weightM T (faultsM T x), h) := by
  rw [f_X7_weightIn, c_faultsIn hT hC, bP_some, c_weightOf hT hC, bP_some]
def cutW (S : SD) (k : Nat) : Int32 := weightM S.1 (faultsM S.1 ((1 <<< (nI k &&& 31)) - 1))
theorem l_best69 {S : SD} (w : wfS S) {a b z : Nat} (hab : a ≤ b) (hb : b ≤ tn S.1) (v : Int32) : Two S (fun h => f_X8_bestCut_69 (nI b) (nI z) FU (nI a) v (nI (a + 1)) h) (fun h => f_X9_bestCut_66 (nI b) (nI z) FU (nI a) v (nI (a + 1)) h) := by
  have n24 := w.n24
  refine two_lp0 (fun n (x : Int32 × Int32) i h => f_X8_bestCut_69 (nI b) (nI z) n x.1 x.2 (nI i) h) (fun n (x : Int32 × Int32) i h => f_X9_bestCut_66 (nI b) (nI z) n x.1 x.2 (nI i) h) (b + 1) (by omega) (fun _ x y => x = y) (fun x y e => ?_) (fun i x y hi e => ?_) (i := a + 1) (a := (nI a, v)) (b := (nI a, v)) (by omega) rfl
  · subst e
    refine ⟨if nI z = 0 then x.1 else x.2, fun n => Q.pt fun h c => ?_, fun n => P9.pt fun h c => ?_⟩
    · show f_X8_bestCut_69 _ _ (n + 1) _ _ _ h = _
      rw [f_X8_bestCut_69, if_pos (by rw [ltN (by omega) (by omega)]; omega)]
      by_cases hz : nI z = 0
      · rw [if_pos hz, if_pos hz]
      · rw [if_neg hz, if_neg hz]
    · show f_X9_bestCut_66 _ _ (n + 1) _ _ _ h = _
      rw [f_X9_bestCut_66, if_pos (by rw [ltN (by omega) (by omega)]; omega)]
      by_cases hz : nI z = 0
      · rw [if_pos hz, if_pos hz]
      · rw [if_neg hz, if_neg hz]
  · subst e
    have hn : ¬ nI b < nI i := by rw [ltN (by omega) (by omega)]; omega
    by_cases hv : x.2 < cutW S i
    · refine ⟨x, x, rfl, fun n h c => ?_, fun n h c => ?_⟩
      · show f_X8_bestCut_69 _ _ (n + 1) _ _ _ h = f_X8_bestCut_69 _ _ n _ _ _ h
        rw [f_X8_bestCut_69, if_neg hn, f_X8_firstOnes, bO_some, c_weightIn w.1 c.1, bP_some, ← cutW, if_pos hv, nI1]
      · show f_X9_bestCut_66 _ _ (n + 1) _ _ _ h = f_X9_bestCut_66 _ _ n _ _ _ h
        rw [f_X9_bestCut_66, if_neg hn, m_faultsIn w.1 c.1, bP_some, m_weightOf w.1 c.1, bP_some, ← cutW, if_pos hv, f_X9_bestCut_102, if_pos hv, nI1]
    · refine ⟨(nI i, cutW S i), (nI i, cutW S i), rfl, fun n h c => ?_, fun n h c => ?_⟩
      · show f_X8_bestCut_69 _ _ (n + 1) _ _ _ h = f_X8_bestCut_69 _ _ n _ _ _ h
        rw [f_X8_bestCut_69, if_neg hn, f_X8_firstOnes, bO_some, c_weightIn w.1 c.1, bP_some, ← cutW, if_neg hv, nI1]
      · show f_X9_bestCut_66 _ _ (n + 1) _ _ _ h = f_X9_bestCut_66 _ _ n _ _ _ h
        rw [f_X9_bestCut_66, if_neg hn, m_faultsIn w.1 c.1, bP_some, m_weightOf w.1 c.1, bP_some, ← cutW, if_neg hv, f_X9_bestCut_102, if_neg hv, nI1]
theorem l_bestCut {S : SD} (w : wfS S) {a b z : Nat} (hab : a ≤ b) (hb : b ≤ tn S.1) : Two S (fun h => bO (f_X8_firstOnes (nI a)) (fun r56 => bP (f_X7_weightIn 4 r56 h) (fun r59 h59 => lt' ((nI a + 1)) (fun x6_67 => f_X8_bestCut_69 (nI b) (nI z) FU (nI a) r59 x6_67 h59)))) (fun h => bP (f_X9_faultsIn ((1 <<< (nI a &&& 31)) - 1) h) (fun r53 h53 => bP (f_X9_weightOf r53 h53) (fun r56 h56 => lt' ((nI a + 1)) (fun x6_64 => f_X9_bestCut_66 (nI b) (nI z) FU (nI a) r56 x6_64 h56)))) :=
  (l_best69 w hab hb (cutW S a)).eqv (fun h c => by rw [f_X8_firstOnes, bO_some, c_weightIn w.1 c.1, bP_some, ← cutW, lt'_eq, nI1]) (fun h c => by rw [m_faultsIn w.1 c.1, bP_some, m_weightOf w.1 c.1, bP_some, ← cutW, lt'_eq, nI1])
theorem two_in3 {S : SD} {x u : Int32} {a n : Nat} (han : a ≤ n) (hn : n < 2 ^ 30) {g : PH → Int32} (hg : ∀ h, RC S h → g h = nI n) {F M KF KM : PH → Option (Int32 × PH)} {e : PH → Int64} (he : ∀ h, RM S h → (e h).toInt = n) (hF : ∀ h, F h = if x < nI a then some (u, h) else if x ≤ g h then KF h else some (u, h)) (hM : ∀ h, M h = bO (f_X9_in x.toInt64 (nI a).toInt64 (e h)) (fun r => if r = 0 then some (u, h) else KM h)) (hk : ∀ k, a ≤ k → k ≤ n → x = nI k → Two S KF KM) : Two S F M := by
  have ha : (nI a).toInt64.toInt = a := by rw [Int32.toInt_toInt64, nI_toInt (by omega)]
  by_cases hb : (a : Int) ≤ x.toInt ∧ x.toInt ≤ n
  · obtain ⟨k, hk1, e1⟩ := inD (x := x) (n := n + 1) (by omega) (inb_t (by omega))
    rw [e1, nI_toInt (by omega)] at hb
    refine (hk k (by omega) (by omega) e1).eqv (fun h c => ?_) (fun h c => ?_)
    · rw [hF, if_neg (by rw [e1, ltN (by omega) (by omega)]; omega), if_pos (by rw [hg h c, e1, leN (by omega) (by omega)]; omega)]
    · rw [hM, in9, ha, he h c, if_pos (by rw [Int32.toInt_toInt64, e1, nI_toInt (by omega)]; omega), bO_some, if_neg (by decide)]
  · refine Two.of u (Q.pt fun h c => ?_) (P9.pt fun h c => ?_)
    · rw [hF]
      by_cases h1 : x < nI a
      · rw [if_pos h1]
      · rw [if_neg h1]
        rw [ltI, nI_toInt (by omega)] at h1
        rw [if_neg (by rw [hg h c, leI, nI_toInt (by omega)]; omega)]
    · rw [hM, in9, ha, he h c, if_neg (by rw [Int32.toInt_toInt64]; omega), bO_some, if_pos rfl]
theorem p_bestCut (x y z : Int32) : Pair (f_X8_bestCut x y z) (f_X9_bestCut x y z) := Pair.two (fun S w => by
  have n24 := w.n24
  refine two_in (n := tn S.1) (by omega) (g := fun h => h.1 4 0) (fun h c => c.1.1) (e := fun h => (h.1 66 0).toInt64) (fun h c => by rw [c.1.1, Int32.toInt_toInt64, nI_toInt (by omega)]) (fun _ => rfl) (fun _ => rfl) (fun a ha e => ?_)
  subst e
  refine two_in3 (n := tn S.1) ha (by omega) (g := fun h => h.1 4 0) (fun h c => c.1.1) (e := fun h => (h.1 66 0).toInt64) (fun h c => by rw [c.1.1, Int32.toInt_toInt64, nI_toInt (by omega)]) (fun _ => rfl) (fun _ => rfl) (fun b hab hb e => ?_)
  subst e
  refine two_in2 (n := 1) (by omega) (d := 1) rfl (e := 1) rfl (fun _ => rfl) (fun _ => rfl) (fun k hk e => ?_)
  subst e
  exact l_bestCut w hab hb)
theorem l_later {S : SD} (w : wfS S) {l n : Nat} (hl : l < bl S.2.1) (hn : n ≤ 24) : Two S (fun h5 => bO (ag h5 29 4 (nI l)) (fun v37 => lt' ((if (h5.1 4 0) < (v37 + nI n) then (h5.1 4 0) else (v37 + nI n))) (fun x3_50 => bO (ag h5 30 4 (nI l)) (fun v63 => bP (f_X7_weightIn 4 v63 h5) (fun r64 h64 => bO (f_X8_firstOnes x3_50) (fun r72 => bP (f_X7_weightIn 4 r72 h64) (fun r75 h75 => some ((r64 - r75), h75)))))))) (fun h2 => bO (ag h2 73 4 (nI l)) (fun v33 => if (v33 + nI n) ≤ (h2.1 66 0) then (bO (ag h2 73 4 (nI l)) (fun v55 => f_X9_later_58 (nI l) (v55 + nI n) h2)) else (f_X9_later_58 (nI l) (h2.1 66 0) h2))) := by
  have n24 := w.n24
  obtain ⟨k, hk, e⟩ := (w.2.1.2.2.1 l hl).1
  have em : ∀ (z : Nat) (h : PH), RM S h → f_X9_later_58 (nI l) (nI z) h = some (weightM S.1 (faultsM S.1 (bin S.2.1 l)) - cutW S z, h) := by
    intro z h c
    rw [f_X9_later_58, c.rin w hl, bO_some, m_faultsIn w.1 c.1, bP_some, m_weightOf w.1 c.1, bP_some, m_faultsIn w.1 c.1, bP_some, m_weightOf w.1 c.1, bP_some, cutW]
  refine Two.of (weightM S.1 (faultsM S.1 (bin S.2.1 l)) - cutW S (if tn S.1 < k + n then tn S.1 else k + n)) (Q.pt fun h c => ?_) (P9.pt fun h c => ?_)
  · rw [c.rcut w hl, bO_some, e, c.1.1, nI_add, lt'_eq, c.rin w hl, bO_some, c_weightIn w.1 c.1, bP_some, f_X8_firstOnes, bO_some, c_weightIn w.1 c.1, bP_some]
    by_cases h1 : tn S.1 < k + n
    · rw [if_pos h1, if_pos (by rw [ltN (by omega) (by omega)]; exact h1), cutW]
    · rw [if_neg h1, if_neg (by rw [ltN (by omega) (by omega)]; exact h1), cutW]
  · rw [c.rcut w hl, bO_some, e, c.1.1, nI_add]
    by_cases h1 : tn S.1 < k + n
    · rw [if_pos h1, if_neg (by rw [leN (by omega) (by omega)]; omega), em _ h c]
    · rw [if_neg h1, if_pos (by rw [leN (by omega) (by omega)]; omega), bO_some, nI_add, em _ h c]
theorem p_later (x y : Int32) : Pair (f_X8_later x y) (f_X9_later x y) := Pair.two (fun S w => by
  refine two_line w (fun _ => rfl) (fun _ => rfl) (fun l hl e => ?_)
  subst e
  refine two_in2 (n := 24) (by omega) (d := 24) rfl (e := 24) rfl (fun _ => rfl) (fun _ => rfl) (fun k hk e => ?_)
  subst e
  exact l_later w hl hk)
