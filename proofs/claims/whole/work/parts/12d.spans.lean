/-! ===== up, spans ===== -/
def leadB (S : SD) (r q f : Nat) : Bool := !bt (faultsM S.1 (brin S.2.1 q)) f && decide (faultsM S.1 (brin S.2.1 q) &&& (faultsM S.1 (brin S.2.1 r) ^^^ (-1)) = 0)
theorem c_leadsUp {S : SD} (w : wfS S) {h : PH} (c : RC S h) {r q f : Nat} (hr : r < br S.2.1) (hq : q < br S.2.1) (hf : f < tf S.1) : f_X8_leadsUp (nI r) (nI q) (nI f) h = some (b01 (leadB S r q f), h) := by
  have := w.f10
  rw [f_X8_leadsUp, c.rrin w hr, bO_some, c_faultsIn w.1 c.1, bP_some, c.rrin w hq, bO_some, c_faultsIn w.1 c.1, bP_some, has8 _ (by omega), bO_some, leadB]
  cases bt (faultsM S.1 (brin S.2.1 q)) f
  · rw [if_pos (by decide)]
    by_cases h0 : faultsM S.1 (brin S.2.1 q) &&& (faultsM S.1 (brin S.2.1 r) ^^^ (-1)) = 0
    · rw [if_pos h0, decide_eq_true h0]; rfl
    · rw [if_neg h0, decide_eq_false h0]; rfl
  · rw [if_neg (by decide)]; rfl
theorem sumI_congr {g : Nat → Int32} {P P2 : Nat → Bool} {n : Nat} (h : ∀ k, k < n → P k = P2 k) : sumI g P n = sumI g P2 n := by
  induction n with
  | zero => rfl
  | succ n ih => rw [sumI, sumI, ih (fun k hk => h k (by omega)), h n (by omega)]
theorem add_3 (a b c : Int32) : (a + b) + c = (a + c) + b := by rw [Int32.add_assoc, Int32.add_comm b c, Int32.add_assoc]
theorem sumI_split (g : Nat → Int32) (P P2 : Nat → Bool) : ∀ n, (∀ k, k < n → ¬ (P k = true ∧ P2 k = true)) → sumI g (fun k => P k || P2 k) n = sumI g P n + sumI g P2 n := by
  intro n
  induction n with
  | zero => intro _; rfl
  | succ n ih =>
    intro hd
    have hn := hd n (by omega)
    rw [sumI, sumI, sumI, ih (fun k hk => hd k (by omega))]
    cases h1 : P n
    · cases h2 : P2 n
      · rfl
      · rw [Bool.false_or, if_pos rfl, if_neg (by decide), if_pos rfl, Int32.add_assoc]
    · cases h2 : P2 n
      · rw [Bool.true_or, if_pos rfl, if_pos rfl, if_neg (by decide), add_3]
      · exact absurd ⟨h1, h2⟩ hn
theorem risk_xor {T : TD} (hT : wfT T) (x y : Int32) : riskM T (y &&& (x ^^^ (-1))) + riskM T (x &&& (y ^^^ (-1))) = riskM T (x ^^^ y) := by
  have w1 := hT.1
  unfold riskM
  rw [← sumI_split]
  · refine sumI_congr (fun k hk => ?_)
    rw [bt_and, bt_and, bt_not _ (by omega), bt_not _ (by omega), bt_xor]
    cases bt x k <;> cases bt y k <;> rfl
  · intro k hk
    rw [bt_and, bt_and, bt_not _ (by omega), bt_not _ (by omega)]
    cases bt x k <;> cases bt y k <;> simp
theorem e10 : ((1 : Int32) = 0) = False := by simp
theorem e01 : ((0 : Int32) = 1) = False := by simp
def tollM (S : SD) (r q : Nat) : Int32 := riskM S.1 (brin S.2.1 r ^^^ brin S.2.1 q)
theorem l_up63 {S : SD} (w : wfS S) {r f z : Nat} (hr : r < br S.2.1) (hf : f < tf S.1) : Two S (fun h => f_X8_up_63 (nI r) (nI f) (nI z) FU (-1) (-1) (nI (r + 1)) h) (fun h => f_X9_up_58 (nI r) (nI f) (nI z) FU (-1) (-1) (nI (r + 1)) h) := by
  have b20 := w.b20
  refine two_lp0 (fun n (x : Int32 × Int32) i h => f_X8_up_63 (nI r) (nI f) (nI z) n x.1 x.2 (nI i) h) (fun n (x : Int32 × Int32) i h => f_X9_up_58 (nI r) (nI f) (nI z) n x.1 x.2 (nI i) h) (br S.2.1) (by omega) (fun _ x y => x = y ∧ (x.1 = -1 ∨ ∃ q, q < 20 ∧ x.1 = nI q)) (fun x y e => ?_) (fun i x y hi e => ?_) (i := r + 1) (a := (-1, -1)) (b := (-1, -1)) (by omega) ⟨rfl, Or.inl rfl⟩
  · obtain ⟨rfl, -⟩ := e
    refine ⟨if nI z = 0 then x.1 else x.2, fun n => Q.pt fun h c => ?_, fun n => P9.pt fun h c => ?_⟩
    · show f_X8_up_63 _ _ _ (n + 1) _ _ _ h = _
      rw [f_X8_up_63, c.2.1.2.1, if_pos (Int32.le_refl _)]
      by_cases hz : nI z = 0
      · rw [if_pos hz, if_pos hz]
      · rw [if_neg hz, if_neg hz]
    · show f_X9_up_58 _ _ _ (n + 1) _ _ _ h = _
      rw [f_X9_up_58, c.2.1.2.1, if_pos (Int32.le_refl _)]
      by_cases hz : nI z = 0
      · rw [if_pos hz, if_pos hz]
      · rw [if_neg hz, if_neg hz]
  · obtain ⟨rfl, hx⟩ := e
    obtain ⟨x, y⟩ := x
    replace hx : x = -1 ∨ ∃ q, q < 20 ∧ x = nI q := hx
    have hx0 : (x < 0) = (x = -1) := by
      rcases hx with rfl | ⟨q, hq, rfl⟩
      · simp
      · exact propext ⟨fun z => absurd z (nI_pos (by omega)), fun z => absurd z (nI_ne_m1 (by omega))⟩
    have eF : ∀ (n : Nat) (h : PH), RC S h → f_X8_up_63 (nI r) (nI f) (nI z) (n + 1) x y (nI i) h = if leadB S r i f = true then (if x = -1 then f_X8_up_63 (nI r) (nI f) (nI z) n (nI i) (tollM S r i) (nI (i + 1)) h else if y ≤ tollM S r i then f_X8_up_63 (nI r) (nI f) (nI z) n x y (nI (i + 1)) h else f_X8_up_63 (nI r) (nI f) (nI z) n (nI i) (tollM S r i) (nI (i + 1)) h) else f_X8_up_63 (nI r) (nI f) (nI z) n x y (nI (i + 1)) h := by
      intro n h c
      rw [f_X8_up_63, c.2.1.2.1, if_neg (nle hi (by omega)), c_leadsUp w c hr hi hf, bP_some, nI1]
      cases leadB S r i f
      · rw [if_pos (by decide), if_neg (by decide)]
      · rw [if_neg (by decide), if_pos rfl, c.rrin w hr, bO_some, c.rrin w hi, bO_some, c_riskOf w.1 c.1, bP_some, ← tollM]
    have e109 : ∀ (n : Nat) (t : Int32) (h : PH), RM S h → f_X9_up_109 (nI r) (nI f) (nI z) (f_X9_up_58 (nI r) (nI f) (nI z) n) x y (nI i) t h = if t = 0 then f_X9_up_58 (nI r) (nI f) (nI z) n x y (nI (i + 1)) h else (if x = -1 then f_X9_up_58 (nI r) (nI f) (nI z) n (nI i) (tollM S r i) (nI (i + 1)) h else if y ≤ tollM S r i then f_X9_up_58 (nI r) (nI f) (nI z) n x y (nI (i + 1)) h else f_X9_up_58 (nI r) (nI f) (nI z) n (nI i) (tollM S r i) (nI (i + 1)) h) := by
      intro n t h c
      rw [f_X9_up_109, c.rrin w hr, c.rrin w hi, bO_some, bO_some, m_riskOf w.1 c.1, bP_some, c.rrin w hr, bO_some, c.rrin w hi, bO_some, m_riskOf w.1 c.1, bP_some, lt'_eq, risk_xor w.1, ← tollM]
      simp only [f_X9_up_175, f_X9_up_171, f_X9_up_176, f_X9_up_190, if_true, e10, if_false, nI1, hx0]
    have eM : ∀ (n : Nat) (h : PH), RM S h → f_X9_up_58 (nI r) (nI f) (nI z) (n + 1) x y (nI i) h = if leadB S r i f = true then (if x = -1 then f_X9_up_58 (nI r) (nI f) (nI z) n (nI i) (tollM S r i) (nI (i + 1)) h else if y ≤ tollM S r i then f_X9_up_58 (nI r) (nI f) (nI z) n x y (nI (i + 1)) h else f_X9_up_58 (nI r) (nI f) (nI z) n (nI i) (tollM S r i) (nI (i + 1)) h) else f_X9_up_58 (nI r) (nI f) (nI z) n x y (nI (i + 1)) h := by
      intro n h c
      rw [f_X9_up_58, c.2.1.2.1, if_neg (nle hi (by omega)), m_isFree w c hi hf, bP_some, leadB]
      cases bt (faultsM S.1 (brin S.2.1 i)) f
      · rw [if_neg (by decide), c.rrin w hi, bO_some, m_faultsIn w.1 c.1, bP_some, c.rrin w hr, bO_some, m_faultsIn w.1 c.1, bP_some]
        by_cases h0 : faultsM S.1 (brin S.2.1 i) &&& (faultsM S.1 (brin S.2.1 r) ^^^ (-1)) = 0
        · rw [if_pos h0, e109 n 1 h c, decide_eq_true h0, if_neg (show ¬ ((1 : Int32) = 0) by decide)]
          exact (if_pos (show (!false && true) = true from rfl)).symm
        · rw [if_neg h0, f_X9_up_108, e109 n 0 h c, decide_eq_false h0, if_pos rfl, if_neg (by decide)]
      · rw [if_pos (by decide), f_X9_up_108, e109 n 0 h c, if_pos rfl, if_neg (by simp)]
    by_cases h1 : leadB S r i f = true
    · by_cases h2 : x = -1
      · exact ⟨(nI i, tollM S r i), (nI i, tollM S r i), ⟨rfl, Or.inr ⟨i, by omega, rfl⟩⟩, fun n h c => by
          show f_X8_up_63 _ _ _ _ _ _ _ h = f_X8_up_63 _ _ _ _ _ _ _ h
          rw [eF n h c, if_pos h1, if_pos h2], fun n h c => by
          show f_X9_up_58 _ _ _ _ _ _ _ h = f_X9_up_58 _ _ _ _ _ _ _ h
          rw [eM n h c, if_pos h1, if_pos h2]⟩
      · by_cases h3 : y ≤ tollM S r i
        · exact ⟨(x, y), (x, y), ⟨rfl, hx⟩, fun n h c => by
            show f_X8_up_63 _ _ _ _ _ _ _ h = f_X8_up_63 _ _ _ _ _ _ _ h
            rw [eF n h c, if_pos h1, if_neg h2, if_pos h3], fun n h c => by
            show f_X9_up_58 _ _ _ _ _ _ _ h = f_X9_up_58 _ _ _ _ _ _ _ h
            rw [eM n h c, if_pos h1, if_neg h2, if_pos h3]⟩
        · exact ⟨(nI i, tollM S r i), (nI i, tollM S r i), ⟨rfl, Or.inr ⟨i, by omega, rfl⟩⟩, fun n h c => by
            show f_X8_up_63 _ _ _ _ _ _ _ h = f_X8_up_63 _ _ _ _ _ _ _ h
            rw [eF n h c, if_pos h1, if_neg h2, if_neg h3], fun n h c => by
            show f_X9_up_58 _ _ _ _ _ _ _ h = f_X9_up_58 _ _ _ _ _ _ _ h
            rw [eM n h c, if_pos h1, if_neg h2, if_neg h3]⟩
    · exact ⟨(x, y), (x, y), ⟨rfl, hx⟩, fun n h c => by
        show f_X8_up_63 _ _ _ _ _ _ _ h = f_X8_up_63 _ _ _ _ _ _ _ h
        rw [eF n h c, if_neg h1], fun n h c => by
        show f_X9_up_58 _ _ _ _ _ _ _ h = f_X9_up_58 _ _ _ _ _ _ _ h
        rw [eM n h c, if_neg h1]⟩
theorem l_up {S : SD} (w : wfS S) {r f z : Nat} (hr : r < br S.2.1) (hf : f < tf S.1) : Two S (fun h16 => bP (f_X8_isFree (nI r) (nI f) h16) (fun r42 h42 => if r42 = 0 then (lt' (nI r + 1) (fun x6 => f_X8_up_63 (nI r) (nI f) (nI z) FU (-1) (-1) x6 h42)) else (some ((-1003), h42)))) (fun h10 => bP (f_X9_isFree (nI r) (nI f) h10) (fun r37 h37 => if r37 = 0 then (lt' (nI r + 1) (fun x6 => f_X9_up_58 (nI r) (nI f) (nI z) FU (-1) (-1) x6 h37)) else (some ((-1003), h37)))) := by
  cases hb : bt (faultsM S.1 (brin S.2.1 r)) f
  · exact (Two.ret (-1003)).eqv (fun h c => by rw [c_isFree w c hr hf, bP_some, hb, if_neg (by decide)]) (fun h c => by rw [m_isFree w c hr hf, bP_some, hb, if_neg (by decide)])
  · exact (l_up63 w (z := z) hr hf).eqv (fun h c => by rw [c_isFree w c hr hf, bP_some, hb, if_pos (by decide), lt'_eq, nI1]) (fun h c => by rw [m_isFree w c hr hf, bP_some, hb, if_pos (by decide), lt'_eq, nI1])
theorem p_up (x y z : Int32) : Pair (f_X8_up x y z) (f_X9_up x y z) := Pair.two (fun S w => by
  refine two_rel w (fun _ => rfl) (fun _ => rfl) (fun r hr e => ?_)
  subst e
  refine two_fault w (fun _ => rfl) (fun _ => rfl) (fun f hf e => ?_)
  subst e
  refine two_in2 (n := 1) (by omega) (d := 1) rfl (e := 1) rfl (fun _ => rfl) (fun _ => rfl) (fun k hk e => ?_)
  subst e
  exact l_up w hr hf)
theorem l_spans {S : SD} (w : wfS S) {f l z : Nat} (t : Int32) (hf : f < tf S.1) (hl : l < bl S.2.1) (hz : z ≤ 1) : Two S (fun h => f_X8_spans_53 (nI f) (nI l) t (nI z) FU 0 0 (-1) 0 h) (fun h => f_X9_spans_50 (nI f) (nI l) t (nI z) FU 0 0 (-1) (-1) 0 h) := by
  have b20 := w.b20
  refine two_lp0 (fun n (x : Int32 × Bool × Int32) i h => f_X8_spans_53 (nI f) (nI l) t (nI z) n x.1 (b01 x.2.1) x.2.2 (nI i) h) (fun n (x : Int32 × Bool × Int32 × Int32) i h => f_X9_spans_50 (nI f) (nI l) t (nI z) n x.1 (b01 x.2.1) x.2.2.1 x.2.2.2 (nI i) h) (br S.2.1) (by omega) (fun _ x y => x.1 = y.1 ∧ x.2.1 = y.2.1 ∧ x.2.2 = if z = 0 then y.2.2.1 else y.2.2.2) (fun x y e => ?_) (fun i x y hi e => ?_) (i := 0) (a := (0, false, -1)) (b := (0, false, -1, -1)) (by omega) ⟨rfl, rfl, by simp⟩
  · obtain ⟨x1, x2, x3⟩ := x
    obtain ⟨y1, y2, y3, y4⟩ := y
    obtain ⟨e1, e2, e3⟩ := e
    replace e1 : x1 = y1 := e1
    replace e3 : x3 = if z = 0 then y3 else y4 := e3
    refine ⟨if t = -1 then x1 else x3, fun n => Q.pt fun h c => ?_, fun n => P9.pt fun h c => ?_⟩
    · show f_X8_spans_53 _ _ _ _ (n + 1) _ _ _ _ h = _
      rw [f_X8_spans_53, c.2.1.2.1, if_pos (Int32.le_refl _)]
      by_cases ht : t = -1
      · rw [if_pos ht, if_pos ht]
      · rw [if_neg ht, if_neg ht]
    · show f_X9_spans_50 _ _ _ _ (n + 1) _ _ _ _ _ h = _
      rw [f_X9_spans_50, c.2.1.2.1, if_pos (Int32.le_refl _)]
      by_cases ht : t = -1
      · rw [if_pos ht, if_pos ht, e1]
      · rw [if_neg ht, if_neg ht, e3]
        by_cases h0 : z = 0
        · rw [if_pos (by rw [h0]; rfl), if_pos h0]
        · rw [if_neg (by rw [show (0 : Int32) = nI 0 from rfl, eqN (by omega) (by omega)]; exact h0), if_neg h0]
  · obtain ⟨x1, x2, x3⟩ := x
    obtain ⟨y1, y2, y3, y4⟩ := y
    obtain ⟨e1, e2, e3⟩ := e
    replace e1 : x1 = y1 := e1
    replace e2 : x2 = y2 := e2
    replace e3 : x3 = if z = 0 then y3 else y4 := e3
    subst e1
    subst e2
    by_cases hl2 : bof S.2.1 i = nI l
    · cases hb : bt (faultsM S.1 (brin S.2.1 i)) f
      · refine ⟨(x1, false, x3), (x1, false, y3, y4), ⟨rfl, rfl, e3⟩, fun n h c => ?_, fun n h c => ?_⟩
        · show f_X8_spans_53 _ _ _ _ (n + 1) x1 (b01 x2) x3 _ h = f_X8_spans_53 _ _ _ _ n x1 (b01 false) x3 _ h
          rw [f_X8_spans_53, c.2.1.2.1, if_neg (nle hi (by omega)), c.rof w hi, bO_some, if_pos hl2]
          cases x2 <;> simp only [b01_t, b01_f, if_true, if_false, e10, c_isFree w c hi hf, hb, Bool.not_false, bP_some, f_X8_spans_101, f_X8_spans_102, f_X8_spans_119, f_X8_spans_129, nI1]
        · show f_X9_spans_50 _ _ _ _ (n + 1) x1 (b01 x2) y3 y4 _ h = f_X9_spans_50 _ _ _ _ n x1 (b01 false) y3 y4 _ h
          rw [f_X9_spans_50, c.2.1.2.1, if_neg (nle hi (by omega)), c.rof w hi, bO_some, if_pos hl2]
          cases x2 <;> simp only [b01_t, b01_f, if_true, if_false, e10, m_isFree w c hi hf, hb, Bool.not_false, bP_some, f_X9_spans_95, f_X9_spans_96, f_X9_spans_122, f_X9_spans_124, f_X9_spans_144, f_X9_spans_146, nI1, lt'_eq, add0]
      · cases x2
        · by_cases ht : x1 + 1 - 1 = t
          · refine ⟨(x1 + 1, true, nI i), (x1 + 1, true, nI i, nI i), ⟨rfl, rfl, by simp⟩, fun n h c => ?_, fun n h c => ?_⟩
            · show f_X8_spans_53 _ _ _ _ (n + 1) x1 (b01 false) x3 _ h = f_X8_spans_53 _ _ _ _ n (x1 + 1) (b01 true) (nI i) _ h
              rw [f_X8_spans_53, c.2.1.2.1, if_neg (nle hi (by omega)), c.rof w hi, bO_some, if_pos hl2]
              simp only [b01_t, b01_f, if_true, if_false, e10, c_isFree w c hi hf, hb, Bool.not_true, bP_some, f_X8_spans_101, f_X8_spans_102, f_X8_spans_119, f_X8_spans_129, nI1, ht]
            · show f_X9_spans_50 _ _ _ _ (n + 1) x1 (b01 false) y3 y4 _ h = f_X9_spans_50 _ _ _ _ n (x1 + 1) (b01 true) (nI i) (nI i) _ h
              rw [f_X9_spans_50, c.2.1.2.1, if_neg (nle hi (by omega)), c.rof w hi, bO_some, if_pos hl2]
              simp only [b01_t, b01_f, if_true, if_false, e10, m_isFree w c hi hf, hb, Bool.not_true, bP_some, f_X9_spans_95, f_X9_spans_96, f_X9_spans_122, f_X9_spans_124, f_X9_spans_144, f_X9_spans_146, nI1, lt'_eq, ht]
          · refine ⟨(x1 + 1, true, x3), (x1 + 1, true, y3, y4), ⟨rfl, rfl, e3⟩, fun n h c => ?_, fun n h c => ?_⟩
            · show f_X8_spans_53 _ _ _ _ (n + 1) x1 (b01 false) x3 _ h = f_X8_spans_53 _ _ _ _ n (x1 + 1) (b01 true) x3 _ h
              rw [f_X8_spans_53, c.2.1.2.1, if_neg (nle hi (by omega)), c.rof w hi, bO_some, if_pos hl2]
              simp only [b01_t, b01_f, if_true, if_false, e10, c_isFree w c hi hf, hb, Bool.not_true, bP_some, f_X8_spans_101, f_X8_spans_102, f_X8_spans_119, f_X8_spans_129, nI1, ht]
            · show f_X9_spans_50 _ _ _ _ (n + 1) x1 (b01 false) y3 y4 _ h = f_X9_spans_50 _ _ _ _ n (x1 + 1) (b01 true) y3 y4 _ h
              rw [f_X9_spans_50, c.2.1.2.1, if_neg (nle hi (by omega)), c.rof w hi, bO_some, if_pos hl2]
              simp only [b01_t, b01_f, if_true, if_false, e10, m_isFree w c hi hf, hb, Bool.not_true, bP_some, f_X9_spans_95, f_X9_spans_96, f_X9_spans_122, f_X9_spans_124, f_X9_spans_144, f_X9_spans_146, nI1, lt'_eq, ht]
        · by_cases ht : x1 - 1 = t
          · refine ⟨(x1, true, if z = 0 then x3 else nI i), (x1, true, y3, nI i), ⟨rfl, rfl, ?_⟩, fun n h c => ?_, fun n h c => ?_⟩
            · show (if z = 0 then x3 else nI i) = if z = 0 then y3 else nI i
              by_cases h0 : z = 0
              · rw [if_pos h0, if_pos h0, e3, if_pos h0]
              · rw [if_neg h0, if_neg h0]
            · show f_X8_spans_53 _ _ _ _ (n + 1) x1 (b01 true) x3 _ h = f_X8_spans_53 _ _ _ _ n x1 (b01 true) (if z = 0 then x3 else nI i) _ h
              rw [f_X8_spans_53, c.2.1.2.1, if_neg (nle hi (by omega)), c.rof w hi, bO_some, if_pos hl2]
              simp only [b01_t, b01_f, if_true, if_false, e10, c_isFree w c hi hf, hb, Bool.not_true, bP_some, f_X8_spans_101, f_X8_spans_102, f_X8_spans_119, f_X8_spans_129, nI1, ht]
              by_cases h0 : z = 0
              · rw [if_neg (by rw [h0]; decide), if_pos h0]
              · rw [if_pos (by rw [show z = 1 by omega]; rfl), if_neg h0]
            · show f_X9_spans_50 _ _ _ _ (n + 1) x1 (b01 true) y3 y4 _ h = f_X9_spans_50 _ _ _ _ n x1 (b01 true) y3 (nI i) _ h
              rw [f_X9_spans_50, c.2.1.2.1, if_neg (nle hi (by omega)), c.rof w hi, bO_some, if_pos hl2]
              simp only [b01_t, b01_f, if_true, if_false, e10, m_isFree w c hi hf, hb, Bool.not_true, bP_some, f_X9_spans_95, f_X9_spans_96, f_X9_spans_122, f_X9_spans_124, f_X9_spans_144, f_X9_spans_146, nI1, lt'_eq, add0, ht]
          · refine ⟨(x1, true, x3), (x1, true, y3, y4), ⟨rfl, rfl, e3⟩, fun n h c => ?_, fun n h c => ?_⟩
            · show f_X8_spans_53 _ _ _ _ (n + 1) x1 (b01 true) x3 _ h = f_X8_spans_53 _ _ _ _ n x1 (b01 true) x3 _ h
              rw [f_X8_spans_53, c.2.1.2.1, if_neg (nle hi (by omega)), c.rof w hi, bO_some, if_pos hl2]
              simp only [b01_t, b01_f, if_true, if_false, e10, c_isFree w c hi hf, hb, Bool.not_true, bP_some, f_X8_spans_101, f_X8_spans_102, f_X8_spans_119, f_X8_spans_129, nI1, ht]
            · show f_X9_spans_50 _ _ _ _ (n + 1) x1 (b01 true) y3 y4 _ h = f_X9_spans_50 _ _ _ _ n x1 (b01 true) y3 y4 _ h
              rw [f_X9_spans_50, c.2.1.2.1, if_neg (nle hi (by omega)), c.rof w hi, bO_some, if_pos hl2]
              simp only [b01_t, b01_f, if_true, if_false, e10, m_isFree w c hi hf, hb, Bool.not_true, bP_some, f_X9_spans_95, f_X9_spans_96, f_X9_spans_122, f_X9_spans_124, f_X9_spans_144, f_X9_spans_146, nI1, lt'_eq, add0, ht]
    · refine ⟨(x1, x2, x3), (x1, x2, y3, y4), ⟨rfl, rfl, e3⟩, fun n h c => ?_, fun n h c => ?_⟩
      · show f_X8_spans_53 _ _ _ _ (n + 1) _ _ _ _ h = f_X8_spans_53 _ _ _ _ n _ _ _ _ h
        rw [f_X8_spans_53, c.2.1.2.1, if_neg (nle hi (by omega)), c.rof w hi, bO_some, if_neg hl2, nI1]
      · show f_X9_spans_50 _ _ _ _ (n + 1) _ _ _ _ _ h = f_X9_spans_50 _ _ _ _ n _ _ _ _ _ h
        rw [f_X9_spans_50, c.2.1.2.1, if_neg (nle hi (by omega)), c.rof w hi, bO_some, if_neg hl2, nI1]
theorem p_spans (x y t z : Int32) : Pair (f_X8_spans x y t z) (f_X9_spans x y t z) := Pair.two (fun S w => by
  refine two_fault w (fun _ => rfl) (fun _ => rfl) (fun f hf e => ?_)
  subst e
  refine two_line w (fun _ => rfl) (fun _ => rfl) (fun l hl e => ?_)
  subst e
  refine two_in2 (n := 1) (by omega) (d := 1) rfl (e := 1) rfl (fun _ => rfl) (fun _ => rfl) (fun k hk e => ?_)
  subst e
  exact l_spans w t hf hl hk)
