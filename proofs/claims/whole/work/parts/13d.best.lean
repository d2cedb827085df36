/-! ===== best, soonest ===== -/
theorem ite_c {α : Type} {p q : Prop} [Decidable p] [Decidable q] (h : p = q) (x y : α) : (if p then x else y) = if q then x else y := by
  subst h
  by_cases hp : p
  · rw [if_pos hp, if_pos hp]
  · rw [if_neg hp, if_neg hp]
theorem sumI_bd {g : Nat → Int32} {m : Nat} {P : Nat → Bool} (hg : ∀ k, 0 ≤ (g k).toInt ∧ (g k).toInt ≤ m) (hm : m ≤ 1000) : ∀ n, n ≤ 1000 → 0 ≤ (sumI g P n).toInt ∧ (sumI g P n).toInt ≤ (n * m : Nat) := by
  intro n
  induction n with
  | zero => intro _; rw [sumI, Nat.zero_mul]; decide
  | succ n ih =>
    intro hn
    have hi := ih (by omega)
    have hk := hg n
    have hnm : n * m ≤ 1000 * 1000 := Nat.mul_le_mul (by omega) hm
    rw [sumI, Nat.succ_mul]
    by_cases hp : P n = true
    · rw [if_pos hp, Int32.toInt_add, Int.bmod_eq_of_le (by omega) (by omega)]
      omega
    · rw [if_neg hp]
      omega
theorem wt_bd {T : TD} (hT : wfT T) (x : Int32) : 0 ≤ (weightM T x).toInt ∧ (weightM T x).toInt ≤ 1000 := by
  have h1 := hT.2.1
  have h2 := sumI_bd (g := twt T) (m := 99) (P := bt x) (fun k => by have := hT.2.2.2.2.2.1 k; omega) (by omega) (tf T) (by omega)
  have h3 : tf T * 99 ≤ 10 * 99 := Nat.mul_le_mul h1 (Nat.le_refl _)
  unfold weightM
  omega
theorem rk_bd {T : TD} (hT : wfT T) (x : Int32) : 0 ≤ (riskM T x).toInt ∧ (riskM T x).toInt ≤ 1000 := by
  have h1 := hT.1
  have h2 := sumI_bd (g := trk T) (m := 9) (P := bt x) (fun k => by have := hT.2.2.2.2.1 k; omega) (by omega) (tn T) (by omega)
  have h3 : tn T * 9 ≤ 24 * 9 := Nat.mul_le_mul h1 (Nat.le_refl _)
  unfold riskM
  omega
theorem sub_tI {x y : Int32} (hx : 0 ≤ x.toInt ∧ x.toInt ≤ 1000) (hy : 0 ≤ y.toInt ∧ y.toInt ≤ 1000) : (x - y).toInt = x.toInt - y.toInt := by
  rw [Int32.toInt_sub, Int.bmod_eq_of_le (by omega) (by omega)]
theorem eqI (x y : Int32) : (x = y) = (x.toInt = y.toInt) := propext Int32.toInt_inj.symm
theorem i0 : (0 : Int32).toInt = 0 := rfl
/-- is a set of cost a better than the best so far -/
def betB (S : SD) (n r : Nat) (x a : Int32) (p : Int32 × Int32) : Bool := decide (pc a 24 ≤ n ∧ (riskM S.1 a).toInt ≤ r ∧ ((weightM S.1 p.1).toInt < (weightM S.1 x).toInt ∨ (weightM S.1 p.1).toInt = (weightM S.1 x).toInt ∧ pc a 24 < pc p.2 24))
def bstep (S : SD) (l n r : Nat) (x : Int32) (p : Int32 × Int32) : Int32 × Int32 := match costM S l x with
  | none => p
  | some a => if betB S n r x a p = true then (x, a) else p
def bstM (S : SD) (l n r : Nat) : Nat → Int32 × Int32
  | 0 => (0, 0)
  | k + 1 => bstep S l n r (nI (k + 1)) (bstM S l n r k)
theorem bst_bel {S : SD} (w : wfS S) {l n r : Nat} : ∀ k, bel (bstM S l n r k).2 (tn S.1) := by
  intro k
  induction k with
  | zero => exact bel_zero _
  | succ k ih =>
    rw [bstM, bstep]
    cases h : costM S l (nI (k + 1)) with
    | none => exact ih
    | some a =>
      simp only []
      split
      · exact costM_bel w h
      · exact ih
theorem pw_tf {S : SD} (w : wfS S) : 2 ^ tf S.1 ≤ 1024 ∧ 0 < 2 ^ tf S.1 := ⟨Nat.pow_le_pow_right (n := 2) (j := 10) (by decide) w.f10, Nat.pow_pos (by decide)⟩
theorem p9_best {S : SD} (w : wfS S) {l n r z : Nat} (hl : l < bl S.2.1) (hn : n ≤ 24) (hr : r ≤ 99) (hz : z ≤ 2) : P9 S (fun h => f_X9_best_62 (nI l) (nI n) (nI r) (nI z) FU 0 0 1 h) (if z = 0 then (bstM S l n r (2 ^ tf S.1 - 1)).1 else if z = 1 then weightM S.1 (bstM S l n r (2 ^ tf S.1 - 1)).1 else (bstM S l n r (2 ^ tf S.1 - 1)).2) := fun h c => by
  have f10 := w.f10
  have n24 := w.n24
  obtain ⟨pw1, pw2⟩ := pw_tf w
  refine glF (fun m (b : Int32 × Int32) i h => f_X9_best_62 (nI l) (nI n) (nI r) (nI z) m b.1 b.2 (nI (i + 1)) h) (fun i b h' => keepM h h' ∧ b = bstM S l n r i) (2 ^ tf S.1 - 1) (fun o => ∃ h', o = some ((if z = 0 then (bstM S l n r (2 ^ tf S.1 - 1)).1 else if z = 1 then weightM S.1 (bstM S l n r (2 ^ tf S.1 - 1)).1 else (bstM S l n r (2 ^ tf S.1 - 1)).2), h') ∧ keepM h h') (by omega) (fun b h' hI m => ?_) (fun i b h' hi hI => Or.inr ?_) (i := 0) (b := (0, 0)) (Nat.zero_le _) ⟨keepM.rf h, rfl⟩
  · obtain ⟨k1, rfl⟩ := hI
    have c' := c.keepM k1
    refine ⟨h', ?_, k1⟩
    show f_X9_best_62 _ _ _ _ (m + 1) _ _ (nI (2 ^ tf S.1 - 1 + 1)) h' = _
    rw [f_X9_best_62, c'.1.2.1, one_nI _ (by omega), if_pos (by rw [leN (by omega) (by omega)]; omega)]
    have z1 : (nI z = 0) = (z = 0) := eqN (b := 0) (by omega) (by omega)
    have z2 : (nI z = 1) = (z = 1) := eqN (b := 1) (by omega) (by omega)
    rw [ite_c z1, ite_c z2, m_weightOf w.1 c'.1, bP_some]
    by_cases h0 : z = 0
    · rw [if_pos h0, if_pos h0]
    · rw [if_neg h0, if_neg h0]
      by_cases h1 : z = 1
      · rw [if_pos h1, if_pos h1]
      · rw [if_neg h1, if_neg h1]
  · obtain ⟨k1, rfl⟩ := hI
    have c' := c.keepM k1
    obtain ⟨h2, e2, k2⟩ := p9_cost w hl (nI (i + 1)) h' c'
    have c2 := c'.keepM k2
    refine ⟨bstM S l n r (i + 1), h2, ⟨k1.tr k2, rfl⟩, fun m => ?_⟩
    show f_X9_best_62 _ _ _ _ (m + 1) _ _ (nI (i + 1)) h' = f_X9_best_62 _ _ _ _ m _ _ (nI (i + 1 + 1)) h2
    rw [f_X9_best_62, c'.1.2.1, one_nI _ (by omega), if_neg (by rw [leN (by omega) (by omega)]; omega), e2, bP_some, bstM, bstep]
    cases hc : costM S l (nI (i + 1)) with
    | none =>
      show (if (-1 : Int32) < 0 then _ else _) = _
      rw [if_pos (by decide), nI1]
    | some a =>
      have ba := costM_bel w hc
      have bb := bst_bel w (l := l) (n := n) (r := r) i
      rw [Option.getD_some]
      show (if a < 0 then _ else _) = f_X9_best_62 _ _ _ _ m (if betB S n r (nI (i + 1)) a (bstM S l n r i) = true then (nI (i + 1), a) else bstM S l n r i).1 (if betB S n r (nI (i + 1)) a (bstM S l n r i) = true then (nI (i + 1), a) else bstM S l n r i).2 _ _
      have p1 := pc_le a 24
      have p2 := pc_le (bstM S l n r i).2 24
      have w1 := wt_bd w.1 (nI (i + 1))
      have w2 := wt_bd w.1 (bstM S l n r i).1
      have r1 := rk_bd w.1 a
      have e44 : ∀ k, f_X9_best_144 (nI l) (nI n) (nI r) (nI z) k (bstM S l n r i).1 (bstM S l n r i).2 (nI (i + 1)) a h2 = k (nI (i + 1)) a (nI (i + 1) + 1) h2 := fun k => by
        rw [f_X9_best_144, f_X9_best_149, if_neg (by decide), f_X9_best_163, if_neg (by decide)]
      have e48 : ∀ k, f_X9_best_148 (nI l) (nI n) (nI r) (nI z) k (bstM S l n r i).1 (bstM S l n r i).2 (nI (i + 1)) a h2 = k (bstM S l n r i).1 (bstM S l n r i).2 (nI (i + 1) + 1) h2 := fun k => by
        rw [f_X9_best_148, f_X9_best_149, if_pos rfl, f_X9_best_163, if_pos rfl]
      rw [if_neg (bel_nneg ba (by omega)), m_bits, bO_some, ite_c (ltN (by omega) (by omega)), nI1]
      by_cases q1 : n < pc a 24
      · rw [if_pos q1, if_neg (by unfold betB; rw [decide_eq_true_eq]; omega)]
      · rw [if_neg q1, m_riskOf w.1 c2.1, bP_some, ite_c (ltI _ _), nI_toInt (by omega)]
        by_cases q2 : (r : Int) < (riskM S.1 a).toInt
        · rw [if_pos q2, if_neg (by unfold betB; rw [decide_eq_true_eq]; omega)]
        · rw [if_neg q2, m_weightOf w.1 c2.1, bP_some, m_weightOf w.1 c2.1, bP_some, lt'_eq, ite_c (ltI _ _), i0, sub_tI w1 w2, e44, e48, nI1]
          by_cases q3 : 0 < (weightM S.1 (nI (i + 1))).toInt - (weightM S.1 (bstM S l n r i).1).toInt
          · rw [if_pos q3, if_pos (by unfold betB; rw [decide_eq_true_eq]; omega)]
          · rw [if_neg q3, ite_c (eqI _ _), i0, sub_tI w1 w2]
            by_cases q4 : (weightM S.1 (nI (i + 1))).toInt - (weightM S.1 (bstM S l n r i).1).toInt = 0
            · rw [if_pos q4, m_bits, bO_some, bO_some, ite_c (leN (by omega) (by omega))]
              by_cases q5 : pc (bstM S l n r i).2 24 ≤ pc a 24
              · rw [if_pos q5, if_neg (by unfold betB; rw [decide_eq_true_eq]; omega)]
              · rw [if_neg q5, if_pos (by unfold betB; rw [decide_eq_true_eq]; omega)]
            · rw [if_neg q4, if_neg (by unfold betB; rw [decide_eq_true_eq]; omega)]
theorem c_would {S : SD} (w : wfS S) {l n r : Nat} (hn : n ≤ 24) (hr : r ≤ 99) {y : Int32} {h : PH} (c : RC S h) (k : LK S l y h) {x a : Int32} (ea : orV S l y x (tf S.1) = a) (ba : bel a (tn S.1)) {p : Int32 × Int32} (bp : bel p.2 (tn S.1)) (h6 : h.1 58 6 = weightM S.1 p.1) (h7 : h.1 58 7 = p.2) : f_X1_wouldBeBetter x (nI n) (nI r) h = some (b01 (betB S n r x a p), h) := by
  have n24 := w.n24
  have p1 := pc_le a 24
  have p2 := pc_le p.2 24
  have w1 := wt_bd w.1 x
  have w2 := wt_bd w.1 p.1
  have r1 := rk_bd w.1 a
  have e58 : ∀ (cc : Prop), ((weightM S.1 p.1).toInt < (weightM S.1 x).toInt ∨ (weightM S.1 p.1).toInt = (weightM S.1 x).toInt ∧ pc a 24 < pc p.2 24) → f_X1_wouldBeBetter_58 (nI n) (nI r) a (nI (pc a 24)) h = some (b01 (betB S n r x a p), h) := fun _ hh => by
    rw [f_X1_wouldBeBetter_58, ite_c (ltN (by omega) (by omega)), c_riskOf w.1 c.1, bP_some, ite_c (ltI _ _), nI_toInt (by omega)]
    by_cases q1 : n < pc a 24
    · rw [if_pos q1, show betB S n r x a p = false by unfold betB; rw [decide_eq_false_iff_not]; omega]; rfl
    · rw [if_neg q1]
      by_cases q2 : (r : Int) < (riskM S.1 a).toInt
      · rw [if_pos q2, show betB S n r x a p = false by unfold betB; rw [decide_eq_false_iff_not]; omega]; rfl
      · rw [if_neg q2, show betB S n r x a p = true by unfold betB; rw [decide_eq_true_eq]; omega]; rfl
  rw [f_X1_wouldBeBetter, c_weightOf w.1 c.1, bP_some, h6, ite_c (leI _ _)]
  by_cases q1 : (weightM S.1 p.1).toInt ≤ (weightM S.1 x).toInt
  · rw [if_pos q1, c_allFixes w c k, bP_some, ea, c_bits (bel_mono ba n24), bO_some, h6, h7, ite_c (eqI _ _), c_bits (bel_mono bp n24), bO_some, ite_c (ltN (by omega) (by omega))]
    by_cases q2 : (weightM S.1 x).toInt = (weightM S.1 p.1).toInt
    · rw [if_pos q2]
      by_cases q3 : pc a 24 < pc p.2 24
      · rw [if_pos q3, e58 True (Or.inr ⟨q2.symm, q3⟩)]
      · rw [if_neg q3, show betB S n r x a p = false by unfold betB; rw [decide_eq_false_iff_not]; omega]; rfl
    · rw [if_neg q2, e58 True (Or.inl (by omega))]
  · rw [if_neg q1, show betB S n r x a p = false by unfold betB; rw [decide_eq_false_iff_not]; omega]; rfl
theorem up58 (h : PH) {j k : Nat} (v : Int32) (e : j ≠ k) : (hU h 58 k v).1 58 j = h.1 58 j := by
  rw [hU_s]; unfold upd; rw [if_neg e]
theorem c_findBest {S : SD} (w : wfS S) {l n r : Nat} (hl : l < bl S.2.1) (hn : n ≤ 24) (hr : r ≤ 99) {h : PH} (c : RC S h) (k : LK S l ((1 <<< (nI (tf S.1) &&& 31)) - 1) h) : ∃ h', f_X1_findBest (nI n) (nI r) h = some h' ∧ keepC h h' ∧ h'.1 58 5 = (bstM S l n r (2 ^ tf S.1 - 1)).1 ∧ h'.1 58 6 = weightM S.1 (bstM S l n r (2 ^ tf S.1 - 1)).1 ∧ h'.1 58 7 = (bstM S l n r (2 ^ tf S.1 - 1)).2 := by
  have f10 := w.f10
  have n24 := w.n24
  obtain ⟨pw1, pw2⟩ := pw_tf w
  have w0 : weightM S.1 0 = 0 := by
    unfold weightM
    generalize tf S.1 = m
    induction m with
    | zero => rfl
    | succ m ih => rw [sumI, bt_zero, if_neg (by decide)]; exact ih
  rw [f_X1_findBest, lt'_eq, lt'_eq, lt'_eq]
  refine glF (fun m (_ : Unit) i h => f_X1_findBest_17 (nI n) (nI r) m (nI (i + 1)) h) (fun i _ h' => keepC h h' ∧ LK S l ((1 <<< (nI (tf S.1) &&& 31)) - 1) h' ∧ h'.1 58 5 = (bstM S l n r i).1 ∧ h'.1 58 6 = weightM S.1 (bstM S l n r i).1 ∧ h'.1 58 7 = (bstM S l n r i).2) (2 ^ tf S.1 - 1) (fun o => ∃ h', o = some h' ∧ keepC h h' ∧ h'.1 58 5 = (bstM S l n r (2 ^ tf S.1 - 1)).1 ∧ h'.1 58 6 = weightM S.1 (bstM S l n r (2 ^ tf S.1 - 1)).1 ∧ h'.1 58 7 = (bstM S l n r (2 ^ tf S.1 - 1)).2) (by omega) (fun _ h' hI m => ?_) (fun i _ h' hi hI => Or.inr ?_) (i := 0) (b := ()) (Nat.zero_le _) ⟨(keepC.hU _ _ rfl).tr ((keepC.hU _ _ rfl).tr (keepC.hU _ _ rfl)), ((k.hU58 _ (by decide) (by decide)).hU58 _ (by decide) (by decide)).hU58 _ (by decide) (by decide), by rw [up58 _ _ (by decide), up58 _ _ (by decide), hU_s]; exact pk_us, by rw [up58 _ _ (by decide), hU_s, pk_us]; exact w0.symm, by rw [hU_s]; exact pk_us⟩
  · obtain ⟨q1, q2, q3, q4, q5⟩ := hI
    refine ⟨h', ?_, q1, q3, q4, q5⟩
    show f_X1_findBest_17 _ _ (m + 1) (nI (2 ^ tf S.1 - 1 + 1)) h' = _
    rw [f_X1_findBest_17, (c.keepC q1).1.2.1, f_X8_firstOnes, bO_some, ones_nI _ (by omega), if_pos (by rw [ltN (by omega) (by omega)]; omega)]
  · obtain ⟨q1, q2, q3, q4, q5⟩ := hI
    have c' := c.keepC q1
    have hb : bel (nI (i + 1)) (tf S.1) := bel_of_lt (by omega) (by omega)
    have hx : ∀ f, f < 32 → bt (nI (i + 1)) f = true → bt (((1 : Int32) <<< (nI (tf S.1) &&& 31)) - 1) f = true := fun f hf hbt => by
      rw [bt_ones _ (by omega) f hf, decide_eq_true_eq]
      rcases Nat.lt_or_ge f (tf S.1) with q | q
      · exact q
      · rw [hb f hf q] at hbt; cases hbt
    have st : ∀ m, f_X1_findBest_17 (nI n) (nI r) (m + 1) (nI (i + 1)) h' = (if (nI (i + 1) &&& (mkI (fun f => bt (((1 : Int32) <<< (nI (tf S.1) &&& 31)) - 1) f && (fxm S l f).isSome) (tf S.1) ^^^ (-1))) = 0 then (bP (f_X1_wouldBeBetter (nI (i + 1)) (nI n) (nI r) h') (fun r46 h46 => if r46 = 0 then ((f_X1_findBest_17 (nI n) (nI r) m) (nI (i + 1 + 1)) h46) else (bP (f_X1_costOf (nI (i + 1)) h46) (fun r54 h54 => if r54 = (-1) then ((f_X1_findBest_17 (nI n) (nI r) m) (nI (i + 1 + 1)) h54) else (lt' (hU h54 58 5 (nI (i + 1))) (fun h63 => bP (f_X7_weightOf 4 (nI (i + 1)) h63) (fun r72 h72 => lt' (hU h72 58 6 r72) (fun h75 => bP (f_X1_allFixes (nI (i + 1)) h75) (fun r81 h81 => lt' (hU h81 58 7 r81) (fun h84 => (f_X1_findBest_17 (nI n) (nI r) m) (nI (i + 1 + 1)) h84)))))))))) else ((f_X1_findBest_17 (nI n) (nI r) m) (nI (i + 1 + 1)) h')) := fun m => by
      rw [f_X1_findBest_17, c'.1.2.1, f_X8_firstOnes, bO_some, if_neg (by rw [ones_nI _ (by omega), ltN (by omega) (by omega)]; omega), q2.2.1, nI1]
    have skip : bstM S l n r (i + 1) = bstM S l n r i → (h'.1 58 5 = (bstM S l n r (i + 1)).1 ∧ h'.1 58 6 = weightM S.1 (bstM S l n r (i + 1)).1 ∧ h'.1 58 7 = (bstM S l n r (i + 1)).2) := fun e => by rw [e]; exact ⟨q3, q4, q5⟩
    cases hA : allF S l (nI (i + 1)) (tf S.1) with
    | none =>
      have ec : costM S l (nI (i + 1)) = none := by rw [costM, hA]
      refine ⟨(), h', ⟨q1, q2, skip (by rw [bstM, bstep, ec])⟩, fun m => ?_⟩
      show f_X1_findBest_17 _ _ (m + 1) (nI (i + 1)) h' = f_X1_findBest_17 _ _ m (nI (i + 1 + 1)) h'
      rw [st m, if_neg (fun z => by have := (fix_iff w hx hb).mp z; rw [hA] at this; cases this)]
    | some a =>
      have hfx := (fix_iff (S := S) w (l := l) hx hb).mpr (by rw [hA]; rfl)
      have e : orV S l (((1 : Int32) <<< (nI (tf S.1) &&& 31)) - 1) (nI (i + 1)) (tf S.1) = a := by
        have := allF_some (S := S) (l := l) (y := ((1 : Int32) <<< (nI (tf S.1) &&& 31)) - 1) (x := nI (i + 1)) (tf S.1) (fun f hf hb2 => ⟨hx f (by omega) hb2, by
          cases hq : fxm S l f with
          | none => rw [allF_n hf hb2 hq] at hA; cases hA
          | some r => rfl⟩)
        rw [hA] at this
        exact (Option.some.inj this).symm
      have ba := allF_bel w _ (Nat.le_refl _) _ hA
      have ew := c_would w hn hr c' q2 e ba (bst_bel w i) q4 q5
      cases hbet : betB S n r (nI (i + 1)) a (bstM S l n r i)
      · have ec : bstM S l n r (i + 1) = bstM S l n r i := by
          rw [bstM, bstep]
          cases hc : costM S l (nI (i + 1)) with
          | none => rfl
          | some a2 =>
            have : a2 = a := by
              rw [costM, hA] at hc
              simp only [] at hc
              split at hc
              · exact (Option.some.inj hc).symm
              · cases hc
            simp only [this, hbet, Bool.false_eq_true, if_false]
        refine ⟨(), h', ⟨q1, q2, skip ec⟩, fun m => ?_⟩
        show f_X1_findBest_17 _ _ (m + 1) (nI (i + 1)) h' = f_X1_findBest_17 _ _ m (nI (i + 1 + 1)) h'
        rw [st m, if_pos hfx, ew, hbet, bP_some, if_pos (show b01 false = 0 from rfl)]
      · obtain ⟨g, eg⟩ := c_costOf w hl c' q2 hx hb
        have kg : keepC h (hC h' 56 g) := q1.tr (keepC.hC _ rfl)
        have lg := q2.hC56 g
        cases hc : costM S l (nI (i + 1)) with
        | none =>
          have ec : bstM S l n r (i + 1) = bstM S l n r i := by rw [bstM, bstep, hc]
          refine ⟨(), hC h' 56 g, ⟨kg, lg, ?_⟩, fun m => ?_⟩
          · rw [hC_n _ _ (by decide)]; exact skip ec
          · show f_X1_findBest_17 _ _ (m + 1) (nI (i + 1)) h' = f_X1_findBest_17 _ _ m (nI (i + 1 + 1)) _
            rw [st m, if_pos hfx, ew, hbet, bP_some, if_neg (by decide), eg, hc, bP_some]
            show (if (-1 : Int32) = -1 then _ else _) = _
            rw [if_pos rfl]
        | some a2 =>
          have ea2 : a2 = a := by
            rw [costM, hA] at hc
            simp only [] at hc
            split at hc
            · exact (Option.some.inj hc).symm
            · cases hc
          subst ea2
          have ec : bstM S l n r (i + 1) = (nI (i + 1), a2) := by rw [bstM, bstep, hc]; simp only [hbet, if_true]
          have k63 : keepC h (hU (hC h' 56 g) 58 5 (nI (i + 1))) := kg.tr (keepC.hU _ _ rfl)
          have l63 := lg.hU58 (j := 5) (nI (i + 1)) (by decide) (by decide)
          have k75 : keepC h (hU (hU (hC h' 56 g) 58 5 (nI (i + 1))) 58 6 (weightM S.1 (nI (i + 1)))) := k63.tr (keepC.hU _ _ rfl)
          have l75 := l63.hU58 (j := 6) (weightM S.1 (nI (i + 1))) (by decide) (by decide)
          refine ⟨(), hU (hU (hU (hC h' 56 g) 58 5 (nI (i + 1))) 58 6 (weightM S.1 (nI (i + 1)))) 58 7 a2, ⟨k75.tr (keepC.hU _ _ rfl), l75.hU58 (j := 7) a2 (by decide) (by decide), ?_, ?_, ?_⟩, fun m => ?_⟩
          · rw [up58 _ _ (by decide), up58 _ _ (by decide), hU_s, pk_us, ec]
          · rw [up58 _ _ (by decide), hU_s, pk_us, ec]
          · rw [hU_s, pk_us, ec]
          · show f_X1_findBest_17 _ _ (m + 1) (nI (i + 1)) h' = f_X1_findBest_17 _ _ m (nI (i + 1 + 1)) _
            rw [st m, if_pos hfx, ew, hbet, bP_some, if_neg (by decide), eg, hc, bP_some]
            show (if a2 = -1 then _ else _) = _
            rw [if_neg (bel_ne ba (by omega)), lt'_eq, c_weightOf w.1 (c.keepC k63).1, bP_some, lt'_eq, c_allFixes w (c.keepC k75) l75, bP_some, lt'_eq, e]
theorem p_best (x y z t : Int32) : Pair (f_X8_best x y z t) (f_X9_best x y z t) := Pair.two (fun S w => by
  have f10 := w.f10
  refine two_line w (fun _ => rfl) (fun _ => rfl) (fun l hl e => ?_)
  subst e
  refine two_in (n := 24) (by omega) (g := fun _ => nI 24) (fun _ _ => rfl) (e := fun _ => 24) (fun _ _ => rfl) (fun _ => rfl) (fun _ => rfl) (fun n hn e => ?_)
  subst e
  refine two_in2 (n := 99) (by omega) (d := 99) rfl (e := 99) rfl (fun _ => rfl) (fun _ => rfl) (fun r hr e => ?_)
  subst e
  refine two_in2 (n := 2) (by omega) (d := 2) rfl (e := 2) rfl (fun _ => rfl) (fun _ => rfl) (fun k hk e => ?_)
  subst e
  refine Two.of _ (fun h c => ?_) (p9_best w hl hn hr hk)
  obtain ⟨h1, e1, k1, q1⟩ := c_lookAt w hl (((1 : Int32) <<< (nI (tf S.1) &&& 31)) - 1) c
  obtain ⟨h2, e2, k2, q5, q6, q7⟩ := c_findBest w hl hn hr (c.keepC k1) q1
  refine ⟨h2, ?_, k1.tr k2⟩
  have z1 : (nI k = 0) = (k = 0) := eqN (b := 0) (by omega) (by omega)
  have z2 : (nI k = 1) = (k = 1) := eqN (b := 1) (by omega) (by omega)
  rw [c.1.2.1, f_X8_firstOnes, bO_some, e1, bO_some, e2, bO_some, q5, q6, q7, ite_c z1, ite_c z2]
  by_cases h0 : k = 0
  · rw [if_pos h0, if_pos h0]
  · rw [if_neg h0, if_neg h0]
    by_cases h1 : k = 1
    · rw [if_pos h1, if_pos h1]
    · rw [if_neg h1, if_neg h1])
