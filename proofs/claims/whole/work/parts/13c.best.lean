/-! ===== cost ===== -/
theorem costM_a {S : SD} {l : Nat} {x a : Int32} (hA : allF S l x (tf S.1) = some a) : costM S l x = if goOK S.1 a (bval S.2.1 l) (tn S.1) = true then some a else none := by
  unfold costM
  simp only [hA]
def orV (S : SD) (l : Nat) (y x : Int32) : Nat → Int32
  | 0 => 0
  | k + 1 => if bt x k = true then orV S l y x k ||| fxv S l y k else orV S l y x k
theorem allF_some {S : SD} {l : Nat} {y x : Int32} : ∀ k, (∀ f, f < k → bt x f = true → bt y f = true ∧ (fxm S l f).isSome = true) → allF S l x k = some (orV S l y x k) := by
  intro k
  induction k with
  | zero => intro _; rfl
  | succ k ih =>
    intro h
    rw [allF, ih (fun f hf => h f (by omega)), orV]
    by_cases hb : bt x k = true
    · obtain ⟨h1, h2⟩ := h k (by omega) hb
      obtain ⟨r, hr⟩ := Option.isSome_iff_exists.mp h2
      simp only [hb, if_true, hr, fxv, h1, Option.getD_some]
    · simp only [hb, if_false, Bool.false_eq_true]
theorem allF_n {S : SD} {l : Nat} {x : Int32} {f k : Nat} (hf : f < k) (hb : bt x f = true) (h : fxm S l f = none) : allF S l x k = none := by
  refine allF_none (i := f + 1) (by omega) ?_
  rw [allF]
  cases allF S l x f with
  | none => rfl
  | some a => simp only [hb, if_true, h]
theorem fix_iff {S : SD} (w : wfS S) {l : Nat} {y x : Int32} (hx : ∀ f, f < 32 → bt x f = true → bt y f = true) (hb : bel x (tf S.1)) : (x &&& (mkI (fun f => bt y f && (fxm S l f).isSome) (tf S.1) ^^^ (-1)) = 0) ↔ (allF S l x (tf S.1)).isSome = true := by
  have f10 := w.f10
  rw [zero_iff]
  constructor
  · intro h
    rw [allF_some (y := y) (tf S.1) (fun f hf hb2 => ?_)]
    · rfl
    · have h1 := h f (by omega)
      rw [bt_and, bt_not _ (by omega), hb2, Bool.true_and, bt_mkI _ _ (by omega) f (by omega)] at h1
      have hy := hx f (by omega) hb2
      refine ⟨hy, ?_⟩
      simp only [hf, decide_true, Bool.true_and, hy] at h1
      cases hq : (fxm S l f).isSome
      · rw [hq] at h1; cases h1
      · rfl
  · intro h j hj
    rw [bt_and, bt_not _ hj, bt_mkI _ _ (by omega) j hj]
    cases hb2 : bt x j
    · rfl
    · have hjt : j < tf S.1 := by
        rcases Nat.lt_or_ge j (tf S.1) with q | q
        · exact q
        · rw [hb j hj q] at hb2; cases hb2
      cases hq : fxm S l j with
      | none => rw [allF_n hjt hb2 hq] at h; cases h
      | some r => simp [hjt, hx j hj hb2]
theorem c_allFixes {S : SD} (w : wfS S) {l : Nat} {y : Int32} {h : PH} (c : RC S h) (k : LK S l y h) (x : Int32) : f_X1_allFixes x h = some (orV S l y x (tf S.1), h) := by
  have f10 := w.f10
  refine lp_up (fun n a i => f_X1_allFixes_4 x n a (nI i) h) (orV S l y x) (tf S.1) _ (fun n => ?_) (fun n i hi => ?_) FU 0 (Nat.zero_le _) (FU_gt (by omega))
  · show f_X1_allFixes_4 x (n + 1) _ _ h = _
    rw [f_X1_allFixes_4, c.1.2.1, if_pos (Int32.le_refl _)]
  · show f_X1_allFixes_4 x (n + 1) _ _ h = f_X1_allFixes_4 x n _ _ h
    rw [f_X1_allFixes_4, c.1.2.1, if_neg (nle hi (by omega)), has8 _ (by omega), bO_some, nI1, orV]
    by_cases hb : bt x i = true
    · rw [if_pos hb, if_neg (by decide), ag_nI h 59 (by omega : i < 10) (by omega), bO_some, lt'_eq, if_pos hb, k.2.2 i hi]
    · rw [if_neg hb, if_pos rfl, if_neg hb]
theorem c_go {S : SD} (w : wfS S) {l : Nat} (hl : l < bl S.2.1) {h : PH} (c : RC S h) (a : Int32) : ∃ g, f_X2_allGoOn (nI l) a h = some (b01 (goOK S.1 a (bval S.2.1 l) (tn S.1)), hC h 56 g) := by
  have := w.b4
  obtain ⟨g, e⟩ := c_allGoOn w.1 c.1 a (l := l) (by omega)
  refine ⟨g, ?_⟩
  rw [e, goOK_congr (w := bval S.2.1 l) (fun s hs => (c.2.1.2.2.1 l hl).2.2.2 s hs)]
theorem c_costOf {S : SD} (w : wfS S) {l : Nat} (hl : l < bl S.2.1) {y : Int32} {h : PH} (c : RC S h) (k : LK S l y h) {x : Int32} (hx : ∀ f, f < 32 → bt x f = true → bt y f = true) (hb : bel x (tf S.1)) : ∃ g, f_X1_costOf x h = some ((costM S l x).getD (-1), hC h 56 g) := by
  have f10 := w.f10
  rw [f_X1_costOf, k.2.1]
  cases hA : allF S l x (tf S.1) with
  | none =>
    refine ⟨h.1 56, ?_⟩
    rw [if_neg (fun z => by have := (fix_iff w hx hb).mp z; rw [hA] at this; cases this), hC_self, costM, hA]; rfl
  | some a =>
    have e : orV S l y x (tf S.1) = a := by
      have := allF_some (S := S) (l := l) (y := y) (x := x) (tf S.1) (fun f hf hb2 => ⟨hx f (by omega) hb2, by
        cases hq : fxm S l f with
        | none => rw [allF_n hf hb2 hq] at hA; cases hA
        | some r => rfl⟩)
      rw [hA] at this
      exact (Option.some.inj this).symm
    obtain ⟨g, eg⟩ := c_go w hl c a
    refine ⟨g, ?_⟩
    rw [if_pos ((fix_iff w hx hb).mpr (by rw [hA]; rfl)), c_allFixes w c k, bP_some, e, k.1, eg, bP_some, costM_a hA]
    cases goOK S.1 a (bval S.2.1 l) (tn S.1) <;> rfl
theorem p9_go {S : SD} (w : wfS S) {l : Nat} (hl : l < bl S.2.1) {h : PH} (c : RM S h) (a : Int32) : ∃ h1 h2, f_X9_tryLine (nI l) h = some h1 ∧ f_X9_goAll a h1 = some (b01 (goOK S.1 a (bval S.2.1 l) (tn S.1)), h2) ∧ keepM h h2 := by
  obtain ⟨h1, e1, k1, v1, -⟩ := rm_try w c hl
  obtain ⟨g, e, -⟩ := m_goAll w.1 (c.keepM k1).1 a
  exact ⟨h1, _, e1, by rw [e, goOK_congr v1], k1.tr (keepM.hC _ rfl (by decide))⟩
theorem p9_cost {S : SD} (w : wfS S) {l : Nat} (hl : l < bl S.2.1) (x : Int32) : P9 S (f_X9_costOf (nI l) x) ((costM S l x).getD (-1)) := fun h c => by
  have f10 := w.f10
  have n24 := w.n24
  rw [f_X9_costOf, c.rin w hl, bO_some, m_faultsIn w.1 c.1, bP_some]
  refine glF (fun n a i h => f_X9_costOf_17 (nI l) x (faultsM S.1 (bin S.2.1 l)) n a (nI i) h) (fun i b h' => keepM h h' ∧ allF S l x i = some b) (tf S.1) (fun o => ∃ h', o = some ((costM S l x).getD (-1), h') ∧ keepM h h') (by omega) (fun b h' hI n => ?_) (fun i b h' hi hI => ?_) (i := 0) (b := 0) (Nat.zero_le _) ⟨keepM.rf h, rfl⟩
  · obtain ⟨k1, hA⟩ := hI
    have c' := c.keepM k1
    obtain ⟨h1, h2, e1, e2, k2⟩ := p9_go w hl c' b
    refine ⟨h2, ?_, k1.tr k2⟩
    show f_X9_costOf_17 _ _ _ (n + 1) b (nI (tf S.1)) h' = _
    rw [f_X9_costOf_17, c'.1.2.1, if_pos (Int32.le_refl _), e1, bO_some, e2, bP_some, costM_a hA]
    cases goOK S.1 b (bval S.2.1 l) (tn S.1) <;> rfl
  · obtain ⟨k1, hA⟩ := hI
    have c' := c.keepM k1
    have no : fxm S l i = none → bt x i = true → (costM S l x).getD (-1) = -1 := fun hq hb => by rw [costM, allF_n hi hb hq]; rfl
    have e70 : ∀ n h2, f_X9_costOf_70 (nI l) x (faultsM S.1 (bin S.2.1 l)) (f_X9_costOf_17 (nI l) x (faultsM S.1 (bin S.2.1 l)) n) b (nI i) h2 = some (-1, h2) := fun n h2 => by rw [f_X9_costOf_70, f_X9_costOf_71, if_neg (by decide)]
    cases hb : bt x i
    · refine Or.inr ⟨b, h', ⟨k1, ?_⟩, fun n => ?_⟩
      · rw [allF, hA]; simp only [hb, Bool.false_eq_true, if_false]
      · show f_X9_costOf_17 _ _ _ (n + 1) b (nI i) h' = f_X9_costOf_17 _ _ _ n b (nI (i + 1)) h'
        rw [f_X9_costOf_17, c'.1.2.1, if_neg (nle hi (by omega)), has9 _ (by omega), bO_some, hb, if_pos (by decide), nI1]
    · have st : ∀ n, f_X9_costOf_17 (nI l) x (faultsM S.1 (bin S.2.1 l)) (n + 1) b (nI i) h' = if bt (faultsM S.1 (bin S.2.1 l)) i = false then some (-1, h') else if ttl S.1 i < 0 then some (-1, h') else bP (f_X9_needsOf (nI l) (ttl S.1 i) h') (fun r64 h64 => f_X9_costOf_71 (nI l) x (faultsM S.1 (bin S.2.1 l)) (f_X9_costOf_17 (nI l) x (faultsM S.1 (bin S.2.1 l)) n) b (nI i) r64 h64) := fun n => by
        rw [f_X9_costOf_17, c'.1.2.1, if_neg (nle hi (by omega)), has9 _ (by omega), bO_some, hb, if_neg (by decide), has9 _ (by omega), bO_some, c'.rtl w hi, bO_some, bO_some, e70]
        cases bt (faultsM S.1 (bin S.2.1 l)) i <;> rfl
      cases hf : bt (faultsM S.1 (bin S.2.1 l)) i
      · refine Or.inl (fun n => ⟨h', ?_, k1⟩)
        show f_X9_costOf_17 _ _ _ (n + 1) b (nI i) h' = _
        rw [st n, if_pos hf, no (by unfold fxm; rw [if_neg (by rw [hf]; decide)]) hb]
      · rcases tl_cases w hi with e | ⟨k, hk, e, e2⟩
        · refine Or.inl (fun n => ⟨h', ?_, k1⟩)
          show f_X9_costOf_17 _ _ _ (n + 1) b (nI i) h' = _
          rw [st n, if_neg (by rw [hf]; decide), e, if_pos (by decide), no (by unfold fxm; rw [if_pos hf, if_pos e]) hb]
        · obtain ⟨g, eg, -⟩ := p9_needs w hl hk c'
          have k2 : keepM h (hC h' 89 g) := k1.tr (keepM.hC _ rfl (by decide))
          have ev : fxm S l i = (ndM S l k).map (fun r => r ||| (1 <<< (nI k &&& 31))) := by unfold fxm; rw [if_pos hf, e, if_neg (nI_ne_m1 (by omega)), e2]
          cases hn : ndM S l k with
          | none =>
            refine Or.inl (fun n => ⟨_, ?_, k2⟩)
            show f_X9_costOf_17 _ _ _ (n + 1) b (nI i) h' = _
            rw [st n, if_neg (by rw [hf]; decide), e, if_neg (nI_pos (by omega)), eg, hn, bP_some]
            show f_X9_costOf_71 _ _ _ _ _ _ (-1) _ = _
            rw [f_X9_costOf_71, if_neg (by decide), no (by rw [ev, hn]; rfl) hb]
          | some r =>
            refine Or.inr ⟨b ||| (r ||| (1 <<< (nI k &&& 31))), _, ⟨k2, ?_⟩, fun n => ?_⟩
            · rw [allF, hA]
              simp only [hb, if_true, ev, hn, Option.map_some]
            · show f_X9_costOf_17 _ _ _ (n + 1) b (nI i) h' = f_X9_costOf_17 _ _ _ n _ (nI (i + 1)) _
              rw [st n, if_neg (by rw [hf]; decide), e, if_neg (nI_pos (by omega)), eg, hn, bP_some]
              show f_X9_costOf_71 _ _ _ _ _ _ r _ = _
              have hr : ¬ r < 0 := bel_nneg (nd_bel (by omega) hn) (by omega)
              rw [f_X9_costOf_71, if_pos (Int32.not_lt.mp hr), (c.keepM k2).rtl w hi, bO_some, lt'_eq, nI1, e]
/-! sets within bounds -/
def sbs (x : Int32) (n : Nat) : Bool := decide (x &&& (((1 <<< (nI n &&& 31)) - 1) ^^^ (-1)) = 0)
theorem sbs_iff {x : Int32} {n : Nat} (hn : n < 31) : sbs x n = true ↔ bel x n := by
  unfold sbs
  rw [decide_eq_true_eq, zero_iff]
  constructor
  · intro h j hj h2
    have h1 := h j hj
    rw [bt_and, bt_not _ hj, bt_ones n hn j hj, decide_eq_false (by omega), Bool.not_false, Bool.and_true] at h1
    exact h1
  · intro h j hj
    rw [bt_and, bt_not _ hj, bt_ones n hn j hj]
    by_cases h2 : j < n
    · simp [h2]
    · rw [h j hj (by omega)]; rfl
theorem ones_nI : ∀ n, n < 31 → ((1 : Int32) <<< (nI n &&& 31)) - 1 = nI (2 ^ n - 1) := by decide +kernel
theorem one_nI : ∀ n, n < 31 → ((1 : Int32) <<< (nI n &&& 31)) = nI (2 ^ n) := by decide +kernel
theorem bel_of_lt {k n : Nat} (hk : k < 2 ^ n) (hn : n ≤ 31) : bel (nI k) n := fun j hj h => by
  have h31 : 2 ^ n ≤ 2 ^ 31 := Nat.pow_le_pow_right (by decide) hn
  rw [bt_tb, pk_tn (by omega)]
  exact Nat.testBit_lt_two_pow (Nat.lt_of_lt_of_le hk (Nat.pow_le_pow_right (by decide) h))
theorem bel_iff {x : Int32} {n : Nat} (hn : n < 31) : bel x n ↔ 0 ≤ x.toInt ∧ x.toInt ≤ ((2 ^ n - 1 : Nat) : Int) := by
  have h31 : 2 ^ n ≤ 2 ^ 30 := Nat.pow_le_pow_right (by decide) (by omega)
  have h0 : 0 < 2 ^ n := Nat.pow_pos (by decide)
  constructor
  · intro h
    have h1 := bel_nat h
    have e : x.toInt = (x.toBitVec.toNat : Int) := by
      have := nI_toInt (n := x.toBitVec.toNat) (by omega)
      rw [nI_self] at this
      exact this
    rw [e]; omega
  · rintro ⟨h1, h2⟩
    obtain ⟨k, hk, rfl⟩ := (inN_iff (x := x) (n := 2 ^ n) (by omega)).mp ⟨h1, by omega⟩
    exact bel_of_lt hk (by omega)
theorem m_are {x : Int32} {n : Nat} (hn : n < 31) (h : PH) : bO (f_X9_in x.toInt64 0 ((((1 : Int32) <<< (nI n &&& 31)) - 1).toInt64)) (fun r12 => zr r12 (r12, h)) = some (b01 (sbs x n), h) := by
  have h31 : 2 ^ n ≤ 2 ^ 30 := Nat.pow_le_pow_right (by decide) (by omega)
  have h0 : 0 < 2 ^ n := Nat.pow_pos (by decide)
  have e : inb x (2 ^ n) = sbs x n := by
    rw [Bool.eq_iff_iff, sbs_iff hn, bel_iff hn]
    unfold inb
    rw [decide_eq_true_eq]
    omega
  rw [in_n x (n := 2 ^ n) (by rw [ones_nI n hn, Int32.toInt_toInt64, nI_toInt (by omega)]; omega), bO_some, e]
  exact zr_b _ (fun r => (r, h))
theorem c_hasF {S : SD} (w : wfS S) (x : Int32) {h : PH} (c : RC S h) : f_X7_hasFaults 4 x h = some (b01 (sbs x (tf S.1)), h) := by
  rw [f_X7_hasFaults, c.1.2.1, f_X8_firstOnes, bO_some, sbs]
  by_cases e : x &&& (((1 <<< (nI (tf S.1) &&& 31)) - 1) ^^^ (-1)) = 0
  · rw [if_pos e, decide_eq_true e]; rfl
  · rw [if_neg e, decide_eq_false e]; rfl
theorem c_hasC {S : SD} (w : wfS S) (x : Int32) {h : PH} (c : RC S h) : f_X7_hasChanges 4 x h = some (b01 (sbs x (tn S.1)), h) := by
  rw [f_X7_hasChanges, c.1.1, f_X8_firstOnes, bO_some, sbs]
  by_cases e : x &&& (((1 <<< (nI (tn S.1) &&& 31)) - 1) ^^^ (-1)) = 0
  · rw [if_pos e, decide_eq_true e]; rfl
  · rw [if_neg e, decide_eq_false e]; rfl
theorem m_areF {S : SD} (w : wfS S) (x : Int32) {h : PH} (c : RM S h) : f_X9_areFaults x h = some (b01 (sbs x (tf S.1)), h) := by
  have := w.f10
  rw [f_X9_areFaults, c.1.2.1, m_are (by omega)]
theorem m_areC {S : SD} (w : wfS S) (x : Int32) {h : PH} (c : RM S h) : f_X9_areChanges x h = some (b01 (sbs x (tn S.1)), h) := by
  have := w.n24
  rw [f_X9_areChanges, c.1.1, m_are (by omega)]
theorem p_cost (x y : Int32) : Pair (f_X8_cost x y) (f_X9_cost x y) := Pair.two (fun S w => by
  have f10 := w.f10
  refine two_line w (fun _ => rfl) (fun _ => rfl) (fun l hl e => ?_)
  subst e
  refine two_g (b := sbs y (tf S.1)) (fun _ c => c_hasF w y c) (fun _ c => m_areF w y c) (fun _ => rfl) (fun _ => rfl) (fun hs => ?_)
  have hb := (sbs_iff (by omega)).mp hs
  refine Two.of ((costM S l y).getD (-1)) (fun h c => ?_) (P9_bP (p9_cost w hl y) (P9.pt fun h c => rfl))
  obtain ⟨h1, e1, k1, q1⟩ := c_lookAt w hl y c
  obtain ⟨g, e2⟩ := c_costOf w hl (c.keepC k1) q1 (fun f _ z => z) hb
  exact ⟨_, by rw [e1, bO_some, e2, bP_some], k1.tr (keepC.hC _ rfl)⟩)
