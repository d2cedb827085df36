/-! ===== ready, in reach ===== -/
def rdP (S : SD) (x : Int32) (v : Nat → Int32) (c : Nat) : Bool := !bt x c && decide (clashM S.1 c v = 0)
def rdM (S : SD) (x : Int32) (v : Nat → Int32) : Int32 := mkI (rdP S x v) (tn S.1)
theorem rdP_congr {S : SD} {x : Int32} {v u : Nat → Int32} (h : ∀ s, s < 16 → v s = u s) (c : Nat) : rdP S x v c = rdP S x u c := by unfold rdP; rw [clashM_congr h]
/-- the least number below n with P; n without one -/
def fs (P : Nat → Bool) : Nat → Nat
  | 0 => 0
  | n + 1 => if fs P n < n then fs P n else if P n = true then n else n + 1
theorem fs_spec (P : Nat → Bool) : ∀ n, fs P n ≤ n ∧ (∀ k, k < fs P n → P k = false) ∧ (fs P n < n → P (fs P n) = true) := by
  intro n
  induction n with
  | zero => exact ⟨Nat.le_refl _, fun k hk => absurd hk (Nat.not_lt_zero k), fun h => absurd h (Nat.lt_irrefl 0)⟩
  | succ n ih =>
    obtain ⟨h1, h2, h3⟩ := ih
    rw [fs]
    by_cases q : fs P n < n
    · rw [if_pos q]; exact ⟨by omega, h2, fun _ => h3 q⟩
    · rw [if_neg q]
      have e : fs P n = n := by omega
      rw [e] at h2
      by_cases p : P n = true
      · rw [if_pos p]; exact ⟨by omega, h2, fun _ => p⟩
      · rw [if_neg p]
        refine ⟨Nat.le_refl _, fun k hk => ?_, fun h => absurd h (Nat.lt_irrefl _)⟩
        by_cases ek : k = n
        · subst ek; exact Bool.eq_false_iff.mpr p
        · exact h2 k (by omega)
theorem fs_eq {P : Nat → Bool} {n i : Nat} (h : ∀ k, k < i → P k = false) (hi : i = n ∨ i < n ∧ P i = true) : fs P n = i := by
  obtain ⟨h1, h2, h3⟩ := fs_spec P n
  rcases Nat.lt_or_ge (fs P n) i with q | q
  · have := h (fs P n) q
    rw [h3 (by omega)] at this; cases this
  · rcases hi with e | ⟨e, e2⟩
    · omega
    · rcases Nat.lt_or_ge i (fs P n) with q2 | q2
      · rw [h2 i q2] at e2; cases e2
      · omega
theorem fs_congr {P P2 : Nat → Bool} {n : Nat} (h : ∀ k, k < n → P k = P2 k) : fs P n = fs P2 n := by
  obtain ⟨h1, h2, h3⟩ := fs_spec P2 n
  refine fs_eq (fun k hk => ?_) ?_
  · rw [h k (by omega)]; exact h2 k hk
  · by_cases q : fs P2 n < n
    · exact Or.inr ⟨q, by rw [h _ q]; exact h3 q⟩
    · exact Or.inl (by omega)
/-- the changes that have come, and the values then, after k of them -/
def rcS (S : SD) (l : Nat) : Nat → Int32 × (Nat → Int32)
  | 0 => (0, bval S.2.1 l)
  | k + 1 => if fs (rdP S (bin S.2.1 l ||| (rcS S l k).1) (rcS S l k).2) (tn S.1) < tn S.1 then ((rcS S l k).1 ||| (1 <<< (nI (fs (rdP S (bin S.2.1 l ||| (rcS S l k).1) (rcS S l k).2) (tn S.1)) &&& 31)), putM S.1 (fs (rdP S (bin S.2.1 l ||| (rcS S l k).1) (rcS S l k).2) (tn S.1)) (rcS S l k).2) else rcS S l k
def rcF (S : SD) (l k : Nat) : Nat := fs (rdP S (bin S.2.1 l ||| (rcS S l k).1) (rcS S l k).2) (tn S.1)
theorem rcS_s {S : SD} {l k : Nat} (h : rcF S l k < tn S.1) : rcS S l (k + 1) = ((rcS S l k).1 ||| (1 <<< (nI (rcF S l k) &&& 31)), putM S.1 (rcF S l k) (rcS S l k).2) := if_pos h
theorem rcS_e {S : SD} {l k : Nat} (h : ¬ rcF S l k < tn S.1) : rcS S l (k + 1) = rcS S l k := if_neg h
theorem rcS_end {S : SD} {l k : Nat} (h : ¬ rcF S l k < tn S.1) : ∀ j, k ≤ j → rcS S l j = rcS S l k := by
  intro j
  induction j with
  | zero => intro hj; have : k = 0 := by omega
            subst this; rfl
  | succ j ih =>
    intro hj
    by_cases e : k = j + 1
    · subst e; rfl
    · have e2 := ih (by omega)
      rw [rcS_e (by unfold rcF; rw [e2]; exact h), e2]
theorem rcS_bel {S : SD} (w : wfS S) {l : Nat} : ∀ k, bel (rcS S l k).1 (tn S.1) := by
  have n24 := w.n24
  intro k
  induction k with
  | zero => exact bel_zero _
  | succ k ih =>
    by_cases h : rcF S l k < tn S.1
    · rw [rcS_s h]; exact bel_or ih (bel_one h (by omega))
    · rw [rcS_e h]; exact ih
theorem rc_not {S : SD} {l k : Nat} (h : rcF S l k < tn S.1) : bt (bin S.2.1 l) (rcF S l k) = false ∧ bt (rcS S l k).1 (rcF S l k) = false ∧ clashM S.1 (rcF S l k) (rcS S l k).2 = 0 := by
  have h3 := (fs_spec (rdP S (bin S.2.1 l ||| (rcS S l k).1) (rcS S l k).2) (tn S.1)).2.2 h
  rw [show fs (rdP S (bin S.2.1 l ||| (rcS S l k).1) (rcS S l k).2) (tn S.1) = rcF S l k from rfl] at h3
  unfold rdP at h3
  rw [bt_or] at h3
  cases h1 : bt (bin S.2.1 l) (rcF S l k) <;> cases h2 : bt (rcS S l k).1 (rcF S l k) <;> rw [h1, h2] at h3 <;> simp at h3 ⊢
  exact h3
theorem rc_pc {S : SD} (w : wfS S) {l : Nat} : ∀ k, rcF S l k < tn S.1 → pc (rcS S l k).1 24 = k := by
  have n24 := w.n24
  intro k
  induction k with
  | zero => intro _; exact pc_zero 24
  | succ k ih =>
    intro h
    have hk : rcF S l k < tn S.1 := by
      rcases Nat.lt_or_ge (rcF S l k) (tn S.1) with q | q
      · exact q
      · have e := rcS_e (S := S) (l := l) (k := k) (by omega)
        unfold rcF at h
        rw [e] at h
        exact h
    rw [rcS_s hk, pc_one (by omega) (rc_not hk).2.1 24 (by omega), ih hk, if_pos (by omega)]
theorem rc_stop {S : SD} (w : wfS S) {l k : Nat} (hk : 24 ≤ k) : ¬ rcF S l k < tn S.1 := by
  intro h
  have n24 := w.n24
  have e := rc_pc w k h
  have hp := pc_one (x := (rcS S l k).1) (c := rcF S l k) (by omega) (rc_not h).2.1 24 (by omega)
  rw [if_pos (by omega)] at hp
  have := pc_le ((rcS S l k).1 ||| (1 <<< (nI (rcF S l k) &&& 31))) 24
  omega
theorem c_least {S : SD} (w : wfS S) {h : PH} (c : RC S h) (x : Int32) {v : Nat → Int32} (hv : Has v 56 h) : f_X2_leastReady x h = some (if fs (rdP S x v) (tn S.1) < tn S.1 then nI (fs (rdP S x v) (tn S.1)) else -1, h) := by
  have n24 := w.n24
  refine glF (fun n (_ : Unit) i h => f_X2_leastReady_2 x n (nI i) h) (fun i _ h' => h' = h ∧ ∀ k, k < i → rdP S x v k = false) (tn S.1) (fun o => o = some (if fs (rdP S x v) (tn S.1) < tn S.1 then nI (fs (rdP S x v) (tn S.1)) else -1, h)) (by omega) (fun _ h' hI n => ?_) (fun i _ h' hi hI => ?_) (i := 0) (b := ()) (Nat.zero_le _) ⟨rfl, fun k hk => absurd hk (Nat.not_lt_zero k)⟩
  · obtain ⟨rfl, hno⟩ := hI
    show f_X2_leastReady_2 x (n + 1) (nI (tn S.1)) h' = _
    rw [f_X2_leastReady_2, c.1.1, if_pos (Int32.le_refl _), fs_eq hno (Or.inl rfl), if_neg (Nat.lt_irrefl _)]
  · obtain ⟨rfl, hno⟩ := hI
    have st : ∀ n, f_X2_leastReady_2 x (n + 1) (nI i) h' = if rdP S x v i = true then some (nI i, h') else f_X2_leastReady_2 x n (nI (i + 1)) h' := fun n => by
      rw [f_X2_leastReady_2, c.1.1, if_neg (nle hi (by omega)), has8 _ (by omega), bO_some, c_clash2 w c hi hv, bP_some, nI1, rdP]
      cases bt x i
      · rw [if_neg (show ¬ false = true by decide), if_pos rfl]
        by_cases hc : clashM S.1 i v = 0
        · rw [if_pos hc, if_pos (by rw [decide_eq_true hc]; rfl)]
        · rw [if_neg hc, if_neg (by rw [decide_eq_false hc]; decide)]
      · rw [if_pos rfl, if_neg (by decide), if_neg (by simp)]
    cases hp : rdP S x v i
    · refine Or.inr ⟨(), h', ⟨rfl, fun k hk => ?_⟩, fun n => ?_⟩
      · by_cases e : k = i
        · subst e; exact hp
        · exact hno k (by omega)
      · show f_X2_leastReady_2 x (n + 1) (nI i) h' = f_X2_leastReady_2 x n (nI (i + 1)) h'
        rw [st n, if_neg (by rw [hp]; decide)]
    · refine Or.inl (fun n => ?_)
      show f_X2_leastReady_2 x (n + 1) (nI i) h' = _
      rw [st n, if_pos hp, fs_eq hno (Or.inr ⟨hi, hp⟩), if_pos hi]
theorem c_reach {S : SD} (w : wfS S) {l : Nat} (hl : l < bl S.2.1) : Q S (f_X2_inReach (nI l)) (rcS S l 24).1 := fun h c => by
  have n24 := w.n24
  obtain ⟨h1, e1, k1, v1, -⟩ := c_lay2 w c hl (V := 56) rfl
  rw [f_X2_inReach, e1, bO_some]
  refine glF (fun n a i h => f_X2_inReach_13 (nI l) n a (nI i) h) (fun i a h' => keepC h h' ∧ a = (rcS S l i).1 ∧ Has (rcS S l i).2 56 h') 24 (fun o => ∃ h', o = some ((rcS S l 24).1, h') ∧ keepC h h') (by omega) (fun a h' hI n => ?_) (fun i a h' hi hI => ?_) (i := 0) (b := 0) (Nat.zero_le _) ⟨k1, rfl, v1⟩
  · obtain ⟨q1, rfl, q3⟩ := hI
    refine ⟨h', ?_, q1⟩
    show f_X2_inReach_13 _ (n + 1) _ (nI 24) h' = _
    rw [f_X2_inReach_13, if_pos (by decide)]
  · obtain ⟨q1, rfl, q3⟩ := hI
    have c' := c.keepC q1
    have st : ∀ n, f_X2_inReach_13 (nI l) (n + 1) (rcS S l i).1 (nI i) h' = if (if rcF S l i < tn S.1 then nI (rcF S l i) else -1) = (-1 : Int32) then some ((rcS S l i).1, h') else (bO (f_X7_putOn 4 56 16 (if rcF S l i < tn S.1 then nI (rcF S l i) else -1) 0 h') (fun h55 => lt' ((rcS S l i).1 ||| (1 <<< ((if rcF S l i < tn S.1 then nI (rcF S l i) else (-1 : Int32)) &&& 31))) (fun x2_64 => (f_X2_inReach_13 (nI l) n) x2_64 (nI (i + 1)) h55))) := fun n => by
      rw [f_X2_inReach_13, if_neg (by rw [le24 (by omega)]; omega), c'.rin w hl, bO_some, c_least w c' _ q3, bP_some, nI1]
      rfl
    by_cases hf : rcF S l i < tn S.1
    · obtain ⟨h2, e2, k2, v2, -⟩ := c_put2 w c' hf (V := 56) rfl rfl q3
      refine Or.inr ⟨(rcS S l (i + 1)).1, h2, ⟨q1.tr k2, rfl, ?_⟩, fun n => ?_⟩
      · rw [rcS_s hf]; exact v2
      · show f_X2_inReach_13 _ (n + 1) _ (nI i) h' = f_X2_inReach_13 _ n _ (nI (i + 1)) h2
        rw [st n, if_pos hf, if_neg (nI_ne_m1 (by omega)), e2, bO_some, lt'_eq, rcS_s hf]
    · refine Or.inl (fun n => ⟨h', ?_, q1⟩)
      show f_X2_inReach_13 _ (n + 1) _ (nI i) h' = _
      rw [st n, if_neg hf, if_pos rfl, rcS_end hf 24 (by omega)]
theorem c_ready {S : SD} (w : wfS S) {l : Nat} (hl : l < bl S.2.1) {h : PH} (c : RC S h) : f_X2_readyOn (nI l) h = some (rdM S (bin S.2.1 l) (bval S.2.1 l), h) := by
  have n24 := w.n24
  refine lp_up (fun n a i => f_X2_readyOn_4 (nI l) n a (nI i) h) (mkI (rdP S (bin S.2.1 l) (bval S.2.1 l))) (tn S.1) _ (fun n => ?_) (fun n i hi => ?_) FU 0 (Nat.zero_le _) (FU_gt (by omega))
  · show f_X2_readyOn_4 _ (n + 1) _ _ h = _
    rw [f_X2_readyOn_4, c.1.1, if_pos (Int32.le_refl _)]
    rfl
  · show f_X2_readyOn_4 _ (n + 1) _ _ h = f_X2_readyOn_4 _ n _ _ h
    rw [f_X2_readyOn_4, c.1.1, if_neg (nle hi (by omega)), c.rin w hl, bO_some, has8 _ (by omega), bO_some, rc_clash w c hi hl, bP_some, lt'_eq, nI1, mkI, rdP]
    cases bt (bin S.2.1 l) i
    · rw [if_neg (show ¬ false = true by decide), if_pos rfl]
      by_cases hc : clashM S.1 i (bval S.2.1 l) = 0
      · rw [if_pos hc, if_pos (by rw [decide_eq_true hc]; rfl)]
      · rw [if_neg hc, if_neg (by rw [decide_eq_false hc]; decide)]
    · rw [if_pos rfl, if_neg (by decide), if_neg (by simp)]
theorem m_readyOf {S : SD} (w : wfS S) {h : PH} (c : RM S h) (x : Int32) {v : Nat → Int32} (hv : Has v 89 h) : f_X9_readyOf x h = some (rdM S x v, h) := by
  have n24 := w.n24
  refine lp_up (fun n a i => f_X9_readyOf_4 x n a (nI i) h) (mkI (rdP S x v)) (tn S.1) _ (fun n => ?_) (fun n i hi => ?_) FU 0 (Nat.zero_le _) (FU_gt (by omega))
  · show f_X9_readyOf_4 _ (n + 1) _ _ h = _
    rw [f_X9_readyOf_4, c.1.1, if_pos (Int32.le_refl _)]
    rfl
  · show f_X9_readyOf_4 _ (n + 1) _ _ h = f_X9_readyOf_4 _ n _ _ h
    rw [f_X9_readyOf_4, c.1.1, if_neg (nle hi (by omega)), has9 _ (by omega), bO_some, rm_clash w c hi hv, bP_some, lt'_eq, lt'_eq, nI1, or0, mkI, rdP]
    cases bt x i
    · rw [if_neg (show ¬ false = true by decide), if_pos rfl]
      by_cases hc : clashM S.1 i v = 0
      · rw [if_pos hc, if_pos (by rw [decide_eq_true hc]; rfl)]
      · rw [if_neg hc, if_neg (by rw [decide_eq_false hc]; decide)]
    · rw [if_pos rfl, if_neg (by decide), if_neg (by simp)]
theorem bt_rdM {S : SD} (w : wfS S) (x : Int32) (v : Nat → Int32) {j : Nat} (hj : j < 32) : bt (rdM S x v) j = (decide (j < tn S.1) && rdP S x v j) := bt_mkI _ _ (by have := w.n24; omega) j hj
theorem rdM_z {S : SD} (w : wfS S) (x : Int32) (v : Nat → Int32) : (rdM S x v = 0) = ¬ fs (rdP S x v) (tn S.1) < tn S.1 := by
  have n24 := w.n24
  obtain ⟨h1, h2, h3⟩ := fs_spec (rdP S x v) (tn S.1)
  apply propext
  rw [zero_iff]
  constructor
  · intro h q
    have := h _ (show fs (rdP S x v) (tn S.1) < 32 by omega)
    rw [bt_rdM w x v (by omega), decide_eq_true q, h3 q] at this
    cases this
  · intro q j hj
    rw [bt_rdM w x v hj]
    by_cases hj2 : j < tn S.1
    · rw [h2 j (by omega), Bool.and_false]
    · rw [decide_eq_false hj2]; rfl
/-- the model's inner loop: the least bit of what is ready -/
theorem m_rd42 {S : SD} (w : wfS S) {l : Nat} (x2 : Int32) {x : Int32} {v : Nat → Int32} (a : Int32) (k31 : Int32 → Int32 → PH → Option (Int32 × PH)) {h : PH} (hf : fs (rdP S x v) (tn S.1) < tn S.1) : f_X9_ready_42 (nI l) x2 (rdM S x v) a k31 FU 0 h = bO (f_X9_goOn (nI (fs (rdP S x v) (tn S.1))) h) (fun h60 => lt' (a ||| (1 <<< (nI (fs (rdP S x v) (tn S.1)) &&& 31))) (fun x4_70 => bO (ag h60 74 4 (nI l)) (fun v78 => bP (f_X9_readyOf (v78 ||| x4_70) h60) (fun r82 h82 => k31 r82 x4_70 h82)))) := by
  have n24 := w.n24
  obtain ⟨h1, h2, h3⟩ := fs_spec (rdP S x v) (tn S.1)
  refine lp_up (fun n (_ : Unit) i => f_X9_ready_42 (nI l) x2 (rdM S x v) a k31 n (nI i) h) (fun _ => ()) (fs (rdP S x v) (tn S.1)) _ (fun n => ?_) (fun n i hi => ?_) FU 0 (Nat.zero_le _) (FU_gt (by omega))
  · show f_X9_ready_42 _ _ _ _ _ (n + 1) _ h = _
    rw [f_X9_ready_42, has9 _ (by omega), bO_some, bt_rdM w x v (by omega), decide_eq_true hf, h3 hf, if_pos (show (true && true) = true from rfl), if_neg (by decide)]
  · show f_X9_ready_42 _ _ _ _ _ (n + 1) _ h = f_X9_ready_42 _ _ _ _ _ n _ h
    rw [f_X9_ready_42, has9 _ (by omega), bO_some, bt_rdM w x v (by omega), h2 i hi, Bool.and_false, if_neg (show ¬ false = true by decide), if_pos rfl, nI1]
theorem p9_ready {S : SD} (w : wfS S) {l : Nat} (hl : l < bl S.2.1) (x2 : Int32) : P9 S (fun h => bO (f_X9_tryLine (nI l) h) (fun h14 => bO (ag h14 74 4 (nI l)) (fun v23 => bP (f_X9_readyOf v23 h14) (fun r24 h24 => f_X9_ready_31 (nI l) x2 FU r24 0 h24)))) (if x2 = 0 then rdM S (bin S.2.1 l) (bval S.2.1 l) else (rcS S l 24).1) := fun h c => by
  have n24 := w.n24
  obtain ⟨h1, e1, k1, v1, -⟩ := rm_try w c hl
  have c1 := c.keepM k1
  dsimp only
  rw [e1, bO_some, c1.rin w hl, bO_some, m_readyOf w c1 _ v1, bP_some]
  by_cases h0 : x2 = 0
  · refine ⟨h1, ?_, k1⟩
    rw [if_pos h0]
    show f_X9_ready_31 _ _ (999999 + 1) _ _ _ = _
    rw [f_X9_ready_31, if_pos h0, f_X9_ready_89, if_pos h0]
  · rw [if_neg h0]
    have or00 : bin S.2.1 l ||| 0 = bin S.2.1 l := or0 _
    refine glF (fun n (b : Int32 × Int32) (_ : Nat) h => f_X9_ready_31 (nI l) x2 n b.1 b.2 h) (fun i b h' => keepM h h' ∧ b = (rdM S (bin S.2.1 l ||| (rcS S l i).1) (rcS S l i).2, (rcS S l i).1) ∧ Has (rcS S l i).2 89 h') 24 (fun o => ∃ h', o = some ((rcS S l 24).1, h') ∧ keepM h h') (by omega) (fun b h' hI n => ?_) (fun i b h' hi hI => ?_) (i := 0) (b := (rdM S (bin S.2.1 l) (bval S.2.1 l), 0)) (Nat.zero_le _) ⟨k1, ?_, v1⟩
    · obtain ⟨q1, rfl, q3⟩ := hI
      refine ⟨h', ?_, q1⟩
      show f_X9_ready_31 _ _ (n + 1) _ _ h' = _
      rw [f_X9_ready_31, if_neg h0, if_pos (by rw [rdM_z w]; exact rc_stop w (Nat.le_refl _)), f_X9_ready_89, if_neg h0]
    · obtain ⟨q1, rfl, q3⟩ := hI
      have c' := c.keepM q1
      by_cases hf : rcF S l i < tn S.1
      · obtain ⟨h2, e2, k2, v2, -⟩ := rm_goOn w c' hf q3
        have c2 := c'.keepM k2
        refine Or.inr ⟨(rdM S (bin S.2.1 l ||| (rcS S l (i + 1)).1) (rcS S l (i + 1)).2, (rcS S l (i + 1)).1), h2, ⟨q1.tr k2, rfl, by rw [rcS_s hf]; exact v2⟩, fun n => ?_⟩
        show f_X9_ready_31 _ _ (n + 1) _ _ h' = f_X9_ready_31 _ _ n _ _ h2
        have hfz : ¬ rdM S (bin S.2.1 l ||| (rcS S l i).1) (rcS S l i).2 = 0 := by
          rw [rdM_z w]; exact fun z => z hf
        rw [f_X9_ready_31, if_neg h0, if_neg hfz, m_rd42 w x2 _ _ hf]
        show bO (f_X9_goOn (nI (rcF S l i)) h') _ = _
        rw [e2, bO_some, lt'_eq, c2.rin w hl, bO_some]
        show bP (f_X9_readyOf (bin S.2.1 l ||| ((rcS S l i).1 ||| (1 <<< (nI (rcF S l i) &&& 31)))) h2) _ = _
        rw [m_readyOf w c2 _ v2, bP_some, rcS_s hf]
        rfl
      · refine Or.inl (fun n => ⟨h', ?_, q1⟩)
        show f_X9_ready_31 _ _ (n + 1) _ _ h' = _
        rw [f_X9_ready_31, if_neg h0, if_pos (by rw [rdM_z w]; exact hf), f_X9_ready_89, if_neg h0, rcS_end hf 24 (by omega)]
    · show _ = (rdM S (bin S.2.1 l ||| 0) (bval S.2.1 l), (0 : Int32))
      rw [or00]
theorem p_ready (x y : Int32) : Pair (f_X8_ready x y) (f_X9_ready x y) := Pair.two (fun S w => by
  refine two_line w (fun _ => rfl) (fun _ => rfl) (fun l hl e => ?_)
  subst e
  refine Two.of _ (fun h c => ?_) (p9_ready w hl y)
  by_cases h0 : y = 0
  · refine ⟨h, ?_, keepC.rf h⟩
    rw [if_pos h0, if_pos h0, c_ready w hl c, bP_some]
  · obtain ⟨h1, e1, k1⟩ := c_reach w hl h c
    refine ⟨h1, ?_, k1⟩
    rw [if_neg h0, if_neg h0, e1, bP_some])
/-! ===== lets ===== -/
def frzB (S : SD) (d : Nat) : Nat → Bool
  | 0 => false
  | k + 1 => frzB S d k || (decide ((S.2.2.1.2.1 k).toInt ≤ d) && decide ((d : Int) ≤ (S.2.2.1.2.2.1 k).toInt))
theorem frzB_up {S : SD} {d i n : Nat} (h : i ≤ n) (hi : frzB S d i = true) : frzB S d n = true := by
  induction n with
  | zero => have : i = 0 := by omega
            subst this; exact hi
  | succ n ih =>
    by_cases e : i = n + 1
    · subst e; exact hi
    · rw [frzB, ih (by omega)]; rfl
theorem wfS.p8 {S : SD} (w : wfS S) : S.2.2.1.1 ≤ 8 := w.2.2.1.1
theorem c_frozen {S : SD} (w : wfS S) {d : Nat} (hd : d < 1000) {h : PH} (c : RC S h) : f_X5_isFrozen 22 (nI d) h = some (b01 (frzB S d S.2.2.1.1), h) := by
  have p8 := w.p8
  refine glF (fun n (_ : Unit) i h => f_X5_isFrozen_2 22 (nI d) n (nI i) h) (fun i _ h' => h' = h ∧ frzB S d i = false) S.2.2.1.1 (fun o => o = some (b01 (frzB S d S.2.2.1.1), h)) (by omega) (fun _ h' hI n => ?_) (fun i _ h' hi hI => ?_) (i := 0) (b := ()) (Nat.zero_le _) ⟨rfl, rfl⟩
  · obtain ⟨rfl, q⟩ := hI
    show f_X5_isFrozen_2 _ _ (n + 1) _ h' = _
    rw [f_X5_isFrozen_2, c.2.2.1.1, if_pos (Int32.le_refl _), q]; rfl
  · obtain ⟨rfl, q⟩ := hI
    have st : ∀ n, f_X5_isFrozen_2 22 (nI d) (n + 1) (nI i) h' = if (decide ((S.2.2.1.2.1 i).toInt ≤ d) && decide ((d : Int) ≤ (S.2.2.1.2.2.1 i).toInt)) = true then some (1, h') else f_X5_isFrozen_2 22 (nI d) n (nI (i + 1)) h' := fun n => by
      rw [f_X5_isFrozen_2, c.2.2.1.1, if_neg (nle hi (by omega)), ag_nI h' (22 + 1) (by omega : i < 8) (by omega), bO_some, ag_nI h' (22 + 2) (by omega : i < 8) (by omega), bO_some, (c.2.2.1.2.1 i hi).1, (c.2.2.1.2.1 i hi).2, ite_c (ltI _ _), ite_c (ltI _ _), nI_toInt (by omega), nI1]
      by_cases h1 : (d : Int) < (S.2.2.1.2.1 i).toInt
      · rw [if_pos h1, decide_eq_false (by omega), if_neg (by simp)]
      · rw [if_neg h1, decide_eq_true (by omega), Bool.true_and]
        by_cases h2 : (S.2.2.1.2.2.1 i).toInt < (d : Int)
        · rw [if_pos h2, decide_eq_false (by omega), if_neg (by simp)]
        · rw [if_neg h2, decide_eq_true (by omega), if_pos rfl]
    cases hp : (decide ((S.2.2.1.2.1 i).toInt ≤ d) && decide ((d : Int) ≤ (S.2.2.1.2.2.1 i).toInt))
    · refine Or.inr ⟨(), h', ⟨rfl, by rw [frzB, q, hp]; rfl⟩, fun n => ?_⟩
      show f_X5_isFrozen_2 _ _ (n + 1) _ h' = f_X5_isFrozen_2 _ _ n _ h'
      rw [st n, if_neg (by rw [hp]; decide)]
    · refine Or.inl (fun n => ?_)
      show f_X5_isFrozen_2 _ _ (n + 1) _ h' = _
      rw [st n, if_pos hp, frzB_up (i := i + 1) (by omega) (by rw [frzB, hp, Bool.or_true])]; rfl
def onlyB (S : SD) (l : Nat) : Bool := decide (S.2.2.1.2.2.2.2.2 = 0) || bt S.2.2.1.2.2.2.2.2 l
def riskB (S : SD) (a : Int32) : Bool := decide (S.2.2.1.2.2.2.1 < 0) || decide (riskM S.1 a ≤ S.2.2.1.2.2.2.1)
def wghB (S : SD) (g : Int32) : Bool := decide (S.2.2.1.2.2.2.2.1 < 0) || decide (S.2.2.1.2.2.2.2.1 ≤ weightM S.1 g)
def goneM (S : SD) (l : Nat) (a : Int32) : Int32 := faultsM S.1 (bin S.2.1 l) &&& mkI (rmP S.1 a) (tf S.1)
theorem m1_lt {x : Int32} (h : x = -1 ∨ 0 ≤ x.toInt ∧ x.toInt ≤ 99) : (x = -1) = (x < 0) := by
  apply propext
  rw [Int32.lt_iff_toInt_lt, i0, eqI, show (-1 : Int32).toInt = -1 by decide]
  rcases h with h | h
  · subst h; decide
  · omega
theorem c_line2 {S : SD} (w : wfS S) {l : Nat} (hl : l < bl S.2.1) {h : PH} (c : RC S h) : f_X5_allowsLine 22 (nI l) h = some (b01 (onlyB S l), h) := by
  have b4 := w.b4
  rw [f_X5_allowsLine, c.2.2.1.2.2.2.2, has8 _ (by omega), bO_some, onlyB]
  by_cases h0 : S.2.2.1.2.2.2.2.2 = 0
  · rw [if_pos h0, decide_eq_true h0]; rfl
  · rw [if_neg h0, decide_eq_false h0]
    cases bt S.2.2.1.2.2.2.2.2 l <;> rfl
theorem c_risk2 {S : SD} (w : wfS S) (a : Int32) {h : PH} (c : RC S h) : f_X5_allowsRisk 22 (riskM S.1 a) h = some (b01 (riskB S a), h) := by
  rw [f_X5_allowsRisk, c.2.2.1.2.2.1, ite_c (m1_lt w.2.2.1.2.2.1), riskB]
  by_cases h0 : S.2.2.1.2.2.2.1 < 0
  · rw [if_pos h0, decide_eq_true h0]; rfl
  · rw [if_neg h0, decide_eq_false h0]
    by_cases h1 : S.2.2.1.2.2.2.1 < riskM S.1 a
    · rw [if_pos h1, decide_eq_false (Int32.not_le.mpr h1)]; rfl
    · rw [if_neg h1, decide_eq_true (Int32.not_lt.mp h1)]; rfl
theorem c_wgh2 {S : SD} (w : wfS S) (a : Int32) {h : PH} (c : RC S h) : f_X5_allowsWeight 22 (weightM S.1 a) h = some (b01 (wghB S a), h) := by
  rw [f_X5_allowsWeight, c.2.2.1.2.2.2.1, ite_c (m1_lt w.2.2.1.2.2.2.1), wghB]
  by_cases h0 : S.2.2.1.2.2.2.2.1 < 0
  · rw [if_pos h0, decide_eq_true h0]; rfl
  · rw [if_neg h0, decide_eq_false h0]
    by_cases h1 : weightM S.1 a < S.2.2.1.2.2.2.2.1
    · rw [if_pos h1, decide_eq_false (Int32.not_le.mpr h1)]; rfl
    · rw [if_neg h1, decide_eq_true (Int32.not_lt.mp h1)]; rfl
def letB (S : SD) (l : Nat) (d : Nat) (a : Int32) : Bool := !frzB S d S.2.2.1.1 && onlyB S l && (riskB S a && wghB S (goneM S l a))
theorem m_lets153 {S : SD} (w : wfS S) {l : Nat} (b : Bool) (a : Int32) {h : PH} (c : RM S h) : f_X9_lets_153 (b01 b) a (faultsM S.1 (bin S.2.1 l)) FU 0 0 h = some (b01 (b && (riskB S a && wghB S (goneM S l a))), h) := by
  have f10 := w.f10
  have n24 := w.n24
  have e245 : f_X9_lets_245 (goneM S l a) h = some (0, h) := by rw [f_X9_lets_245, f_X9_lets_246, if_pos rfl]
  have e241 : f_X9_lets_241 (goneM S l a) h = some (b01 (wghB S (goneM S l a)), h) := by
    rw [f_X9_lets_241, f_X9_lets_246, if_neg (by decide), c.2.2.1.2.2.2.1, m_weightOf w.1 c.1, bP_some, c.2.2.1.2.2.2.1, wghB]
    by_cases h0 : S.2.2.1.2.2.2.2.1 < 0
    · rw [if_pos h0, decide_eq_true h0]; rfl
    · rw [if_neg h0, decide_eq_false h0]
      by_cases h1 : weightM S.1 (goneM S l a) < S.2.2.1.2.2.2.2.1
      · rw [if_pos h1, decide_eq_false (Int32.not_le.mpr h1)]; rfl
      · rw [if_neg h1, decide_eq_true (Int32.not_lt.mp h1)]; rfl
  have eg : mkI (fun f => bt (faultsM S.1 (bin S.2.1 l)) f && rmP S.1 a f) (tf S.1) = goneM S l a := by
    symm
    refine bt_eq_mkI _ (by omega) (fun j hj => ?_)
    unfold goneM
    rw [bt_and, bt_mkI _ _ (by omega) j hj]
    cases bt (faultsM S.1 (bin S.2.1 l)) j <;> cases decide (j < tf S.1) <;> rfl
  refine lp_up (fun n x i => f_X9_lets_153 (b01 b) a (faultsM S.1 (bin S.2.1 l)) n x (nI i) h) (mkI (fun f => bt (faultsM S.1 (bin S.2.1 l)) f && rmP S.1 a f)) (tf S.1) _ (fun n => ?_) (fun n i hi => ?_) FU 0 (Nat.zero_le _) (FU_gt (by omega))
  · show f_X9_lets_153 _ _ _ (n + 1) _ _ h = _
    rw [f_X9_lets_153, c.1.2.1, if_pos (Int32.le_refl _), eg, e245, e241, c.2.2.1.2.2.1, m_riskOf w.1 c.1, bP_some, c.2.2.1.2.2.1]
    cases b
    · rfl
    · rw [if_neg (by decide), Bool.true_and, riskB]
      by_cases h0 : S.2.2.1.2.2.2.1 < 0
      · rw [if_pos h0, decide_eq_true h0]; rfl
      · rw [if_neg h0, decide_eq_false h0, e245]
        by_cases h1 : S.2.2.1.2.2.2.1 < riskM S.1 a
        · rw [if_pos h1, decide_eq_false (Int32.not_le.mpr h1)]; rfl
        · rw [if_neg h1, decide_eq_true (Int32.not_lt.mp h1), e241]; rfl
  · show f_X9_lets_153 _ _ _ (n + 1) _ _ h = f_X9_lets_153 _ _ _ n _ _ h
    rw [f_X9_lets_153, c.1.2.1, if_neg (nle hi (by omega)), has9 _ (by omega), bO_some, c.rtl w hi, bO_some, bO_some, lt'_eq, lt'_eq, nI1, or0, mkI]
    cases hb : bt (faultsM S.1 (bin S.2.1 l)) i
    · rw [if_neg (show ¬ false = true by decide), if_pos rfl, Bool.false_and, if_neg (by decide)]
    · rw [if_pos rfl, if_neg (by decide), Bool.true_and]
      rcases tl_cases w hi with e | ⟨k, hk, e, e2⟩
      · rw [e, if_pos (by decide), if_neg (by simp [rmP, e])]
      · have hP : rmP S.1 a i = bt a k := by simp [rmP, e, e2, nI_ne_m1 (k := k) (by omega)]
        rw [e, if_neg (nI_pos (by omega)), has9 _ (by omega), bO_some, hP]
        cases bt a k
        · rw [if_neg (show ¬ false = true by decide), if_pos rfl, if_neg (by decide)]
        · rw [if_pos rfl, if_neg (by decide), if_pos rfl]
theorem m_lets76 {S : SD} (w : wfS S) {l k d : Nat} (hl : l < bl S.2.1) (hk : k < tn S.1) (hd : d < 1000) (b : Bool) (r : Int32) {h : PH} (c : RM S h) : f_X9_lets_76 (nI l) (nI k) (nI d) r FU (b01 b) 0 h = some (b01 ((b && !frzB S d S.2.2.1.1) && (riskB S (r ||| (1 <<< (nI k &&& 31))) && wghB S (goneM S l (r ||| (1 <<< (nI k &&& 31)))))), h) := by
  have p8 := w.p8
  have h0 : b01 b = b01 (b && !frzB S d 0) := by rw [frzB]; simp
  rw [h0]
  refine lp_up (fun n x i => f_X9_lets_76 (nI l) (nI k) (nI d) r n x (nI i) h) (fun i => b01 (b && !frzB S d i)) S.2.2.1.1 _ (fun n => ?_) (fun n i hi => ?_) FU 0 (Nat.zero_le _) (FU_gt (by omega))
  · show f_X9_lets_76 _ _ _ _ (n + 1) _ _ h = _
    rw [f_X9_lets_76, c.2.2.1.1, if_pos (Int32.le_refl _), lt'_eq, c.rin w hl, bO_some, m_faultsIn w.1 c.1, bP_some, m_lets153 w _ _ c]
  · show f_X9_lets_76 _ _ _ _ (n + 1) _ _ h = f_X9_lets_76 _ _ _ _ n _ _ h
    have hin : f_X9_in ((nI d).toInt64) ((S.2.2.1.2.1 i).toInt64) ((S.2.2.1.2.2.1 i).toInt64) = some (b01 (decide ((S.2.2.1.2.1 i).toInt ≤ d) && decide ((d : Int) ≤ (S.2.2.1.2.2.1 i).toInt))) := by
      rw [in9, Int32.toInt_toInt64, Int32.toInt_toInt64, Int32.toInt_toInt64, nI_toInt (by omega)]
      by_cases h1 : (S.2.2.1.2.1 i).toInt ≤ (d : Int)
      · by_cases h2 : (d : Int) ≤ (S.2.2.1.2.2.1 i).toInt
        · rw [if_pos ⟨h1, h2⟩, decide_eq_true h1, decide_eq_true h2]; rfl
        · rw [if_neg (fun z => h2 z.2), decide_eq_true h1, decide_eq_false h2]; rfl
      · rw [if_neg (fun z => h1 z.1), decide_eq_false h1]; rfl
    rw [f_X9_lets_76, c.2.2.1.1, if_neg (nle hi (by omega)), ag_nI h 92 (by omega : i < 8) (by omega), bO_some, ag_nI h 93 (by omega : i < 8) (by omega), bO_some, (c.2.2.1.2.1 i hi).1, (c.2.2.1.2.1 i hi).2, hin, bO_some, nI1, frzB]
    cases b <;> cases frzB S d i <;> cases (decide ((S.2.2.1.2.1 i).toInt ≤ d) && decide ((d : Int) ≤ (S.2.2.1.2.2.1 i).toInt)) <;> rfl
theorem p_lets (x y z : Int32) : Pair (f_X8_lets x y z) (f_X9_lets x y z) := Pair.two (fun S w => by
  have n24 := w.n24
  have b4 := w.b4
  refine two_line w (fun _ => rfl) (fun _ => rfl) (fun l hl e => ?_)
  subst e
  refine two_change w (fun _ => rfl) (fun _ => rfl) (fun k hk e => ?_)
  subst e
  refine two_day (fun _ => rfl) (fun _ => rfl) (fun d hd e => ?_)
  subst e
  refine Two.of (match ndM S l k with | none => -1003 | some r => b01 (letB S l d (r ||| (1 <<< (nI k &&& 31))))) (fun h c => ?_) (fun h c => ?_)
  · obtain ⟨h1, e1, k1⟩ := qQ_needs w hl hk h c
    have c1 := c.keepC k1
    rw [e1, bP_some]
    cases hn : ndM S l k with
    | none => exact ⟨h1, rfl, k1⟩
    | some r =>
      refine ⟨h1, ?_, k1⟩
      show (if r = -1 then _ else _) = _
      rw [if_neg (bel_ne (nd_bel (by omega) hn) (by omega)), lt'_eq, c1.rin w hl, bO_some, c_faultsIn w.1 c1.1, bP_some, c_removedBy w.1 c1.1, bP_some, lt'_eq, c_frozen w hd c1, bP_some, c_line2 w hl c1, bP_some]
      show (if b01 (frzB S d S.2.2.1.1) = 0 then (if b01 (onlyB S l) = 0 then f_X8_lets_120 _ (goneM S l (r ||| (1 <<< (nI k &&& 31)))) h1 else f_X8_lets_121 _ (goneM S l (r ||| (1 <<< (nI k &&& 31)))) 1 h1) else f_X8_lets_120 _ (goneM S l (r ||| (1 <<< (nI k &&& 31)))) h1) = some (b01 (letB S l d (r ||| (1 <<< (nI k &&& 31)))), h1)
      have e120 : ∀ a g, f_X8_lets_120 a g h1 = some (0, h1) := fun a g => by rw [f_X8_lets_120, f_X8_lets_121, if_pos rfl]
      have e121 : ∀ a g, f_X8_lets_121 a g 1 h1 = some (b01 (riskB S a && wghB S g), h1) := fun a g => by
        rw [f_X8_lets_121, if_neg (by decide), c_riskOf w.1 c1.1, bP_some, c_risk2 w a c1, bP_some, c_weightOf w.1 c1.1, bP_some, c_wgh2 w g c1, bP_some]
        cases riskB S a <;> cases wghB S g <;> rfl
      rw [e120, e121, letB]
      cases frzB S d S.2.2.1.1 <;> cases onlyB S l <;> rfl
  · obtain ⟨h1, e1, k1⟩ := pP_needs w hl hk h c
    have c1 := c.keepM k1
    rw [e1, bP_some]
    cases hn : ndM S l k with
    | none => exact ⟨h1, rfl, k1⟩
    | some r =>
      refine ⟨h1, ?_, k1⟩
      show (if (0 : Int32) ≤ r then _ else _) = some (b01 (letB S l d (r ||| (1 <<< (nI k &&& 31)))), h1)
      rw [if_pos (Int32.not_lt.mp (bel_nneg (nd_bel (by omega) hn) (by omega))), c1.2.2.1.2.2.2.2, has9 _ (by omega), bO_some]
      have e76 := m_lets76 w hl hk hd (onlyB S l) r c1
      have et : f_X9_lets_76 (nI l) (nI k) (nI d) r FU 1 0 h1 = f_X9_lets_76 (nI l) (nI k) (nI d) r FU (b01 true) 0 h1 := rfl
      have ef : f_X9_lets_76 (nI l) (nI k) (nI d) r FU 0 0 h1 = f_X9_lets_76 (nI l) (nI k) (nI d) r FU (b01 false) 0 h1 := rfl
      have goal : f_X9_lets_76 (nI l) (nI k) (nI d) r FU (b01 (onlyB S l)) 0 h1 = some (b01 (letB S l d (r ||| (1 <<< (nI k &&& 31)))), h1) := by
        rw [e76, letB]
        cases frzB S d S.2.2.1.1 <;> cases onlyB S l <;> rfl
      rw [Option.getD_some, et, ef, ← goal, onlyB]
      by_cases h0 : S.2.2.1.2.2.2.2.2 = 0
      · rw [if_pos h0, decide_eq_true h0, Bool.true_or]
      · rw [if_neg h0, decide_eq_false h0, Bool.false_or]
        cases bt S.2.2.1.2.2.2.2.2 l <;> rfl)
