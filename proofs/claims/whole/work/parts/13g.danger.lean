/-! ===== danger: days counted by releases, and by lines and days ===== -/
def smN (f : Nat → Nat) : Nat → Nat
  | 0 => 0
  | n + 1 => smN f n + f n
theorem smN_congr {f g : Nat → Nat} {n : Nat} (h : ∀ k, k < n → f k = g k) : smN f n = smN g n := by
  induction n with
  | zero => rfl
  | succ n ih => rw [smN, smN, ih (fun k hk => h k (by omega)), h n (by omega)]
theorem smN_zero {f : Nat → Nat} {n : Nat} (h : ∀ k, k < n → f k = 0) : smN f n = 0 := by
  induction n with
  | zero => rfl
  | succ n ih => rw [smN, ih (fun k hk => h k (by omega)), h n (by omega)]
theorem smN_add (f g : Nat → Nat) : ∀ n, smN (fun k => f k + g k) n = smN f n + smN g n := by
  intro n
  induction n with
  | zero => rfl
  | succ n ih => rw [smN, smN, smN, ih]; omega
theorem smN_swap (f : Nat → Nat → Nat) (m : Nat) : ∀ n, smN (fun i => smN (fun j => f i j) m) n = smN (fun j => smN (fun i => f i j) n) m := by
  intro n
  induction n with
  | zero => rw [smN]; exact (smN_zero (fun k _ => rfl)).symm
  | succ n ih =>
    rw [smN, ih, ← smN_add]
    rfl
theorem smN_one {f : Nat → Nat} {i : Nat} : ∀ n, i < n → (∀ k, k < n → k ≠ i → f k = 0) → smN f n = f i := by
  intro n
  induction n with
  | zero => intro h; omega
  | succ n ih =>
    intro hi h
    rw [smN]
    by_cases e : i = n
    · subst e; rw [smN_zero (fun k hk => h k (by omega) (by omega)), Nat.zero_add]
    · rw [ih (by omega) (fun k hk => h k (by omega)), h n (by omega) (fun z => e z.symm), Nat.add_zero]
theorem smN_iv (a lo hi : Nat) : ∀ n, smN (fun k => if lo ≤ a + k ∧ a + k < hi then 1 else 0) n = min (a + n) hi - max a lo := by
  intro n
  induction n with
  | zero => rw [smN]; omega
  | succ n ih =>
    rw [smN, ih]
    by_cases h : lo ≤ a + n ∧ a + n < hi
    · rw [if_pos h]; omega
    · rw [if_neg h]; omega
theorem smN_le {f : Nat → Nat} {m : Nat} : ∀ n, (∀ k, k < n → f k ≤ m) → smN f n ≤ n * m := by
  intro n
  induction n with
  | zero => intro _; exact Nat.zero_le _
  | succ n ih =>
    intro h
    have := ih (fun k hk => h k (by omega))
    have := h n (by omega)
    rw [smN, Nat.succ_mul]; omega
theorem lastQ_spec (P : Nat → Bool) : ∀ n, lastQ P n = -1 ∧ (∀ k, k < n → P k = false) ∨ ∃ k, k < n ∧ lastQ P n = nI k ∧ P k = true ∧ ∀ j, j < n → k < j → P j = false := by
  intro n
  induction n with
  | zero => exact Or.inl ⟨rfl, fun k hk => absurd hk (Nat.not_lt_zero k)⟩
  | succ n ih =>
    rw [lastQ]
    by_cases p : P n = true
    · rw [if_pos p]; exact Or.inr ⟨n, by omega, rfl, p, fun j h1 h2 => by omega⟩
    · rw [if_neg p]
      have pf := Bool.eq_false_iff.mpr p
      rcases ih with ⟨h1, h2⟩ | ⟨k, h1, h2, h3, h4⟩
      · refine Or.inl ⟨h1, fun k hk => ?_⟩
        by_cases e : k = n
        · subst e; exact pf
        · exact h2 k (by omega)
      · refine Or.inr ⟨k, by omega, h2, h3, fun j hj1 hj2 => ?_⟩
        by_cases e : j = n
        · subst e; exact pf
        · exact h4 j (by omega) hj2
def dyN (S : SD) (r : Nat) : Nat := (bday S.2.1 r).toNatClampNeg
theorem dy_nI {S : SD} (w : wfS S) {r : Nat} (hr : r < br S.2.1) : dyN S r ≤ 999 ∧ bday S.2.1 r = nI (dyN S r) := by
  obtain ⟨k, hk, e⟩ := (w.2.1.2.2.2.1 r hr).2.1
  unfold dyN
  rw [e, cl (by omega)]
  exact ⟨hk, rfl⟩
theorem dy_le {S : SD} (w : wfS S) {r q : Nat} (h : r ≤ q) (hq : q < br S.2.1) : dyN S r ≤ dyN S q := by
  have h1 := w.2.1.2.2.2.2 r q h hq
  obtain ⟨a1, a2⟩ := dy_nI w (show r < br S.2.1 by omega)
  obtain ⟨b1, b2⟩ := dy_nI w hq
  rw [a2, b2, nI_toInt (by omega), nI_toInt (by omega)] at h1
  omega
def nfB (S : SD) (f r : Nat) : Bool := bt (faultsM S.1 (brin S.2.1 r)) f
def nwP (S : SD) (l d r : Nat) : Bool := decide (bof S.2.1 r = nI l) && decide (dyN S r ≤ d)
/-- the release is the newest of its line on that day -/
def nwB (S : SD) (l d r : Nat) : Bool := nwP S l d r && decide (∀ q, q < br S.2.1 → r < q → nwP S l d q = false)
def indN (S : SD) (f l d : Nat) : Nat := smN (fun r => if (nfB S f r && nwB S l d r) = true then 1 else 0) (br S.2.1)
theorem ind_eq {S : SD} (f l d : Nat) : (lastQ (nwP S l d) (br S.2.1) = -1 ∧ indN S f l d = 0) ∨ ∃ r, r < br S.2.1 ∧ lastQ (nwP S l d) (br S.2.1) = nI r ∧ indN S f l d = if nfB S f r = true then 1 else 0 := by
  rcases lastQ_spec (nwP S l d) (br S.2.1) with ⟨h1, h2⟩ | ⟨r, h1, h2, h3, h4⟩
  · refine Or.inl ⟨h1, smN_zero (fun k hk => ?_)⟩
    rw [if_neg (by unfold nwB; rw [h2 k hk]; simp)]
  · refine Or.inr ⟨r, h1, h2, ?_⟩
    have hr : nwB S l d r = true := by unfold nwB; rw [h3, Bool.true_and, decide_eq_true_eq]; exact fun q hq hrq => h4 q hq hrq
    rw [indN, smN_one (i := r) (br S.2.1) h1 (fun k hk hkr => ?_), hr, Bool.and_true]
    refine if_neg (fun z => ?_)
    rw [Bool.and_eq_true] at z
    have z2 := z.2
    unfold nwB at z2
    rw [Bool.and_eq_true, decide_eq_true_eq] at z2
    rcases Nat.lt_or_gt_of_ne hkr with q | q
    · rw [z2.2 r h1 q] at h3; cases h3
    · rw [h4 k hk q] at z2; cases z2.1
/-- the next release of the line -/
def nxN (S : SD) (r : Nat) : Nat := fs (fun q => decide (r < q) && decide (bof S.2.1 q = bof S.2.1 r)) (br S.2.1)
def endN (S : SD) (b r : Nat) : Nat := if nxN S r < br S.2.1 then min (b + 1) (dyN S (nxN S r)) else b + 1
def lenN (S : SD) (a b r : Nat) : Nat := endN S b r - max a (dyN S r)
theorem nx_spec {S : SD} (r : Nat) : nxN S r ≤ br S.2.1 ∧ (∀ q, r < q → q < nxN S r → ¬ bof S.2.1 q = bof S.2.1 r) ∧ (nxN S r < br S.2.1 → r < nxN S r ∧ bof S.2.1 (nxN S r) = bof S.2.1 r) := by
  obtain ⟨h1, h2, h3⟩ := fs_spec (fun q => decide (r < q) && decide (bof S.2.1 q = bof S.2.1 r)) (br S.2.1)
  refine ⟨h1, fun q hq hq2 e => ?_, fun h => ?_⟩
  · have := h2 q hq2
    simp [hq, e] at this
  · have := h3 h
    simp only [Bool.and_eq_true, decide_eq_true_eq] at this
    exact this
theorem nw_day {S : SD} (w : wfS S) {l d b r : Nat} (hr : r < br S.2.1) (ho : bof S.2.1 r = nI l) (hd : d ≤ b) : nwB S l d r = true ↔ dyN S r ≤ d ∧ d < endN S b r := by
  obtain ⟨n1, n2, n3⟩ := nx_spec (S := S) r
  unfold nwB nwP endN
  rw [Bool.and_eq_true, Bool.and_eq_true, decide_eq_true_eq, decide_eq_true_eq, decide_eq_true_eq]
  constructor
  · rintro ⟨⟨_, h1⟩, h2⟩
    refine ⟨h1, ?_⟩
    by_cases q : nxN S r < br S.2.1
    · rw [if_pos q]
      obtain ⟨m1, m2⟩ := n3 q
      have h3 := h2 _ q m1
      rw [m2, ho, decide_eq_true rfl, Bool.true_and, decide_eq_false_iff_not] at h3
      omega
    · rw [if_neg q]; omega
  · rintro ⟨h1, h2⟩
    refine ⟨⟨ho, h1⟩, fun q hq hrq => ?_⟩
    rw [Bool.and_eq_false_iff, decide_eq_false_iff_not, decide_eq_false_iff_not]
    by_cases e : bof S.2.1 q = nI l
    · refine Or.inr ?_
      have hge : nxN S r ≤ q := by
        rcases Nat.lt_or_ge q (nxN S r) with z | z
        · exact absurd (e.trans ho.symm) (n2 q hrq z)
        · exact z
      have hlt : nxN S r < br S.2.1 := by omega
      rw [if_pos hlt] at h2
      have := dy_le w hge hq
      omega
    · exact Or.inl e
theorem day_sum {S : SD} (w : wfS S) {f a b : Nat} (hab : a ≤ b) : smN (fun l => smN (fun k => indN S f l (a + k)) (b + 1 - a)) (bl S.2.1) = smN (fun r => if nfB S f r = true then lenN S a b r else 0) (br S.2.1) := by
  have e1 : ∀ l, smN (fun k => indN S f l (a + k)) (b + 1 - a) = smN (fun r => smN (fun k => if (nfB S f r && nwB S l (a + k) r) = true then 1 else 0) (b + 1 - a)) (br S.2.1) := fun l => smN_swap (fun k r => if (nfB S f r && nwB S l (a + k) r) = true then 1 else 0) (br S.2.1) (b + 1 - a)
  rw [smN_congr (fun l _ => e1 l), smN_swap]
  refine smN_congr (fun r hr => ?_)
  obtain ⟨l0, hl0, ho⟩ := (w.2.1.2.2.2.1 r hr).1
  have b4 := w.b4
  cases hf : nfB S f r
  · rw [if_neg (by decide)]
    exact smN_zero (fun l _ => smN_zero (fun k _ => by simp))
  · rw [if_pos rfl]
    rw [smN_one (i := l0) (bl S.2.1) hl0 (fun l hl hne => smN_zero (fun k _ => ?_))]
    · have e2 : smN (fun k => if (true && nwB S l0 (a + k) r) = true then 1 else 0) (b + 1 - a) = smN (fun k => if dyN S r ≤ a + k ∧ a + k < endN S b r then 1 else 0) (b + 1 - a) := smN_congr (fun k hk => by
        rw [Bool.true_and]
        by_cases h : nwB S l0 (a + k) r = true
        · rw [if_pos h, if_pos ((nw_day w hr ho (by omega)).mp h)]
        · rw [if_neg h, if_neg (fun z => h ((nw_day w hr ho (by omega)).mpr z))])
      rw [e2, smN_iv, lenN]
      have : endN S b r ≤ b + 1 := by unfold endN; split <;> omega
      omega
    · refine if_neg (fun z => ?_)
      rw [Bool.true_and] at z
      unfold nwB nwP at z
      rw [Bool.and_eq_true, Bool.and_eq_true, decide_eq_true_eq, ho, eqN (by omega) (by omega)] at z
      exact hne z.1.1.symm
theorem c_next {S : SD} (w : wfS S) {r : Nat} (hr : r < br S.2.1) {h : PH} (c : RC S h) : f_X0_nextOfLine 28 (nI r) h = some (if nxN S r < br S.2.1 then nI (nxN S r) else -1, h) := by
  have b20 := w.b20
  rw [f_X0_nextOfLine, lt'_eq, nI1]
  refine glF (fun n (_ : Unit) i h => f_X0_nextOfLine_4 28 (nI r) n (nI i) h) (fun i _ h' => h' = h ∧ r < i ∧ ∀ k, k < i → (decide (r < k) && decide (bof S.2.1 k = bof S.2.1 r)) = false) (br S.2.1) (fun o => o = some (if nxN S r < br S.2.1 then nI (nxN S r) else -1, h)) (by omega) (fun _ h' hI n => ?_) (fun i _ h' hi hI => ?_) (i := r + 1) (b := ()) (by omega) ⟨rfl, Nat.lt_succ_self r, fun k hk => by rw [decide_eq_false (by omega)]; rfl⟩
  · obtain ⟨rfl, hlt, q⟩ := hI
    show f_X0_nextOfLine_4 _ _ (n + 1) _ h' = _
    have e : nxN S r = br S.2.1 := fs_eq q (Or.inl rfl)
    rw [f_X0_nextOfLine_4, c.2.1.2.1, if_pos (Int32.le_refl _), e, if_neg (Nat.lt_irrefl _)]
  · obtain ⟨rfl, hlt, q⟩ := hI
    have st : ∀ n, f_X0_nextOfLine_4 28 (nI r) (n + 1) (nI i) h' = if bof S.2.1 i = bof S.2.1 r then some (nI i, h') else f_X0_nextOfLine_4 28 (nI r) n (nI (i + 1)) h' := fun n => by
      rw [f_X0_nextOfLine_4, c.2.1.2.1, if_neg (nle hi (by omega)), c.rof w hi, bO_some, c.rof w hr, bO_some, nI1]
    by_cases e : bof S.2.1 i = bof S.2.1 r
    · refine Or.inl (fun n => ?_)
      show f_X0_nextOfLine_4 _ _ (n + 1) _ h' = _
      have e2 : nxN S r = i := fs_eq q (Or.inr ⟨hi, by rw [decide_eq_true hlt, decide_eq_true e]; rfl⟩)
      rw [st n, if_pos e, e2, if_pos hi]
    · refine Or.inr ⟨(), h', ⟨rfl, by omega, fun k hk => ?_⟩, fun n => ?_⟩
      · by_cases ek : k = i
        · subst ek; rw [decide_eq_false e, Bool.and_false]
        · exact q k (by omega)
      · show f_X0_nextOfLine_4 _ _ (n + 1) _ h' = f_X0_nextOfLine_4 _ _ n _ h'
        rw [st n, if_neg e]
theorem c_danger {S : SD} (w : wfS S) {f a b : Nat} (hf : f < tf S.1) (ha : a < 1000) (hb : b < 1000) {h : PH} (c : RC S h) : f_X8_danger_44 (nI f) (nI a) (nI b) FU 0 0 h = some (nI (smN (fun r => if nfB S f r = true then lenN S a b r else 0) (br S.2.1)), h) := by
  have b20 := w.b20
  refine lp_up (fun n x i => f_X8_danger_44 (nI f) (nI a) (nI b) n x (nI i) h) (fun i => nI (smN (fun r => if nfB S f r = true then lenN S a b r else 0) i)) (br S.2.1) _ (fun n => ?_) (fun n i hi => ?_) FU 0 (Nat.zero_le _) (FU_gt (by omega))
  · show f_X8_danger_44 _ _ _ (n + 1) _ _ h = _
    rw [f_X8_danger_44, c.2.1.2.1, if_pos (Int32.le_refl _)]
  · show f_X8_danger_44 _ _ _ (n + 1) _ _ h = f_X8_danger_44 _ _ _ n _ _ h
    have d1 := dy_nI w hi
    rw [f_X8_danger_44, c.2.1.2.1, if_neg (nle hi (by omega)), c_isFree w c hi hf, bP_some, nI1, smN]
    have e103 : ∀ (t : Nat) (k : Int32 → Int32 → PH → Option (Int32 × PH)) (x : Nat), t ≤ 1000 → f_X8_danger_103 (nI f) (nI a) (nI b) k (nI x) (nI i) (nI t - 1) h = k (nI (x + (t - max a (dyN S i)))) (nI (i + 1)) h := fun t k x ht => by
      have em : (if nI a < nI (dyN S i) then nI (dyN S i) else nI a) = nI (max a (dyN S i)) := by
        rw [ite_c (ltN (by omega) (by omega))]
        by_cases q : a < dyN S i
        · rw [if_pos q, Nat.max_eq_right (by omega)]
        · rw [if_neg q, Nat.max_eq_left (by omega)]
      have es : nI t - 1 - nI (max a (dyN S i)) + 1 = nI t - nI (max a (dyN S i)) := by
        apply Int32.toInt_inj.mp
        have m1 : max a (dyN S i) ≤ 1000 := by omega
        have hs : (nI t - 1 - nI (max a (dyN S i))).toInt = (t : Int) - 1 - (max a (dyN S i) : Nat) := by
          rw [Int32.toInt_sub, nIm1_toInt (by omega), nI_toInt (n := max a (dyN S i)) (by omega), Int.bmod_eq_of_le (by omega) (by omega)]
        rw [Int32.toInt_add, hs, show (1 : Int32).toInt = 1 from rfl, pk_sub_toInt (by omega) (by omega), Int.bmod_eq_of_le (by omega) (by omega)]
        omega
      rw [f_X8_danger_103, c.rday w hi, bO_some, d1.2, lt'_eq, em, lt'_eq, es, nI1]
      have m1 : max a (dyN S i) ≤ 1000 := by omega
      by_cases q : max a (dyN S i) < t
      · rw [if_pos (by rw [Int32.lt_iff_toInt_lt, pk_sub_toInt (by omega) (by omega), i0]; omega), pk_sub (by omega), nI_add]
      · rw [if_neg (by rw [Int32.lt_iff_toInt_lt, pk_sub_toInt (by omega) (by omega), i0]; omega), add0, show t - max a (dyN S i) = 0 by omega]; rfl
    show (if b01 (!nfB S f i) = 0 then _ else _) = _
    cases hn : nfB S f i
    · rw [if_neg (by decide), if_neg (by decide)]; rfl
    · rw [if_pos (show b01 (!true) = 0 from rfl), if_pos rfl, c_next w hi c, bP_some]
      unfold lenN endN
      by_cases q : nxN S i < br S.2.1
      · have d2 := dy_nI w q
        rw [if_pos q, if_neg (nI_ne_m1 (by omega)), c.rday w q, bO_some, d2.2, if_pos q]
        have em : (if nI (dyN S (nxN S i)) - 1 < nI b then nI (dyN S (nxN S i)) - 1 else nI b) = nI (min (b + 1) (dyN S (nxN S i))) - 1 := by
          rw [ite_c (ltI _ _), nIm1_toInt (by omega), nI_toInt (n := b) (by omega)]
          by_cases z : dyN S (nxN S i) < b + 1
          · rw [if_pos (by omega), Nat.min_eq_right (by omega)]
          · rw [if_neg (by omega), Nat.min_eq_left (by omega), nI_pred]
        rw [em, e103 _ _ _ (by omega)]
      · rw [if_neg q, if_pos rfl, if_neg q]
        have e3 := e103 (b + 1) (f_X8_danger_44 (nI f) (nI a) (nI b) n) (smN (fun r => if nfB S f r = true then (if nxN S r < br S.2.1 then min (b + 1) (dyN S (nxN S r)) else b + 1) - max a (dyN S r) else 0) i) (by omega)
        rw [nI_pred] at e3
        exact e3
theorem m_dg65 {S : SD} (w : wfS S) {f a b l d : Nat} (hf : f < tf S.1) (hl : l < bl S.2.1) (hd : d < 1000) (x : Int32) (k41 k53 : Int32 → Int32 → PH → Option (Int32 × PH)) {h : PH} (c : RM S h) : f_X9_danger_65 (nI f) (nI a) (nI b) x (nI l) (nI d) k41 k53 FU (-1) 0 h = k53 (x + nI (indN S f l d)) (nI (d + 1)) h := by
  have b20 := w.b20
  have b4 := w.b4
  refine lp_up (fun n z i => f_X9_danger_65 (nI f) (nI a) (nI b) x (nI l) (nI d) k41 k53 n z (nI i) h) (lastQ (nwP S l d)) (br S.2.1) _ (fun n => ?_) (fun n i hi => ?_) FU 0 (Nat.zero_le _) (FU_gt (by omega))
  · show f_X9_danger_65 _ _ _ _ _ _ _ _ (n + 1) _ _ h = _
    rw [f_X9_danger_65, c.2.1.2.1, if_pos (Int32.le_refl _), lt'_eq, nI1]
    rcases ind_eq (S := S) f l d with ⟨h1, h2⟩ | ⟨r, h1, h2, h3⟩
    · rw [h1, h2, if_pos (by decide)]; rfl
    · rw [h2, h3, if_neg (nI_pos (by omega)), m_isFree w c h1 hf, bP_some, lt'_eq, lt'_eq]
      show (if b01 (!nfB S f r) = 0 then _ else _) = _
      cases nfB S f r <;> rfl
  · show f_X9_danger_65 _ _ _ _ _ _ _ _ (n + 1) _ _ h = f_X9_danger_65 _ _ _ _ _ _ _ _ n _ _ h
    have d1 := dy_nI w hi
    rw [f_X9_danger_65, c.2.1.2.1, if_neg (nle hi (by omega)), c.rof w hi, bO_some, c.rday w hi, bO_some, d1.2, ite_c (ltN (by omega) (by omega)), nI1, lastQ, nwP]
    by_cases h1 : bof S.2.1 i = nI l
    · rw [if_pos h1, decide_eq_true h1, Bool.true_and]
      by_cases h2 : d < dyN S i
      · rw [if_pos h2, if_neg (by rw [decide_eq_true_eq]; omega)]
      · rw [if_neg h2, if_pos (by rw [decide_eq_true_eq]; omega)]
    · rw [if_neg h1, decide_eq_false h1, if_neg (by simp)]
theorem m_danger {S : SD} (w : wfS S) {f a b : Nat} (hf : f < tf S.1) (hab : a ≤ b) (hb : b < 1000) {h : PH} (c : RM S h) : f_X9_danger_41 (nI f) (nI a) (nI b) FU 0 0 h = some (nI (smN (fun l => smN (fun k => indN S f l (a + k)) (b + 1 - a)) (bl S.2.1)), h) := by
  have b4 := w.b4
  refine lp_up (fun n x i => f_X9_danger_41 (nI f) (nI a) (nI b) n x (nI i) h) (fun i => nI (smN (fun l => smN (fun k => indN S f l (a + k)) (b + 1 - a)) i)) (bl S.2.1) _ (fun n => ?_) (fun n i hi => ?_) FU 0 (Nat.zero_le _) (FU_gt (by omega))
  · show f_X9_danger_41 _ _ _ (n + 1) _ _ h = _
    rw [f_X9_danger_41, c.2.1.1, if_pos (Int32.le_refl _)]
  · show f_X9_danger_41 _ _ _ (n + 1) _ _ h = f_X9_danger_41 _ _ _ n _ _ h
    rw [f_X9_danger_41, c.2.1.1, if_neg (nle hi (by omega)), smN]
    generalize smN (fun l => smN (fun k => indN S f l (a + k)) (b + 1 - a)) i = x
    refine lp_up (fun m z k => f_X9_danger_53 (nI f) (nI a) (nI b) (nI i) (f_X9_danger_41 (nI f) (nI a) (nI b) n) m z (nI (a + k)) h) (fun k => nI (x + smN (fun k => indN S f i (a + k)) k)) (b + 1 - a) _ (fun m => ?_) (fun m k hk => ?_) FU 0 (Nat.zero_le _) (FU_gt (by omega))
    · show f_X9_danger_53 _ _ _ _ _ (m + 1) _ _ h = _
      rw [f_X9_danger_53, if_pos (by rw [ltN (by omega) (by omega)]; omega), nI1]
    · show f_X9_danger_53 _ _ _ _ _ (m + 1) _ _ h = f_X9_danger_53 _ _ _ _ _ m _ _ h
      rw [f_X9_danger_53, if_neg (by rw [ltN (by omega) (by omega)]; omega), m_dg65 w hf hi (by omega) _ _ _ c, nI_add, smN, Nat.add_assoc]
      rfl
theorem p_danger (x y z : Int32) : Pair (f_X8_danger x y z) (f_X9_danger x y z) := Pair.two (fun S w => by
  refine two_fault w (fun _ => rfl) (fun _ => rfl) (fun f hf e => ?_)
  subst e
  refine two_day (fun _ => rfl) (fun _ => rfl) (fun a ha e => ?_)
  subst e
  refine two_day (fun _ => rfl) (fun _ => rfl) (fun b hb e => ?_)
  subst e
  refine Two.ite (fun hab => ?_) (fun _ => Two.ret _)
  rw [leN (by omega) (by omega)] at hab
  exact Two.of _ (Q.pt fun h c => c_danger w hf ha hb c) (P9.pt fun h c => by rw [m_danger w hf hab hb c, day_sum w hab]))
