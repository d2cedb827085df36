/-! ===== setters and needs ===== -/
def lastS (T : TD) (s : Nat) : Nat → Int32
  | 0 => -1
  | c + 1 => if sb T c s = true then nI c else lastS T s c
theorem lastS_in (T : TD) (s : Nat) : ∀ c, lastS T s c = -1 ∨ ∃ d, d < c ∧ lastS T s c = nI d := by
  intro c
  induction c with
  | zero => exact Or.inl rfl
  | succ c ih =>
    rw [lastS]
    by_cases hb : sb T c s = true
    · rw [if_pos hb]; exact Or.inr ⟨c, by omega, rfl⟩
    · rw [if_neg hb]
      rcases ih with e | ⟨d, hd, e⟩
      · exact Or.inl e
      · exact Or.inr ⟨d, by omega, e⟩
theorem nIm1' (i : Nat) : nI i + (-1) = nI i - 1 := by
  cases i with
  | zero => decide
  | succ i => rw [pk_m1, nI_pred]
theorem orA (x y z : Int32) : (x ||| y) ||| z = x ||| (y ||| z) := by apply bt_ext; intro j hj; rw [bt_or, bt_or, bt_or, bt_or, Bool.or_assoc]
theorem c_lastSetter {T : TD} {h : PH} (hT : wfT T) (hC' : CT T h) {c s : Nat} (hc : c ≤ tn T) (hs : s < 16) : f_X7_lastSetter 4 (nI c) (nI s) h = some (lastS T s c, h) := by
  obtain ⟨w1, w2, w3, w4, w5, w6, w7, w8⟩ := hT
  obtain ⟨q0, q6, q1, q2, q3⟩ := hC'
  have key : ∀ n i, i ≤ tn T → i < n → f_X7_lastSetter_4 4 (nI s) n (nI i - 1) h = some (lastS T s i, h) := by
    intro n
    induction n with
    | zero => intro i hi hn; omega
    | succ n ih =>
      intro i hi hn
      rw [f_X7_lastSetter_4]
      cases i with
      | zero => rw [if_pos (by decide)]; rfl
      | succ i =>
        rw [nI_pred, if_neg (nI_pos (by omega))]
        have e5 : ag h (4 + 1) 24 (nI i) = some (setsM T i) := by rw [ag_nI h _ (by omega) (by decide)]; exact congrArg some (q1 i hi).1
        rw [e5, bO_some, has8 _ (by omega), bO_some, bt_sets hs, lastS]
        by_cases hb : sb T i s = true
        · rw [if_pos hb, if_neg (by decide), if_pos hb]
        · rw [if_neg hb, if_pos rfl, if_neg hb, nIm1']
          exact ih i (by omega) (by omega)
  rw [f_X7_lastSetter, lt'_eq]
  exact key FU c hc (FU_gt (by omega))
theorem m_setter {T : TD} {h : PH} (hT : wfT T) (hM : MT T h) {c s : Nat} (hc : c ≤ tn T) (hs : s < 16) : f_X9_setter (nI c) (nI s) h = some (lastS T s c, h) := by
  obtain ⟨w1, w2, w3, w4, w5, w6, w7, w8⟩ := hT
  obtain ⟨q0, q6, q1, q2, q3⟩ := hM
  rw [f_X9_setter, show (-1 : Int32) = lastS T s 0 from rfl, show (0 : Int32) = nI 0 from rfl]
  refine lp_up (fun n a i => f_X9_setter_5 (nI c) (nI s) n a (nI i) h) (lastS T s) c _ (fun n => ?_) (fun n i hi => ?_) FU 0 (Nat.zero_le _) (FU_gt (by omega))
  · show f_X9_setter_5 (nI c) (nI s) (n + 1) _ _ h = _
    rw [f_X9_setter_5, if_pos (Int32.le_refl _)]
  · show f_X9_setter_5 (nI c) (nI s) (n + 1) _ _ h = f_X9_setter_5 (nI c) (nI s) n _ _ h
    have e : ag h 67 384 (16 * nI i + nI s) = some (tst T i s) := by rw [ixM, ag_nI h _ (by omega) (by decide)]; exact congrArg some ((q1 i (by omega)).2.2 s hs)
    rw [f_X9_setter_5, if_neg (by rw [leN (by omega) (by omega)]; omega), e, bO_some, lastS, nI1]
    by_cases hb : tst T i s ≤ 0
    · rw [if_pos hb, if_neg (by simp [sb, hb])]
    · rw [if_neg hb, if_pos (by simp [sb, hb])]
/-- the setters of a set of slots; none if one has none -/
def setr (T : TD) (k : Nat) (x : Int32) : Nat → Option Int32
  | 0 => some 0
  | s + 1 => match setr T k x s with
    | none => none
    | some m => if bt x s = true then (if lastS T s k = -1 then none else some (m ||| (1 <<< (lastS T s k &&& 31)))) else some m
theorem setr_none {T : TD} {k : Nat} {x : Int32} {i n : Nat} (h : i ≤ n) (hi : setr T k x i = none) : setr T k x n = none := by
  induction n with
  | zero => have : i = 0 := by omega
            subst this; exact hi
  | succ n ih =>
    by_cases e : i = n + 1
    · subst e; exact hi
    · rw [setr, ih (by omega)]
theorem setr_s {T : TD} {k : Nat} {x : Int32} {s : Nat} {m : Int32} (h : setr T k x s = some m) : setr T k x (s + 1) = if bt x s = true then (if lastS T s k = -1 then none else some (m ||| (1 <<< (lastS T s k &&& 31)))) else some m := by rw [setr, h]
theorem setr_bel {T : TD} {k : Nat} (hk : k ≤ 32) {x : Int32} : ∀ s m, setr T k x s = some m → bel m k := by
  intro s
  induction s with
  | zero => intro m h; cases h; exact bel_zero k
  | succ s ih =>
    intro m h
    cases hs : setr T k x s with
    | none => rw [setr, hs] at h; cases h
    | some q =>
      rw [setr_s hs] at h
      by_cases hb : bt x s = true
      · rw [if_pos hb] at h
        rcases lastS_in T s k with e | ⟨d, hd, e⟩
        · rw [if_pos e] at h; cases h
        · rw [e, if_neg (nI_ne_m1 (by omega))] at h
          cases h
          exact bel_or (ih q hs) (bel_one hd hk)
      · rw [if_neg hb] at h; cases h; exact ih _ hs
theorem setr_mono {T : TD} {k : Nat} {x : Int32} {i : Nat} : ∀ n, i ≤ n → ∀ m q, setr T k x i = some m → setr T k x n = some q → ∀ j, bt m j = true → bt q j = true := by
  intro n
  induction n with
  | zero =>
    intro hi m q h1 h2 j hj
    have : i = 0 := by omega
    subst this
    rw [h1] at h2; cases h2; exact hj
  | succ n ih =>
    intro hi m q h1 h2 j hj
    by_cases e : i = n + 1
    · subst e; rw [h1] at h2; cases h2; exact hj
    · cases hs : setr T k x n with
      | none => rw [setr, hs] at h2; cases h2
      | some p =>
        have hp := ih (by omega) m p h1 hs j hj
        rw [setr_s hs] at h2
        by_cases hb : bt x n = true
        · rw [if_pos hb] at h2
          by_cases hl : lastS T n k = -1
          · rw [if_pos hl] at h2; cases h2
          · rw [if_neg hl] at h2; cases h2
            rw [bt_or, hp]; rfl
        · rw [if_neg hb] at h2; cases h2; exact hp
theorem c_settersOf {T : TD} {h : PH} (hT : wfT T) (hC' : CT T h) {k : Nat} (hk : k < tn T) (x : Int32) : f_X2_settersOf (nI k) x h = some ((setr T k x 16).getD (-1), h) := by
  have w1 := hT.1
  refine lp_P (fun n a i => f_X2_settersOf_5 (nI k) x n a (nI i) h) (fun i => (setr T k x i).getD 0) 16 (fun o => o = some ((setr T k x 16).getD (-1), h)) (fun i => ∃ m, setr T k x i = some m) (fun n hI => ?_) (fun n i hi hI => ?_) FU 0 (Nat.zero_le _) (FU_gt (by omega)) ⟨0, rfl⟩
  · obtain ⟨m, hm⟩ := hI
    show f_X2_settersOf_5 (nI k) x (n + 1) _ _ h = _
    rw [f_X2_settersOf_5, if_pos (p16 (by omega) (by omega)), hm]
    rfl
  · obtain ⟨m, hm⟩ := hI
    show (f_X2_settersOf_5 (nI k) x (n + 1) ((setr T k x i).getD 0) (nI i) h = _) ∨ (_ ∧ f_X2_settersOf_5 (nI k) x (n + 1) ((setr T k x i).getD 0) (nI i) h = f_X2_settersOf_5 (nI k) x n ((setr T k x (i + 1)).getD 0) (nI (i + 1)) h)
    have hs := setr_s hm
    rw [f_X2_settersOf_5, if_neg (n16 hi), has8 _ (by omega), bO_some, nI1, hm]
    by_cases hb : bt x i = true
    · rw [if_pos hb] at hs
      rw [if_pos hb, if_neg (by decide), c_lastSetter hT hC' (by omega) hi, bP_some]
      by_cases hl : lastS T i k = -1
      · left
        rw [if_pos hl] at hs
        rw [if_pos hl, setr_none (n := 16) (by omega) hs]
        rfl
      · right
        rw [if_neg hl] at hs
        refine ⟨⟨_, hs⟩, ?_⟩
        rw [if_neg hl, lt'_eq, hs]
        rfl
    · right
      rw [if_neg hb] at hs
      refine ⟨⟨_, hs⟩, ?_⟩
      rw [if_neg hb, if_pos rfl, hs]
theorem zero_iff {x : Int32} : x = 0 ↔ ∀ j, j < 32 → bt x j = false := ⟨fun h j _ => by rw [h, bt_zero], fun h => bt_ext (fun j hj => by rw [h j hj, bt_zero])⟩
theorem and_nz {x y : Int32} {j : Nat} (hj : j < 32) (hx : bt x j = true) (hy : bt y j = true) : ¬ x &&& y = 0 := by
  intro h
  have := (zero_iff.mp h) j hj
  rw [bt_and, hx, hy] at this
  cases this
theorem neg_m1 : ((-1 : Int32) < 0) := by decide
theorem m_inner {T : TD} {h : PH} (hT : wfT T) (hM : MT T h) {k l : Nat} (hl : l < 4) (hk : k < tn T) (x x2 x3 : Int32) (k25 : Int32 → Int32 → PH → Option (Int32 × PH)) : f_X9_needsOf_56 (nI l) x2 (nI k) x k25 FU x3 0 h = match setr T k x 16 with
    | none => some (-1, h)
    | some q => if q &&& h.1 74 l = 0 then k25 (x3 ||| q) (nI k + (-1)) h else some (-1, h) := by
  have w1 := hT.1
  have e0 : x3 = x3 ||| (setr T k x 0).getD 0 := (or0 x3).symm
  conv => lhs; rw [e0]
  refine lp_P (fun n a i => f_X9_needsOf_56 (nI l) x2 (nI k) x k25 n a (nI i) h) (fun i => x3 ||| (setr T k x i).getD 0) 16 (fun o => o = match setr T k x 16 with
    | none => some (-1, h)
    | some q => if q &&& h.1 74 l = 0 then k25 (x3 ||| q) (nI k + (-1)) h else some (-1, h)) (fun i => ∃ m, setr T k x i = some m ∧ m &&& h.1 74 l = 0) (fun n hI => ?_) (fun n i hi hI => ?_) FU 0 (Nat.zero_le _) (FU_gt (by omega)) ⟨0, rfl, by apply zero_iff.mpr; intro j hj; rw [bt_and, bt_zero]; rfl⟩
  · obtain ⟨m, hm, hz⟩ := hI
    show f_X9_needsOf_56 (nI l) x2 (nI k) x k25 (n + 1) _ _ h = _
    rw [f_X9_needsOf_56, if_pos (p16 (by omega) (by omega)), hm]
    show _ = if m &&& h.1 74 l = 0 then _ else _
    rw [if_pos hz]
    rfl
  · obtain ⟨m, hm, hz⟩ := hI
    show (f_X9_needsOf_56 (nI l) x2 (nI k) x k25 (n + 1) (x3 ||| (setr T k x i).getD 0) (nI i) h = _) ∨ (_ ∧ f_X9_needsOf_56 (nI l) x2 (nI k) x k25 (n + 1) (x3 ||| (setr T k x i).getD 0) (nI i) h = f_X9_needsOf_56 (nI l) x2 (nI k) x k25 n (x3 ||| (setr T k x (i + 1)).getD 0) (nI (i + 1)) h)
    have hs := setr_s hm
    rw [f_X9_needsOf_56, if_neg (n16 hi), has9 _ (by omega), bO_some, nI1, hm]
    by_cases hb : bt x i = true
    · rw [if_pos hb] at hs
      rw [if_pos hb, if_neg (by decide), m_setter hT hM (by omega) hi, bP_some]
      rcases lastS_in T i k with e | ⟨d, hd, e⟩
      · left
        rw [if_pos e] at hs
        rw [e, if_pos neg_m1, setr_none (n := 16) (by omega) hs]
      · rw [e] at hs ⊢
        rw [if_neg (nI_ne_m1 (by omega))] at hs
        rw [if_neg (nI_pos (by omega)), ag_nI h 74 hl (by omega), bO_some, has9 _ (by omega), bO_some]
        by_cases hi2 : bt (h.1 74 l) d = true
        · left
          rw [if_pos hi2, if_neg (by decide)]
          cases hq : setr T k x 16 with
          | none => rfl
          | some q =>
            have hd2 : bt q d = true := setr_mono 16 (by omega) _ q hs hq d (by rw [bt_or, bt_one d (by omega) d (by omega)]; simp)
            show _ = if q &&& h.1 74 l = 0 then _ else _
            rw [if_neg (and_nz (by omega) hd2 hi2)]
        · right
          refine ⟨⟨_, hs, ?_⟩, ?_⟩
          · apply zero_iff.mpr
            intro j hj
            have h1 := zero_iff.mp hz j hj
            rw [bt_and] at h1
            rw [bt_and, bt_or, bt_one d (by omega) j hj]
            by_cases hjd : j = d
            · subst hjd
              simp only [Bool.not_eq_true] at hi2
              rw [hi2, Bool.and_false]
            · simp only [hjd, decide_false, Bool.or_false]; exact h1
          · rw [if_neg hi2, if_pos rfl, lt'_eq, hs]
            show f_X9_needsOf_56 (nI l) x2 (nI k) x k25 n ((x3 ||| m) ||| (1 <<< (nI d &&& 31))) _ h = f_X9_needsOf_56 (nI l) x2 (nI k) x k25 n (x3 ||| (m ||| (1 <<< (nI d &&& 31)))) _ h
            rw [orA]
    · right
      rw [if_neg hb] at hs
      refine ⟨⟨_, hs, hz⟩, ?_⟩
      rw [if_neg hb, if_pos rfl, hs]
