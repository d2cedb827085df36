/-! ===== what a trunk is; the class's told and the model hold it ===== -/
abbrev TD : Type := Nat × Nat × (Nat → Nat → Int32) × (Nat → Int32) × (Nat → Int32) × (Nat → Int32) × (Nat → Int32) × (Nat → Int32)
abbrev tn (T : TD) : Nat := T.1
abbrev tf (T : TD) : Nat := T.2.1
abbrev tst (T : TD) : Nat → Nat → Int32 := T.2.2.1
abbrev trd (T : TD) : Nat → Int32 := T.2.2.2.1
abbrev trk (T : TD) : Nat → Int32 := T.2.2.2.2.1
abbrev twt (T : TD) : Nat → Int32 := T.2.2.2.2.2.1
abbrev tfr (T : TD) : Nat → Int32 := T.2.2.2.2.2.2.1
abbrev ttl (T : TD) : Nat → Int32 := T.2.2.2.2.2.2.2
/-- change c sets slot s -/
def sb (T : TD) (c s : Nat) : Bool := !decide (tst T c s ≤ 0)
def setsM (T : TD) (c : Nat) : Int32 := mkI (sb T c) 16
def ahd (T : TD) : Nat → Nat → Int32
  | 0, _ => 0
  | c + 1, s => if sb T c s = true then tst T c s else ahd T c s
def frN (T : TD) (f : Nat) : Nat := (tfr T f).toNatClampNeg
def tlN (T : TD) (f : Nat) : Nat := (ttl T f).toNatClampNeg
def wfT (T : TD) : Prop := tn T ≤ 24 ∧ tf T ≤ 10 ∧ (∀ c s, 0 ≤ (tst T c s).toInt ∧ (tst T c s).toInt ≤ 99) ∧ (∀ c, bel (trd T c) 16) ∧ (∀ c, 0 ≤ (trk T c).toInt ∧ (trk T c).toInt ≤ 9) ∧ (∀ f, 1 ≤ (twt T f).toInt ∧ (twt T f).toInt ≤ 99) ∧ (∀ f, f < tf T → ∃ k, k < tn T ∧ tfr T f = nI k) ∧ (∀ f, f < tf T → ttl T f = -1 ∨ ∃ k, k < tn T ∧ ttl T f = nI k)
def CT (T : TD) (h : PH) : Prop := h.1 4 0 = nI (tn T) ∧ h.1 4 6 = nI (tf T) ∧ (∀ c, c < tn T → h.1 5 c = setsM T c ∧ h.1 6 c = trd T c ∧ h.1 7 c = trk T c ∧ ∀ s, s < 16 → h.1 8 (16 * c + s) = tst T c s) ∧ (∀ c, c ≤ tn T → ∀ s, s < 16 → h.1 9 (16 * c + s) = ahd T c s) ∧ ∀ f, f < tf T → h.1 10 f = twt T f ∧ h.1 11 f = tfr T f ∧ h.1 12 f = ttl T f
def MT (T : TD) (h : PH) : Prop := h.1 66 0 = nI (tn T) ∧ h.1 66 4 = nI (tf T) ∧ (∀ c, c < tn T → h.1 68 c = trd T c ∧ h.1 69 c = trk T c ∧ ∀ s, s < 16 → h.1 67 (16 * c + s) = tst T c s) ∧ (∀ c, c ≤ tn T → ∀ s, s < 16 → h.1 88 (16 * c + s) = ahd T c s) ∧ ∀ f, f < tf T → h.1 70 f = twt T f ∧ h.1 71 f = tfr T f ∧ h.1 72 f = ttl T f
def CTc (k : Nat) : Bool := decide (k ∈ [4, 5, 6, 7, 8, 9, 10, 11, 12])
def MTc (k : Nat) : Bool := decide (k ∈ [67, 68, 69, 70, 71, 72, 88])
theorem CT.keep {T : TD} {h h' : PH} (hT : CT T h) (he : ∀ k, CTc k = true → h'.1 k = h.1 k) : CT T h' := by
  unfold CT at hT ⊢
  rw [he 4 rfl, he 5 rfl, he 6 rfl, he 7 rfl, he 8 rfl, he 9 rfl, he 10 rfl, he 11 rfl, he 12 rfl]
  exact hT
theorem MT.keep {T : TD} {h h' : PH} (hT : MT T h) (he : ∀ k, MTc k = true → h'.1 k = h.1 k) (h0 : h'.1 66 0 = h.1 66 0) (h4 : h'.1 66 4 = h.1 66 4) : MT T h' := by
  unfold MT at hT ⊢
  rw [he 67 rfl, he 68 rfl, he 69 rfl, he 70 rfl, he 71 rfl, he 72 rfl, he 88 rfl, h0, h4]
  exact hT
theorem hC_hU (h : PH) (V : Nat) (f : Nat → Int32) (j : Nat) (v : Int32) : hU (hC h V f) V j v = hC h V (upd f j v) := by
  unfold hU
  rw [hC_s]
  unfold hC
  refine Prod.ext ?_ rfl
  funext b
  by_cases hb : b = V <;> simp [hb]
theorem hC_self (h : PH) (V : Nat) : hC h V (h.1 V) = h := by
  unfold hC
  refine Prod.ext ?_ rfl
  funext b
  by_cases hb : b = V <;> simp [hb]
theorem frN_eq {T : TD} {f k : Nat} (hk : k < 2 ^ 31) (e : tfr T f = nI k) : frN T f = k := by unfold frN; rw [e, cl hk]
theorem tlN_eq {T : TD} {f k : Nat} (hk : k < 2 ^ 31) (e : ttl T f = nI k) : tlN T f = k := by unfold tlN; rw [e, cl hk]
theorem nI_ne_m1 {k : Nat} (hk : k < 2 ^ 31) : ¬ nI k = -1 := by
  intro e
  have h1 := congrArg Int32.toInt e
  rw [nI_toInt hk] at h1
  have h2 : (-1 : Int32).toInt = -1 := by decide
  omega
/-- the faults that go with a change of x -/
def rmP (T : TD) (x : Int32) (f : Nat) : Bool := !decide (ttl T f = -1) && bt x (tlN T f)
def faP (T : TD) (x : Int32) (f : Nat) : Bool := bt x (frN T f) && !rmP T x f
def faultsM (T : TD) (x : Int32) : Int32 := mkI (faP T x) (tf T)
def sumI (g : Nat → Int32) (P : Nat → Bool) : Nat → Int32
  | 0 => 0
  | k + 1 => if P k = true then sumI g P k + g k else sumI g P k
def weightM (T : TD) (x : Int32) : Int32 := sumI (twt T) (bt x) (tf T)
def riskM (T : TD) (x : Int32) : Int32 := sumI (trk T) (bt x) (tn T)
theorem p16 {s : Nat} (h : 16 ≤ s) (h2 : s < 2 ^ 31) : (16 : Int32) ≤ nI s := by rw [le16 h2]; exact h
theorem n16 {s : Nat} (h : s < 16) : ¬ (16 : Int32) ≤ nI s := by rw [le16 (by omega)]; omega
theorem c_removedBy {T : TD} {h : PH} (hT : wfT T) (hC : CT T h) (x : Int32) : f_X7_removedBy 4 x h = some (mkI (rmP T x) (tf T), h) := by
  obtain ⟨w1, w2, w3, w4, w5, w6, w7, w8⟩ := hT
  obtain ⟨q0, q6, q1, q2, q3⟩ := hC
  refine lp_up (fun n a i => f_X7_removedBy_4 4 x n a (nI i) h) (mkI (rmP T x)) (tf T) _ (fun n => ?_) (fun n i hi => ?_) FU 0 (Nat.zero_le _) (FU_gt (by omega))
  · show f_X7_removedBy_4 4 x (n + 1) _ _ h = _
    rw [f_X7_removedBy_4, q6, if_pos (Int32.le_refl _)]
  · show f_X7_removedBy_4 4 x (n + 1) _ _ h = f_X7_removedBy_4 4 x n _ _ h
    have e12 : ag h (4 + 8) 10 (nI i) = some (ttl T i) := by rw [ag_nI h _ (by omega) (by decide)]; exact congrArg some (q3 i hi).2.2
    rw [f_X7_removedBy_4, q6, if_neg (by rw [leN (by omega) (by omega)]; omega), e12, bO_some, mkI, ← nI1]
    rcases w8 i hi with e | ⟨k, hk, e⟩
    · rw [if_pos e, if_neg (by simp [rmP, e])]
    · have hm := nI_ne_m1 (k := k) (by omega)
      rw [e, if_neg hm, bO_some, has8 x (by omega), bO_some]
      have hP : rmP T x i = bt x k := by simp [rmP, e, hm, tlN_eq (T := T) (by omega) e]
      rw [hP]
      by_cases hb : bt x k = true
      · rw [if_pos hb, if_neg (by decide), if_pos hb, lt'_eq]
      · rw [if_neg hb, if_pos rfl, if_neg hb]
theorem c_faultsIn {T : TD} {h : PH} (hT : wfT T) (hC : CT T h) (x : Int32) : f_X7_faultsIn 4 x h = some (faultsM T x, h) := by
  have hr := c_removedBy hT hC x
  obtain ⟨w1, w2, w3, w4, w5, w6, w7, w8⟩ := hT
  obtain ⟨q0, q6, q1, q2, q3⟩ := hC
  refine lp_up (fun n a i => f_X7_faultsIn_4 4 x n a (nI i) h) (mkI (fun f => bt x (frN T f))) (tf T) _ (fun n => ?_) (fun n i hi => ?_) FU 0 (Nat.zero_le _) (FU_gt (by omega))
  · show f_X7_faultsIn_4 4 x (n + 1) _ _ h = _
    rw [f_X7_faultsIn_4, q6, if_pos (Int32.le_refl _), hr, bP_some]
    refine congrArg (fun z => some (z, h)) ?_
    refine bt_eq_mkI _ (by omega) (fun j hj => ?_)
    rw [bt_and, bt_not _ hj, bt_mkI _ _ (by omega) j hj, bt_mkI _ _ (by omega) j hj]
    unfold faP
    by_cases h1 : j < tf T <;> simp [h1]
  · show f_X7_faultsIn_4 4 x (n + 1) _ _ h = f_X7_faultsIn_4 4 x n _ _ h
    obtain ⟨k, hk, e⟩ := w7 i hi
    have e11 : ag h (4 + 7) 10 (nI i) = some (nI k) := by rw [ag_nI h _ (by omega) (by decide), ← e]; exact congrArg some (q3 i hi).2.1
    rw [f_X7_faultsIn_4, q6, if_neg (by rw [leN (by omega) (by omega)]; omega), e11, bO_some, has8 x (by omega), bO_some, mkI, ← nI1, frN_eq (T := T) (by omega) e]
    by_cases hb : bt x k = true
    · rw [if_pos hb, if_neg (by decide), if_pos hb, lt'_eq]
    · rw [if_neg hb, if_pos rfl, if_neg hb]
theorem m_faultsIn {T : TD} {h : PH} (hT : wfT T) (hM : MT T h) (x : Int32) : f_X9_faultsIn x h = some (faultsM T x, h) := by
  obtain ⟨w1, w2, w3, w4, w5, w6, w7, w8⟩ := hT
  obtain ⟨q0, q6, q1, q2, q3⟩ := hM
  refine lp_up (fun n a i => f_X9_faultsIn_4 x n a (nI i) h) (mkI (faP T x)) (tf T) _ (fun n => ?_) (fun n i hi => ?_) FU 0 (Nat.zero_le _) (FU_gt (by omega))
  · show f_X9_faultsIn_4 x (n + 1) _ _ h = _
    rw [f_X9_faultsIn_4, q6, if_pos (Int32.le_refl _)]
    rfl
  · show f_X9_faultsIn_4 x (n + 1) _ _ h = f_X9_faultsIn_4 x n _ _ h
    obtain ⟨k, hk, e⟩ := w7 i hi
    have e71 : ag h 71 10 (nI i) = some (nI k) := by rw [ag_nI h _ (by omega) (by decide), ← e]; exact congrArg some (q3 i hi).2.1
    have e72 : ag h 72 10 (nI i) = some (ttl T i) := by rw [ag_nI h _ (by omega) (by decide)]; exact congrArg some (q3 i hi).2.2
    have z0 : f_X9_faultsIn_51 x (f_X9_faultsIn_4 x n) (mkI (faP T x) i) (nI i) h = f_X9_faultsIn_4 x n (mkI (faP T x) i) (nI (i + 1)) h := by
      rw [f_X9_faultsIn_51, f_X9_faultsIn_52, if_pos rfl, lt'_eq, or0, nI1]
    have z1 : f_X9_faultsIn_47 x (f_X9_faultsIn_4 x n) (mkI (faP T x) i) (nI i) h = f_X9_faultsIn_4 x n (mkI (faP T x) i ||| (1 <<< (nI i &&& 31))) (nI (i + 1)) h := by
      rw [f_X9_faultsIn_47, f_X9_faultsIn_52, if_neg (by decide), lt'_eq, nI1]
    rw [f_X9_faultsIn_4, q6, if_neg (by rw [leN (by omega) (by omega)]; omega), e71, bO_some, has9 x (by omega), bO_some, mkI]
    have hf : faP T x i = (bt x k && !rmP T x i) := by unfold faP; rw [frN_eq (T := T) (by omega) e]
    rw [hf]
    by_cases hb : bt x k = true
    · rw [if_pos hb, if_neg (by decide), e72, bO_some, hb, Bool.true_and]
      rcases w8 i hi with e2 | ⟨k2, hk2, e2⟩
      · rw [e2, if_pos (by decide), z1, if_pos (by simp [rmP, e2])]
      · have hm := nI_ne_m1 (k := k2) (by omega)
        have hP : rmP T x i = bt x k2 := by simp [rmP, e2, hm, tlN_eq (T := T) (by omega) e2]
        rw [e2, if_neg (nI_pos (by omega)), bO_some, has9 x (by omega), bO_some, hP]
        by_cases hb2 : bt x k2 = true
        · rw [if_pos hb2, if_neg (by decide), z0, if_neg (by simp [hb2])]
        · rw [if_neg hb2, if_pos rfl, z1, if_pos (by simp [hb2])]
    · rw [if_neg hb, if_pos rfl, z0, if_neg (by simp [hb])]
theorem c_weightOf {T : TD} {h : PH} (hT : wfT T) (hC : CT T h) (x : Int32) : f_X7_weightOf 4 x h = some (weightM T x, h) := by
  obtain ⟨w1, w2, w3, w4, w5, w6, w7, w8⟩ := hT
  obtain ⟨q0, q6, q1, q2, q3⟩ := hC
  refine lp_up (fun n a i => f_X7_weightOf_4 4 x n a (nI i) h) (sumI (twt T) (bt x)) (tf T) _ (fun n => ?_) (fun n i hi => ?_) FU 0 (Nat.zero_le _) (FU_gt (by omega))
  · show f_X7_weightOf_4 4 x (n + 1) _ _ h = _
    rw [f_X7_weightOf_4, q6, if_pos (Int32.le_refl _)]
    rfl
  · show f_X7_weightOf_4 4 x (n + 1) _ _ h = f_X7_weightOf_4 4 x n _ _ h
    have e10 : ag h (4 + 6) 10 (nI i) = some (twt T i) := by rw [ag_nI h _ (by omega) (by decide)]; exact congrArg some (q3 i hi).1
    rw [f_X7_weightOf_4, q6, if_neg (by rw [leN (by omega) (by omega)]; omega), has8 x (by omega), bO_some, sumI, ← nI1]
    by_cases hb : bt x i = true
    · rw [if_pos hb, if_neg (by decide), e10, bO_some, lt'_eq, if_pos hb]
    · rw [if_neg hb, if_pos rfl, if_neg hb]
theorem add0 (x : Int32) : x + 0 = x := Int32.add_zero x
theorem m_weightOf {T : TD} {h : PH} (hT : wfT T) (hM : MT T h) (x : Int32) : f_X9_weightOf x h = some (weightM T x, h) := by
  obtain ⟨w1, w2, w3, w4, w5, w6, w7, w8⟩ := hT
  obtain ⟨q0, q6, q1, q2, q3⟩ := hM
  refine lp_up (fun n a i => f_X9_weightOf_4 x n a (nI i) h) (sumI (twt T) (bt x)) (tf T) _ (fun n => ?_) (fun n i hi => ?_) FU 0 (Nat.zero_le _) (FU_gt (by omega))
  · show f_X9_weightOf_4 x (n + 1) _ _ h = _
    rw [f_X9_weightOf_4, q6, if_pos (Int32.le_refl _)]
    rfl
  · show f_X9_weightOf_4 x (n + 1) _ _ h = f_X9_weightOf_4 x n _ _ h
    have e10 : ag h 70 10 (nI i) = some (twt T i) := by rw [ag_nI h _ (by omega) (by decide)]; exact congrArg some (q3 i hi).1
    rw [f_X9_weightOf_4, q6, if_neg (by rw [leN (by omega) (by omega)]; omega), has9 x (by omega), bO_some, sumI, ← nI1]
    by_cases hb : bt x i = true
    · rw [if_pos hb, if_neg (by decide), e10, bO_some, lt'_eq, if_pos hb]
    · rw [if_neg hb, if_pos rfl, lt'_eq, add0, if_neg hb]
theorem c_riskOf {T : TD} {h : PH} (hT : wfT T) (hC : CT T h) (x : Int32) : f_X7_riskOf 4 x h = some (riskM T x, h) := by
  obtain ⟨w1, w2, w3, w4, w5, w6, w7, w8⟩ := hT
  obtain ⟨q0, q6, q1, q2, q3⟩ := hC
  refine lp_up (fun n a i => f_X7_riskOf_4 4 x n a (nI i) h) (sumI (trk T) (bt x)) (tn T) _ (fun n => ?_) (fun n i hi => ?_) FU 0 (Nat.zero_le _) (FU_gt (by omega))
  · show f_X7_riskOf_4 4 x (n + 1) _ _ h = _
    rw [f_X7_riskOf_4, q0, if_pos (Int32.le_refl _)]
    rfl
  · show f_X7_riskOf_4 4 x (n + 1) _ _ h = f_X7_riskOf_4 4 x n _ _ h
    have e7 : ag h (4 + 3) 24 (nI i) = some (trk T i) := by rw [ag_nI h _ (by omega) (by decide)]; exact congrArg some (q1 i hi).2.2.1
    rw [f_X7_riskOf_4, q0, if_neg (by rw [leN (by omega) (by omega)]; omega), has8 x (by omega), bO_some, sumI, ← nI1]
    by_cases hb : bt x i = true
    · rw [if_pos hb, if_neg (by decide), e7, bO_some, lt'_eq, if_pos hb]
    · rw [if_neg hb, if_pos rfl, if_neg hb]
theorem m_riskOf {T : TD} {h : PH} (hT : wfT T) (hM : MT T h) (x : Int32) : f_X9_riskOf x h = some (riskM T x, h) := by
  obtain ⟨w1, w2, w3, w4, w5, w6, w7, w8⟩ := hT
  obtain ⟨q0, q6, q1, q2, q3⟩ := hM
  refine lp_up (fun n a i => f_X9_riskOf_4 x n a (nI i) h) (sumI (trk T) (bt x)) (tn T) _ (fun n => ?_) (fun n i hi => ?_) FU 0 (Nat.zero_le _) (FU_gt (by omega))
  · show f_X9_riskOf_4 x (n + 1) _ _ h = _
    rw [f_X9_riskOf_4, q0, if_pos (Int32.le_refl _)]
    rfl
  · show f_X9_riskOf_4 x (n + 1) _ _ h = f_X9_riskOf_4 x n _ _ h
    have e7 : ag h 69 24 (nI i) = some (trk T i) := by rw [ag_nI h _ (by omega) (by decide)]; exact congrArg some (q1 i hi).2.1
    rw [f_X9_riskOf_4, q0, if_neg (by rw [leN (by omega) (by omega)]; omega), has9 x (by omega), bO_some, sumI, ← nI1]
    by_cases hb : bt x i = true
    · rw [if_pos hb, if_neg (by decide), e7, bO_some, lt'_eq, if_pos hb]
    · rw [if_neg hb, if_pos rfl, lt'_eq, add0, if_neg hb]
theorem m_setsOf {T : TD} {h : PH} (hT : wfT T) (hM : MT T h) {c : Nat} (hc : c < tn T) : f_X9_setsOf (nI c) h = some (setsM T c, h) := by
  obtain ⟨w1, w2, w3, w4, w5, w6, w7, w8⟩ := hT
  obtain ⟨q0, q6, q1, q2, q3⟩ := hM
  refine lp_up (fun n a i => f_X9_setsOf_4 (nI c) n a (nI i) h) (mkI (sb T c)) 16 _ (fun n => ?_) (fun n i hi => ?_) FU 0 (Nat.zero_le _) (FU_gt (by omega))
  · show f_X9_setsOf_4 (nI c) (n + 1) _ _ h = _
    rw [f_X9_setsOf_4, if_pos (p16 (by omega) (by omega))]
    rfl
  · show f_X9_setsOf_4 (nI c) (n + 1) _ _ h = f_X9_setsOf_4 (nI c) n _ _ h
    have e : ag h 67 384 (16 * nI c + nI i) = some (tst T c i) := by rw [ixM, ag_nI h _ (by omega) (by decide)]; exact congrArg some ((q1 c hc).2.2 i hi)
    rw [f_X9_setsOf_4, if_neg (n16 (by omega)), e, bO_some, mkI, ← nI1]
    by_cases hb : tst T c i ≤ 0
    · rw [if_pos hb, lt'_eq, or0, if_neg (by simp [sb, hb])]
    · rw [if_neg hb, lt'_eq, if_pos (by simp [sb, hb])]
