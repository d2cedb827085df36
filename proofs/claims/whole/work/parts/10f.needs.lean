/-! ===== needs of a change for a line ===== -/
def ndR (S : Nat → Option Int32) (inl : Int32) (c : Nat) : Nat → Int32 → Option Int32
  | 0, m => some m
  | k + 1, m => if k = c ∨ bt m k = true then (match S k with
      | none => none
      | some q => if q &&& inl = 0 then ndR S inl c k (m ||| q) else none) else ndR S inl c k m
def sF (T : TD) (v : Nat → Int32) (k : Nat) : Option Int32 := setr T k (clashM T k v) 16
theorem sF_eq (T : TD) (v : Nat → Int32) (k : Nat) : setr T k (clashM T k v) 16 = sF T v k := rfl
theorem sF_congr {T : TD} {v w : Nat → Int32} (h : ∀ s, s < 16 → v s = w s) : sF T v = sF T w := by
  funext k
  unfold sF
  rw [clashM_congr h]
theorem sF_bel {T : TD} {v : Nat → Int32} {k : Nat} (hk : k ≤ 32) {q : Int32} (h : sF T v k = some q) : bel q k := setr_bel hk 16 q h
def needsM (T : TD) (v : Nat → Int32) (inl : Int32) (c : Nat) : Option Int32 :=
  if bt inl c = true then none else match ndR (sF T v) inl c (c + 1) 0 with
    | none => none
    | some m => if goOK T (m ||| (1 <<< (nI c &&& 31))) v (tn T) = true then some m else none
theorem needsM_congr {T : TD} {v w : Nat → Int32} {inl : Int32} {c : Nat} (h : ∀ s, s < 16 → v s = w s) : needsM T v inl c = needsM T w inl c := by
  unfold needsM
  rw [sF_congr h]
  by_cases hb : bt inl c = true
  · rw [if_pos hb, if_pos hb]
  · rw [if_neg hb, if_neg hb]
    cases ndR (sF T w) inl c (c + 1) 0 with
    | none => rfl
    | some m =>
      show (if goOK T (m ||| (1 <<< (nI c &&& 31))) v (tn T) = true then _ else _) = (if goOK T (m ||| (1 <<< (nI c &&& 31))) w (tn T) = true then _ else _)
      rw [goOK_congr h]
theorem bel_mono {x : Int32} {n k : Nat} (h : bel x n) (hk : n ≤ k) : bel x k := fun j hj h2 => h j hj (by omega)
theorem ndR_bel {S : Nat → Option Int32} (hS : ∀ k q, k ≤ 32 → S k = some q → bel q k) {inl : Int32} {c : Nat} (hc : c ≤ 31) : ∀ k, k ≤ c + 1 → ∀ m r, bel m c → ndR S inl c k m = some r → bel r c := by
  intro k
  induction k with
  | zero => intro _ m r hm h; rw [ndR] at h; cases h; exact hm
  | succ k ih =>
    intro hk m r hm h
    rw [ndR] at h
    by_cases hb : k = c ∨ bt m k = true
    · rw [if_pos hb] at h
      cases hs : S k with
      | none => rw [hs] at h; cases h
      | some q =>
        rw [hs] at h
        have h2 : (if q &&& inl = 0 then ndR S inl c k (m ||| q) else none) = some r := h
        by_cases hz : q &&& inl = 0
        · rw [if_pos hz] at h2
          exact ih (by omega) _ r (bel_or hm (bel_mono (hS k q (by omega) hs) (by omega))) h2
        · rw [if_neg hz] at h2; cases h2
    · rw [if_neg hb] at h
      exact ih (by omega) m r hm h
theorem needsM_bel {T : TD} {v : Nat → Int32} {inl : Int32} {c : Nat} (hc : c ≤ 31) {m : Int32} (h : needsM T v inl c = some m) : bel m c := by
  unfold needsM at h
  by_cases hb : bt inl c = true
  · rw [if_pos hb] at h; cases h
  · rw [if_neg hb] at h
    cases hn : ndR (sF T v) inl c (c + 1) 0 with
    | none => rw [hn] at h; cases h
    | some q =>
      rw [hn] at h
      have h2 : (if goOK T (q ||| (1 <<< (nI c &&& 31))) v (tn T) = true then some q else none) = some m := h
      by_cases hg : goOK T (q ||| (1 <<< (nI c &&& 31))) v (tn T) = true
      · rw [if_pos hg] at h2; cases h2
        exact ndR_bel (fun k q hk hq => sF_bel hk hq) hc (c + 1) (by omega) 0 m (bel_zero c) hn
      · rw [if_neg hg] at h2; cases h2
theorem neg_iff (x : Int32) : x < 0 ↔ bt x 31 = true := by
  rw [Int32.lt_iff_toInt_lt, Int32.toInt_zero]
  unfold bt
  rw [← Int32.toInt_toBitVec, ← BitVec.msb_eq_getLsbD_last (x := x.toBitVec), BitVec.msb_eq_toInt]
  simp
theorem bel_nneg {x : Int32} {n : Nat} (h : bel x n) (hn : n ≤ 31) : ¬ x < 0 := by
  rw [neg_iff, h 31 (by omega) hn]
  decide
theorem nneg_ne {x : Int32} (h : ¬ x < 0) : ¬ x = -1 := fun e => h (by rw [e]; decide)
/-- a set with one more, and without it again -/
theorem or_minus {m : Int32} {c : Nat} (hc : c < 31) (hm : bel m c) : (m ||| (1 <<< (nI c &&& 31))) &&& ((1 <<< (nI c &&& 31)) ^^^ (-1)) = m := by
  apply bt_ext
  intro j hj
  rw [bt_and, bt_or, bt_not _ hj, bt_one c (by omega) j hj]
  by_cases h : j = c
  · subst h
    rw [hm j hj (by omega)]
    simp
  · simp [h]
theorem c_needsOf {T : TD} {h : PH} (hT : wfT T) (hC' : CT T h) {l c : Nat} (hl : l < 4) (hc : c < tn T) : ∃ g, f_X2_needsOf (nI l) (nI c) h = some ((needsM T (fun s => h.1 32 (16 * l + s)) (h.1 30 l) c).getD (-1), hC h 56 g) := by
  have w1 := hT.1
  have key : ∀ n k m, k ≤ c + 1 → k < n → bel m c → ∃ g, f_X2_needsOf_28 (nI l) (nI c) (h.1 30 l) n (m ||| (1 <<< (nI c &&& 31))) (nI k - 1) h = some ((match ndR (sF T (fun s => h.1 32 (16 * l + s))) (h.1 30 l) c k m with
      | none => none
      | some m => if goOK T (m ||| (1 <<< (nI c &&& 31))) (fun s => h.1 32 (16 * l + s)) (tn T) = true then some m else none).getD (-1), hC h 56 g) := by
    intro n
    induction n with
    | zero => intro k m hk hn; omega
    | succ n ih =>
      intro k m hk hn hm
      rw [f_X2_needsOf_28]
      cases k with
      | zero =>
        obtain ⟨g, e⟩ := c_allGoOn hT hC' (m ||| (1 <<< (nI c &&& 31))) hl
        refine ⟨g, ?_⟩
        rw [if_pos (by decide), e, bP_some, ndR]
        show _ = some ((if goOK T (m ||| (1 <<< (nI c &&& 31))) (fun s => h.1 32 (16 * l + s)) (tn T) = true then some m else none).getD (-1), hC h 56 g)
        by_cases hg : goOK T (m ||| (1 <<< (nI c &&& 31))) (fun s => h.1 32 (16 * l + s)) (tn T) = true
        · rw [if_pos hg, hg, if_neg (by decide), or_minus (by omega) hm]
          rfl
        · rw [if_neg hg]
          simp only [Bool.not_eq_true] at hg
          rw [hg, if_pos (by decide)]
          rfl
      | succ k =>
        have ecl : f_X7_clashOf 4 32 64 (nI k) (nI l) h = some (clashM T k (fun s => h.1 32 (16 * l + s)), h) := c_clashOf hT hC' (c := k) (by omega) (V := 32) (N := 64) (r := l) (by omega) (by omega)
        rw [nI_pred, if_neg (nI_pos (by omega)), has8 _ (by omega), bO_some, ndR]
        have hbt : bt (m ||| (1 <<< (nI c &&& 31))) k = true ↔ (k = c ∨ bt m k = true) := by
          rw [bt_or, bt_one c (by omega) k (by omega)]
          by_cases e : k = c <;> simp [e]
        by_cases hb : k = c ∨ bt m k = true
        · rw [if_pos (hbt.mpr hb), if_neg (by decide), ecl, bP_some, c_settersOf hT hC' (k := k) (by omega), bP_some, if_pos hb, sF_eq]
          cases hs : sF T (fun s => h.1 32 (16 * l + s)) k with
          | none =>
            refine ⟨h.1 56, ?_⟩
            rw [hC_self]
            rfl
          | some q =>
            have hq : bel q k := sF_bel (by omega) hs
            show ∃ g, (if q = -1 then _ else _) = some ((match (if q &&& h.1 30 l = 0 then ndR (sF T (fun s => h.1 32 (16 * l + s))) (h.1 30 l) c k (m ||| q) else none) with
              | none => none
              | some m => if goOK T (m ||| (1 <<< (nI c &&& 31))) (fun s => h.1 32 (16 * l + s)) (tn T) = true then some m else none).getD (-1), hC h 56 g)
            rw [if_neg (nneg_ne (bel_nneg hq (by omega)))]
            simp only [Option.getD_some]
            by_cases hz : q &&& h.1 30 l = 0
            · rw [if_pos hz, if_pos hz, lt'_eq, nIm1']
              have e : (m ||| (1 <<< (nI c &&& 31))) ||| q = (m ||| q) ||| (1 <<< (nI c &&& 31)) := by
                apply bt_ext
                intro j hj
                rw [bt_or, bt_or, bt_or, bt_or]
                cases bt m j <;> cases bt q j <;> simp
              rw [e]
              exact ih k (m ||| q) (by omega) (by omega) (bel_or hm (bel_mono hq (by omega)))
            · rw [if_neg hz, if_neg hz]
              refine ⟨h.1 56, ?_⟩
              rw [hC_self]
              rfl
        · rw [if_neg (fun z => hb (hbt.mp z)), if_pos rfl, if_neg hb, nIm1']
          exact ih k m (by omega) (by omega) hm
  rw [f_X2_needsOf, ag_nI h 30 hl (by omega), bO_some, has8 _ (by omega), bO_some]
  unfold needsM
  by_cases hb : bt (h.1 30 l) c = true
  · refine ⟨h.1 56, ?_⟩
    rw [if_pos hb, if_neg (by decide), if_pos hb, hC_self]
    rfl
  · obtain ⟨g, e⟩ := key FU (c + 1) 0 (Nat.le_refl _) (FU_gt (by omega)) (bel_zero c)
    have e0 : (0 : Int32) ||| (1 <<< (nI c &&& 31)) = 1 <<< (nI c &&& 31) := by
      apply bt_ext
      intro j hj
      rw [bt_or, bt_zero, Bool.false_or]
    rw [nI_pred, e0] at e
    refine ⟨g, ?_⟩
    rw [if_neg hb, if_pos rfl, if_neg hb, lt'_eq]
    exact e
