def nres (T : TD) (v : Nat → Int32) (c : Nat) (o : Option Int32) : Option Int32 := match o with
  | none => none
  | some m => if goOK T (m ||| (1 <<< (nI c &&& 31))) v (tn T) = true then some m else none
theorem m_needsOf {T : TD} {h : PH} (hT : wfT T) (hM : MT T h) {l c : Nat} (hl : l < 4) (hc : c < tn T) : ∃ g, f_X9_needsOf (nI l) (nI c) h = some ((needsM T (fun s => h.1 75 (16 * l + s)) (h.1 74 l) c).getD (-1), hC h 89 g) ∧ ∀ r, needsM T (fun s => h.1 75 (16 * l + s)) (h.1 74 l) c = some r → ∀ s, s < 16 → g s = goV T (r ||| (1 <<< (nI c &&& 31))) (fun s => h.1 75 (16 * l + s)) (tn T) s := by
  have w1 := hT.1
  obtain ⟨v, hv⟩ : ∃ v, v = fun s => h.1 75 (16 * l + s) := ⟨_, rfl⟩
  obtain ⟨g0, hg0⟩ : ∃ g0, g0 = segF (h.1 89) 0 v 16 := ⟨_, rfl⟩
  have hgv : ∀ s, s < 16 → g0 s = v s := fun s hs => by rw [hg0]; exact segF_in0 hs
  have hM1 : MT T (hC h 89 g0) := hC_keepM hM g0 (V := 89) rfl (by decide)
  have e74 : (hC h 89 g0).1 74 = h.1 74 := hC_n h g0 (by decide)
  have key : ∀ n k m, k ≤ c + 1 → k < n → bel m c → ∃ g, f_X9_needsOf_25 (nI l) (nI c) n m (nI k - 1) (hC h 89 g0) = some ((nres T v c (ndR (sF T v) (h.1 74 l) c k m)).getD (-1), hC h 89 g) ∧ ∀ r, nres T v c (ndR (sF T v) (h.1 74 l) c k m) = some r → ∀ s, s < 16 → g s = goV T (r ||| (1 <<< (nI c &&& 31))) v (tn T) s := by
    intro n
    induction n with
    | zero => intro k m hk hn; omega
    | succ n ih =>
      intro k m hk hn hm
      rw [f_X9_needsOf_25]
      cases k with
      | zero =>
        obtain ⟨g, e, hgo⟩ := m_goAll hT hM1 (m ||| (1 <<< (nI c &&& 31)))
        rw [hC_s, hC_hC, goOK_congr hgv] at e
        rw [hC_s, goOK_congr hgv] at hgo
        rw [if_pos (by decide), e, bP_some, ndR, nres]
        by_cases hg : goOK T (m ||| (1 <<< (nI c &&& 31))) v (tn T) = true
        · rw [if_pos hg, hg, if_neg (by decide)]
          refine ⟨g, rfl, ?_⟩
          intro r hr s hs
          cases hr
          rw [hgo hg]
          exact goV_congr hgv (tn T) s hs
        · rw [if_neg hg]
          simp only [Bool.not_eq_true] at hg
          rw [hg, if_pos (by decide)]
          exact ⟨g, rfl, fun r hr => by cases hr⟩
      | succ k =>
        have ecl : f_X9_clashOf (nI k) (hC h 89 g0) = some (clashM T k v, hC h 89 g0) := by
          have e := m_clashOf hT hM1 (c := k) (by omega)
          rw [hC_s, clashM_congr hgv] at e
          exact e
        have e45 : f_X9_needsOf_45 (nI l) (nI c) (f_X9_needsOf_25 (nI l) (nI c) n) m (nI k) (hC h 89 g0) = match sF T v k with
            | none => some (-1, hC h 89 g0)
            | some q => if q &&& h.1 74 l = 0 then f_X9_needsOf_25 (nI l) (nI c) n (m ||| q) (nI k + (-1)) (hC h 89 g0) else some (-1, hC h 89 g0) := by
          rw [f_X9_needsOf_45, ecl, bP_some, m_inner hT hM1 hl (k := k) (by omega), e74, sF_eq]
          generalize sF T v k = o
          cases o <;> rfl
        rw [nI_pred, if_neg (nI_pos (by omega)), ndR]
        have main : (k = c ∨ bt m k = true) → ∃ g, f_X9_needsOf_45 (nI l) (nI c) (f_X9_needsOf_25 (nI l) (nI c) n) m (nI k) (hC h 89 g0) = some ((nres T v c (if k = c ∨ bt m k = true then (match sF T v k with
              | none => none
              | some q => if q &&& h.1 74 l = 0 then ndR (sF T v) (h.1 74 l) c k (m ||| q) else none) else ndR (sF T v) (h.1 74 l) c k m)).getD (-1), hC h 89 g) ∧ ∀ r, nres T v c (if k = c ∨ bt m k = true then (match sF T v k with
              | none => none
              | some q => if q &&& h.1 74 l = 0 then ndR (sF T v) (h.1 74 l) c k (m ||| q) else none) else ndR (sF T v) (h.1 74 l) c k m) = some r → ∀ s, s < 16 → g s = goV T (r ||| (1 <<< (nI c &&& 31))) v (tn T) s := by
          intro hb
          rw [e45, if_pos hb]
          cases hs : sF T v k with
          | none => exact ⟨g0, rfl, fun r hr => by cases hr⟩
          | some q =>
            have hq : bel q k := sF_bel (by omega) hs
            show ∃ g, (if q &&& h.1 74 l = 0 then f_X9_needsOf_25 (nI l) (nI c) n (m ||| q) (nI k + (-1)) (hC h 89 g0) else some (-1, hC h 89 g0)) = some ((nres T v c (if q &&& h.1 74 l = 0 then ndR (sF T v) (h.1 74 l) c k (m ||| q) else none)).getD (-1), hC h 89 g) ∧ ∀ r, nres T v c (if q &&& h.1 74 l = 0 then ndR (sF T v) (h.1 74 l) c k (m ||| q) else none) = some r → ∀ s, s < 16 → g s = goV T (r ||| (1 <<< (nI c &&& 31))) v (tn T) s
            by_cases hz : q &&& h.1 74 l = 0
            · rw [if_pos hz, if_pos hz, nIm1']
              exact ih k (m ||| q) (by omega) (by omega) (bel_or hm (bel_mono hq (by omega)))
            · rw [if_neg hz, if_neg hz]
              exact ⟨g0, rfl, fun r hr => by cases hr⟩
        by_cases hkc : k = c
        · rw [if_pos (show nI k = nI c by rw [hkc])]
          exact main (Or.inl hkc)
        · rw [if_neg (show ¬ nI k = nI c by rw [eqN (by omega) (by omega)]; exact hkc), has9 _ (by omega), bO_some]
          by_cases hb : bt m k = true
          · rw [if_pos hb, if_neg (by decide)]
            exact main (Or.inr hb)
          · rw [if_neg hb, if_pos rfl, if_neg (by intro z; rcases z with z | z; exact hkc z; exact hb z), nIm1']
            exact ih k m (by omega) (by omega) hm
  rw [f_X9_needsOf, ag_nI h 74 hl (by omega), bO_some, has9 _ (by omega), bO_some, m_tryLine hl, ← hv]
  unfold needsM
  by_cases hb : bt (h.1 74 l) c = true
  · refine ⟨h.1 89, ?_, fun r hr => by rw [if_pos hb] at hr; cases hr⟩
    rw [if_pos hb, if_neg (by decide), if_pos hb, hC_self]
    rfl
  · obtain ⟨g, e, hr⟩ := key FU (c + 1) 0 (Nat.le_refl _) (FU_gt (by omega)) (bel_zero c)
    rw [nI_pred] at e
    refine ⟨g, ?_, ?_⟩
    · rw [if_neg hb, if_pos rfl, if_neg hb, bO_some, ← hg0]
      exact e
    · rw [if_neg hb]
      exact hr
