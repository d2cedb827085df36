/-! ===== going on cleanly ===== -/
theorem lp_P {α β : Type} (F : Nat → α → Nat → Option β) (st : Nat → α) (N : Nat) (Pr : Option β → Prop) (I : Nat → Prop) (hx : ∀ n, I N → Pr (F (n + 1) (st N) N)) (hs : ∀ n i, i < N → I i → Pr (F (n + 1) (st i) i) ∨ (I (i + 1) ∧ F (n + 1) (st i) i = F n (st (i + 1)) (i + 1))) : ∀ n i, i ≤ N → N - i < n → I i → Pr (F n (st i) i) := by
  intro n
  induction n with
  | zero => intro i hi hn; omega
  | succ n ih =>
    intro i hi hn hI
    by_cases h : i = N
    · subst h; exact hx n hI
    · rcases hs n i (by omega) hI with e | ⟨hI2, e⟩
      · exact e
      · rw [e]
        exact ih (i + 1) (by omega) (by omega) hI2
/-- k places from b on are v's -/
def segF (f : Nat → Int32) (b : Nat) (v : Nat → Int32) (k : Nat) : Nat → Int32 := fun j => if b ≤ j ∧ j < b + k then v (j - b) else f j
theorem segF_0 (f : Nat → Int32) (b : Nat) (v : Nat → Int32) : segF f b v 0 = f := by
  funext j; unfold segF; rw [if_neg (by omega)]
theorem segF_s (f : Nat → Int32) (b : Nat) (v : Nat → Int32) (k : Nat) : upd (segF f b v k) (b + k) (v k) = segF f b v (k + 1) := by
  funext j
  unfold upd segF
  by_cases h : j = b + k
  · subst h
    rw [if_pos rfl, if_pos (by omega)]
    congr 1; omega
  · rw [if_neg h]
    by_cases h2 : b ≤ j ∧ j < b + k
    · rw [if_pos h2, if_pos (by omega)]
    · rw [if_neg h2, if_neg (by omega)]
theorem segF_out {f : Nat → Int32} {b : Nat} {v : Nat → Int32} {k j : Nat} (h : ¬ (b ≤ j ∧ j < b + k)) : segF f b v k j = f j := by unfold segF; rw [if_neg h]
theorem segF_in {f : Nat → Int32} {b : Nat} {v : Nat → Int32} {k s : Nat} (h : s < k) : segF f b v k (b + s) = v s := by
  unfold segF; rw [if_pos (by omega)]; congr 1; omega
theorem segF_in0 {f : Nat → Int32} {v : Nat → Int32} {k s : Nat} (h : s < k) : segF f 0 v k s = v s := by
  unfold segF; rw [if_pos (by omega)]; congr 1
theorem segF_same {f : Nat → Int32} {b : Nat} {v : Nat → Int32} {k : Nat} (h : v k = f (b + k)) : segF f b v (k + 1) = segF f b v k := by
  funext j
  unfold segF
  by_cases h2 : j = b + k
  · subst h2
    rw [if_pos (by omega), if_neg (by omega), ← h]
    congr 1; omega
  · by_cases h3 : b ≤ j ∧ j < b + k
    · rw [if_pos h3, if_pos (by omega)]
    · rw [if_neg h3, if_neg (by omega)]
theorem segF_congr {f : Nat → Int32} {b : Nat} {v w : Nat → Int32} {k : Nat} (h : ∀ s, s < k → v s = w s) : segF f b v k = segF f b w k := by
  funext j
  unfold segF
  by_cases h3 : b ≤ j ∧ j < b + k
  · rw [if_pos h3, if_pos h3, h _ (by omega)]
  · rw [if_neg h3, if_neg h3]
theorem hC_keepC {T : TD} {h : PH} (hC' : CT T h) {V : Nat} (f : Nat → Int32) (hV : CTc V = false) : CT T (hC h V f) := hC'.keep (fun k hk => hC_n h f (fun e => by rw [e, hV] at hk; cases hk))
theorem hC_keepM {T : TD} {h : PH} (hM : MT T h) {V : Nat} (f : Nat → Int32) (hV : MTc V = false) (h66 : V ≠ 66) : MT T (hC h V f) := hM.keep (fun k hk => hC_n h f (fun e => by rw [e, hV] at hk; cases hk)) (by rw [hC_n h f (Ne.symm h66)]) (by rw [hC_n h f (Ne.symm h66)])
theorem hU_keepC {T : TD} {h : PH} (hC' : CT T h) {V : Nat} (k : Nat) (v : Int32) (hV : CTc V = false) : CT T (hU h V k v) := hC_keepC hC' _ hV
theorem hU_keepM {T : TD} {h : PH} (hM : MT T h) {V : Nat} (k : Nat) (v : Int32) (hV : MTc V = false) (h66 : V ≠ 66) : MT T (hU h V k v) := hC_keepM hM _ hV h66
theorem cpy_nI (h : PH) (V U : Nat) {n m sp dp len : Nat} (h1 : sp + len ≤ n) (h2 : dp + len ≤ m) (hn : n < 2 ^ 31) (hm : m < 2 ^ 31) : cpy h V n (nI sp) U m (nI dp) (nI len) = some (hC h U (segF (h.1 U) dp (fun s => h.1 V (sp + s)) len)) := by
  unfold cpy
  rw [if_pos ⟨nI_pos (by omega), nI_pos (by omega), nI_pos (by omega), by rw [cl (by omega), cl (by omega)]; exact h1, by rw [cl (by omega), cl (by omega)]; exact h2⟩, cl (by omega), cl (by omega), cl (by omega)]
  rfl
def clashP (T : TD) (c : Nat) (v : Nat → Int32) (s : Nat) : Bool := bt (setsM T c ||| trd T c) s && !decide (v s = ahd T c s)
def clashM (T : TD) (c : Nat) (v : Nat → Int32) : Int32 := mkI (clashP T c v) 16
def putM (T : TD) (c : Nat) (v : Nat → Int32) : Nat → Int32 := fun s => if sb T c s = true then tst T c s else v s
theorem clashM_congr {T : TD} {c : Nat} {v w : Nat → Int32} (h : ∀ s, s < 16 → v s = w s) : clashM T c v = clashM T c w := mkI_congr (fun k hk => by unfold clashP; rw [h k hk])
theorem bt_sets {T : TD} {c s : Nat} (hs : s < 16) : bt (setsM T c) s = sb T c s := by
  unfold setsM; rw [bt_mkI _ _ (by omega) s (by omega)]; simp [hs]
theorem c_clashOf {T : TD} {h : PH} (hT : wfT T) (hC' : CT T h) {c : Nat} (hc : c < tn T) {V N r : Nat} (hN : 16 * r + 16 ≤ N) (hN2 : N < 2 ^ 30) : f_X7_clashOf 4 V N (nI c) (nI r) h = some (clashM T c (fun s => h.1 V (16 * r + s)), h) := by
  obtain ⟨w1, w2, w3, w4, w5, w6, w7, w8⟩ := hT
  obtain ⟨q0, q6, q1, q2, q3⟩ := hC'
  have e5 : ag h (4 + 1) 24 (nI c) = some (setsM T c) := by rw [ag_nI h _ (by omega) (by decide)]; exact congrArg some (q1 c hc).1
  have e6 : ag h (4 + 2) 24 (nI c) = some (trd T c) := by rw [ag_nI h _ (by omega) (by decide)]; exact congrArg some (q1 c hc).2.1
  rw [f_X7_clashOf, e5, bO_some, e6, bO_some, lt'_eq]
  refine lp_up (fun n a i => f_X7_clashOf_21 4 V N (nI c) (nI r) (setsM T c ||| trd T c) n a (nI i) h) (mkI (clashP T c (fun s => h.1 V (16 * r + s)))) 16 _ (fun n => ?_) (fun n i hi => ?_) FU 0 (Nat.zero_le _) (FU_gt (by omega))
  · show f_X7_clashOf_21 4 V N (nI c) (nI r) (setsM T c ||| trd T c) (n + 1) _ _ h = _
    rw [f_X7_clashOf_21, if_pos (p16 (by omega) (by omega))]
    rfl
  · show f_X7_clashOf_21 4 V N (nI c) (nI r) (setsM T c ||| trd T c) (n + 1) _ _ h = f_X7_clashOf_21 4 V N (nI c) (nI r) (setsM T c ||| trd T c) n _ _ h
    have eV : ag h V N (nI r * 16 + nI i) = some (h.1 V (16 * r + i)) := by rw [ixC, ag_nI h _ (by omega) (by omega)]
    have e9 : ag h (4 + 5) 400 (nI c * 16 + nI i) = some (ahd T c i) := by rw [ixC, ag_nI h _ (by omega) (by decide)]; exact congrArg some (q2 c (by omega) i hi)
    rw [f_X7_clashOf_21, if_neg (n16 hi), has8 _ (by omega), bO_some, mkI, ← nI1]
    by_cases hb : bt (setsM T c ||| trd T c) i = true
    · rw [if_pos hb, if_neg (by decide), eV, bO_some, e9, bO_some]
      by_cases he : h.1 V (16 * r + i) = ahd T c i
      · rw [if_pos he, if_neg (by simp [clashP, he])]
      · rw [if_neg he, lt'_eq, if_pos (by simp [clashP, he, hb])]
    · rw [if_neg hb, if_pos rfl, if_neg (by simp [clashP, hb])]
theorem m_clashOf {T : TD} {h : PH} (hT : wfT T) (hM : MT T h) {c : Nat} (hc : c < tn T) : f_X9_clashOf (nI c) h = some (clashM T c (h.1 89), h) := by
  have hs := m_setsOf hT hM hc
  obtain ⟨w1, w2, w3, w4, w5, w6, w7, w8⟩ := hT
  obtain ⟨q0, q6, q1, q2, q3⟩ := hM
  have e6 : ag h 68 24 (nI c) = some (trd T c) := by rw [ag_nI h _ (by omega) (by decide)]; exact congrArg some (q1 c hc).1
  rw [f_X9_clashOf, hs, bP_some, e6, bO_some, lt'_eq]
  refine lp_up (fun n a i => f_X9_clashOf_18 (nI c) (setsM T c ||| trd T c) n a (nI i) h) (mkI (clashP T c (h.1 89))) 16 _ (fun n => ?_) (fun n i hi => ?_) FU 0 (Nat.zero_le _) (FU_gt (by omega))
  · show f_X9_clashOf_18 (nI c) (setsM T c ||| trd T c) (n + 1) _ _ h = _
    rw [f_X9_clashOf_18, if_pos (p16 (by omega) (by omega))]
    rfl
  · show f_X9_clashOf_18 (nI c) (setsM T c ||| trd T c) (n + 1) _ _ h = f_X9_clashOf_18 (nI c) (setsM T c ||| trd T c) n _ _ h
    have eV : ag h 89 16 (nI i) = some (h.1 89 i) := ag_nI h _ (by omega) (by omega)
    have e9 : f_X9_aheadOf (nI c) (nI i) h = some (ahd T c i, h) := by rw [f_X9_aheadOf, ixM, ag_nI h _ (by omega) (by decide), bO_some, q2 c (by omega) i hi]
    rw [f_X9_clashOf_18, if_neg (n16 hi), has9 _ (by omega), bO_some, mkI, ← nI1]
    by_cases hb : bt (setsM T c ||| trd T c) i = true
    · rw [if_pos hb, if_neg (by decide), eV, bO_some, e9, bP_some]
      by_cases he : h.1 89 i = ahd T c i
      · rw [if_pos he, lt'_eq, or0, if_neg (by simp [clashP, he])]
      · rw [if_neg he, lt'_eq, if_pos (by simp [clashP, he, hb])]
    · rw [if_neg hb, if_pos rfl, lt'_eq, or0, if_neg (by simp [clashP, hb])]
theorem c_putOn {T : TD} {h : PH} (hT : wfT T) (hC' : CT T h) {c : Nat} (hc : c < tn T) {V N r : Nat} (hV : CTc V = false) (hN : 16 * r + 16 ≤ N) (hN2 : N < 2 ^ 30) : f_X7_putOn 4 V N (nI c) (nI r) h = some (hC h V (segF (h.1 V) (16 * r) (putM T c (fun s => h.1 V (16 * r + s))) 16)) := by
  obtain ⟨w1, w2, w3, w4, w5, w6, w7, w8⟩ := hT
  have h0 : h = hC h V (segF (h.1 V) (16 * r) (putM T c (fun s => h.1 V (16 * r + s))) 0) := by rw [segF_0, hC_self]
  rw [f_X7_putOn]
  conv => lhs; rw [h0]
  refine lp_up (fun n a i => f_X7_putOn_3 4 V N (nI c) (nI r) n (nI i) a) (fun i => hC h V (segF (h.1 V) (16 * r) (putM T c (fun s => h.1 V (16 * r + s))) i)) 16 _ (fun n => ?_) (fun n i hi => ?_) FU 0 (Nat.zero_le _) (FU_gt (by omega))
  · show f_X7_putOn_3 4 V N (nI c) (nI r) (n + 1) (nI 16) _ = _
    rw [f_X7_putOn_3, if_pos (p16 (by omega) (by omega))]
  · show f_X7_putOn_3 4 V N (nI c) (nI r) (n + 1) (nI i) _ = f_X7_putOn_3 4 V N (nI c) (nI r) n (nI (i + 1)) _
    obtain ⟨q0, q6, q1, q2, q3⟩ := hC_keepC hC' (segF (h.1 V) (16 * r) (putM T c (fun s => h.1 V (16 * r + s))) i) hV
    have e5 : ag (hC h V (segF (h.1 V) (16 * r) (putM T c (fun s => h.1 V (16 * r + s))) i)) (4 + 1) 24 (nI c) = some (setsM T c) := by rw [ag_nI _ _ (by omega) (by decide)]; exact congrArg some (q1 c hc).1
    have e8 : ag (hC h V (segF (h.1 V) (16 * r) (putM T c (fun s => h.1 V (16 * r + s))) i)) (4 + 4) 384 (nI c * 16 + nI i) = some (tst T c i) := by rw [ixC, ag_nI _ _ (by omega) (by decide)]; exact congrArg some ((q1 c hc).2.2.2 i hi)
    rw [f_X7_putOn_3, if_neg (n16 hi), e5, bO_some, has8 _ (by omega), bO_some, bt_sets hi, ← nI1]
    by_cases hb : sb T c i = true
    · rw [if_pos hb, if_neg (by decide), e8, bO_some, ixC, asg_nI _ _ _ (by omega) (by omega), bO_some, hC_hU]
      have e : tst T c i = putM T c (fun s => h.1 V (16 * r + s)) i := by unfold putM; rw [if_pos hb]
      rw [e, segF_s]
    · rw [if_neg hb, if_pos rfl, segF_same (by unfold putM; rw [if_neg hb])]
theorem m_goOn {T : TD} {h : PH} (hT : wfT T) (hM : MT T h) {c : Nat} (hc : c < tn T) : f_X9_goOn (nI c) h = some (hC h 89 (segF (h.1 89) 0 (putM T c (h.1 89)) 16)) := by
  obtain ⟨w1, w2, w3, w4, w5, w6, w7, w8⟩ := hT
  have h0 : h = hC h 89 (segF (h.1 89) 0 (putM T c (h.1 89)) 0) := by rw [segF_0, hC_self]
  rw [f_X9_goOn]
  conv => lhs; rw [h0]
  refine lp_up (fun n a i => f_X9_goOn_2 (nI c) n (nI i) a) (fun i => hC h 89 (segF (h.1 89) 0 (putM T c (h.1 89)) i)) 16 _ (fun n => ?_) (fun n i hi => ?_) FU 0 (Nat.zero_le _) (FU_gt (by omega))
  · show f_X9_goOn_2 (nI c) (n + 1) (nI 16) _ = _
    rw [f_X9_goOn_2, if_pos (p16 (by omega) (by omega))]
  · show f_X9_goOn_2 (nI c) (n + 1) (nI i) _ = f_X9_goOn_2 (nI c) n (nI (i + 1)) _
    obtain ⟨q0, q6, q1, q2, q3⟩ := hC_keepM hM (segF (h.1 89) 0 (putM T c (h.1 89)) i) (V := 89) rfl (by decide)
    have e8 : ag (hC h 89 (segF (h.1 89) 0 (putM T c (h.1 89)) i)) 67 384 (16 * nI c + nI i) = some (tst T c i) := by rw [ixM, ag_nI _ _ (by omega) (by decide)]; exact congrArg some ((q1 c hc).2.2 i hi)
    have e9 : ag (hC h 89 (segF (h.1 89) 0 (putM T c (h.1 89)) i)) 89 16 (nI i) = some (h.1 89 i) := by rw [ag_nI _ _ (by omega) (by decide), hC_s, segF_out (by omega)]
    have hs := segF_s (h.1 89) 0 (putM T c (h.1 89)) i
    rw [Nat.zero_add] at hs
    rw [f_X9_goOn_2, if_neg (n16 hi), e8, bO_some]
    by_cases hb : tst T c i ≤ 0
    · have e : h.1 89 i = putM T c (h.1 89) i := by unfold putM; rw [if_neg (by simp [sb, hb])]
      rw [if_pos hb, e9, bO_some, f_X9_goOn_47, asg_nI _ _ _ (by omega) (by omega), bO_some, hC_hU, nI1, e, hs]
    · have e : tst T c i = putM T c (h.1 89) i := by unfold putM; rw [if_pos (by simp [sb, hb])]
      rw [if_neg hb, bO_some, f_X9_goOn_47, asg_nI _ _ _ (by omega) (by omega), bO_some, hC_hU, nI1, e, hs]
theorem m_tryLine {h : PH} {l : Nat} (hl : l < 4) : f_X9_tryLine (nI l) h = some (hC h 89 (segF (h.1 89) 0 (fun s => h.1 75 (16 * l + s)) 16)) := by
  have h0 : h = hC h 89 (segF (h.1 89) 0 (fun s => h.1 75 (16 * l + s)) 0) := by rw [segF_0, hC_self]
  rw [f_X9_tryLine]
  conv => lhs; rw [h0]
  refine lp_up (fun n a i => f_X9_tryLine_2 (nI l) n (nI i) a) (fun i => hC h 89 (segF (h.1 89) 0 (fun s => h.1 75 (16 * l + s)) i)) 16 _ (fun n => ?_) (fun n i hi => ?_) FU 0 (Nat.zero_le _) (FU_gt (by omega))
  · show f_X9_tryLine_2 (nI l) (n + 1) (nI 16) _ = _
    rw [f_X9_tryLine_2, if_pos (p16 (by omega) (by omega))]
  · show f_X9_tryLine_2 (nI l) (n + 1) (nI i) _ = f_X9_tryLine_2 (nI l) n (nI (i + 1)) _
    have e8 : ag (hC h 89 (segF (h.1 89) 0 (fun s => h.1 75 (16 * l + s)) i)) 75 64 (16 * nI l + nI i) = some (h.1 75 (16 * l + i)) := by rw [ixM, ag_nI _ _ (by omega) (by decide), hC_n _ _ (by decide)]
    have hs := segF_s (h.1 89) 0 (fun s => h.1 75 (16 * l + s)) i
    rw [Nat.zero_add] at hs
    rw [f_X9_tryLine_2, if_neg (n16 hi), e8, bO_some, asg_nI _ _ _ (by omega) (by omega), bO_some, hC_hU, nI1, hs]
theorem c_lay {h : PH} {l V : Nat} (hl : l < 4) : f_X2_lay V 16 (nI l) h = some (hC h V (segF (h.1 V) 0 (fun s => h.1 32 (16 * l + s)) 16)) := by
  have e := cpy_nI h 32 V (n := 64) (m := 16) (sp := 16 * l) (dp := 0) (len := 16) (by omega) (by omega) (by omega) (by omega)
  have e2 : nI l * 16 = nI (16 * l) := by rw [show (16 : Int32) = nI 16 from rfl, pk_mul, Nat.mul_comm]
  rw [f_X2_lay, e2, show (0 : Int32) = nI 0 from rfl, show (16 : Int32) = nI 16 from rfl, e, bO_some]
