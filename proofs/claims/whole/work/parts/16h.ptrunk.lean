/-! ===== trunk ===== -/
theorem m_keepTrunk {T : TD} {h : PH} (w : wfT T) (d : DMt T h) : ∃ H, f_X9_keepTrunk h = some H ∧ MT T H ∧ H.1 66 8 = 0 ∧ H.1 66 13 = 0 ∧ H.1 97 0 = 0 ∧ H.1 97 1 = 0 ∧ (∀ V, V ≠ 66 → ¬ (67 ≤ V ∧ V ≤ 72) → V ≠ 88 → V ≠ 97 → H.1 V = h.1 V) ∧ ∀ i, i ≠ 0 → i ≠ 4 → i ≠ 8 → i ≠ 13 → H.1 66 i = h.1 66 i := by
  have n24 := w.1
  have f10 := w.2.1
  obtain ⟨d0, d6, d1, d3⟩ := d
  obtain ⟨g, hg⟩ : ∃ g, g = hU (hU h 66 0 (nI (tn T))) 66 4 (nI (tf T)) := ⟨_, rfl⟩
  have g0 : g.1 66 0 = nI (tn T) := by rw [hg, hU_s, upd_n _ _ (by decide), hU_s, upd_s]
  have g4 : g.1 66 4 = nI (tf T) := by rw [hg, hU_s, upd_s]
  have gO : ∀ V, V ≠ 66 → g.1 V = h.1 V := fun V hV => by rw [hg, hU_n _ _ _ hV, hU_n _ _ _ hV]
  have l18 : ∃ H1, f_X9_keepTrunk_18 FU 0 g = f_X9_keepTrunk_49 FU 0 H1 ∧ (∀ V, V ≠ 67 → H1.1 V = g.1 V) ∧ ∀ j, j < 16 * tn T → H1.1 67 j = h.1 82 j := by
    refine glF (fun n (_ : Unit) i h => f_X9_keepTrunk_18 n (nI i) h) (fun i _ H => (∀ V, V ≠ 67 → H.1 V = g.1 V) ∧ ∀ j, j < i → H.1 67 j = h.1 82 j) (16 * tn T) (fun o => ∃ H1, o = f_X9_keepTrunk_49 FU 0 H1 ∧ (∀ V, V ≠ 67 → H1.1 V = g.1 V) ∧ ∀ j, j < 16 * tn T → H1.1 67 j = h.1 82 j) (by omega) (fun _ H hI n => ?_) (fun i _ H hi hI => Or.inr ?_) (i := 0) (b := ()) (Nat.zero_le _) ⟨fun _ _ => rfl, fun c hc => absurd hc (Nat.not_lt_zero c)⟩
    · refine ⟨H, ?_, hI⟩
      show f_X9_keepTrunk_18 (n + 1) _ H = _
      rw [f_X9_keepTrunk_18, hI.1 66 (by decide), g0, mul16', if_pos (Int32.le_refl _)]
    · obtain ⟨i1, i2⟩ := hI
      refine ⟨(), hU H 67 i (h.1 82 i), ⟨fun V hV => (hU_n _ _ _ hV).trans (i1 V hV), fun j hj => ?_⟩, fun n => ?_⟩
      · rw [hU_s]
        by_cases e : j = i
        · subst e; rw [upd_s]
        · rw [upd_n _ _ e]; exact i2 j (by omega)
      · show f_X9_keepTrunk_18 (n + 1) (nI i) H = f_X9_keepTrunk_18 n (nI (i + 1)) _
        rw [f_X9_keepTrunk_18, i1 66 (by decide), g0, mul16', if_neg (nle hi (by omega)), ag_nI H 82 (by omega) (by omega), bO_some, i1 82 (by decide), gO 82 (by decide), asg_nI _ 67 _ (by omega) (by omega), bO_some, nI1]
  obtain ⟨H1, e1, o1, s1⟩ := l18
  have l49 : ∃ H2, f_X9_keepTrunk_49 FU 0 H1 = f_X9_keepTrunk_89 FU 0 H2 ∧ (∀ V, V ≠ 68 → V ≠ 69 → H2.1 V = H1.1 V) ∧ ∀ j, j < tn T → H2.1 68 j = h.1 83 j ∧ H2.1 69 j = h.1 84 j := by
    refine glF (fun n (_ : Unit) i h => f_X9_keepTrunk_49 n (nI i) h) (fun i _ H => (∀ V, V ≠ 68 → V ≠ 69 → H.1 V = H1.1 V) ∧ ∀ j, j < i → H.1 68 j = h.1 83 j ∧ H.1 69 j = h.1 84 j) (tn T) (fun o => ∃ H2, o = f_X9_keepTrunk_89 FU 0 H2 ∧ (∀ V, V ≠ 68 → V ≠ 69 → H2.1 V = H1.1 V) ∧ ∀ j, j < tn T → H2.1 68 j = h.1 83 j ∧ H2.1 69 j = h.1 84 j) (by omega) (fun _ H hI n => ?_) (fun i _ H hi hI => Or.inr ?_) (i := 0) (b := ()) (Nat.zero_le _) ⟨fun _ _ _ => rfl, fun c hc => absurd hc (Nat.not_lt_zero c)⟩
    · refine ⟨H, ?_, hI⟩
      show f_X9_keepTrunk_49 (n + 1) _ H = _
      rw [f_X9_keepTrunk_49, hI.1 66 (by decide) (by decide), o1 66 (by decide), g0, if_pos (Int32.le_refl _)]
    · obtain ⟨i1, i2⟩ := hI
      refine ⟨(), hU (hU H 68 i (h.1 83 i)) 69 i (h.1 84 i), ⟨fun V h1 h2 => by rw [hU_n _ _ _ h2, hU_n _ _ _ h1]; exact i1 V h1 h2, fun j hj => ?_⟩, fun n => ?_⟩
      · show upd (H.1 68) i (h.1 83 i) j = _ ∧ upd (H.1 69) i (h.1 84 i) j = _
        by_cases e : j = i
        · subst e; rw [upd_s, upd_s]; exact ⟨rfl, rfl⟩
        · rw [upd_n _ _ e, upd_n _ _ e]; exact i2 j (by omega)
      · show f_X9_keepTrunk_49 (n + 1) (nI i) H = f_X9_keepTrunk_49 n (nI (i + 1)) _
        rw [f_X9_keepTrunk_49, i1 66 (by decide) (by decide), o1 66 (by decide), g0, if_neg (nle hi (by omega)), ag_nI H 83 (by omega) (by omega), bO_some, i1 83 (by decide) (by decide), o1 83 (by decide), gO 83 (by decide), asg_nI _ 68 _ (by omega) (by omega), bO_some, ag_nI _ 84 (by omega) (by omega), bO_some, hU_n _ _ _ (show 84 ≠ 68 by decide), i1 84 (by decide) (by decide), o1 84 (by decide), gO 84 (by decide), asg_nI _ 69 _ (by omega) (by omega), bO_some, nI1]
  obtain ⟨H2, e2, o2, s2⟩ := l49
  have l89 : ∃ H3, f_X9_keepTrunk_89 FU 0 H2 = (bO (f_X9_findAhead H3) (fun h140 => lt' (hU h140 66 8 0) (fun h145 => lt' (hU h145 66 13 0) (fun h150 => bO (asg h150 97 2 0 (vp_nar .boolean 0)) (fun h159 => bO (asg h159 97 2 1 (vp_nar .boolean 0)) (fun h166 => some h166)))))) ∧ (∀ V, V ≠ 70 → V ≠ 71 → V ≠ 72 → H3.1 V = H2.1 V) ∧ ∀ j, j < tf T → H3.1 70 j = h.1 85 j ∧ H3.1 71 j = h.1 86 j ∧ H3.1 72 j = h.1 87 j := by
    refine glF (fun n (_ : Unit) i h => f_X9_keepTrunk_89 n (nI i) h) (fun i _ H => (∀ V, V ≠ 70 → V ≠ 71 → V ≠ 72 → H.1 V = H2.1 V) ∧ ∀ j, j < i → H.1 70 j = h.1 85 j ∧ H.1 71 j = h.1 86 j ∧ H.1 72 j = h.1 87 j) (tf T) (fun o => ∃ H3, o = (bO (f_X9_findAhead H3) (fun h140 => lt' (hU h140 66 8 0) (fun h145 => lt' (hU h145 66 13 0) (fun h150 => bO (asg h150 97 2 0 (vp_nar .boolean 0)) (fun h159 => bO (asg h159 97 2 1 (vp_nar .boolean 0)) (fun h166 => some h166)))))) ∧ (∀ V, V ≠ 70 → V ≠ 71 → V ≠ 72 → H3.1 V = H2.1 V) ∧ ∀ j, j < tf T → H3.1 70 j = h.1 85 j ∧ H3.1 71 j = h.1 86 j ∧ H3.1 72 j = h.1 87 j) (by omega) (fun _ H hI n => ?_) (fun i _ H hi hI => Or.inr ?_) (i := 0) (b := ()) (Nat.zero_le _) ⟨fun _ _ _ _ => rfl, fun c hc => absurd hc (Nat.not_lt_zero c)⟩
    · refine ⟨H, ?_, hI⟩
      show f_X9_keepTrunk_89 (n + 1) _ H = _
      rw [f_X9_keepTrunk_89, hI.1 66 (by decide) (by decide) (by decide), o2 66 (by decide) (by decide), o1 66 (by decide), g4, if_pos (Int32.le_refl _)]
    · obtain ⟨i1, i2⟩ := hI
      refine ⟨(), hU (hU (hU H 70 i (h.1 85 i)) 71 i (h.1 86 i)) 72 i (h.1 87 i), ⟨fun V h1 h2 h3 => by rw [hU_n _ _ _ h3, hU_n _ _ _ h2, hU_n _ _ _ h1]; exact i1 V h1 h2 h3, fun j hj => ?_⟩, fun n => ?_⟩
      · show upd (H.1 70) i (h.1 85 i) j = _ ∧ upd (H.1 71) i (h.1 86 i) j = _ ∧ upd (H.1 72) i (h.1 87 i) j = _
        by_cases e : j = i
        · subst e; rw [upd_s, upd_s, upd_s]; exact ⟨rfl, rfl, rfl⟩
        · rw [upd_n _ _ e, upd_n _ _ e, upd_n _ _ e]; exact i2 j (by omega)
      · have r85 : ∀ V, V ≠ 70 → V ≠ 71 → V ≠ 72 → V ≠ 68 → V ≠ 69 → V ≠ 67 → V ≠ 66 → H.1 V = h.1 V := fun V a b c d e f k => by rw [i1 V a b c, o2 V d e, o1 V f, gO V k]
        show f_X9_keepTrunk_89 (n + 1) (nI i) H = f_X9_keepTrunk_89 n (nI (i + 1)) _
        rw [f_X9_keepTrunk_89, i1 66 (by decide) (by decide) (by decide), o2 66 (by decide) (by decide), o1 66 (by decide), g4, if_neg (nle hi (by omega)), ag_nI H 85 (by omega) (by omega), bO_some, r85 85 (by decide) (by decide) (by decide) (by decide) (by decide) (by decide) (by decide), asg_nI _ 70 _ (by omega) (by omega), bO_some, ag_nI _ 86 (by omega) (by omega), bO_some, hU_n _ _ _ (show 86 ≠ 70 by decide), r85 86 (by decide) (by decide) (by decide) (by decide) (by decide) (by decide) (by decide), asg_nI _ 71 _ (by omega) (by omega), bO_some, ag_nI _ 87 (by omega) (by omega), bO_some, hU_n _ _ _ (show 87 ≠ 71 by decide), hU_n _ _ _ (show 87 ≠ 70 by decide), r85 87 (by decide) (by decide) (by decide) (by decide) (by decide) (by decide) (by decide), asg_nI _ 72 _ (by omega) (by omega), bO_some, nI1]
  obtain ⟨H3, e3, o3, s3⟩ := l89
  have r66 : H3.1 66 = g.1 66 := by rw [o3 66 (by decide) (by decide) (by decide), o2 66 (by decide) (by decide), o1 66 (by decide)]
  have r67 : ∀ k, k < tn T → ∀ s, s < 16 → H3.1 67 (16 * k + s) = tst T k s := fun k hk s hs => by
    rw [o3 67 (by decide) (by decide) (by decide), o2 67 (by decide) (by decide), s1 _ (by omega)]
    exact (d1 k hk).2.2 s hs
  obtain ⟨H4, e4, o4, s4⟩ := m_findAhead n24 (by rw [r66]; exact g0) r67
  have a1 : asg (hU (hU H4 66 8 0) 66 13 0) 97 2 0 (vp_nar .boolean 0) = some (hU (hU (hU H4 66 8 0) 66 13 0) 97 0 0) := asg_nI (i := 0) (n := 2) _ 97 0 (by omega) (by omega)
  have a2 : asg (hU (hU (hU H4 66 8 0) 66 13 0) 97 0 0) 97 2 1 (vp_nar .boolean 0) = some (hU (hU (hU (hU H4 66 8 0) 66 13 0) 97 0 0) 97 1 0) := asg_nI (i := 1) (n := 2) _ 97 0 (by omega) (by omega)
  obtain ⟨H, hH⟩ : ∃ H, H = hU (hU (hU (hU H4 66 8 0) 66 13 0) 97 0 0) 97 1 0 := ⟨_, rfl⟩
  have t66 : H.1 66 = upd (upd (g.1 66) 8 0) 13 0 := by rw [hH, hU_n _ _ _ (by decide), hU_n _ _ _ (by decide), hU_s, hU_s, o4 66 (by decide), r66]
  have t97 : H.1 97 = upd (upd (H4.1 97) 0 0) 1 0 := by rw [hH, hU_s, hU_s]; rfl
  have tO : ∀ V, V ≠ 66 → V ≠ 97 → H.1 V = H4.1 V := fun V h1 h2 => by rw [hH, hU_n _ _ _ h2, hU_n _ _ _ h2, hU_n _ _ _ h1, hU_n _ _ _ h1]
  refine ⟨H, ?_, ⟨?_, ?_, fun c hc => ?_, fun c hc s hs => ?_, fun f hf => ?_⟩, ?_, ?_, ?_, ?_, fun V h1 h2 h3 h4 => ?_, fun i h1 h2 h3 h4 => ?_⟩
  · rw [f_X9_keepTrunk, lt'_eq, lt'_eq, d0, hU_s, upd_n _ _ (show 31 ≠ 0 by decide), d6, ← hg, e1, e2, e3, e4, bO_some, lt'_eq, lt'_eq, a1, bO_some, a2, bO_some, hH]
  · rw [t66, upd_n _ _ (by decide), upd_n _ _ (by decide)]; exact g0
  · rw [t66, upd_n _ _ (by decide), upd_n _ _ (by decide)]; exact g4
  · rw [tO 68 (by decide) (by decide), tO 69 (by decide) (by decide), tO 67 (by decide) (by decide), o4 68 (by decide), o4 69 (by decide), o4 67 (by decide), o3 68 (by decide) (by decide) (by decide), o3 69 (by decide) (by decide) (by decide)]
    obtain ⟨q1, q2, q3⟩ := d1 c hc
    exact ⟨(s2 c hc).1.trans q1, (s2 c hc).2.trans q2, fun s hs => r67 c hc s hs⟩
  · rw [tO 88 (by decide) (by decide)]; exact s4 c hc s hs
  · rw [tO 70 (by decide) (by decide), tO 71 (by decide) (by decide), tO 72 (by decide) (by decide), o4 70 (by decide), o4 71 (by decide), o4 72 (by decide)]
    obtain ⟨q1, q2, q3⟩ := d3 f hf
    obtain ⟨p1, p2, p3⟩ := s3 f hf
    exact ⟨p1.trans q1, p2.trans q2, p3.trans q3⟩
  · rw [t66, upd_n _ _ (by decide), upd_s]
  · rw [t66, upd_s]
  · rw [t97, upd_n _ _ (by decide), upd_s]
  · rw [t97, upd_s]
  · rw [tO V h1 h4, o4 V h3, o3 V (by omega) (by omega) (by omega), o2 V (by omega) (by omega), o1 V (by omega), gO V h1]
  · rw [t66, upd_n _ _ h4, upd_n _ _ h3, hg, hU_s, upd_n _ _ h2, hU_s, upd_n _ _ h1]
theorem RC.tb {S : SD} {X' : XD} {v : Int32} {h h' : PH} (c : RC S h) (e : ∀ k, k ≠ 0 → k ≠ 1 → k ≠ 2 → k ≠ 18 → k < 66 → scC k = false → h'.1 k = h.1 k) (e12 : h'.1 0 12 = h.1 0 12) (e13 : h'.1 0 13 = v) (hX : CX X' h') : RC (S.1, S.2.1, S.2.2.1, X', v, S.2.2.2.2.2) h' := by
  obtain ⟨h1, h2, h3, h4, h5, h6⟩ := c
  refine ⟨h1.keep (fun k q => ?_), h2.keep (fun k q => e _ (by omega) (by omega) (by omega) (by omega) (by omega) ?_), ?_, hX, e13, ?_⟩
  · simp only [CTc, List.mem_cons, List.not_mem_nil, or_false, decide_eq_true_eq] at q
    refine e k (by omega) (by omega) (by omega) (by omega) (by omega) ?_
    rcases q with rfl | rfl | rfl | rfl | rfl | rfl | rfl | rfl | rfl <;> rfl
  · have : k = 0 ∨ k = 1 ∨ k = 2 ∨ k = 3 ∨ k = 4 ∨ k = 5 ∨ k = 6 ∨ k = 7 ∨ k = 8 := by omega
    rcases this with rfl | rfl | rfl | rfl | rfl | rfl | rfl | rfl | rfl <;> rfl
  · unfold CP at h3 ⊢; rw [e 22 (by omega) (by omega) (by omega) (by omega) (by omega) rfl, e 23 (by omega) (by omega) (by omega) (by omega) (by omega) rfl, e 24 (by omega) (by omega) (by omega) (by omega) (by omega) rfl]; exact h3
  · obtain ⟨k1, k2, k3, k4⟩ := h6
    refine ⟨by rw [e12]; exact k1, by rw [e12]; exact k2, fun B z => (k3 B z).keep (fun k q => e _ (by omega) (by omega) (by omega) (by omega) (by omega) ?_), fun B z => (k4 B z).keep (fun k q => e _ (by omega) (by omega) (by omega) (by omega) (by omega) ?_)⟩
    · have : k = 0 ∨ k = 1 ∨ k = 2 ∨ k = 3 ∨ k = 4 ∨ k = 5 ∨ k = 6 ∨ k = 7 ∨ k = 8 := by omega
      rcases this with rfl | rfl | rfl | rfl | rfl | rfl | rfl | rfl | rfl <;> rfl
    · have : k = 0 ∨ k = 1 ∨ k = 2 ∨ k = 3 ∨ k = 4 ∨ k = 5 ∨ k = 6 ∨ k = 7 ∨ k = 8 := by omega
      rcases this with rfl | rfl | rfl | rfl | rfl | rfl | rfl | rfl | rfl <;> rfl
theorem RM.tb {S : SD} {X' : XD} {v : Int32} {h h' : PH} (c : RM S h) (e : ∀ k, k ≠ 66 → k ≠ 81 → 67 ≤ k → scM k = false → h'.1 k = h.1 k) (e66 : ∀ i, i ≠ 19 → i ≠ 20 → scS i = false → h'.1 66 i = h.1 66 i) (e20 : h'.1 66 20 = v) (hX : MX X' h') : RM (S.1, S.2.1, S.2.2.1, X', v, S.2.2.2.2.2) h' := by
  obtain ⟨h1, h2, h3, h4, h5, h6⟩ := c
  have g : ∀ k, k ≠ 66 ∧ k ≠ 81 ∧ 67 ≤ k ∧ scM k = false → h'.1 k = h.1 k := fun k q => e k q.1 q.2.1 q.2.2.1 q.2.2.2
  refine ⟨h1.keep (fun k q => g k ?_) (e66 0 (by decide) (by decide) rfl) (e66 4 (by decide) (by decide) rfl), ?_, ?_, hX, e20, ?_⟩
  · simp only [MTc, List.mem_cons, List.not_mem_nil, or_false, decide_eq_true_eq] at q
    rcases q with rfl | rfl | rfl | rfl | rfl | rfl | rfl <;> decide
  · unfold MB at h2 ⊢
    rw [e66 8 (by decide) (by decide) rfl, e66 13 (by decide) (by decide) rfl, g 73 (by decide), g 74 (by decide), g 75 (by decide), g 76 (by decide), g 77 (by decide), g 78 (by decide), g 79 (by decide), g 80 (by decide)]
    exact h2
  · unfold MP at h3 ⊢
    rw [e66 41 (by decide) (by decide) rfl, e66 44 (by decide) (by decide) rfl, e66 45 (by decide) (by decide) rfl, e66 46 (by decide) (by decide) rfl, g 92 (by decide), g 93 (by decide)]
    exact h3
  · unfold MK MI at h6 ⊢
    rw [g 96 (by decide), g 97 (by decide)]
    exact h6
def T0 : TD := (0, 0, fun _ _ => 0, fun _ => 0, fun _ => 0, fun _ => 1, fun _ => 0, fun _ => 0)
theorem T0_wf : wfT T0 := ⟨Nat.zero_le _, Nat.zero_le _, fun _ _ => show 0 ≤ (0 : Int32).toInt ∧ (0 : Int32).toInt ≤ 99 by decide, fun _ => bel_zero _, fun _ => show 0 ≤ (0 : Int32).toInt ∧ (0 : Int32).toInt ≤ 9 by decide, fun _ => show 1 ≤ (1 : Int32).toInt ∧ (1 : Int32).toInt ≤ 99 by decide, fun f hf => absurd hf (Nat.not_lt_zero f), fun f hf => absurd hf (Nat.not_lt_zero f)⟩
def B0 : BD := (0, fun _ => 0, fun _ => 0, fun _ => 0, fun _ _ => 0, 0, fun _ => 0, fun _ => 0, fun _ => 0, fun _ _ => 0)
theorem B0_wf (n : Nat) : wfB n B0 := ⟨Nat.zero_le _, Nat.zero_le _, fun l hl => absurd hl (Nat.not_lt_zero l), fun l hl => absurd hl (Nat.not_lt_zero l), fun _ q _ hq => absurd hq (Nat.not_lt_zero q)⟩
theorem c_begin {X : XD} {h : PH} (hN : X.1 ≤ 500) (cx : CX X h) (fig : Nat) : ∃ h', f_X3_begin (nI fig) h = some h' ∧ tC h h' ∧ RD X fig (sk X 0) h' := by
  obtain ⟨g, hg⟩ : ∃ g, g = hU (hU (hU (hU h 3 1 (nI fig)) 3 4 0) 3 6 0) 3 7 (-1) := ⟨_, rfl⟩
  have tg : tC h g := by rw [hg]; exact (((tC.u3 _ _ _).tr (tC.u3 _ _ _)).tr (tC.u3 _ _ _)).tr (tC.u3 _ _ _)
  have g3 : g.1 3 = upd (upd (upd (upd (h.1 3) 1 (nI fig)) 4 0) 6 0) 7 (-1) := by rw [hg]; rfl
  have e := c_step hN (cx.tC tg) (p := 0) (Nat.zero_le _) (by rw [g3]; rfl)
  obtain ⟨s1, s2, s3, s4⟩ := sk_spec X (Nat.zero_le X.1)
  refine ⟨_, by rw [f_X3_begin, lt'_eq, lt'_eq, lt'_eq, lt'_eq, ← hg, e, bO_some], tg.tr (tC.c3 _ _), ⟨cx.tC (tg.tr (tC.c3 _ _)), hN, s2, sk_sk (Nat.zero_le _), ?_, ?_, ?_, ?_, ?_, ?_⟩⟩
  · rw [hC_s, g3]; rfl
  · rw [hC_s]; rfl
  · rw [hC_s]; rfl
  · rw [hC_s]; rfl
  · rw [hC_s, g3]; rfl
  · rw [hC_s, g3]; rfl
theorem p_trunk : Pair f_X8_trunk f_X9_trunk := Pair.mut (fun S w => by
  have wX := w.2.2.2.1
  have hN := wX.1
  obtain ⟨s1, s2, s3, s4⟩ := sk_spec S.2.2.2.1 (Nat.zero_le S.2.2.2.1.1)
  obtain ⟨o, oC, oM, oI⟩ := L_loop wX (S.2.2.2.1.1 - sk S.2.2.2.1 0) T0 (sk S.2.2.2.1 0) 0 T0_wf s2 (Nat.zero_le _) (Nat.le_refl _)
  -- the class up to the end of the text
  have cside : ∀ h, RC S h → Zr h → ∃ res, ResC h o (PCe S.2.2.2.1 h) res ∧ f_X8_trunk h = bP res (fun r16 h16 => lt' (hU h16 1 1 0) (fun h25 => lt' (hU h25 0 13 (h25.1 3 7)) (fun h36 => if r16 = 0 then (some (((-10) - (h36.1 3 6)), h36)) else (bO (f_X7_become 4 13 h36) (fun h62 => lt' (hU h62 28 0 0) (fun h70 => lt' (hU h70 28 5 0) (fun h78 => lt' (hU h78 0 12 0) (fun h83 => some ((h83.1 4 0), h83))))))))) := fun h c z => by
    obtain ⟨h1, e1, t1, r1⟩ := c_begin hN c.2.2.2.1 2
    have e1 : f_X3_begin 2 h = some h1 := e1
    have s : PCo S.2.2.2.1 h (T0, sk S.2.2.2.1 0) (hU (hU h1 13 0 0) 13 6 0) := by
      refine ⟨r1.k3 rfl rfl rfl, ⟨?_, ?_, fun c hc => absurd hc (Nat.not_lt_zero c), fun c hc s hs => ?_, fun c hc => absurd hc (Nat.not_lt_zero c)⟩, ⟨fun k h1 h2 => ?_, fun s hs => ?_⟩⟩
      · rw [hU_s, upd_n _ _ (by decide), hU_s, upd_s]; rfl
      · rw [hU_s, upd_s]; rfl
      · have hc0 : c = 0 := Nat.le_zero.mp hc
        subst hc0
        rw [hU_n _ _ _ (by decide), hU_n _ _ _ (by decide), t1.1 18 (by decide), Nat.mul_zero, Nat.zero_add]
        exact z s hs
      · rw [hU_n _ _ _ (by omega), hU_n _ _ _ (by omega)]; exact t1.1 k h1
      · rw [hU_n _ _ _ (by decide), hU_n _ _ _ (by decide), t1.1 18 (by decide)]
    refine ⟨_, oC h _ FU (Nat.lt_of_le_of_lt (Nat.sub_le _ _) (FU_gt (by omega))) s, ?_⟩
    rw [f_X8_trunk, e1, bO_some, f_X7_readFrom, lt'_eq, lt'_eq]
    rfl
  have mside : ∀ h, RM S h → ∃ h0, (∀ k, k ≠ 66 → h0.1 k = h.1 k) ∧ (∀ i, i ≠ 20 → scS i = false → h0.1 66 i = h.1 66 i) ∧ LoopM h0 o (f_X9_trunk h) := fun h c => by
    obtain ⟨g, hg⟩ : ∃ g, g = hU (hU (hU (hU (hU h 66 20 (-1)) 66 21 0) 66 22 2) 66 27 0) 66 31 0 := ⟨_, rfl⟩
    have gO : ∀ k, k ≠ 66 → g.1 k = h.1 k := fun k hk => by rw [hg, hU_n _ _ _ hk, hU_n _ _ _ hk, hU_n _ _ _ hk, hU_n _ _ _ hk, hU_n _ _ _ hk]
    have g66 : g.1 66 = upd (upd (upd (upd (upd (h.1 66) 20 (-1)) 21 0) 22 2) 27 0) 31 0 := by rw [hg]; rfl
    have gS : ∀ i, i ≠ 20 → scS i = false → g.1 66 i = h.1 66 i := fun i h1 h2 => by
      have n21 : i ≠ 21 := fun e => by subst e; cases h2
      have n22 : i ≠ 22 := fun e => by subst e; cases h2
      have n27 : i ≠ 27 := fun e => by subst e; cases h2
      have n31 : i ≠ 31 := fun e => by subst e; cases h2
      rw [g66, upd_n _ _ n31, upd_n _ _ n27, upd_n _ _ n22, upd_n _ _ n21, upd_n _ _ h1]
    have mx := c.2.2.2.1
    have s : PMo S.2.2.2.1 g (T0, sk S.2.2.2.1 0) g := by
      refine ⟨⟨⟨?_, fun i hi => ?_⟩, wX, s2, sk_sk (Nat.zero_le _), ?_, ⟨0, Nat.zero_le _, ?_, rfl⟩, ?_⟩, ⟨?_, ?_, fun c hc => absurd hc (Nat.not_lt_zero c), fun c hc => absurd hc (Nat.not_lt_zero c)⟩, ⟨fun _ _ _ => rfl, fun _ _ => rfl⟩⟩
      · rw [gS 19 (by decide) rfl]; exact mx.1
      · rw [gO 81 (by decide)]; exact mx.2 i hi
      · rw [g66]; rfl
      · rw [g66]; rfl
      · rw [g66]; rfl
      · rw [g66]; rfl
      · rw [g66]; rfl
    refine ⟨g, gO, gS, ?_⟩
    have e : f_X9_trunk h = f_X9_trunk_27 FU 0 g := by rw [f_X9_trunk, lt'_eq, lt'_eq, lt'_eq, lt'_eq, lt'_eq, hg]
    rw [e]
    exact oM g g FU (Nat.lt_of_le_of_lt (Nat.succ_le_succ (Nat.sub_le _ _)) (FU_gt (by omega))) s
  cases o with
  | inl bp =>
    obtain ⟨b, p⟩ := bp
    refine Mut.ofZ (S' := (S.1, S.2.1, S.2.2.1, (0, S.2.2.2.1.2), nI p, S.2.2.2.2.2)) ((-10) - nI b) ⟨w.1, w.2.1, w.2.2.1, ⟨Nat.zero_le _, fun i hi => absurd hi (Nat.not_lt_zero i)⟩, w.2.2.2.2⟩ (fun h c z => ?_) (fun h c => ?_)
    · obtain ⟨res, ⟨h1, e1, ⟨f6, f7⟩, fr⟩, e⟩ := cside h c z
      obtain ⟨H, hH⟩ : ∃ H, H = hU (hU h1 1 1 0) 0 13 (nI p) := ⟨_, rfl⟩
      refine ⟨H, ?_, c.tb (fun k k0 k1 k2 e18 k66 ks => ?_) ?_ ?_ ⟨?_, fun i hi => absurd hi (Nat.not_lt_zero i)⟩, fun k hk => ?_, fun s hs => ?_⟩
      · have f6 : h1.1 3 6 = nI b := f6
        have f7 : h1.1 3 7 = nI p := f7
        rw [e, e1, bP_some, lt'_eq, lt'_eq, hU_n _ _ _ (show 3 ≠ 1 by decide), f7, if_pos rfl, hU_n _ _ _ (show 3 ≠ 0 by decide), hU_n _ _ _ (show 3 ≠ 1 by decide), f6, hH]
      · have n3 : k ≠ 3 := fun e => by subst e; cases ks
        have hk13 : ¬ (13 ≤ k ∧ k ≤ 21) := fun e => by
          have : k = 13 ∨ k = 14 ∨ k = 15 ∨ k = 16 ∨ k = 17 ∨ k = 19 ∨ k = 20 ∨ k = 21 := by omega
          rcases this with rfl | rfl | rfl | rfl | rfl | rfl | rfl | rfl <;> cases ks
        rw [hH, hU_n _ _ _ k0, hU_n _ _ _ k1, fr.1 k n3 hk13]
      · rw [hH, hU_s, upd_n _ _ (by decide), hU_n _ _ _ (by decide), fr.1 0 (by decide) (by decide)]
      · rw [hH, hU_s, upd_s]
      · rw [hH, hU_n _ _ _ (by decide), hU_s, upd_s]; rfl
      · rw [hH, hU_n _ _ _ (by omega), hU_n _ _ _ (by omega), fr.1 k (by omega) (by omega)]
      · rw [hH, hU_n _ _ _ (by omega), hU_n _ _ _ (by omega), fr.2 s hs]; exact z s hs
    · obtain ⟨h0, gO, gS, z1, z2, h1, e1, f1, fr⟩ := mside h c
      have f1 : h1.1 66 20 = nI p := f1
      refine ⟨hU h1 66 19 0, ?_, c.tb (fun k k66 k81 k67 ks => ?_) (fun i i19 i20 is => ?_) ?_ ⟨?_, fun i hi => absurd hi (Nat.not_lt_zero i)⟩, fun k hk => ?_⟩
      · have z1 : 0 < b := z1
        have z2 : b ≤ 4 := z2
        rw [e1, f_X9_trunk_46, lt'_eq, if_neg (show ¬ nI b ≤ 0 from nI_nle (by omega) (by omega))]
      · have hk : ¬ (82 ≤ k ∧ k ≤ 87) := fun e => by
          have : k = 82 ∨ k = 83 ∨ k = 84 ∨ k = 85 ∨ k = 86 ∨ k = 87 := by omega
          rcases this with rfl | rfl | rfl | rfl | rfl | rfl <;> cases ks
        rw [hU_n _ _ _ k66, fr.1 k k66 hk, gO k k66]
      · have hr : rS i = false := by
          have n21 : i ≠ 21 := fun e => by subst e; cases is
          have n24 : i ≠ 24 := fun e => by subst e; cases is
          have n25 : i ≠ 25 := fun e => by subst e; cases is
          have n26 : i ≠ 26 := fun e => by subst e; cases is
          have n27 : i ≠ 27 := fun e => by subst e; cases is
          have n31 : i ≠ 31 := fun e => by subst e; cases is
          have n35 : i ≠ 35 := fun e => by subst e; cases is
          simp [rS, tS]; omega
        rw [hU_s, upd_n _ _ i19, fr.2 i hr, gS i i20 is]
      · rw [hU_s, upd_n _ _ (by decide)]; exact f1
      · rw [hU_s, upd_s]; rfl
      · rw [hU_n _ _ _ (by omega), fr.1 k (by omega) (by omega), gO k (by omega)]
  | inr T =>
    have wT := oI T rfl
    refine Mut.ofZ (S' := (T, B0, S.2.2.1, (0, S.2.2.2.1.2), -1, (none, none))) (nI (tn T)) ⟨wT, B0_wf _, w.2.2.1, ⟨Nat.zero_le _, fun i hi => absurd hi (Nat.not_lt_zero i)⟩, ⟨(fun B z => by cases z), (fun B z => by cases z)⟩⟩ (fun h c z => ?_) (fun h c => ?_)
    · obtain ⟨res, ⟨h1, e1, ⟨q, r1⟩, d1, fr⟩, e⟩ := cside h c z
      have r7 : h1.1 3 7 = -1 := r1.2.2.2.2.2.2.2.2.2
      obtain ⟨g, hg⟩ : ∃ g, g = hU (hU h1 1 1 0) 0 13 (-1) := ⟨_, rfl⟩
      have dg : DCt T g := by rw [hg]; exact d1.keep rfl (fun _ _ => ⟨rfl, rfl, rfl⟩) (fun _ _ => rfl) (fun _ _ => rfl) (fun _ _ => ⟨rfl, rfl, rfl⟩)
      obtain ⟨H1, e2, o2, ct⟩ := c_becomeT g
      obtain ⟨H, hH⟩ : ∃ H, H = hU (hU (hU H1 28 0 0) 28 5 0) 0 12 0 := ⟨_, rfl⟩
      have hO : ∀ k, k ≠ 0 → k ≠ 28 → ¬ (4 ≤ k ∧ k ≤ 12) → H.1 k = g.1 k := fun k k0 k28 k4 => by rw [hH, hU_n _ _ _ k0, hU_n _ _ _ k28, hU_n _ _ _ k28, o2 k k4]
      have ctH : CT T H := (ct T wT.1 wT.2.1 dg).keep (fun k hk => by
        simp only [CTc, List.mem_cons, List.not_mem_nil, or_false, decide_eq_true_eq] at hk
        rw [hH, hU_n _ _ _ (by omega), hU_n _ _ _ (by omega), hU_n _ _ _ (by omega)])
      have gk : ∀ k, k ≠ 0 → k ≠ 1 → k ≠ 3 → ¬ (13 ≤ k ∧ k ≤ 21) → g.1 k = h.1 k := fun k k0 k1 k3 k13 => by rw [hg, hU_n _ _ _ k0, hU_n _ _ _ k1, fr.1 k k3 k13]
      refine ⟨H, ?_, ⟨ctH, ⟨?_, ?_, fun l hl => absurd hl (Nat.not_lt_zero l), fun l hl => absurd hl (Nat.not_lt_zero l)⟩, ?_, ⟨?_, fun i hi => absurd hi (Nat.not_lt_zero i)⟩, ?_, ⟨?_, ?_, (fun B z => by cases z), (fun B z => by cases z)⟩⟩, fun k hk => ?_, fun s hs => ?_⟩
      · rw [e, e1, bP_some, lt'_eq, lt'_eq, hU_n _ _ _ (show 3 ≠ 1 by decide), r7, if_neg (by decide), ← hg, e2, bO_some, lt'_eq, lt'_eq, lt'_eq, ← hH, ctH.1]
      · rw [hH, hU_n _ _ _ (by decide), hU_s, upd_n _ _ (by decide), hU_s, upd_s]; rfl
      · rw [hH, hU_n _ _ _ (by decide), hU_s, upd_s]; rfl
      · have cp := c.2.2.1
        unfold CP at cp ⊢
        rw [hO 22 (by decide) (by decide) (by decide), hO 23 (by decide) (by decide) (by decide), hO 24 (by decide) (by decide) (by decide), gk 22 (by decide) (by decide) (by decide) (by decide), gk 23 (by decide) (by decide) (by decide) (by decide), gk 24 (by decide) (by decide) (by decide) (by decide)]
        exact cp
      · rw [hO 1 (by decide) (by decide) (by decide), hg, hU_n _ _ _ (by decide), hU_s, upd_s]; rfl
      · rw [hH, hU_s, upd_n _ _ (by decide), hU_n _ _ _ (by decide), hU_n _ _ _ (by decide), o2 0 (by decide), hg, hU_s, upd_s]
      · rw [hH, hU_s, upd_s, bt_zero]; rfl
      · rw [hH, hU_s, upd_s, bt_zero]; rfl
      · rw [hO k (by omega) (by omega) (by omega), gk k (by omega) (by omega) (by omega) (by omega)]
      · rw [hO 18 (by decide) (by decide) (by decide), hg, hU_n _ _ _ (by decide), hU_n _ _ _ (by decide), fr.2 s hs]; exact z s hs
    · obtain ⟨h0, gO, gS, h1, e1, f1, d1, fr⟩ := mside h c
      have dk : DMt T (hU h1 66 19 0) := d1.keep (by rw [hU_s, upd_n _ _ (by decide)]) (by rw [hU_s, upd_n _ _ (by decide)]) (fun _ _ => ⟨rfl, rfl⟩) (fun _ _ => rfl) (fun _ _ => ⟨rfl, rfl, rfl⟩)
      obtain ⟨H, e2, mt, m8, m13, k0, k1, kO, kS⟩ := m_keepTrunk wT dk
      have hk : ∀ k, k ≠ 66 → ¬ (67 ≤ k ∧ k ≤ 72) → k ≠ 88 → k ≠ 97 → ¬ (82 ≤ k ∧ k ≤ 87) → H.1 k = h.1 k := fun k a b cc d e => by rw [kO k a b cc d, hU_n _ _ _ a, fr.1 k a e, gO k a]
      have hs : ∀ i, i ≠ 0 → i ≠ 4 → i ≠ 8 → i ≠ 13 → i ≠ 19 → i ≠ 20 → scS i = false → rS i = false → H.1 66 i = h.1 66 i := fun i a b cc d e f g1 g2 => by rw [kS i a b cc d, hU_s, upd_n _ _ e, fr.2 i g2, gS i f g1]
      refine ⟨H, ?_, ⟨mt, MB.bk.mpr ⟨?_, ?_, fun l hl => absurd hl (Nat.not_lt_zero l), fun l hl => absurd hl (Nat.not_lt_zero l)⟩, ?_, ⟨?_, fun i hi => absurd hi (Nat.not_lt_zero i)⟩, ?_, ⟨k0, k1, (fun B z => by cases z), (fun B z => by cases z)⟩⟩, fun k hk2 => ?_⟩
      · rw [e1, f_X9_trunk_46, lt'_eq, if_pos (Int32.le_refl _), e2, bO_some, mt.1]
      · rw [m8]; rfl
      · rw [m13]; rfl
      · have mp := c.2.2.1
        unfold MP at mp ⊢
        rw [hs 41 (by decide) (by decide) (by decide) (by decide) (by decide) (by decide) rfl rfl, hs 44 (by decide) (by decide) (by decide) (by decide) (by decide) (by decide) rfl rfl, hs 45 (by decide) (by decide) (by decide) (by decide) (by decide) (by decide) rfl rfl, hs 46 (by decide) (by decide) (by decide) (by decide) (by decide) (by decide) rfl rfl, hk 92 (by decide) (by decide) (by decide) (by decide) (by decide), hk 93 (by decide) (by decide) (by decide) (by decide) (by decide)]
        exact mp
      · rw [kS 19 (by decide) (by decide) (by decide) (by decide), hU_s, upd_s]; rfl
      · rw [kS 20 (by decide) (by decide) (by decide) (by decide), hU_s, upd_n _ _ (by decide)]; exact f1
      · exact hk k (by omega) (by omega) (by omega) (by omega) (by omega))
