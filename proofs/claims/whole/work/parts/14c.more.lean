/-! ===== cut, release, undo ===== -/
theorem mul16 (c : Nat) : nI c * 16 = nI (16 * c) := by rw [show (16 : Int32) = nI 16 from rfl, pk_mul, Nat.mul_comm]
theorem mul16' (c : Nat) : 16 * nI c = nI (16 * c) := by rw [show (16 : Int32) = nI 16 from rfl, pk_mul]
theorem c_cut {S : SD} (w : wfS S) {n : Nat} (hn : n ≤ tn S.1) (hb : bl S.2.1 < 4) {h : PH} (c : RC S h) : ∃ h', f_X0_addLine 28 4 (nI n) h = some (nI (bl S.2.1), h') ∧ RC (S.1, lnB S.2.1 (bl S.2.1) (bl S.2.1 + 1) (nI n) ((1 <<< (nI n &&& 31)) - 1) 0 (ahd S.1 n), S.2.2) h' ∧ up66 h h' := by
  have n24 := w.n24
  obtain ⟨H, hH⟩ : ∃ H, H = hU (hC (hU (hU (hU h 29 (bl S.2.1) (nI n)) 30 (bl S.2.1) ((1 <<< (nI n &&& 31)) - 1)) 31 (bl S.2.1) 0) 32 (segF (h.1 32) (16 * bl S.2.1) (fun s => h.1 9 (16 * n + s)) 16)) 28 0 (nI (bl S.2.1 + 1)) := ⟨_, rfl⟩
  have e28 : H.1 28 = upd (h.1 28) 0 (nI (bl S.2.1 + 1)) := by rw [hH]; rfl
  have e29 : H.1 29 = upd (h.1 29) (bl S.2.1) (nI n) := by rw [hH]; rfl
  have e30 : H.1 30 = upd (h.1 30) (bl S.2.1) ((1 <<< (nI n &&& 31)) - 1) := by rw [hH]; rfl
  have e31 : H.1 31 = upd (h.1 31) (bl S.2.1) 0 := by rw [hH]; rfl
  have e32 : H.1 32 = segF (h.1 32) (16 * bl S.2.1) (fun s => h.1 9 (16 * n + s)) 16 := by rw [hH]; rfl
  have eo : ∀ j, ¬ (28 ≤ j ∧ j ≤ 32) → H.1 j = h.1 j := fun j hj => by rw [hH, hU_n _ _ _ (by omega), hC_n _ _ (by omega), hU_n _ _ _ (by omega), hU_n _ _ _ (by omega), hU_n _ _ _ (by omega)]
  refine ⟨H, ?_, c.book (fun j _ _ hj => eo j (by omega)) (CB.bk.mpr ?_), fun j hj => eo j (by omega)⟩
  · rw [f_X0_addLine, lt'_eq, c.2.1.1]
    have a1 : asg h (28 + 1) 4 (nI (bl S.2.1)) (nI n) = some (hU h 29 (bl S.2.1) (nI n)) := asg_nI h 29 _ hb (by omega)
    have a2 : asg (hU h 29 (bl S.2.1) (nI n)) (28 + 2) 4 (nI (bl S.2.1)) ((1 <<< (nI n &&& 31)) - 1) = some (hU (hU h 29 (bl S.2.1) (nI n)) 30 (bl S.2.1) ((1 <<< (nI n &&& 31)) - 1)) := asg_nI _ 30 _ hb (by omega)
    have a3 : asg (hU (hU h 29 (bl S.2.1) (nI n)) 30 (bl S.2.1) ((1 <<< (nI n &&& 31)) - 1)) (28 + 3) 4 (nI (bl S.2.1)) 0 = some (hU (hU (hU h 29 (bl S.2.1) (nI n)) 30 (bl S.2.1) ((1 <<< (nI n &&& 31)) - 1)) 31 (bl S.2.1) 0) := asg_nI _ 31 _ hb (by omega)
    have a4 : cpy (hU (hU (hU h 29 (bl S.2.1) (nI n)) 30 (bl S.2.1) ((1 <<< (nI n &&& 31)) - 1)) 31 (bl S.2.1) 0) (4 + 5) 400 (nI (16 * n)) (28 + 4) 64 (nI (16 * bl S.2.1)) 16 = some (hC (hU (hU (hU h 29 (bl S.2.1) (nI n)) 30 (bl S.2.1) ((1 <<< (nI n &&& 31)) - 1)) 31 (bl S.2.1) 0) 32 (segF (h.1 32) (16 * bl S.2.1) (fun s => h.1 9 (16 * n + s)) 16)) := cpy_nI (hU (hU (hU h 29 (bl S.2.1) (nI n)) 30 (bl S.2.1) ((1 <<< (nI n &&& 31)) - 1)) 31 (bl S.2.1) 0) 9 32 (n := 400) (m := 64) (sp := 16 * n) (dp := 16 * bl S.2.1) (len := 16) (by omega) (by omega) (by omega) (by omega)
    rw [a1, bO_some, f_X8_firstOnes, bO_some, a2, bO_some, a3, bO_some, mul16, mul16, a4, bO_some, lt'_eq, nI1, hH]
  · rw [e28, e29, e30, e31, e32, eo 33 (by omega), eo 34 (by omega), eo 35 (by omega), eo 36 (by omega), upd_s, upd_n _ _ (show 5 ≠ 0 by decide)]
    refine (CB.bk.mp c.2.1).line (fun j hj hne => by omega) rfl (up_at _ _ _) (up_at _ _ _) (up_at _ _ _) ?_
    obtain ⟨a, b⟩ := seg_at (h.1 32) (fun s => h.1 9 (16 * n + s)) (bl S.2.1)
    exact ⟨fun s hs => (a s hs).trans (c.1.2.2.2.1 n hn s hs), b⟩
theorem m_cut {S : SD} (w : wfS S) {n : Nat} (hn : n ≤ tn S.1) (hb : bl S.2.1 < 4) {h : PH} (c : RM S h) : ∃ h', bO (asg h 73 4 (nI (bl S.2.1)) (nI n)) (fun h39 => bO (asg h39 74 4 (h39.1 66 8) ((1 <<< (nI n &&& 31)) - 1)) (fun h53 => bO (asg h53 76 4 (h53.1 66 8) 0) (fun h63 => f_X9_cut_66 (nI n) FU 0 h63))) = some (nI (bl S.2.1), h') ∧ RM (S.1, lnB S.2.1 (bl S.2.1) (bl S.2.1 + 1) (nI n) ((1 <<< (nI n &&& 31)) - 1) 0 (ahd S.1 n), S.2.2) h' ∧ lo66 h h' := by
  have n24 := w.n24
  have e8 : h.1 66 8 = nI (bl S.2.1) := c.2.1.1
  have a1 : asg h 73 4 (nI (bl S.2.1)) (nI n) = some (hU h 73 (bl S.2.1) (nI n)) := asg_nI h 73 _ hb (by omega)
  have a2 : asg (hU h 73 (bl S.2.1) (nI n)) 74 4 (nI (bl S.2.1)) ((1 <<< (nI n &&& 31)) - 1) = some (hU (hU h 73 (bl S.2.1) (nI n)) 74 (bl S.2.1) ((1 <<< (nI n &&& 31)) - 1)) := asg_nI _ 74 _ hb (by omega)
  have a3 : asg (hU (hU h 73 (bl S.2.1) (nI n)) 74 (bl S.2.1) ((1 <<< (nI n &&& 31)) - 1)) 76 4 (nI (bl S.2.1)) 0 = some (hU (hU (hU h 73 (bl S.2.1) (nI n)) 74 (bl S.2.1) ((1 <<< (nI n &&& 31)) - 1)) 76 (bl S.2.1) 0) := asg_nI _ 76 _ hb (by omega)
  rw [a1, bO_some, hU_n _ _ _ (show 66 ≠ 73 by decide), e8, a2, bO_some, hU_n _ _ _ (show 66 ≠ 74 by decide), hU_n _ _ _ (show 66 ≠ 73 by decide), e8, a3, bO_some]
  obtain ⟨h0, hh0⟩ : ∃ h0, h0 = hU (hU (hU h 73 (bl S.2.1) (nI n)) 74 (bl S.2.1) ((1 <<< (nI n &&& 31)) - 1)) 76 (bl S.2.1) 0 := ⟨_, rfl⟩
  rw [← hh0]
  have o66 : h0.1 66 = h.1 66 := by rw [hh0]; rfl
  have o75 : h0.1 75 = h.1 75 := by rw [hh0]; rfl
  have o88 : h0.1 88 = h.1 88 := by rw [hh0]; rfl
  have lp : f_X9_cut_66 (nI n) FU 0 h0 = some (nI (bl S.2.1), hU (hC h0 75 (segF (h0.1 75) (16 * bl S.2.1) (ahd S.1 n) 16)) 66 8 (nI (bl S.2.1 + 1))) := by
    have h00 : h0 = hC h0 75 (segF (h0.1 75) (16 * bl S.2.1) (ahd S.1 n) 0) := by rw [segF_0, hC_self]
    conv => lhs; rw [h00]
    refine lp_up (fun m a i => f_X9_cut_66 (nI n) m (nI i) a) (fun i => hC h0 75 (segF (h0.1 75) (16 * bl S.2.1) (ahd S.1 n) i)) 16 _ (fun m => ?_) (fun m i hi => ?_) FU 0 (Nat.zero_le _) (FU_gt (by omega))
    · show f_X9_cut_66 _ (m + 1) (nI 16) _ = _
      rw [f_X9_cut_66, if_pos (p16 (by omega) (by omega)), lt'_eq, hC_n _ _ (show 66 ≠ 75 by decide), o66, e8, nI1, hU_s, upd_s, nI_pred]
    · show f_X9_cut_66 _ (m + 1) (nI i) _ = f_X9_cut_66 _ m (nI (i + 1)) _
      have ea : f_X9_aheadOf (nI n) (nI i) (hC h0 75 (segF (h0.1 75) (16 * bl S.2.1) (ahd S.1 n) i)) = some (ahd S.1 n i, hC h0 75 (segF (h0.1 75) (16 * bl S.2.1) (ahd S.1 n) i)) := by
        rw [f_X9_aheadOf, ixM, ag_nI _ _ (by omega) (by omega), bO_some, hC_n _ _ (show 88 ≠ 75 by decide), o88, c.1.2.2.2.1 n hn i hi]
      rw [f_X9_cut_66, if_neg (n16 hi), ea, bP_some, hC_n _ _ (show 66 ≠ 75 by decide), o66, e8, ixM, asg_nI _ 75 _ (by omega) (by omega), bO_some, hC_hU, segF_s, nI1]
  rw [lp]
  obtain ⟨H, hH⟩ : ∃ H, H = hU (hC h0 75 (segF (h0.1 75) (16 * bl S.2.1) (ahd S.1 n) 16)) 66 8 (nI (bl S.2.1 + 1)) := ⟨_, rfl⟩
  have e66 : H.1 66 = upd (h.1 66) 8 (nI (bl S.2.1 + 1)) := by rw [hH, hh0]; rfl
  have e73 : H.1 73 = upd (h.1 73) (bl S.2.1) (nI n) := by rw [hH, hh0]; rfl
  have e74 : H.1 74 = upd (h.1 74) (bl S.2.1) ((1 <<< (nI n &&& 31)) - 1) := by rw [hH, hh0]; rfl
  have e76 : H.1 76 = upd (h.1 76) (bl S.2.1) 0 := by rw [hH, hh0]; rfl
  have e75 : H.1 75 = segF (h.1 75) (16 * bl S.2.1) (ahd S.1 n) 16 := by rw [hH, hU_n _ _ _ (show 75 ≠ 66 by decide), hC_s, o75]
  have eo : ∀ j, j ≠ 66 → ¬ (73 ≤ j ∧ j ≤ 76) → H.1 j = h.1 j := fun j h1 h2 => by rw [hH, hU_n _ _ _ h1, hC_n _ _ (by omega), hh0, hU_n _ _ _ (by omega), hU_n _ _ _ (by omega), hU_n _ _ _ (by omega)]
  refine ⟨H, by rw [hH], c.book (fun j h1 h2 h3 h4 => eo j h1 (by omega)) (fun i h1 h2 h3 => by rw [e66, upd_n _ _ h1]) (MB.bk.mpr ?_), fun j hj => eo j (by omega) (by omega)⟩
  rw [e66, e73, e74, e75, e76, eo 77 (by omega) (by omega), eo 78 (by omega) (by omega), eo 79 (by omega) (by omega), eo 80 (by omega) (by omega), upd_s, upd_n _ _ (show 13 ≠ 8 by decide)]
  exact (MB.bk.mp c.2.1).line (fun j hj hne => by omega) rfl (up_at _ _ _) (up_at _ _ _) (up_at _ _ _) (seg_at _ _ _)
theorem p_cut (x : Int32) : Pair (f_X8_cut x) (f_X9_cut x) := Pair.mut (fun S w => by
  have n24 := w.n24
  have b4 := w.b4
  refine mut_in w (a := 0) (n := tn S.1) (by omega) (u := -1002) (KF := fun h => if (h.1 28 0) < 4 then (bP (f_X0_addLine 28 4 x h) (fun r43 h43 => some (r43, h43))) else (some ((-1004), h))) (fun h c => by rw [f_X8_cut, c.1.1]; rfl) (e1 := 0) (e2 := (nI (tn S.1)).toInt64) rfl (by omega) (KM := fun h => if (h.1 66 8) = 4 then (some ((-1004), h)) else (bO (asg h 73 4 (h.1 66 8) x) (fun h39 => bO (asg h39 74 4 (h39.1 66 8) ((1 <<< (x &&& 31)) - 1)) (fun h53 => bO (asg h53 76 4 (h53.1 66 8) 0) (fun h63 => f_X9_cut_66 x FU 0 h63))))) (fun h c => by rw [f_X9_cut, c.1.1]) (by rw [Int32.toInt_toInt64, nI_toInt (by omega)]) (fun n _ hn e => ?_)
  subst e
  by_cases hb : bl S.2.1 < 4
  · refine Mut.of (nI (bl S.2.1)) (w.book (wf_line w.2.1 (l := bl S.2.1) (L := bl S.2.1 + 1) (v := ahd S.1 n) (by omega) (by omega) (fun j hj hne => by omega) ⟨n, hn, rfl⟩ (x2 := (1 <<< (nI n &&& 31)) - 1) (fun j hj hge => by rw [bt_ones n (by omega) j hj, decide_eq_false (by omega)]) (x3 := 0) ⟨0, by omega, rfl⟩)) (fun h c => ?_) (fun h c => ?_)
    · obtain ⟨h', e, q, u⟩ := c_cut w hn hb c
      refine ⟨h', ?_, q, u⟩
      rw [c.2.1.1, if_pos (show nI (bl S.2.1) < 4 by rw [show (4 : Int32) = nI 4 from rfl, ltN (by omega) (by omega)]; exact hb), e, bP_some]
    · obtain ⟨h', e, q, u⟩ := m_cut w hn hb c
      refine ⟨h', ?_, q, u⟩
      rw [c.2.1.1, if_neg (show ¬ nI (bl S.2.1) = 4 by rw [show (4 : Int32) = nI 4 from rfl, eqN (by omega) (by omega)]; omega), e]
  · have e4 : bl S.2.1 = 4 := by omega
    exact Two.mut w (Two.of (-1004) (Q.pt fun h c => by rw [c.2.1.1, e4, if_neg (by decide)]) (P9.pt fun h c => by rw [c.2.1.1, e4, if_pos (by decide)])))
