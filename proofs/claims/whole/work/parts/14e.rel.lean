/-! ===== release ===== -/
theorem wf_rel {n : Nat} {B : BD} (w : wfB n B) (hr : br B < 20) {l d : Nat} (hl : l < bl B) (hd : d ≤ 999) {x7 : Int32} {v : Nat → Int32} (h7 : bel x7 n) (hday : ∀ r, r < br B → (bday B r).toInt ≤ (d : Int)) : wfB n (rlB B (nI l) (nI d) x7 v) := by
  obtain ⟨w1, w2, w3, w4, w5⟩ := w
  refine ⟨w1, show br B + 1 ≤ 20 by omega, w3, fun r hr2 => ?_, fun r q hrq hq => ?_⟩
  · have hr2 : r < br B + 1 := hr2
    show (∃ l', l' < bl B ∧ upd (bof B) (br B) (nI l) r = nI l') ∧ (∃ d', d' ≤ 999 ∧ upd (bday B) (br B) (nI d) r = nI d') ∧ bel (upd (brin B) (br B) x7 r) n
    by_cases e : r = br B
    · subst e; rw [upd_s, upd_s, upd_s]; exact ⟨⟨l, hl, rfl⟩, ⟨d, hd, rfl⟩, h7⟩
    · rw [upd_n _ _ e, upd_n _ _ e, upd_n _ _ e]; exact w4 r (by omega)
  · have hq : q < br B + 1 := hq
    show (upd (bday B) (br B) (nI d) r).toInt ≤ (upd (bday B) (br B) (nI d) q).toInt
    by_cases e : q = br B
    · subst e
      rw [upd_s, nI_toInt (by omega)]
      by_cases e2 : r = br B
      · subst e2; rw [upd_s, nI_toInt (by omega)]; exact Int.le_refl _
      · rw [upd_n _ _ e2]; exact hday r (by omega)
    · rw [upd_n _ _ e, upd_n _ _ (by omega)]; exact w5 r q hrq (by omega)
theorem c_addRel {S : SD} (w : wfS S) {l d : Nat} (hl : l < bl S.2.1) (hr : br S.2.1 < 20) {h : PH} (c : RC S h) : ∃ h', f_X0_addRelease 28 (nI l) (nI d) h = some (nI (br S.2.1), h') ∧ RC (S.1, rlB S.2.1 (nI l) (nI d) (bin S.2.1 l) (bval S.2.1 l), S.2.2) h' ∧ up66 h h' := by
  have b4 := w.b4
  obtain ⟨q1, q2, q3, q4⟩ := c.2.1.2.2.1 l hl
  obtain ⟨H, hH⟩ : ∃ H, H = hU (hC (hU (hU (hU h 33 (br S.2.1) (nI l)) 34 (br S.2.1) (nI d)) 35 (br S.2.1) (bin S.2.1 l)) 36 (segF (h.1 36) (16 * br S.2.1) (fun s => h.1 32 (16 * l + s)) 16)) 28 5 (nI (br S.2.1 + 1)) := ⟨_, rfl⟩
  have e28 : H.1 28 = upd (h.1 28) 5 (nI (br S.2.1 + 1)) := by rw [hH]; rfl
  have e33 : H.1 33 = upd (h.1 33) (br S.2.1) (nI l) := by rw [hH]; rfl
  have e34 : H.1 34 = upd (h.1 34) (br S.2.1) (nI d) := by rw [hH]; rfl
  have e35 : H.1 35 = upd (h.1 35) (br S.2.1) (bin S.2.1 l) := by rw [hH]; rfl
  have e36 : H.1 36 = segF (h.1 36) (16 * br S.2.1) (fun s => h.1 32 (16 * l + s)) 16 := by rw [hH]; rfl
  have eo : ∀ j, j ≠ 28 → ¬ (33 ≤ j ∧ j ≤ 36) → H.1 j = h.1 j := fun j h1 hj => by rw [hH, hU_n _ _ _ (by omega), hC_n _ _ (by omega), hU_n _ _ _ (by omega), hU_n _ _ _ (by omega), hU_n _ _ _ (by omega)]
  refine ⟨H, ?_, c.book (fun j _ _ hj => eo j (by omega) (by omega)) (CB.bk.mpr ?_), fun j hj => eo j (by omega) (by omega)⟩
  · rw [f_X0_addRelease, lt'_eq, c.2.1.2.1]
    have a1 : asg h (28 + 5) 20 (nI (br S.2.1)) (nI l) = some (hU h 33 (br S.2.1) (nI l)) := asg_nI h 33 _ hr (by omega)
    have a2 : asg (hU h 33 (br S.2.1) (nI l)) (28 + 6) 20 (nI (br S.2.1)) (nI d) = some (hU (hU h 33 (br S.2.1) (nI l)) 34 (br S.2.1) (nI d)) := asg_nI _ 34 _ hr (by omega)
    have a3 : ag (hU (hU h 33 (br S.2.1) (nI l)) 34 (br S.2.1) (nI d)) (28 + 2) 4 (nI l) = some (bin S.2.1 l) := by
      have := ag_nI (hU (hU h 33 (br S.2.1) (nI l)) 34 (br S.2.1) (nI d)) 30 (by omega : l < 4) (by omega)
      rw [hU_n _ _ _ (show 30 ≠ 34 by decide), hU_n _ _ _ (show 30 ≠ 33 by decide)] at this
      rw [← show h.1 30 l = bin S.2.1 l from q2]
      exact this
    have a4 : asg (hU (hU h 33 (br S.2.1) (nI l)) 34 (br S.2.1) (nI d)) (28 + 7) 20 (nI (br S.2.1)) (bin S.2.1 l) = some (hU (hU (hU h 33 (br S.2.1) (nI l)) 34 (br S.2.1) (nI d)) 35 (br S.2.1) (bin S.2.1 l)) := asg_nI _ 35 _ hr (by omega)
    have a5 : cpy (hU (hU (hU h 33 (br S.2.1) (nI l)) 34 (br S.2.1) (nI d)) 35 (br S.2.1) (bin S.2.1 l)) (28 + 4) 64 (nI (16 * l)) (28 + 8) 320 (nI (16 * br S.2.1)) 16 = some (hC (hU (hU (hU h 33 (br S.2.1) (nI l)) 34 (br S.2.1) (nI d)) 35 (br S.2.1) (bin S.2.1 l)) 36 (segF (h.1 36) (16 * br S.2.1) (fun s => h.1 32 (16 * l + s)) 16)) := cpy_nI (hU (hU (hU h 33 (br S.2.1) (nI l)) 34 (br S.2.1) (nI d)) 35 (br S.2.1) (bin S.2.1 l)) 32 36 (n := 64) (m := 320) (sp := 16 * l) (dp := 16 * br S.2.1) (len := 16) (by omega) (by omega) (by omega) (by omega)
    rw [a1, bO_some, a2, bO_some, a3, bO_some, a4, bO_some, mul16, mul16, a5, bO_some, lt'_eq, nI1, hH]
  · rw [e28, e33, e34, e35, e36, eo 29 (by omega) (by omega), eo 30 (by omega) (by omega), eo 31 (by omega) (by omega), eo 32 (by omega) (by omega), upd_s, upd_n _ _ (show 0 ≠ 5 by decide)]
    refine (CB.bk.mp c.2.1).rel rfl (up_at _ _ _) (up_at _ _ _) (up_at _ _ _) ?_
    obtain ⟨a, b⟩ := seg_at (h.1 36) (fun s => h.1 32 (16 * l + s)) (br S.2.1)
    exact ⟨fun s hs => (a s hs).trans (q4 s hs), b⟩
theorem m_rel49 {S : SD} (w : wfS S) {l d : Nat} (hl : l < bl S.2.1) (hr : br S.2.1 < 20) {h : PH} (c : RM S h) : ∃ h', f_X9_release_49 (nI l) (nI d) h = some (nI (br S.2.1), h') ∧ RM (S.1, rlB S.2.1 (nI l) (nI d) (bin S.2.1 l) (bval S.2.1 l), S.2.2) h' ∧ lo66 h h' := by
  have b4 := w.b4
  obtain ⟨q1, q2, q3, q4⟩ := c.2.1.2.2.1 l hl
  have e13 : h.1 66 13 = nI (br S.2.1) := c.2.1.2.1
  obtain ⟨h0, hh0⟩ : ∃ h0, h0 = hU (hU (hU h 77 (br S.2.1) (nI l)) 78 (br S.2.1) (nI d)) 79 (br S.2.1) (bin S.2.1 l) := ⟨_, rfl⟩
  have o66 : h0.1 66 = h.1 66 := by rw [hh0]; rfl
  have o75 : h0.1 75 = h.1 75 := by rw [hh0]; rfl
  have o80 : h0.1 80 = h.1 80 := by rw [hh0]; rfl
  have lp : f_X9_release_99 (nI l) FU 0 h0 = some (nI (br S.2.1), hU (hC h0 80 (segF (h.1 80) (16 * br S.2.1) (bval S.2.1 l) 16)) 66 13 (nI (br S.2.1 + 1))) := by
    have h00 : h0 = hC h0 80 (segF (h.1 80) (16 * br S.2.1) (bval S.2.1 l) 0) := by rw [segF_0, ← o80, hC_self]
    conv => lhs; rw [h00]
    refine lp_up (fun m a i => f_X9_release_99 (nI l) m (nI i) a) (fun i => hC h0 80 (segF (h.1 80) (16 * br S.2.1) (bval S.2.1 l) i)) 16 _ (fun m => ?_) (fun m i hi => ?_) FU 0 (Nat.zero_le _) (FU_gt (by omega))
    · show f_X9_release_99 _ (m + 1) (nI 16) _ = _
      rw [f_X9_release_99, if_pos (p16 (by omega) (by omega)), lt'_eq, hC_n _ _ (show 66 ≠ 80 by decide), o66, e13, nI1, hU_s, upd_s, nI_pred]
    · show f_X9_release_99 _ (m + 1) (nI i) _ = f_X9_release_99 _ m (nI (i + 1)) _
      have a75 : ag (hC h0 80 (segF (h.1 80) (16 * br S.2.1) (bval S.2.1 l) i)) 75 64 (16 * nI l + nI i) = some (bval S.2.1 l i) := by rw [ixM, ag_nI _ _ (by omega) (by decide), hC_n _ _ (show 75 ≠ 80 by decide), o75, q4 i hi]
      rw [f_X9_release_99, if_neg (n16 hi), a75, bO_some, hC_n _ _ (show 66 ≠ 80 by decide), o66, e13, ixM, asg_nI _ 80 _ (by omega) (by omega), bO_some, hC_hU, segF_s, nI1]
  obtain ⟨H, hH⟩ : ∃ H, H = hU (hC h0 80 (segF (h.1 80) (16 * br S.2.1) (bval S.2.1 l) 16)) 66 13 (nI (br S.2.1 + 1)) := ⟨_, rfl⟩
  have e66 : H.1 66 = upd (h.1 66) 13 (nI (br S.2.1 + 1)) := by rw [hH, hh0]; rfl
  have e77 : H.1 77 = upd (h.1 77) (br S.2.1) (nI l) := by rw [hH, hh0]; rfl
  have e78 : H.1 78 = upd (h.1 78) (br S.2.1) (nI d) := by rw [hH, hh0]; rfl
  have e79 : H.1 79 = upd (h.1 79) (br S.2.1) (bin S.2.1 l) := by rw [hH, hh0]; rfl
  have e80 : H.1 80 = segF (h.1 80) (16 * br S.2.1) (bval S.2.1 l) 16 := by rw [hH, hh0]; rfl
  have eo : ∀ j, j ≠ 66 → ¬ (77 ≤ j ∧ j ≤ 80) → H.1 j = h.1 j := fun j h1 h2 => by rw [hH, hU_n _ _ _ h1, hC_n _ _ (by omega), hh0, hU_n _ _ _ (by omega), hU_n _ _ _ (by omega), hU_n _ _ _ (by omega)]
  refine ⟨H, ?_, c.book (fun j h1 h2 h3 h4 => eo j h1 (by omega)) (fun i h1 h2 h3 => by rw [e66, upd_n _ _ h2]) (MB.bk.mpr ?_), fun j hj => eo j (by omega) (by omega)⟩
  · have a1 : asg h 77 20 (nI (br S.2.1)) (nI l) = some (hU h 77 (br S.2.1) (nI l)) := asg_nI h 77 _ hr (by omega)
    have a2 : asg (hU h 77 (br S.2.1) (nI l)) 78 20 (nI (br S.2.1)) (nI d) = some (hU (hU h 77 (br S.2.1) (nI l)) 78 (br S.2.1) (nI d)) := asg_nI _ 78 _ hr (by omega)
    have a3 : ag (hU (hU h 77 (br S.2.1) (nI l)) 78 (br S.2.1) (nI d)) 74 4 (nI l) = some (bin S.2.1 l) := by
      rw [ag_nI _ 74 (by omega : l < 4) (by omega), hU_n _ _ _ (show 74 ≠ 78 by decide), hU_n _ _ _ (show 74 ≠ 77 by decide), q2]
    have a4 : asg (hU (hU h 77 (br S.2.1) (nI l)) 78 (br S.2.1) (nI d)) 79 20 (nI (br S.2.1)) (bin S.2.1 l) = some h0 := by
      rw [hh0]; exact asg_nI _ 79 _ hr (by omega)
    rw [f_X9_release_49, e13, if_neg (show ¬ nI (br S.2.1) = 20 by rw [show (20 : Int32) = nI 20 from rfl, eqN (by omega) (by omega)]; omega), a1, bO_some, hU_n _ _ _ (show 66 ≠ 77 by decide), e13, a2, bO_some, a3, bO_some, hU_n _ _ _ (show 66 ≠ 78 by decide), hU_n _ _ _ (show 66 ≠ 77 by decide), e13, a4, bO_some, lp, hH]
  · rw [e66, e77, e78, e79, e80, eo 73 (by omega) (by omega), eo 74 (by omega) (by omega), eo 75 (by omega) (by omega), eo 76 (by omega) (by omega), upd_s, upd_n _ _ (show 8 ≠ 13 by decide)]
    exact (MB.bk.mp c.2.1).rel rfl (up_at _ _ _) (up_at _ _ _) (up_at _ _ _) (seg_at _ _ _)
def lastD (S : SD) : Int32 := if br S.2.1 = 0 then 0 else bday S.2.1 (br S.2.1 - 1)
theorem c_lastDay {S : SD} (w : wfS S) {h : PH} (c : RC S h) : f_X0_lastDay 28 h = some (lastD S, h) := by
  have b20 := w.b20
  rw [f_X0_lastDay, c.2.1.2.1, lastD]
  by_cases e : br S.2.1 = 0
  · rw [if_pos (by rw [e]; rfl), if_pos e]
  · have a1 : ag h (28 + 6) 20 (nI (br S.2.1 - 1)) = some (bday S.2.1 (br S.2.1 - 1)) := c.rday w (by omega)
    rw [if_neg (nI_ne0 (by omega) (by omega)), if_neg e, show nI (br S.2.1) - 1 = nI (br S.2.1 - 1) from pk_sub (b := 1) (by omega), a1, bO_some]
theorem m_rel_if {S : SD} (w : wfS S) {l d : Nat} (hd : d < 1000) {h : PH} (c : RM S h) : (if (h.1 66 13) ≤ 0 then (f_X9_release_49 (nI l) (nI d) h) else (bO (ag h 78 20 ((h.1 66 13) - 1)) (fun v41 => if v41 ≤ nI d then (f_X9_release_49 (nI l) (nI d) h) else (some ((-1003), h))))) = if lastD S ≤ nI d then f_X9_release_49 (nI l) (nI d) h else some (-1003, h) := by
  have b20 := w.b20
  rw [c.2.1.2.1, lastD]
  by_cases e : br S.2.1 = 0
  · rw [if_pos (by rw [e]; decide), if_pos e, if_pos (nIne (by omega))]
  · rw [if_neg (nI_nle (by omega) (by omega)), if_neg e, show nI (br S.2.1) - 1 = nI (br S.2.1 - 1) from pk_sub (b := 1) (by omega), c.rday w (by omega), bO_some]
theorem p_release (x y : Int32) : Pair (f_X8_release x y) (f_X9_release x y) := Pair.mut (fun S w => by
  have b20 := w.b20
  have b4 := w.b4
  refine mut_line w (fun _ => rfl) (fun _ => rfl) (fun l hl e => ?_)
  subst e
  refine mut_day w (fun _ => rfl) (fun _ => rfl) (fun d hd e => ?_)
  subst e
  obtain ⟨g1, g2, g3⟩ := w.ln hl
  by_cases hday : lastD S ≤ nI d
  · by_cases hr : br S.2.1 < 20
    · have hds : ∀ r, r < br S.2.1 → (bday S.2.1 r).toInt ≤ (d : Int) := fun r hr2 => by
        have h1 := w.2.1.2.2.2.2 r (br S.2.1 - 1) (by omega) (by omega)
        have h2 : lastD S = bday S.2.1 (br S.2.1 - 1) := by unfold lastD; rw [if_neg (by omega)]
        rw [h2, leI, nI_toInt (by omega)] at hday
        omega
      refine Mut.of (nI (br S.2.1)) (w.book (wf_rel w.2.1 hr hl (d := d) (by omega) (v := bval S.2.1 l) g2 hds)) (fun h c => ?_) (fun h c => ?_)
      · obtain ⟨h', e, q, u⟩ := c_addRel w hl hr (d := d) c
        refine ⟨h', ?_, q, u⟩
        rw [c_lastDay w c, bP_some, if_pos hday, c.2.1.2.1, if_pos (show nI (br S.2.1) < 20 by rw [show (20 : Int32) = nI 20 from rfl, ltN (by omega) (by omega)]; exact hr), e, bP_some]
      · obtain ⟨h', e, q, u⟩ := m_rel49 w hl hr (d := d) c
        refine ⟨h', ?_, q, u⟩
        rw [m_rel_if w hd c, if_pos hday, e]
    · have e20 : br S.2.1 = 20 := by omega
      refine Two.mut w (Two.of (-1004) (Q.pt fun h c => ?_) (P9.pt fun h c => ?_))
      · rw [c_lastDay w c, bP_some, if_pos hday, c.2.1.2.1, e20, if_neg (by decide)]
      · rw [m_rel_if w hd c, if_pos hday, f_X9_release_49, c.2.1.2.1, e20, if_pos (by decide)]
  · refine Two.mut w (Two.of (-1003) (Q.pt fun h c => ?_) (P9.pt fun h c => ?_))
    · rw [c_lastDay w c, bP_some, if_neg hday]
    · rw [m_rel_if w hd c, if_neg hday])
