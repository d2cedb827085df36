/-! ===== undo ===== -/
def stB (T : TD) (c : Nat) (v : Nat → Int32) : Nat → Bool
  | 0 => true
  | s + 1 => stB T c v s && (!sb T c s || decide (v s = tst T c s))
def offV (T : TD) (c : Nat) (v : Nat → Int32) : Nat → Int32 := fun s => if sb T c s = true then ahd T c s else v s
theorem stB_down {T : TD} {c : Nat} {v : Nat → Int32} {i n : Nat} (h : i ≤ n) (hi : stB T c v i = false) : stB T c v n = false := by
  induction n with
  | zero => have : i = 0 := by omega
            subst this; exact hi
  | succ n ih =>
    by_cases e : i = n + 1
    · subst e; exact hi
    · rw [stB, ih (by omega)]; rfl
theorem offV_congr {T : TD} {c : Nat} {v u : Nat → Int32} (h : ∀ s, s < 16 → v s = u s) : ∀ s, s < 16 → offV T c v s = offV T c u s := fun s hs => by unfold offV; rw [h s hs]
theorem sb_z {S : SD} (w : wfS S) (c s : Nat) : (tst S.1 c s = 0) = (sb S.1 c s = false) := by
  have h := (w.1.2.2.1 c s).1
  unfold sb
  rw [eqI, i0, Bool.not_eq_false', decide_eq_true_eq, Int32.le_iff_toInt_le, i0]
  apply propext
  omega
theorem c_still {S : SD} (w : wfS S) {h : PH} (c : RC S h) {l k : Nat} (hl : l < bl S.2.1) (hk : k < tn S.1) : f_X7_stillSet 4 32 64 (nI k) (nI l) h = some (b01 (stB S.1 k (bval S.2.1 l) 16), h) := by
  have n24 := w.n24
  have b4 := w.b4
  refine glF (fun n (_ : Unit) i h => f_X7_stillSet_3 4 32 64 (nI k) (nI l) n (nI i) h) (fun i _ h' => h' = h ∧ stB S.1 k (bval S.2.1 l) i = true) 16 (fun o => o = some (b01 (stB S.1 k (bval S.2.1 l) 16), h)) (by omega) (fun _ h' hI n => ?_) (fun i _ h' hi hI => ?_) (i := 0) (b := ()) (Nat.zero_le _) ⟨rfl, rfl⟩
  · obtain ⟨rfl, q⟩ := hI
    show f_X7_stillSet_3 _ _ _ _ _ (n + 1) _ h' = _
    rw [f_X7_stillSet_3, if_pos (p16 (by omega) (by omega)), q]; rfl
  · obtain ⟨rfl, q⟩ := hI
    have st : ∀ n, f_X7_stillSet_3 4 32 64 (nI k) (nI l) (n + 1) (nI i) h' = if (!sb S.1 k i || decide (bval S.2.1 l i = tst S.1 k i)) = true then f_X7_stillSet_3 4 32 64 (nI k) (nI l) n (nI (i + 1)) h' else some (0, h') := fun n => by
      have a5 : ag h' (4 + 1) 24 (nI k) = some (setsM S.1 k) := c.rset w hk
      have a8 : ag h' (4 + 4) 384 (nI k * 16 + nI i) = some (tst S.1 k i) := c.rst w hk hi
      rw [f_X7_stillSet_3, if_neg (n16 hi), a5, bO_some, has8 _ (by omega), bO_some, bt_sets hi, c.rval w hl hi, bO_some, a8, bO_some, nI1]
      cases sb S.1 k i
      · rw [if_neg (show ¬ false = true by decide), if_pos rfl, if_pos (by simp)]
      · rw [if_pos rfl, if_neg (by decide)]
        by_cases e : bval S.2.1 l i = tst S.1 k i
        · rw [if_pos e, if_pos (by rw [decide_eq_true e, Bool.or_true])]
        · rw [if_neg e, if_neg (by rw [decide_eq_false e]; decide)]
    cases hp : (!sb S.1 k i || decide (bval S.2.1 l i = tst S.1 k i))
    · refine Or.inl (fun n => ?_)
      show f_X7_stillSet_3 _ _ _ _ _ (n + 1) _ h' = _
      rw [st n, if_neg (by rw [hp]; decide), stB_down (i := i + 1) (by omega) (by rw [stB, hp, Bool.and_false])]; rfl
    · refine Or.inr ⟨(), h', ⟨rfl, by rw [stB, q, hp]; rfl⟩, fun n => ?_⟩
      show f_X7_stillSet_3 _ _ _ _ _ (n + 1) _ h' = f_X7_stillSet_3 _ _ _ _ _ n _ h'
      rw [st n, if_pos hp]
theorem c_takeOff {T : TD} {h : PH} (hT : wfT T) (hC' : CT T h) {c : Nat} (hc : c < tn T) {r : Nat} (hr : r < 4) : f_X7_takeOff 4 (28 + 4) 64 (nI c) (nI r) h = some (hC h 32 (segF (h.1 32) (16 * r) (offV T c (fun s => h.1 32 (16 * r + s))) 16)) := by
  obtain ⟨w1, w2, w3, w4, w5, w6, w7, w8⟩ := hT
  have h0 : h = hC h 32 (segF (h.1 32) (16 * r) (offV T c (fun s => h.1 32 (16 * r + s))) 0) := by rw [segF_0, hC_self]
  rw [f_X7_takeOff]
  conv => lhs; rw [h0]
  refine lp_up (fun n a i => f_X7_takeOff_3 4 (28 + 4) 64 (nI c) (nI r) n (nI i) a) (fun i => hC h 32 (segF (h.1 32) (16 * r) (offV T c (fun s => h.1 32 (16 * r + s))) i)) 16 _ (fun n => ?_) (fun n i hi => ?_) FU 0 (Nat.zero_le _) (FU_gt (by omega))
  · show f_X7_takeOff_3 4 _ 64 (nI c) (nI r) (n + 1) (nI 16) _ = _
    rw [f_X7_takeOff_3, if_pos (p16 (by omega) (by omega))]
  · show f_X7_takeOff_3 4 _ 64 (nI c) (nI r) (n + 1) (nI i) _ = f_X7_takeOff_3 4 _ 64 (nI c) (nI r) n (nI (i + 1)) _
    obtain ⟨q0, q6, q1, q2, q3⟩ := hC_keepC hC' (segF (h.1 32) (16 * r) (offV T c (fun s => h.1 32 (16 * r + s))) i) (V := 32) rfl
    have e5 : ag (hC h 32 (segF (h.1 32) (16 * r) (offV T c (fun s => h.1 32 (16 * r + s))) i)) (4 + 1) 24 (nI c) = some (setsM T c) := by rw [ag_nI _ _ (by omega) (by decide)]; exact congrArg some (q1 c hc).1
    have e9 : ag (hC h 32 (segF (h.1 32) (16 * r) (offV T c (fun s => h.1 32 (16 * r + s))) i)) (4 + 5) 400 (nI c * 16 + nI i) = some (ahd T c i) := by rw [ixC, ag_nI _ _ (by omega) (by decide)]; exact congrArg some (q2 c (by omega) i hi)
    have a32 : ∀ x, asg (hC h 32 (segF (h.1 32) (16 * r) (offV T c (fun s => h.1 32 (16 * r + s))) i)) (28 + 4) 64 (nI r * 16 + nI i) x = some (hC h 32 (upd (segF (h.1 32) (16 * r) (offV T c (fun s => h.1 32 (16 * r + s))) i) (16 * r + i) x)) := fun x => by
      rw [ixC, ← hC_hU]; exact asg_nI _ 32 x (by omega) (by omega)
    rw [f_X7_takeOff_3, if_neg (n16 hi), e5, bO_some, has8 _ (by omega), bO_some, bt_sets hi, ← nI1]
    by_cases hb : sb T c i = true
    · rw [if_pos hb, if_neg (by decide), e9, bO_some, a32, bO_some]
      have e : ahd T c i = offV T c (fun s => h.1 32 (16 * r + s)) i := by unfold offV; rw [if_pos hb]
      rw [e, segF_s]
    · rw [if_neg hb, if_pos rfl, segF_same (by unfold offV; rw [if_neg hb])]
theorem c_offB {S : SD} (w : wfS S) {h : PH} (c : RC S h) {l k : Nat} (hl : l < bl S.2.1) (hk : k < tn S.1) : ∃ h', f_X0_takeOff 28 4 (nI l) (nI k) h = some h' ∧ CB (lnB S.2.1 l (bl S.2.1) (bcut S.2.1 l) (bin S.2.1 l &&& ((1 <<< (nI k &&& 31)) ^^^ (-1))) (bev S.2.1 l) (offV S.1 k (bval S.2.1 l))) 28 h' ∧ ∀ j, j ≠ 30 → j ≠ 32 → h'.1 j = h.1 j := by
  have n24 := w.n24
  have b4 := w.b4
  have e := c_takeOff w.1 c.1 hk (r := l) (by omega)
  generalize hG : segF (h.1 32) (16 * l) (offV S.1 k (fun s => h.1 32 (16 * l + s))) 16 = G at e
  have a1 : ag (hC h 32 G) (28 + 2) 4 (nI l) = some (h.1 30 l) := by
    have := ag_nI (hC h 32 G) 30 (by omega : l < 4) (by omega)
    rw [hC_n h _ (show 30 ≠ 32 by decide)] at this
    exact this
  have a2 : asg (hC h 32 G) (28 + 2) 4 (nI l) (h.1 30 l &&& ((1 <<< (nI k &&& 31)) ^^^ (-1))) = some (hU (hC h 32 G) 30 l (h.1 30 l &&& ((1 <<< (nI k &&& 31)) ^^^ (-1)))) := asg_nI _ 30 _ (by omega) (by omega)
  obtain ⟨q1, q2, q3, q4⟩ := c.2.1.2.2.1 l hl
  have q2 : h.1 30 l = bin S.2.1 l := q2
  refine ⟨_, by rw [f_X0_takeOff, e, bO_some, a1, bO_some, a2, bO_some], CB.bk.mpr ?_, fun j h1 h2 => ?_⟩
  · rw [hU_s, hU_n _ _ _ (show 28 ≠ 30 by decide), hU_n _ _ _ (show 29 ≠ 30 by decide), hU_n _ _ _ (show 31 ≠ 30 by decide), hU_n _ _ _ (show 32 ≠ 30 by decide), hU_n _ _ _ (show 33 ≠ 30 by decide), hU_n _ _ _ (show 34 ≠ 30 by decide), hU_n _ _ _ (show 35 ≠ 30 by decide), hU_n _ _ _ (show 36 ≠ 30 by decide), hC_s, hC_n _ _ (show 28 ≠ 32 by decide), hC_n _ _ (show 29 ≠ 32 by decide), hC_n _ _ (show 30 ≠ 32 by decide), hC_n _ _ (show 31 ≠ 32 by decide), hC_n _ _ (show 33 ≠ 32 by decide), hC_n _ _ (show 34 ≠ 32 by decide), hC_n _ _ (show 35 ≠ 32 by decide), hC_n _ _ (show 36 ≠ 32 by decide)]
    refine (CB.bk.mp c.2.1).line (fun j hj _ => hj) c.2.1.1 ⟨q1, fun _ _ => rfl⟩ ?_ ⟨q3, fun _ _ => rfl⟩ ?_
    · rw [q2]; exact up_at _ _ _
    · rw [← hG]
      obtain ⟨a, b⟩ := seg_at (h.1 32) (offV S.1 k (fun s => h.1 32 (16 * l + s))) l
      exact ⟨fun s hs => (a s hs).trans (offV_congr (fun s hs => q4 s hs) s hs), b⟩
  · rw [hU_n _ _ _ h1, hC_n _ _ h2]
theorem m_undo34 {S : SD} (w : wfS S) {h : PH} (c : RM S h) {l k : Nat} (hl : l < bl S.2.1) (hk : k < tn S.1) (b : Bool) : f_X9_undo_34 (nI l) (nI k) FU (b01 b) 0 h = if (b && stB S.1 k (bval S.2.1 l) 16) = true then f_X9_undo_110 (nI l) (nI k) FU 0 h else some (-1003, h) := by
  have n24 := w.n24
  have b4 := w.b4
  have hb0 : b01 b = b01 (b && stB S.1 k (bval S.2.1 l) 0) := by rw [stB, Bool.and_true]
  rw [hb0]
  refine lp_up (fun n a i => f_X9_undo_34 (nI l) (nI k) n a (nI i) h) (fun i => b01 (b && stB S.1 k (bval S.2.1 l) i)) 16 _ (fun n => ?_) (fun n i hi => ?_) FU 0 (Nat.zero_le _) (FU_gt (by omega))
  · show f_X9_undo_34 _ _ (n + 1) _ _ h = _
    rw [f_X9_undo_34, if_pos (p16 (by omega) (by omega))]
    cases (b && stB S.1 k (bval S.2.1 l) 16) <;> rfl
  · show f_X9_undo_34 _ _ (n + 1) _ _ h = f_X9_undo_34 _ _ n _ _ h
    rw [f_X9_undo_34, if_neg (n16 hi), c.rst w hk hi, bO_some, c.rval w hl hi, bO_some, bO_some, nI1, stB, ite_c (sb_z w k i), ← Bool.and_assoc]
    cases (b && stB S.1 k (bval S.2.1 l) i)
    · rfl
    · rw [if_neg (show ¬ b01 true = 0 by decide), Bool.true_and]
      cases sb S.1 k i
      · rfl
      · rw [if_neg (show ¬ true = false by decide)]
        by_cases e : bval S.2.1 l i = tst S.1 k i
        · rw [if_pos e, decide_eq_true e]; rfl
        · rw [if_neg e, decide_eq_false e]; rfl
theorem m_undo110 {S : SD} (w : wfS S) {h : PH} (c : RM S h) {l k : Nat} (hl : l < bl S.2.1) (hk : k < tn S.1) : ∃ h', f_X9_undo_110 (nI l) (nI k) FU 0 h = some (nI (pc (bin S.2.1 l &&& ((1 <<< (nI k &&& 31)) ^^^ (-1))) 24), h') ∧ RM (S.1, lnB S.2.1 l (bl S.2.1) (bcut S.2.1 l) (bin S.2.1 l &&& ((1 <<< (nI k &&& 31)) ^^^ (-1))) (bev S.2.1 l) (offV S.1 k (bval S.2.1 l)), S.2.2) h' ∧ lo66 h h' := by
  have n24 := w.n24
  have b4 := w.b4
  obtain ⟨q1, q2, q3, q4⟩ := c.2.1.2.2.1 l hl
  have lp : f_X9_undo_110 (nI l) (nI k) FU 0 h = some (nI (pc (bin S.2.1 l &&& ((1 <<< (nI k &&& 31)) ^^^ (-1))) 24), hU (hC h 75 (segF (h.1 75) (16 * l) (offV S.1 k (bval S.2.1 l)) 16)) 74 l (bin S.2.1 l &&& ((1 <<< (nI k &&& 31)) ^^^ (-1)))) := by
    have h00 : h = hC h 75 (segF (h.1 75) (16 * l) (offV S.1 k (bval S.2.1 l)) 0) := by rw [segF_0, hC_self]
    conv => lhs; rw [h00]
    refine lp_up (fun m a i => f_X9_undo_110 (nI l) (nI k) m (nI i) a) (fun i => hC h 75 (segF (h.1 75) (16 * l) (offV S.1 k (bval S.2.1 l)) i)) 16 _ (fun m => ?_) (fun m i hi => ?_) FU 0 (Nat.zero_le _) (FU_gt (by omega))
    · show f_X9_undo_110 _ _ (m + 1) (nI 16) _ = _
      rw [f_X9_undo_110, if_pos (p16 (by omega) (by omega)), ag_nI _ 74 (by omega : l < 4) (by omega), bO_some, hC_n _ _ (show 74 ≠ 75 by decide), q2, asg_nI _ 74 _ (by omega : l < 4) (by omega), bO_some, ag_nI _ 74 (by omega : l < 4) (by omega), bO_some, hU_s, upd_s, m_bits, bO_some]
    · show f_X9_undo_110 _ _ (m + 1) (nI i) _ = f_X9_undo_110 _ _ m (nI (i + 1)) _
      have hM := hC_keepM c.1 (segF (h.1 75) (16 * l) (offV S.1 k (bval S.2.1 l)) i) (V := 75) rfl (by decide)
      have a67 : ag (hC h 75 (segF (h.1 75) (16 * l) (offV S.1 k (bval S.2.1 l)) i)) 67 384 (16 * nI k + nI i) = some (tst S.1 k i) := by rw [ixM, ag_nI _ _ (by omega) (by decide)]; exact congrArg some ((hM.2.2.1 k hk).2.2 i hi)
      have a75 : ag (hC h 75 (segF (h.1 75) (16 * l) (offV S.1 k (bval S.2.1 l)) i)) 75 64 (16 * nI l + nI i) = some (bval S.2.1 l i) := by rw [ixM, ag_nI _ _ (by omega) (by decide), hC_s, segF_out (by omega), q4 i hi]
      have ea : f_X9_aheadOf (nI k) (nI i) (hC h 75 (segF (h.1 75) (16 * l) (offV S.1 k (bval S.2.1 l)) i)) = some (ahd S.1 k i, hC h 75 (segF (h.1 75) (16 * l) (offV S.1 k (bval S.2.1 l)) i)) := by
        rw [f_X9_aheadOf, ixM, ag_nI _ _ (by omega) (by omega), bO_some, hM.2.2.2.1 k (by omega) i hi]
      rw [f_X9_undo_110, if_neg (n16 hi), a67, bO_some, a75, bO_some, ea, bP_some, f_X9_undo_165, f_X9_undo_165, ixM, asg_nI _ 75 _ (by omega : 16 * l + i < 64) (by omega), asg_nI _ 75 _ (by omega : 16 * l + i < 64) (by omega), bO_some, bO_some, hC_hU, hC_hU, nI1, ite_c (sb_z w k i), ← segF_s]
      have ev : offV S.1 k (bval S.2.1 l) i = if sb S.1 k i = true then ahd S.1 k i else bval S.2.1 l i := rfl
      rw [ev]
      cases sb S.1 k i <;> rfl
  rw [lp]
  obtain ⟨H, hH⟩ : ∃ H, H = hU (hC h 75 (segF (h.1 75) (16 * l) (offV S.1 k (bval S.2.1 l)) 16)) 74 l (bin S.2.1 l &&& ((1 <<< (nI k &&& 31)) ^^^ (-1))) := ⟨_, rfl⟩
  have e74 : H.1 74 = upd (h.1 74) l (bin S.2.1 l &&& ((1 <<< (nI k &&& 31)) ^^^ (-1))) := by rw [hH]; rfl
  have e75 : H.1 75 = segF (h.1 75) (16 * l) (offV S.1 k (bval S.2.1 l)) 16 := by rw [hH]; rfl
  have eo : ∀ j, j ≠ 74 → j ≠ 75 → H.1 j = h.1 j := fun j h1 h2 => by rw [hH, hU_n _ _ _ h1, hC_n _ _ h2]
  refine ⟨H, by rw [hH], c.book (fun j h1 h2 h3 h4 => eo j (by omega) (by omega)) (fun i h1 h2 h3 => by rw [eo 66 (by omega) (by omega)]) (MB.bk.mpr ?_), fun j hj => eo j (by omega) (by omega)⟩
  rw [eo 66 (by omega) (by omega), eo 73 (by omega) (by omega), e74, e75, eo 76 (by omega) (by omega), eo 77 (by omega) (by omega), eo 78 (by omega) (by omega), eo 79 (by omega) (by omega), eo 80 (by omega) (by omega)]
  exact (MB.bk.mp c.2.1).line (fun j hj _ => hj) c.2.1.1 ⟨q1, fun _ _ => rfl⟩ (up_at _ _ _) ⟨q3, fun _ _ => rfl⟩ (seg_at _ _ _)
theorem p_undo (x y : Int32) : Pair (f_X8_undo x y) (f_X9_undo x y) := Pair.mut (fun S w => by
  have n24 := w.n24
  have b4 := w.b4
  refine mut_line w (fun _ => rfl) (fun _ => rfl) (fun l hl e => ?_)
  subst e
  refine mut_change w (fun _ => rfl) (fun _ => rfl) (fun k hk e => ?_)
  subst e
  obtain ⟨g1, g2, g3⟩ := w.ln hl
  cases hno : (bt (bin S.2.1 l) k && stB S.1 k (bval S.2.1 l) 16)
  · refine Two.mut w (Two.of (-1003) (Q.pt fun h c => ?_) (P9.pt fun h c => ?_))
    · rw [c.rin w hl, bO_some, has8 _ (by omega), bO_some, c_still w c hl hk, bP_some]
      cases hb : bt (bin S.2.1 l) k
      · rw [if_neg (show ¬ false = true by decide), if_pos rfl]
      · rw [hb, Bool.true_and] at hno
        rw [if_pos rfl, if_neg (by decide), hno, if_pos (show b01 false = 0 from rfl)]
    · have e34 := m_undo34 w c hl hk (bt (bin S.2.1 l) k)
      rw [hno, if_neg (by decide)] at e34
      rw [c.rin w hl, bO_some, has9 _ (by omega), bO_some]
      exact e34
  · have hbel : bel (bin S.2.1 l &&& ((1 <<< (nI k &&& 31)) ^^^ (-1))) (tn S.1) := bel_and g2
    refine Mut.of (nI (pc (bin S.2.1 l &&& ((1 <<< (nI k &&& 31)) ^^^ (-1))) 24)) (w.book (wf_line w.2.1 (l := l) (L := bl S.2.1) (v := offV S.1 k (bval S.2.1 l)) b4 (Nat.le_refl _) (fun j hj _ => hj) g1 hbel g3)) (fun h c => ?_) (fun h c => ?_)
    · obtain ⟨h1, e1, q1, u1⟩ := c_offB w c hl hk
      rw [Bool.and_eq_true] at hno
      refine ⟨h1, ?_, c.book (fun j _ _ hj => u1 j (by omega) (by omega)) q1, fun j hj => u1 j (by omega) (by omega)⟩
      rw [c.rin w hl, bO_some, has8 _ (by omega), bO_some, hno.1, if_pos rfl, if_neg (by decide), c_still w c hl hk, bP_some, hno.2, if_neg (by decide), e1, bO_some, q1.inl (l := l) hl b4, bO_some, lnB_in, c_bits (bel_mono hbel n24), bO_some]
    · obtain ⟨h1, e1, q1, u1⟩ := m_undo110 w c hl hk
      refine ⟨h1, ?_, q1, u1⟩
      have e34 := m_undo34 w c hl hk (bt (bin S.2.1 l) k)
      rw [hno, if_pos rfl, e1] at e34
      rw [c.rin w hl, bO_some, has9 _ (by omega), bO_some]
      exact e34)
