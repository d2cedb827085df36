/-! ===== cut, pick, undo, carry, every, release ===== -/
theorem wfS.book {S : SD} (w : wfS S) {B' : BD} (h : wfB (tn S.1) B') : wfS (S.1, B', S.2.2) := ⟨w.1, h, w.2.2⟩
theorem wfS.ln {S : SD} (w : wfS S) {l : Nat} (hl : l < bl S.2.1) : (∃ k, k ≤ tn S.1 ∧ bcut S.2.1 l = nI k) ∧ bel (bin S.2.1 l) (tn S.1) ∧ ∃ k, k ≤ 99 ∧ bev S.2.1 l = nI k := w.2.1.2.2.1 l hl
theorem CB.bk {B : BD} {h : PH} : CB B 28 h ↔ BK B (h.1 28 0) (h.1 28 5) (h.1 29) (h.1 30) (h.1 31) (h.1 32) (h.1 33) (h.1 34) (h.1 35) (h.1 36) := Iff.rfl
theorem MB.bk {B : BD} {h : PH} : MB B h ↔ BK B (h.1 66 8) (h.1 66 13) (h.1 73) (h.1 74) (h.1 76) (h.1 75) (h.1 77) (h.1 78) (h.1 79) (h.1 80) := Iff.rfl
/-- the class: a change is put on -/
theorem c_putB {S : SD} {B : BD} (w : wfS S) {h : PH} (hT : CT S.1 h) (hB : CB B 28 h) {l k : Nat} (hl : l < bl B) (hb4 : bl B ≤ 4) (hk : k < tn S.1) : ∃ h', f_X0_putOn 28 4 (nI l) (nI k) h = some h' ∧ CB (lnB B l (bl B) (bcut B l) (bin B l ||| (1 <<< (nI k &&& 31))) (bev B l) (putM S.1 k (bval B l))) 28 h' ∧ ∀ j, j ≠ 30 → j ≠ 32 → h'.1 j = h.1 j := by
  have n24 := w.n24
  have e : f_X7_putOn 4 (28 + 4) 64 (nI k) (nI l) h = some (hC h 32 (segF (h.1 32) (16 * l) (putM S.1 k (fun s => h.1 32 (16 * l + s))) 16)) := c_putOn w.1 hT hk (V := 32) (N := 64) (r := l) rfl (by omega) (by omega)
  generalize hG : segF (h.1 32) (16 * l) (putM S.1 k (fun s => h.1 32 (16 * l + s))) 16 = G at e
  have a1 : ag (hC h 32 G) (28 + 2) 4 (nI l) = some (h.1 30 l) := by
    have := ag_nI (hC h 32 G) 30 (by omega : l < 4) (by omega)
    rw [hC_n h _ (show 30 ≠ 32 by decide)] at this
    exact this
  have a2 : asg (hC h 32 G) (28 + 2) 4 (nI l) (h.1 30 l ||| (1 <<< (nI k &&& 31))) = some (hU (hC h 32 G) 30 l (h.1 30 l ||| (1 <<< (nI k &&& 31)))) := asg_nI _ 30 _ (by omega) (by omega)
  obtain ⟨q1, q2, q3, q4⟩ := hB.2.2.1 l hl
  have q2 : h.1 30 l = bin B l := q2
  refine ⟨_, by rw [f_X0_putOn, e, bO_some, a1, bO_some, a2, bO_some], CB.bk.mpr ?_, fun j h1 h2 => ?_⟩
  · rw [hU_s, hU_n _ _ _ (show 28 ≠ 30 by decide), hU_n _ _ _ (show 29 ≠ 30 by decide), hU_n _ _ _ (show 31 ≠ 30 by decide), hU_n _ _ _ (show 32 ≠ 30 by decide), hU_n _ _ _ (show 33 ≠ 30 by decide), hU_n _ _ _ (show 34 ≠ 30 by decide), hU_n _ _ _ (show 35 ≠ 30 by decide), hU_n _ _ _ (show 36 ≠ 30 by decide), hC_s, hC_n _ _ (show 28 ≠ 32 by decide), hC_n _ _ (show 29 ≠ 32 by decide), hC_n _ _ (show 30 ≠ 32 by decide), hC_n _ _ (show 31 ≠ 32 by decide), hC_n _ _ (show 33 ≠ 32 by decide), hC_n _ _ (show 34 ≠ 32 by decide), hC_n _ _ (show 35 ≠ 32 by decide), hC_n _ _ (show 36 ≠ 32 by decide)]
    refine (CB.bk.mp hB).line (fun j hj _ => hj) hB.1 ⟨q1, fun _ _ => rfl⟩ ?_ ⟨q3, fun _ _ => rfl⟩ ?_
    · rw [q2]; exact up_at _ _ _
    · rw [← hG]
      obtain ⟨a, b⟩ := seg_at (h.1 32) (putM S.1 k (fun s => h.1 32 (16 * l + s))) l
      exact ⟨fun s hs => (a s hs).trans (putM_congr (fun s hs => q4 s hs) s hs), b⟩
  · rw [hU_n _ _ _ h1, hC_n _ _ h2]
theorem m_putLine {h : PH} {l : Nat} (hl : l < 4) (x : Int32) : f_X9_putLine (nI l) x h = some (hU (hC h 75 (segF (h.1 75) (16 * l) (h.1 89) 16)) 74 l (h.1 74 l ||| x)) := by
  have h0 : h = hC h 75 (segF (h.1 75) (16 * l) (h.1 89) 0) := by rw [segF_0, hC_self]
  rw [f_X9_putLine]
  conv => lhs; rw [h0]
  refine lp_up (fun n a i => f_X9_putLine_2 (nI l) x n (nI i) a) (fun i => hC h 75 (segF (h.1 75) (16 * l) (h.1 89) i)) 16 _ (fun n => ?_) (fun n i hi => ?_) FU 0 (Nat.zero_le _) (FU_gt (by omega))
  · show f_X9_putLine_2 _ _ (n + 1) (nI 16) _ = _
    rw [f_X9_putLine_2, if_pos (p16 (by omega) (by omega)), ag_nI _ 74 hl (by omega), bO_some, hC_n _ _ (by decide), asg_nI _ 74 _ hl (by omega), bO_some]
  · show f_X9_putLine_2 _ _ (n + 1) (nI i) _ = f_X9_putLine_2 _ _ n (nI (i + 1)) _
    rw [f_X9_putLine_2, if_neg (n16 hi), ag_nI _ 89 hi (by omega), bO_some, hC_n _ _ (by decide), ixM, asg_nI _ 75 _ (by omega : 16 * l + i < 64) (by omega), bO_some, hC_hU, segF_s, nI1]
/-- the model: what was tried becomes the line's -/
theorem m_putB {S : SD} (w : wfS S) {h : PH} (c : RM S h) {l : Nat} (hl : l < bl S.2.1) {v : Nat → Int32} (hv : Has v 89 h) (x : Int32) : ∃ h', f_X9_putLine (nI l) x h = some h' ∧ RM (S.1, lnB S.2.1 l (bl S.2.1) (bcut S.2.1 l) (bin S.2.1 l ||| x) (bev S.2.1 l) v, S.2.2) h' ∧ lo66 h h' ∧ h'.1 74 l = bin S.2.1 l ||| x := by
  have b4 := w.b4
  obtain ⟨q1, q2, q3, q4⟩ := c.2.1.2.2.1 l hl
  refine ⟨_, m_putLine (by omega) x, c.book (fun k h1 h2 h3 h4 => ?_) (fun i _ _ _ => ?_) (MB.bk.mpr ?_), (lo66.hC _ (by decide)).tr (lo66.hU _ _ (by decide)), ?_⟩
  · rw [hU_n _ _ _ (by omega), hC_n _ _ (by omega)]
  · rw [hU_n _ _ _ (by decide), hC_n _ _ (by decide)]
  · rw [hU_s, hU_n _ _ _ (show 66 ≠ 74 by decide), hU_n _ _ _ (show 73 ≠ 74 by decide), hU_n _ _ _ (show 76 ≠ 74 by decide), hU_n _ _ _ (show 75 ≠ 74 by decide), hU_n _ _ _ (show 77 ≠ 74 by decide), hU_n _ _ _ (show 78 ≠ 74 by decide), hU_n _ _ _ (show 79 ≠ 74 by decide), hU_n _ _ _ (show 80 ≠ 74 by decide), hC_s, hC_n _ _ (show 66 ≠ 75 by decide), hC_n _ _ (show 73 ≠ 75 by decide), hC_n _ _ (show 74 ≠ 75 by decide), hC_n _ _ (show 76 ≠ 75 by decide), hC_n _ _ (show 77 ≠ 75 by decide), hC_n _ _ (show 78 ≠ 75 by decide), hC_n _ _ (show 79 ≠ 75 by decide), hC_n _ _ (show 80 ≠ 75 by decide)]
    refine (MB.bk.mp c.2.1).line (fun j hj _ => hj) c.2.1.1 ⟨q1, fun _ _ => rfl⟩ ?_ ⟨q3, fun _ _ => rfl⟩ ?_
    · rw [q2]; exact up_at _ _ _
    · obtain ⟨a, b⟩ := seg_at (h.1 75) (h.1 89) l
      exact ⟨fun s hs => (a s hs).trans (hv s hs), b⟩
  · rw [hU_s, upd_s, q2]
theorem CB.inl {B : BD} {h : PH} (hB : CB B 28 h) {l : Nat} (hl : l < bl B) (hb : bl B ≤ 4) : ag h 30 4 (nI l) = some (bin B l) := by
  rw [ag_nI h _ (by omega) (by omega)]; exact congrArg some (hB.2.2.1 l hl).2.1
theorem lnB_in (B : BD) (l L : Nat) (x1 x2 x3 : Int32) (v : Nat → Int32) : bin (lnB B l L x1 x2 x3 v) l = x2 := upd_s _ _ _
theorem p_pick (x y : Int32) : Pair (f_X8_pick x y) (f_X9_pick x y) := Pair.mut (fun S w => by
  have n24 := w.n24
  have b4 := w.b4
  refine mut_line w (fun _ => rfl) (fun _ => rfl) (fun l hl e => ?_)
  subst e
  refine mut_change w (fun _ => rfl) (fun _ => rfl) (fun k hk e => ?_)
  subst e
  obtain ⟨g1, g2, g3⟩ := w.ln hl
  by_cases hno : bt (bin S.2.1 l) k = true ∨ ¬ clashM S.1 k (bval S.2.1 l) = 0
  · refine Two.mut w (Two.of (-1003) (Q.pt fun h c => ?_) (fun h c => ?_))
    · rw [c.rin w hl, bO_some, has8 _ (by omega), bO_some, rc_clash w c hk hl, bP_some]
      cases hb : bt (bin S.2.1 l) k
      · rw [if_neg (show ¬ false = true by decide), if_pos rfl, if_neg (by rcases hno with z | z; (rw [hb] at z; cases z); exact z)]
      · rw [if_pos rfl, if_neg (by decide)]
    · obtain ⟨h1, e1, k1, v1, -⟩ := rm_try w c hl
      have c1 := c.keepM k1
      refine ⟨h1, ?_, k1⟩
      rw [e1, bO_some, c1.rin w hl, bO_some, has9 _ (by omega), bO_some, rm_clash w c1 hk v1, bP_some]
      cases hb : bt (bin S.2.1 l) k
      · rw [if_neg (show ¬ false = true by decide), if_pos rfl, if_neg (by rcases hno with z | z; (rw [hb] at z; cases z); exact z)]
      · rw [if_pos rfl, if_neg (by decide)]
  · have hb : bt (bin S.2.1 l) k = false := Bool.eq_false_iff.mpr (fun z => hno (Or.inl z))
    have hc : clashM S.1 k (bval S.2.1 l) = 0 := Classical.byContradiction (fun z => hno (Or.inr z))
    have hbel : bel (bin S.2.1 l ||| (1 <<< (nI k &&& 31))) (tn S.1) := bel_or g2 (bel_one hk (by omega))
    refine Mut.of (nI (pc (bin S.2.1 l ||| (1 <<< (nI k &&& 31))) 24)) (w.book (wf_line w.2.1 (l := l) (L := bl S.2.1) (v := putM S.1 k (bval S.2.1 l)) b4 (Nat.le_refl _) (fun j hj _ => hj) g1 hbel g3)) (fun h c => ?_) (fun h c => ?_)
    · obtain ⟨h1, e1, q1, u1⟩ := c_putB w c.1 c.2.1 hl b4 hk
      refine ⟨h1, ?_, c.book (fun j _ _ hj => u1 j (by omega) (by omega)) q1, fun j hj => u1 j (by omega) (by omega)⟩
      rw [c.rin w hl, bO_some, has8 _ (by omega), bO_some, hb, if_neg (show ¬ false = true by decide), if_pos rfl, rc_clash w c hk hl, bP_some, if_pos hc, e1, bO_some, q1.inl (l := l) hl b4, bO_some, lnB_in, c_bits (bel_mono hbel n24), bO_some]
    · obtain ⟨h1, e1, k1, v1, -⟩ := rm_try w c hl
      have c1 := c.keepM k1
      obtain ⟨h2, e2, k2, v2, -⟩ := rm_goOn w c1 hk v1
      have c2 := c1.keepM k2
      obtain ⟨h3, e3, c3, l3, i3⟩ := m_putB w c2 hl v2 (1 <<< (nI k &&& 31))
      refine ⟨h3, ?_, c3, (k1.lo.tr k2.lo).tr l3⟩
      rw [e1, bO_some, c1.rin w hl, bO_some, has9 _ (by omega), bO_some, hb, if_neg (show ¬ false = true by decide), if_pos rfl, rm_clash w c1 hk v1, bP_some, if_pos hc, e2, bO_some, e3, bO_some, ag_nI h3 74 (by omega : l < 4) (by omega), bO_some, i3, m_bits, bO_some])
/-! carry -/
theorem lnB_lnB (B : BD) (l : Nat) (x2 y2 : Int32) (v u : Nat → Int32) : lnB (lnB B l (bl B) (bcut B l) x2 (bev B l) v) l (bl B) (bcut B l) y2 (bev B l) u = lnB B l (bl B) (bcut B l) y2 (bev B l) u := by
  have uu : ∀ (f : Nat → Int32) (a b : Int32), upd (upd f l a) l b = upd f l b := fun f a b => by
    funext j; unfold upd; by_cases e : j = l <;> simp [e]
  unfold lnB
  simp only [uu]
  refine Prod.ext rfl (Prod.ext rfl (Prod.ext rfl (Prod.ext rfl (Prod.ext ?_ rfl))))
  funext j s
  show (if j = l then u s else (if j = l then v s else bval B j s)) = if j = l then u s else bval B j s
  by_cases e : j = l
  · rw [if_pos e, if_pos e]
  · rw [if_neg e, if_neg e, if_neg e]
theorem lnB_v {B : BD} {l : Nat} {x1 x3 : Int32} {x2 y2 : Int32} {v u : Nat → Int32} {h : PH} (hx : x2 = y2) (hv : ∀ s, s < 16 → v s = u s) (hB : CB (lnB B l (bl B) x1 x2 x3 v) 28 h) : CB (lnB B l (bl B) x1 y2 x3 u) 28 h := by
  subst hx
  obtain ⟨a, b, cc, d⟩ := hB
  refine ⟨a, b, fun j hj => ?_, d⟩
  obtain ⟨q1, q2, q3, q4⟩ := cc j hj
  refine ⟨q1, q2, q3, fun s hs => (q4 s hs).trans ?_⟩
  show (if j = l then v s else bval B j s) = (if j = l then u s else bval B j s)
  rw [hv s hs]
def lowI (x : Int32) (k : Nat) : Int32 := mkI (bt x) k
theorem lowI_s (x : Int32) (k : Nat) : lowI x (k + 1) = if bt x k = true then lowI x k ||| (1 <<< (nI k &&& 31)) else lowI x k := rfl
theorem lowI_all {x : Int32} {n : Nat} (h : bel x n) (hn : n ≤ 32) : lowI x n = x := by
  symm
  refine bt_eq_mkI x hn (fun j hj => ?_)
  by_cases q : j < n
  · rw [decide_eq_true q]; rfl
  · rw [h j hj (by omega), Bool.and_false]
theorem c_carry {S : SD} (w : wfS S) {l : Nat} (hl : l < bl S.2.1) {a : Int32} (ha : bel a (tn S.1)) {h : PH} (c : RC S h) : ∃ h', f_X8_carry_55 (nI l) a FU 0 h = some (nI (pc a 24), h') ∧ RC (S.1, lnB S.2.1 l (bl S.2.1) (bcut S.2.1 l) (bin S.2.1 l ||| a) (bev S.2.1 l) (goV S.1 a (bval S.2.1 l) (tn S.1)), S.2.2) h' ∧ up66 h h' := by
  have n24 := w.n24
  have b4 := w.b4
  have h00 : CB (lnB S.2.1 l (bl S.2.1) (bcut S.2.1 l) (bin S.2.1 l ||| lowI a 0) (bev S.2.1 l) (goV S.1 a (bval S.2.1 l) 0)) 28 h := by
    refine (CB.bk.mp c.2.1).line (fun j hj _ => hj) c.2.1.1 ?_ ?_ ?_ ?_
    · exact ⟨(c.2.1.2.2.1 l hl).1, fun _ _ => rfl⟩
    · exact ⟨(c.2.1.2.2.1 l hl).2.1.trans (or0 _).symm, fun _ _ => rfl⟩
    · exact ⟨(c.2.1.2.2.1 l hl).2.2.1, fun _ _ => rfl⟩
    · exact ⟨(c.2.1.2.2.1 l hl).2.2.2, fun _ _ _ _ => rfl⟩
  refine glF (fun n (_ : Unit) i h => f_X8_carry_55 (nI l) a n (nI i) h) (fun i _ h' => CB (lnB S.2.1 l (bl S.2.1) (bcut S.2.1 l) (bin S.2.1 l ||| lowI a i) (bev S.2.1 l) (goV S.1 a (bval S.2.1 l) i)) 28 h' ∧ ∀ j, j ≠ 30 → j ≠ 32 → h'.1 j = h.1 j) (tn S.1) (fun o => ∃ h', o = some (nI (pc a 24), h') ∧ RC (S.1, lnB S.2.1 l (bl S.2.1) (bcut S.2.1 l) (bin S.2.1 l ||| a) (bev S.2.1 l) (goV S.1 a (bval S.2.1 l) (tn S.1)), S.2.2) h' ∧ up66 h h') (by omega) (fun _ h' hI n => ?_) (fun i _ h' hi hI => Or.inr ?_) (i := 0) (b := ()) (Nat.zero_le _) ⟨h00, fun _ _ _ => rfl⟩
  · obtain ⟨q1, q2⟩ := hI
    rw [lowI_all ha (by omega)] at q1
    refine ⟨h', ?_, c.book (fun j _ _ hj => q2 j (by omega) (by omega)) q1, fun j hj => q2 j (by omega) (by omega)⟩
    show f_X8_carry_55 _ _ (n + 1) _ h' = _
    have e40 : h'.1 4 0 = nI (tn S.1) := by rw [q2 4 (by decide) (by decide)]; exact c.1.1
    rw [f_X8_carry_55, e40, if_pos (Int32.le_refl _), c_bits (bel_mono ha n24), bO_some]
  · obtain ⟨q1, q2⟩ := hI
    have hT : CT S.1 h' := c.1.keep (fun k hk => q2 k (by
      simp only [CTc, List.mem_cons, List.not_mem_nil, or_false, decide_eq_true_eq] at hk; omega) (by
      simp only [CTc, List.mem_cons, List.not_mem_nil, or_false, decide_eq_true_eq] at hk; omega))
    have st : ∀ n, f_X8_carry_55 (nI l) a (n + 1) (nI i) h' = if bt a i = true then bO (f_X0_putOn 28 4 (nI l) (nI i) h') (fun h88 => f_X8_carry_55 (nI l) a n (nI (i + 1)) h88) else f_X8_carry_55 (nI l) a n (nI (i + 1)) h' := fun n => by
      rw [f_X8_carry_55, hT.1, if_neg (nle hi (by omega)), has8 _ (by omega), bO_some, nI1]
      cases bt a i <;> rfl
    cases hb : bt a i
    · refine ⟨(), h', ⟨?_, q2⟩, fun n => ?_⟩
      · rw [lowI_s, goV, hb, if_neg (by decide), if_neg (by decide)]; exact q1
      · show f_X8_carry_55 _ _ (n + 1) _ h' = f_X8_carry_55 _ _ n _ h'
        rw [st n, hb, if_neg (by decide)]
    · obtain ⟨h2, e2, q3, u2⟩ := c_putB (B := lnB S.2.1 l (bl S.2.1) (bcut S.2.1 l) (bin S.2.1 l ||| lowI a i) (bev S.2.1 l) (goV S.1 a (bval S.2.1 l) i)) w hT q1 (l := l) hl b4 hi
      refine ⟨(), h2, ⟨?_, fun j h1 h2' => (u2 j h1 h2').trans (q2 j h1 h2')⟩, fun n => ?_⟩
      · have ec : bcut (lnB S.2.1 l (bl S.2.1) (bcut S.2.1 l) (bin S.2.1 l ||| lowI a i) (bev S.2.1 l) (goV S.1 a (bval S.2.1 l) i)) l = bcut S.2.1 l := upd_s _ _ _
        have ee : bev (lnB S.2.1 l (bl S.2.1) (bcut S.2.1 l) (bin S.2.1 l ||| lowI a i) (bev S.2.1 l) (goV S.1 a (bval S.2.1 l) i)) l = bev S.2.1 l := upd_s _ _ _
        have ev : bval (lnB S.2.1 l (bl S.2.1) (bcut S.2.1 l) (bin S.2.1 l ||| lowI a i) (bev S.2.1 l) (goV S.1 a (bval S.2.1 l) i)) l = goV S.1 a (bval S.2.1 l) i := by
          funext s; exact if_pos rfl
        rw [ec, ee, ev, lnB_in] at q3
        have q4 : CB (lnB S.2.1 l (bl S.2.1) (bcut S.2.1 l) ((bin S.2.1 l ||| lowI a i) ||| (1 <<< (nI i &&& 31))) (bev S.2.1 l) (putM S.1 i (goV S.1 a (bval S.2.1 l) i))) 28 h2 := by
          rw [← lnB_lnB S.2.1 l (bin S.2.1 l ||| lowI a i) _ (goV S.1 a (bval S.2.1 l) i) _]; exact q3
        refine lnB_v ?_ (fun s hs => ?_) q4
        · rw [lowI_s, hb, if_pos rfl, orA]
        · rw [goV, hb, if_pos rfl, segF_in0 hs]
      · show f_X8_carry_55 _ _ (n + 1) _ h' = f_X8_carry_55 _ _ n _ h2
        rw [st n, hb, if_pos rfl, e2, bO_some]
theorem p_carry (x y : Int32) : Pair (f_X8_carry x y) (f_X9_carry x y) := Pair.mut (fun S w => by
  have n24 := w.n24
  have b4 := w.b4
  refine mut_line w (fun _ => rfl) (fun _ => rfl) (fun l hl e => ?_)
  subst e
  refine mut_change w (fun _ => rfl) (fun _ => rfl) (fun k hk e => ?_)
  subst e
  obtain ⟨g1, g2, g3⟩ := w.ln hl
  cases hn : ndM S l k with
  | none =>
    refine Two.mut w (Two.of (-1003) (fun h c => ?_) (fun h c => ?_))
    · obtain ⟨h1, e1, k1⟩ := qQ_needs w hl hk h c
      exact ⟨h1, by rw [e1, hn, bP_some]; rfl, k1⟩
    · obtain ⟨h1, e1, k1⟩ := pP_needs w hl hk h c
      exact ⟨h1, by rw [e1, hn, bP_some]; rfl, k1⟩
  | some r =>
    have hr := nd_bel (by omega) hn
    have hbel : bel (r ||| (1 <<< (nI k &&& 31))) (tn S.1) := bel_or (bel_mono hr (by omega)) (bel_one hk (by omega))
    have hpc : pc (r ||| (1 <<< (nI k &&& 31))) 24 = pc r 24 + 1 := by
      rw [pc_one (by omega) (hr k (by omega) (Nat.le_refl _)) 24 (by omega), if_pos (by omega)]
    refine Mut.of (nI (pc (r ||| (1 <<< (nI k &&& 31))) 24)) (w.book (wf_line w.2.1 (l := l) (L := bl S.2.1) (v := goV S.1 (r ||| (1 <<< (nI k &&& 31))) (bval S.2.1 l) (tn S.1)) b4 (Nat.le_refl _) (fun j hj _ => hj) g1 (bel_or g2 hbel) g3)) (fun h c => ?_) (fun h c => ?_)
    · obtain ⟨h1, e1, k1⟩ := qQ_needs w hl hk h c
      obtain ⟨h2, e2, c2, u2⟩ := c_carry w hl hbel (c.keepC k1)
      refine ⟨h2, ?_, c2, k1.up.tr u2⟩
      rw [e1, hn, bP_some]
      show (if r = -1 then _ else _) = _
      rw [if_neg (bel_ne hr (by omega)), lt'_eq, Option.getD_some, e2]
    · obtain ⟨g, e1, hv⟩ := p9_needs w hl hk c
      have k1 : keepM h (hC h 89 g) := keepM.hC _ rfl (by decide)
      obtain ⟨h2, e2, c2, l2, -⟩ := m_putB w (c.keepM k1) hl (hv r hn) (r ||| (1 <<< (nI k &&& 31)))
      refine ⟨h2, ?_, c2, k1.lo.tr l2⟩
      rw [e1, hn, bP_some]
      show (if (0 : Int32) ≤ r then _ else _) = _
      rw [if_pos (Int32.not_lt.mp (bel_nneg hr (by omega)))]
      show bO (f_X9_putLine (nI l) (r ||| (1 <<< (nI k &&& 31))) (hC h 89 g)) _ = _
      rw [e2, bO_some, m_bits, bO_some, hpc, nI1, Option.getD_some])
/-! every -/
theorem p_every (x y : Int32) : Pair (f_X8_every x y) (f_X9_every x y) := Pair.mut (fun S w => by
  have b4 := w.b4
  refine mut_line w (fun _ => rfl) (fun _ => rfl) (fun l hl e => ?_)
  subst e
  refine mut_in w (a := 0) (n := 99) (by omega) (fun _ _ => rfl) (e1 := 0) (e2 := 99) rfl (by omega) (fun _ _ => rfl) rfl (fun v _ hv e => ?_)
  subst e
  obtain ⟨g1, g2, g3⟩ := w.ln hl
  refine Mut.of (bev S.2.1 l) (w.book (wf_line w.2.1 (l := l) (L := bl S.2.1) (v := bval S.2.1 l) b4 (Nat.le_refl _) (fun j hj _ => hj) g1 g2 ⟨v, hv, rfl⟩)) (fun h c => ?_) (fun h c => ?_)
  · obtain ⟨q1, q2, q3, q4⟩ := c.2.1.2.2.1 l hl
    refine ⟨hU h 31 l (nI v), by rw [c.rev w hl, bO_some, asg_nI h 31 _ (by omega : l < 4) (by omega), bO_some], c.book (fun j _ _ hj => hU_n _ _ _ (by omega)) (CB.bk.mpr ?_), up66.hU _ _ (by decide)⟩
    rw [hU_s, hU_n _ _ _ (show 28 ≠ 31 by decide), hU_n _ _ _ (show 29 ≠ 31 by decide), hU_n _ _ _ (show 30 ≠ 31 by decide), hU_n _ _ _ (show 32 ≠ 31 by decide), hU_n _ _ _ (show 33 ≠ 31 by decide), hU_n _ _ _ (show 34 ≠ 31 by decide), hU_n _ _ _ (show 35 ≠ 31 by decide), hU_n _ _ _ (show 36 ≠ 31 by decide)]
    exact (CB.bk.mp c.2.1).line (fun j hj _ => hj) c.2.1.1 ⟨q1, fun _ _ => rfl⟩ ⟨q2, fun _ _ => rfl⟩ (up_at _ _ _) ⟨q4, fun _ _ _ _ => rfl⟩
  · obtain ⟨q1, q2, q3, q4⟩ := c.2.1.2.2.1 l hl
    refine ⟨hU h 76 l (nI v), by rw [c.rev w hl, bO_some, asg_nI h 76 _ (by omega : l < 4) (by omega), bO_some], c.book (fun j _ _ _ hj => hU_n _ _ _ (by omega)) (fun i _ _ _ => by rw [hU_n _ _ _ (by decide)]) (MB.bk.mpr ?_), lo66.hU _ _ (by decide)⟩
    rw [hU_s, hU_n _ _ _ (show 66 ≠ 76 by decide), hU_n _ _ _ (show 73 ≠ 76 by decide), hU_n _ _ _ (show 74 ≠ 76 by decide), hU_n _ _ _ (show 75 ≠ 76 by decide), hU_n _ _ _ (show 77 ≠ 76 by decide), hU_n _ _ _ (show 78 ≠ 76 by decide), hU_n _ _ _ (show 79 ≠ 76 by decide), hU_n _ _ _ (show 80 ≠ 76 by decide)]
    exact (MB.bk.mp c.2.1).line (fun j hj _ => hj) c.2.1.1 ⟨q1, fun _ _ => rfl⟩ ⟨q2, fun _ _ => rfl⟩ (up_at _ _ _) ⟨q4, fun _ _ _ _ => rfl⟩)
