/-! ===== goBack, feed ===== -/
def GB0 (h : PH) (b : Nat) (h' : PH) : Prop := (∀ k, k ≠ 66 → ¬ (73 ≤ k ∧ k ≤ 80) → h'.1 k = h.1 k) ∧ h'.1 66 = upd (upd (h.1 66) 8 (h.1 96 b)) 13 (h.1 96 (b + 1))
def GB1 (h : PH) (b n : Nat) (h' : PH) : Prop := ∀ l, l < n → h'.1 73 l = h.1 96 (b + 2 + l) ∧ h'.1 74 l = h.1 96 (b + 6 + l) ∧ h'.1 76 l = h.1 96 (b + 10 + l)
def GB2 (h : PH) (b n : Nat) (h' : PH) : Prop := ∀ k, k < n → h'.1 75 k = h.1 96 (b + 14 + k)
def GB3 (h : PH) (b n : Nat) (h' : PH) : Prop := ∀ l, l < n → h'.1 77 l = h.1 96 (b + 78 + l) ∧ h'.1 78 l = h.1 96 (b + 98 + l) ∧ h'.1 79 l = h.1 96 (b + 118 + l)
def GB4 (h : PH) (b n : Nat) (h' : PH) : Prop := ∀ k, k < n → h'.1 80 k = h.1 96 (b + 138 + k)
theorem GB0.hU {h : PH} {b : Nat} {h' : PH} (g : GB0 h b h') {V : Nat} (k : Nat) (v : Int32) (hV : 73 ≤ V ∧ V ≤ 80) : GB0 h b (hU h' V k v) := ⟨fun j h1 h2 => (hU_n _ _ _ (by omega)).trans (g.1 j h1 h2), (hU_n _ _ _ (by omega)).trans g.2⟩
theorem GB1.n {h : PH} {b n : Nat} {h' h2 : PH} (g : GB1 h b n h') (e3 : h2.1 73 = h'.1 73) (e4 : h2.1 74 = h'.1 74) (e6 : h2.1 76 = h'.1 76) : GB1 h b n h2 := fun l hl => by rw [e3, e4, e6]; exact g l hl
theorem GB2.n {h : PH} {b n : Nat} {h' h2 : PH} (g : GB2 h b n h') (e : h2.1 75 = h'.1 75) : GB2 h b n h2 := fun l hl => by rw [e]; exact g l hl
theorem GB3.n {h : PH} {b n : Nat} {h' h2 : PH} (g : GB3 h b n h') (e3 : h2.1 77 = h'.1 77) (e4 : h2.1 78 = h'.1 78) (e6 : h2.1 79 = h'.1 79) : GB3 h b n h2 := fun l hl => by rw [e3, e4, e6]; exact g l hl
theorem m_back {i : Nat} (hi : i < 2) (h : PH) : ∃ h', f_X9_goBack_57 (nI (500 * i)) FU 0 (hU (hU h 66 8 (h.1 96 (500 * i))) 66 13 (h.1 96 (500 * i + 1))) = some (1, h') ∧ GB0 h (500 * i) h' ∧ GB1 h (500 * i) 4 h' ∧ GB2 h (500 * i) 64 h' ∧ GB3 h (500 * i) 20 h' ∧ GB4 h (500 * i) 320 h' := by
  have st0 : GB0 h (500 * i) (hU (hU h 66 8 (h.1 96 (500 * i))) 66 13 (h.1 96 (500 * i + 1))) := ⟨fun k h1 h2 => by rw [hU_n _ _ _ h1, hU_n _ _ _ h1], by rw [hU_s, hU_s]⟩
  refine glF (fun n (_ : Unit) k h => f_X9_goBack_57 (nI (500 * i)) n (nI k) h) (fun k _ h' => GB0 h (500 * i) h' ∧ GB1 h (500 * i) k h') 4 (fun o => ∃ h', o = some (1, h') ∧ GB0 h (500 * i) h' ∧ GB1 h (500 * i) 4 h' ∧ GB2 h (500 * i) 64 h' ∧ GB3 h (500 * i) 20 h' ∧ GB4 h (500 * i) 320 h') (by omega) (fun _ h1 hI n => ?_) (fun k _ h1 hk hI => Or.inr ?_) (i := 0) (b := ()) (Nat.zero_le _) ⟨st0, fun l hl => absurd hl (Nat.not_lt_zero l)⟩
  · obtain ⟨g0, g1⟩ := hI
    show ∃ h', f_X9_goBack_57 _ (n + 1) (nI 4) h1 = _ ∧ _
    rw [f_X9_goBack_57, if_pos (by decide)]
    refine glF (fun n (_ : Unit) k h => f_X9_goBack_120 (nI (500 * i)) n (nI k) h) (fun k _ h' => GB0 h (500 * i) h' ∧ GB1 h (500 * i) 4 h' ∧ GB2 h (500 * i) k h') 64 (fun o => ∃ h', o = some (1, h') ∧ GB0 h (500 * i) h' ∧ GB1 h (500 * i) 4 h' ∧ GB2 h (500 * i) 64 h' ∧ GB3 h (500 * i) 20 h' ∧ GB4 h (500 * i) 320 h') (by omega) (fun _ h2 hI n => ?_) (fun k _ h2 hk hI => Or.inr ?_) (i := 0) (b := ()) (Nat.zero_le _) ⟨g0, g1, fun l hl => absurd hl (Nat.not_lt_zero l)⟩
    · obtain ⟨g0, g1, g2⟩ := hI
      show ∃ h', f_X9_goBack_120 _ (n + 1) (nI 64) h2 = _ ∧ _
      rw [f_X9_goBack_120, if_pos (by decide)]
      refine glF (fun n (_ : Unit) k h => f_X9_goBack_151 (nI (500 * i)) n (nI k) h) (fun k _ h' => GB0 h (500 * i) h' ∧ GB1 h (500 * i) 4 h' ∧ GB2 h (500 * i) 64 h' ∧ GB3 h (500 * i) k h') 20 (fun o => ∃ h', o = some (1, h') ∧ GB0 h (500 * i) h' ∧ GB1 h (500 * i) 4 h' ∧ GB2 h (500 * i) 64 h' ∧ GB3 h (500 * i) 20 h' ∧ GB4 h (500 * i) 320 h') (by omega) (fun _ h3 hI n => ?_) (fun k _ h3 hk hI => Or.inr ?_) (i := 0) (b := ()) (Nat.zero_le _) ⟨g0, g1, g2, fun l hl => absurd hl (Nat.not_lt_zero l)⟩
      · obtain ⟨g0, g1, g2, g3⟩ := hI
        show ∃ h', f_X9_goBack_151 _ (n + 1) (nI 20) h3 = _ ∧ _
        rw [f_X9_goBack_151, if_pos (by decide)]
        refine glF (fun n (_ : Unit) k h => f_X9_goBack_216 (nI (500 * i)) n (nI k) h) (fun k _ h' => GB0 h (500 * i) h' ∧ GB1 h (500 * i) 4 h' ∧ GB2 h (500 * i) 64 h' ∧ GB3 h (500 * i) 20 h' ∧ GB4 h (500 * i) k h') 320 (fun o => ∃ h', o = some (1, h') ∧ GB0 h (500 * i) h' ∧ GB1 h (500 * i) 4 h' ∧ GB2 h (500 * i) 64 h' ∧ GB3 h (500 * i) 20 h' ∧ GB4 h (500 * i) 320 h') (by omega) (fun _ h4 hI n => ?_) (fun k _ h4 hk hI => Or.inr ?_) (i := 0) (b := ()) (Nat.zero_le _) ⟨g0, g1, g2, g3, fun l hl => absurd hl (Nat.not_lt_zero l)⟩
        · refine ⟨h4, ?_, hI⟩
          show f_X9_goBack_216 _ (n + 1) (nI 320) h4 = _
          rw [f_X9_goBack_216, if_pos (by decide)]
        · obtain ⟨g0, g1, g2, g3, g4⟩ := hI
          refine ⟨(), hU h4 80 k (h.1 96 (500 * i + 138 + k)), ⟨g0.hU _ _ (by omega), g1.n rfl rfl rfl, g2.n rfl, g3.n rfl rfl rfl, fun l hl => ?_⟩, fun n => ?_⟩
          · rw [hU_s]
            by_cases e : l = k
            · subst e; rw [upd_s]
            · rw [upd_n _ _ e]; exact g4 l (by omega)
          · show f_X9_goBack_216 _ (n + 1) (nI k) h4 = f_X9_goBack_216 _ n (nI (k + 1)) _
            rw [f_X9_goBack_216, if_neg (show ¬ (320 : Int32) ≤ nI k by rw [show (320 : Int32) = nI 320 from rfl, leN (by omega) (by omega)]; omega), ix3 _ 138 _ (138 : Int32) rfl, ag_nI h4 96 (by omega : 500 * i + 138 + k < 1000) (by omega), bO_some, asg_nI _ 80 _ hk (by omega), bO_some, nI1, g0.1 96 (by decide) (by decide)]
      · obtain ⟨g0, g1, g2, g3⟩ := hI
        refine ⟨(), hU (hU (hU h3 77 k (h.1 96 (500 * i + 78 + k))) 78 k (h.1 96 (500 * i + 98 + k))) 79 k (h.1 96 (500 * i + 118 + k)), ⟨((g0.hU _ _ (by omega)).hU _ _ (by omega)).hU _ _ (by omega), g1.n rfl rfl rfl, g2.n rfl, fun l hl => ?_⟩, fun n => ?_⟩
        · show upd (h3.1 77) k (h.1 96 (500 * i + 78 + k)) l = _ ∧ upd (h3.1 78) k (h.1 96 (500 * i + 98 + k)) l = _ ∧ upd (h3.1 79) k (h.1 96 (500 * i + 118 + k)) l = _
          by_cases e : l = k
          · subst e; rw [upd_s, upd_s, upd_s]; exact ⟨rfl, rfl, rfl⟩
          · rw [upd_n _ _ e, upd_n _ _ e, upd_n _ _ e]; exact g3 l (by omega)
        · show f_X9_goBack_151 _ (n + 1) (nI k) h3 = f_X9_goBack_151 _ n (nI (k + 1)) _
          rw [f_X9_goBack_151, if_neg (show ¬ (20 : Int32) ≤ nI k by rw [show (20 : Int32) = nI 20 from rfl, leN (by omega) (by omega)]; omega), ix3 _ 78 _ (78 : Int32) rfl, ix3 _ 98 _ (98 : Int32) rfl, ix3 _ 118 _ (118 : Int32) rfl, ag_nI h3 96 (by omega : 500 * i + 78 + k < 1000) (by omega), bO_some, asg_nI _ 77 _ hk (by omega), bO_some, ag_nI _ 96 (by omega : 500 * i + 98 + k < 1000) (by omega), bO_some, asg_nI _ 78 _ hk (by omega), bO_some, ag_nI _ 96 (by omega : 500 * i + 118 + k < 1000) (by omega), bO_some, asg_nI _ 79 _ hk (by omega), bO_some, nI1, hU_n _ _ _ (show 96 ≠ 78 by decide), hU_n _ _ _ (show 96 ≠ 77 by decide), g0.1 96 (by decide) (by decide)]
    · obtain ⟨g0, g1, g2⟩ := hI
      refine ⟨(), hU h2 75 k (h.1 96 (500 * i + 14 + k)), ⟨g0.hU _ _ (by omega), g1.n rfl rfl rfl, fun l hl => ?_⟩, fun n => ?_⟩
      · rw [hU_s]
        by_cases e : l = k
        · subst e; rw [upd_s]
        · rw [upd_n _ _ e]; exact g2 l (by omega)
      · show f_X9_goBack_120 _ (n + 1) (nI k) h2 = f_X9_goBack_120 _ n (nI (k + 1)) _
        rw [f_X9_goBack_120, if_neg (show ¬ (64 : Int32) ≤ nI k by rw [show (64 : Int32) = nI 64 from rfl, leN (by omega) (by omega)]; omega), ix3 _ 14 _ (14 : Int32) rfl, ag_nI h2 96 (by omega : 500 * i + 14 + k < 1000) (by omega), bO_some, asg_nI _ 75 _ hk (by omega), bO_some, nI1, g0.1 96 (by decide) (by decide)]
  · obtain ⟨g0, g1⟩ := hI
    refine ⟨(), hU (hU (hU h1 73 k (h.1 96 (500 * i + 2 + k))) 74 k (h.1 96 (500 * i + 6 + k))) 76 k (h.1 96 (500 * i + 10 + k)), ⟨((g0.hU _ _ (by omega)).hU _ _ (by omega)).hU _ _ (by omega), fun l hl => ?_⟩, fun n => ?_⟩
    · show upd (h1.1 73) k (h.1 96 (500 * i + 2 + k)) l = _ ∧ upd (h1.1 74) k (h.1 96 (500 * i + 6 + k)) l = _ ∧ upd (h1.1 76) k (h.1 96 (500 * i + 10 + k)) l = _
      by_cases e : l = k
      · subst e; rw [upd_s, upd_s, upd_s]; exact ⟨rfl, rfl, rfl⟩
      · rw [upd_n _ _ e, upd_n _ _ e, upd_n _ _ e]; exact g1 l (by omega)
    · show f_X9_goBack_57 _ (n + 1) (nI k) h1 = f_X9_goBack_57 _ n (nI (k + 1)) _
      rw [f_X9_goBack_57, if_neg (show ¬ (4 : Int32) ≤ nI k by rw [show (4 : Int32) = nI 4 from rfl, leN (by omega) (by omega)]; omega), ix3 _ 2 _ (2 : Int32) rfl, ix3 _ 6 _ (6 : Int32) rfl, ix3 _ 10 _ (10 : Int32) rfl, ag_nI h1 96 (by omega : 500 * i + 2 + k < 1000) (by omega), bO_some, asg_nI _ 73 _ hk (by omega), bO_some, ag_nI _ 96 (by omega : 500 * i + 6 + k < 1000) (by omega), bO_some, asg_nI _ 74 _ hk (by omega), bO_some, ag_nI _ 96 (by omega : 500 * i + 10 + k < 1000) (by omega), bO_some, asg_nI _ 76 _ hk (by omega), bO_some, nI1, hU_n _ _ _ (show 96 ≠ 74 by decide), hU_n _ _ _ (show 96 ≠ 73 by decide), g0.1 96 (by decide) (by decide)]
theorem p_goBack (x : Int32) : Pair (f_X8_goBack x) (f_X9_goBack x) := Pair.mut (fun S w => by
  refine mut_in w (a := 0) (n := 1) (by omega) (u := -1001) (KF := fun h => bO (f_X8_has (h.1 0 12) x) (fun r18 => if r18 = 0 then (some ((-1003), h)) else (bP (f_X8_imageOf x h) (fun r34 h34 => bO (f_X0_become 28 r34 h34) (fun h37 => some (1, h37)))))) (fun h c => ?_) (e1 := 0) (e2 := 1) rfl (by omega) (KM := fun h => bO (ag h 97 2 x) (fun v19 => if v19 = 0 then (some ((-1003), h)) else (lt' ((500 * x)) (fun x2_32 => bO (ag h 96 1000 x2_32) (fun v39 => lt' (hU h 66 8 v39) (fun h40 => bO (ag h40 96 1000 (x2_32 + 1)) (fun v51 => lt' (hU h40 66 13 v51) (fun h52 => f_X9_goBack_57 x2_32 FU 0 h52)))))))) (fun h c => rfl) rfl (fun i _ hi e => ?_)
  · rw [f_X8_goBack]
    show (if x < 0 then _ else if x < 2 then _ else _) = if x < 0 then _ else if x ≤ 1 then _ else _
    have e2 : (x < 2) = (x ≤ 1) := by
      rw [ltI, leI, show (2 : Int32).toInt = 2 from rfl, show (1 : Int32).toInt = 1 from rfl]
      apply propext; omega
    rw [ite_c e2]
  · subst e
    have wK := w.2.2.2.2
    have hasC : ∀ h, RC S h → f_X8_has (h.1 0 12) (nI i) = some (b01 (getK S.2.2.2.2.2 i).isSome) := fun h c => by
      obtain ⟨c1, c2, c3, c4⟩ := c.2.2.2.2.2
      rw [has8 _ (by omega)]
      have e : bt (h.1 0 12) i = (getK S.2.2.2.2.2 i).isSome := by
        unfold getK
        by_cases e0 : i = 0
        · subst e0; exact c1
        · have e1 : i = 1 := by omega
          subst e1; exact c2
      rw [e]; rfl
    have hasM : ∀ h, RM S h → ag h 97 2 (nI i) = some (b01 (getK S.2.2.2.2.2 i).isSome) := fun h c => by
      obtain ⟨c1, c2, c3, c4⟩ := c.2.2.2.2.2
      rw [ag_nI h 97 (by omega : i < 2) (by omega)]
      have e : h.1 97 i = b01 (getK S.2.2.2.2.2 i).isSome := by
        unfold getK
        by_cases e0 : i = 0
        · subst e0; exact c1
        · have e1 : i = 1 := by omega
          subst e1; exact c2
      rw [e]
    cases hk : getK S.2.2.2.2.2 i with
    | none =>
      refine Two.mut w (Two.of (-1003) (Q.pt fun h c => ?_) (P9.pt fun h c => ?_))
      · rw [hasC h c, hk, bO_some]; rfl
      · rw [hasM h c, hk, bO_some]; rfl
    | some B =>
      have wB : wfB (tn S.1) B := by
        unfold getK at hk
        by_cases e0 : i = 0
        · rw [if_pos e0] at hk; exact wK.1 B hk
        · rw [if_neg e0] at hk; exact wK.2 B hk
      refine Mut.of 1 (w.book wB) (fun h c => ?_) (fun h c => ?_)
      · obtain ⟨c1, c2, c3, c4⟩ := c.2.2.2.2.2
        rw [hasC h c, hk, bO_some, Option.isSome_some, if_neg (show ¬ b01 true = 0 by decide), f_X8_imageOf]
        unfold getK at hk
        by_cases e0 : i = 0
        · subst e0
          rw [if_pos rfl] at hk
          obtain ⟨H, eH, oH, bH⟩ := c_become (a0 := 28) (a1 := 37) (by omega) h
          refine ⟨H, ?_, c.book (fun k _ _ h4 => oH k (by omega)) (bH B wB.1 wB.2.1 (c3 B hk)), fun k hk => oH k (by omega)⟩
          rw [if_pos (show nI 0 = 0 from rfl), bP_some, eH, bO_some]
        · have e1 : i = 1 := by omega
          subst e1
          rw [if_neg e0] at hk
          obtain ⟨H, eH, oH, bH⟩ := c_become (a0 := 28) (a1 := 46) (by omega) h
          refine ⟨H, ?_, c.book (fun k _ _ h4 => oH k (by omega)) (bH B wB.1 wB.2.1 (c4 B hk)), fun k hk => oH k (by omega)⟩
          rw [if_neg (show ¬ nI 1 = 0 by decide), bP_some, eH, bO_some]
      · obtain ⟨c1, c2, c3, c4⟩ := c.2.2.2.2.2
        have mi : MI i B h := by
          unfold getK at hk
          by_cases e0 : i = 0
          · subst e0; rw [if_pos rfl] at hk; exact c3 B hk
          · have e1 : i = 1 := by omega
            subst e1
            rw [if_neg e0] at hk; exact c4 B hk
        obtain ⟨H, eH, g0, g1, g2, g3, g4⟩ := m_back (i := i) (by omega) h
        refine ⟨H, ?_, c.book (fun k h1 _ _ h4 => g0.1 k h1 h4) (fun j h1 h2 _ => by rw [g0.2, upd_n _ _ h2, upd_n _ _ h1]) (MB.bk.mpr ?_), fun k hk => g0.1 k (by omega) (by omega)⟩
        · rw [hasM h c, hk, bO_some, Option.isSome_some, if_neg (show ¬ b01 true = 0 by decide), lt'_eq, show (500 : Int32) = nI 500 from rfl, pk_mul, ag_nI h 96 (by omega : 500 * i < 1000) (by omega), bO_some, lt'_eq, nI1, ag_nI _ 96 (by omega : 500 * i + 1 < 1000) (by omega), bO_some, lt'_eq, hU_n _ _ _ (show 96 ≠ 66 by decide)]
          exact eH
        · obtain ⟨q0, q5, ql, qr⟩ := mi
          refine ⟨?_, ?_, fun l hl => ?_, fun r hr => ?_⟩
          · rw [g0.2, upd_n _ _ (show 8 ≠ 13 by decide), upd_s]; exact q0
          · rw [g0.2, upd_s]; exact q5
          · obtain ⟨p1, p2, p3, p4⟩ := ql l hl
            have hb := wB.1
            obtain ⟨t1, t2, t3⟩ := g1 l (by omega)
            exact ⟨t1.trans p1, t2.trans p2, t3.trans p3, fun s hs => (g2 _ (by omega)).trans (p4 s hs)⟩
          · obtain ⟨p1, p2, p3, p4⟩ := qr r hr
            have hb := wB.2.1
            obtain ⟨t1, t2, t3⟩ := g3 r (by omega)
            exact ⟨t1.trans p1, t2.trans p2, t3.trans p3, fun s hs => (g4 _ (by omega)).trans (p4 s hs)⟩)
