/-! ===== soonest ===== -/
theorem two_lp {S : SD} {α β : Type} (F : Nat → α → Nat → PH → Option (Int32 × PH)) (G : Nat → β → Nat → PH → Option (Int32 × PH)) (N : Nat) (hN : N < 1000000) (R : Nat → α → β → Prop) (hx : ∀ a b, R N a b → ∃ r, (∀ n, Q S (F (n + 1) a N) r) ∧ ∀ n, P9 S (G (n + 1) b N) r) (hs : ∀ i a b, i < N → R i a b → (∃ a' b', R (i + 1) a' b' ∧ (∀ n h, RC S h → ∃ h', keepC h h' ∧ F (n + 1) a i h = F n a' (i + 1) h') ∧ ∀ n h, RM S h → ∃ h', keepM h h' ∧ G (n + 1) b i h = G n b' (i + 1) h') ∨ ∃ r, (∀ n, Q S (F (n + 1) a i) r) ∧ ∀ n, P9 S (G (n + 1) b i) r) {i : Nat} {a : α} {b : β} (hi : i ≤ N) (hR : R i a b) : Two S (F FU a i) (G FU b i) := by
  obtain ⟨r, h1, h2⟩ := two_loop F G N R hx hs (N - i) i a b hi rfl hR
  exact ⟨r, h1 FU (FU_gt (by omega)), h2 FU (FU_gt (by omega))⟩
theorem ceil_eq (d : Nat) {e : Nat} (he : 0 < e) : (d + e - 1) / e * e = if d % e = 0 then d else d + e - d % e := by
  have h1 := Nat.div_add_mod d e
  have h2 := Nat.mod_lt d he
  by_cases hm : d % e = 0
  · rw [if_pos hm]
    have e1 : d + e - 1 = e * (d / e) + (e - 1) := by omega
    rw [e1, Nat.mul_add_div he, Nat.div_eq_of_lt (by omega : e - 1 < e), Nat.add_zero, Nat.mul_comm]
    omega
  · rw [if_neg hm]
    have e1 : d + e - 1 = e * (d / e + 1) + (d % e - 1) := by rw [Nat.mul_add, Nat.mul_one]; omega
    rw [e1, Nat.mul_add_div he, Nat.div_eq_of_lt (by omega : d % e - 1 < e), Nat.add_zero, Nat.add_mul, Nat.one_mul, Nat.mul_comm (d / e) e]
    omega
def evN (S : SD) (l : Nat) : Nat := (bev S.2.1 l).toNatClampNeg
theorem ev_nI {S : SD} (w : wfS S) {l : Nat} (hl : l < bl S.2.1) : evN S l ≤ 99 ∧ bev S.2.1 l = nI (evN S l) := by
  obtain ⟨k, hk, e⟩ := (w.2.1.2.2.1 l hl).2.2
  unfold evN
  rw [e, cl (by omega)]
  exact ⟨hk, rfl⟩
def trM (S : SD) (l f d : Nat) : Int32 := if evN S l = 0 then -1 else match costM S l (1 <<< (nI f &&& 31)) with
  | none => -1
  | some _ => nI ((d + evN S l - 1) / evN S l * evN S l)
theorem one_bel {f n : Nat} (hf : f < n) (hn : n ≤ 32) : bel ((1 : Int32) <<< (nI f &&& 31)) n := bel_one hf hn
theorem q_train {S : SD} (w : wfS S) {l f d : Nat} (hl : l < bl S.2.1) (hf : f < tf S.1) (hd : d < 1000) : Q S (f_X8_trainWithFix (nI l) (nI f) (nI d)) (trM S l f d) := fun h c => by
  have f10 := w.f10
  have n24 := w.n24
  obtain ⟨he, ee⟩ := ev_nI w hl
  obtain ⟨h1, e1, k1, q1⟩ := c_lookAt w hl (1 <<< (nI f &&& 31)) c
  obtain ⟨g, e2⟩ := c_costOf w hl (c.keepC k1) q1 (fun f _ z => z) (bel_one hf (by omega))
  rw [f_X8_trainWithFix, c.rev w hl, bO_some, e1, bO_some, ee, ite_c (show (nI (evN S l) < 1) = (evN S l < 1) from ltN (b := 1) (by omega) (by omega))]
  unfold trM
  by_cases h0 : evN S l = 0
  · rw [if_pos (by omega), if_pos h0]
    exact ⟨h1, rfl, k1⟩
  · rw [if_neg (by omega), if_neg h0]
    rw [e2, bP_some]
    refine ⟨_, ?_, k1.tr (keepC.hC (V := 56) g rfl)⟩
    cases hc : costM S l (1 <<< (nI f &&& 31)) with
    | none => rfl
    | some a =>
      show (if a = -1 then _ else _) = _
      rw [if_neg (bel_ne (costM_bel w hc) (by omega)), dz, if_neg (nI_ne0 (by omega) (by omega)), lt'_eq, pk_rem (by omega) (by omega) (by omega), ceil_eq d (by omega)]
      have hm := Nat.mod_lt d (y := evN S l) (by omega)
      by_cases hz : d % evN S l = 0
      · rw [if_pos (by rw [hz]; rfl), if_pos hz]
      · rw [if_neg (nI_ne0 (by omega) (by omega)), if_neg hz, nI_add, pk_sub (by omega)]
theorem l_soonest {S : SD} (w : wfS S) {f d : Nat} (hf : f < tf S.1) (hd : d < 1000) : Two S (fun h => f_X8_soonest_32 (nI f) (nI d) FU (-2) 0 h) (fun h => f_X9_soonest_29 (nI f) (nI d) FU (-2) 0 h) := by
  have f10 := w.f10
  have n24 := w.n24
  have b4 := w.b4
  refine two_lp (fun n a i h => f_X8_soonest_32 (nI f) (nI d) n a (nI i) h) (fun n a i h => f_X9_soonest_29 (nI f) (nI d) n a (nI i) h) (bl S.2.1) (by omega) (fun _ a b => a = b) (fun a b e => ?_) (fun i a b hi e => ?_) (i := 0) (a := -2) (b := -2) (Nat.zero_le _) rfl
  · subst e
    refine ⟨a, fun n => Q.pt fun h c => ?_, fun n => P9.pt fun h c => ?_⟩
    · show f_X8_soonest_32 _ _ (n + 1) a (nI (bl S.2.1)) h = _
      rw [f_X8_soonest_32, c.2.1.1, if_pos (Int32.le_refl _)]
    · show f_X9_soonest_29 _ _ (n + 1) a (nI (bl S.2.1)) h = _
      rw [f_X9_soonest_29, c.2.1.1, if_pos (Int32.le_refl _)]
  · subst e
    have sc : ∀ n h, RC S h → f_X8_soonest_32 (nI f) (nI d) (n + 1) a (nI i) h = if bt (faultsM S.1 (bin S.2.1 i)) f = false then f_X8_soonest_32 (nI f) (nI d) n a (nI (i + 1)) h else bP (f_X8_trainWithFix (nI i) (nI f) (nI d) h) (fun r73 h73 => if r73 = (-1) then (some ((-1), h73)) else (lt' ((if a < r73 then r73 else a)) (fun x3_92 => (f_X8_soonest_32 (nI f) (nI d) n) x3_92 (nI (i + 1)) h73))) := fun n h c => by
      rw [f_X8_soonest_32, c.2.1.1, if_neg (nle hi (by omega)), c.rin w hi, bO_some, c_faultsIn w.1 c.1, bP_some, has8 _ (by omega), bO_some, nI1]
      cases bt (faultsM S.1 (bin S.2.1 i)) f <;> rfl
    obtain ⟨he, ee⟩ := ev_nI w hi
    have sm : ∀ n h, RM S h → f_X9_soonest_29 (nI f) (nI d) (n + 1) a (nI i) h = if bt (faultsM S.1 (bin S.2.1 i)) f = false then f_X9_soonest_29 (nI f) (nI d) n a (nI (i + 1)) h else if nI (evN S i) = 0 then some (-1, h) else (bP (f_X9_costOf (nI i) (1 <<< (nI f &&& 31)) h) (fun r72 h72 => if (0 : Int32) ≤ r72 then (bO (ag h72 76 4 (nI i)) (fun v87 => bO (ag h72 76 4 (nI i)) (fun v97 => dz v97 (bO (ag h72 76 4 (nI i)) (fun v105 => lt' (((((nI d + v87) - 1) / v97) * v105)) (fun x5_107 => if x5_107 ≤ a then ((f_X9_soonest_29 (nI f) (nI d) n) a (nI (i + 1)) h72) else ((f_X9_soonest_29 (nI f) (nI d) n) x5_107 (nI (i + 1)) h72))))))) else (some ((-1), h72)))) := fun n h c => by
      rw [f_X9_soonest_29, c.2.1.1, if_neg (nle hi (by omega)), c.rin w hi, bO_some, m_faultsIn w.1 c.1, bP_some, has9 _ (by omega), bO_some, c.rev w hi, bO_some, ee, nI1]
      cases bt (faultsM S.1 (bin S.2.1 i)) f <;> rfl
    cases hb : bt (faultsM S.1 (bin S.2.1 i)) f
    · refine Or.inl ⟨a, a, rfl, fun n h c => ⟨h, keepC.rf h, ?_⟩, fun n h c => ⟨h, keepM.rf h, ?_⟩⟩
      · show f_X8_soonest_32 _ _ (n + 1) a (nI i) h = f_X8_soonest_32 _ _ n a (nI (i + 1)) h
        rw [sc n h c, if_pos hb]
      · show f_X9_soonest_29 _ _ (n + 1) a (nI i) h = f_X9_soonest_29 _ _ n a (nI (i + 1)) h
        rw [sm n h c, if_pos hb]
    · have hnf : ¬ bt (faultsM S.1 (bin S.2.1 i)) f = false := by rw [hb]; decide
      by_cases h0 : evN S i = 0
      · have et : trM S i f d = -1 := by unfold trM; rw [if_pos h0]
        refine Or.inr ⟨-1, fun n h c => ?_, fun n h c => ⟨h, ?_, keepM.rf h⟩⟩
        · obtain ⟨h1, e1, k1⟩ := q_train w hi hf hd h c
          refine ⟨h1, ?_, k1⟩
          show f_X8_soonest_32 _ _ (n + 1) a (nI i) h = _
          rw [sc n h c, if_neg hnf, e1, bP_some, et, if_pos rfl]
        · show f_X9_soonest_29 _ _ (n + 1) a (nI i) h = _
          rw [sm n h c, if_neg hnf, h0, if_pos (show nI 0 = 0 from rfl)]
      · have h0n : ¬ nI (evN S i) = 0 := nI_ne0 (by omega) (by omega)
        cases hc : costM S i (1 <<< (nI f &&& 31)) with
        | none =>
          have et : trM S i f d = -1 := by unfold trM; rw [if_neg h0, hc]
          refine Or.inr ⟨-1, fun n h c => ?_, fun n h c => ?_⟩
          · obtain ⟨h1, e1, k1⟩ := q_train w hi hf hd h c
            refine ⟨h1, ?_, k1⟩
            show f_X8_soonest_32 _ _ (n + 1) a (nI i) h = _
            rw [sc n h c, if_neg hnf, e1, bP_some, et, if_pos rfl]
          · obtain ⟨h1, e1, k1⟩ := p9_cost w hi (1 <<< (nI f &&& 31)) h c
            refine ⟨h1, ?_, k1⟩
            show f_X9_soonest_29 _ _ (n + 1) a (nI i) h = _
            rw [sm n h c, if_neg hnf, if_neg h0n, e1, hc, bP_some]
            show (if (0 : Int32) ≤ -1 then _ else _) = _
            rw [if_neg (by decide)]
        | some q =>
          have hq := Nat.div_mul_le_self (d + evN S i - 1) (evN S i)
          have et : trM S i f d = nI ((d + evN S i - 1) / evN S i * evN S i) := by unfold trM; rw [if_neg h0, hc]
          refine Or.inl ⟨if a < trM S i f d then trM S i f d else a, if trM S i f d ≤ a then a else trM S i f d, ?_, fun n h c => ?_, fun n h c => ?_⟩
          · by_cases ha : a < trM S i f d
            · rw [if_pos ha, if_neg (Int32.not_le.mpr ha)]
            · rw [if_neg ha, if_pos (Int32.not_lt.mp ha)]
          · obtain ⟨h1, e1, k1⟩ := q_train w hi hf hd h c
            refine ⟨h1, k1, ?_⟩
            show f_X8_soonest_32 _ _ (n + 1) a (nI i) h = f_X8_soonest_32 _ _ n _ (nI (i + 1)) h1
            rw [sc n h c, if_neg hnf, e1, bP_some, if_neg (by rw [et]; exact nI_ne_m1 (by omega)), lt'_eq]
          · obtain ⟨h1, e1, k1⟩ := p9_cost w hi (1 <<< (nI f &&& 31)) h c
            refine ⟨h1, k1, ?_⟩
            show f_X9_soonest_29 _ _ (n + 1) a (nI i) h = f_X9_soonest_29 _ _ n _ (nI (i + 1)) h1
            rw [sm n h c, if_neg hnf, if_neg h0n, e1, hc, bP_some]
            show (if (0 : Int32) ≤ q then _ else _) = _
            rw [if_pos (Int32.not_lt.mp (bel_nneg (costM_bel w hc) (by omega))), (c.keepM k1).rev w hi, bO_some, bO_some, ee, dz, if_neg h0n, bO_some, lt'_eq, nI_add, show nI (d + evN S i) - 1 = nI (d + evN S i - 1) from pk_sub (b := 1) (by omega), pk_div (by omega) (by omega) (by omega), pk_mul, et]
            by_cases ha : nI ((d + evN S i - 1) / evN S i * evN S i) ≤ a
            · rw [if_pos ha, if_pos ha]
            · rw [if_neg ha, if_neg ha]
theorem p_soonest (x y : Int32) : Pair (f_X8_soonest x y) (f_X9_soonest x y) := Pair.two (fun S w => by
  refine two_fault w (fun _ => rfl) (fun _ => rfl) (fun f hf e => ?_)
  subst e
  refine two_day (fun _ => rfl) (fun _ => rfl) (fun d hd e => ?_)
  subst e
  exact l_soonest w hf hd)
