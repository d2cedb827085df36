/-! ===== questions with loops ===== -/
theorem nle {i N : Nat} (hi : i < N) (hN : N < 2 ^ 31) : ¬ nI N ≤ nI i := by rw [leN hN (by omega)]; omega
theorem two_loop {S : SD} {α β : Type} (F : Nat → α → Nat → PH → Option (Int32 × PH)) (G : Nat → β → Nat → PH → Option (Int32 × PH)) (N : Nat) (R : Nat → α → β → Prop) (hx : ∀ a b, R N a b → ∃ r, (∀ n, Q S (F (n + 1) a N) r) ∧ ∀ n, P9 S (G (n + 1) b N) r) (hs : ∀ i a b, i < N → R i a b → (∃ a' b', R (i + 1) a' b' ∧ (∀ n h, RC S h → ∃ h', keepC h h' ∧ F (n + 1) a i h = F n a' (i + 1) h') ∧ ∀ n h, RM S h → ∃ h', keepM h h' ∧ G (n + 1) b i h = G n b' (i + 1) h') ∨ ∃ r, (∀ n, Q S (F (n + 1) a i) r) ∧ ∀ n, P9 S (G (n + 1) b i) r) : ∀ d i a b, i ≤ N → N - i = d → R i a b → ∃ r, (∀ n, d < n → Q S (F n a i) r) ∧ ∀ n, d < n → P9 S (G n b i) r := by
  intro d
  induction d with
  | zero =>
    intro i a b hi hd hR
    have e : i = N := by omega
    subst e
    obtain ⟨r, h1, h2⟩ := hx a b hR
    refine ⟨r, fun n hn => ?_, fun n hn => ?_⟩
    · cases n with
      | zero => omega
      | succ n => exact h1 n
    · cases n with
      | zero => omega
      | succ n => exact h2 n
  | succ d ih =>
    intro i a b hi hd hR
    rcases hs i a b (by omega) hR with ⟨a', b', hR', hF, hG⟩ | ⟨r, h1, h2⟩
    · obtain ⟨r, h1, h2⟩ := ih (i + 1) a' b' (by omega) (by omega) hR'
      refine ⟨r, fun n hn => ?_, fun n hn => ?_⟩
      · cases n with
        | zero => omega
        | succ n =>
          intro h c
          obtain ⟨h', k, e⟩ := hF n h c
          obtain ⟨h3, e3, k3⟩ := h1 n (by omega) h' (c.keepC k)
          exact ⟨h3, by rw [e, e3], k.tr k3⟩
      · cases n with
        | zero => omega
        | succ n =>
          intro h c
          obtain ⟨h', k, e⟩ := hG n h c
          obtain ⟨h3, e3, k3⟩ := h2 n (by omega) h' (c.keepM k)
          exact ⟨h3, by rw [e, e3], k.tr k3⟩
    · refine ⟨r, fun n hn => ?_, fun n hn => ?_⟩
      · cases n with
        | zero => omega
        | succ n => exact h1 n
      · cases n with
        | zero => omega
        | succ n => exact h2 n
theorem two_lp0 {S : SD} {α β : Type} (F : Nat → α → Nat → PH → Option (Int32 × PH)) (G : Nat → β → Nat → PH → Option (Int32 × PH)) (N : Nat) (hN : N < 1000000) (R : Nat → α → β → Prop) (hx : ∀ a b, R N a b → ∃ r, (∀ n, Q S (F (n + 1) a N) r) ∧ ∀ n, P9 S (G (n + 1) b N) r) (hs : ∀ i a b, i < N → R i a b → ∃ a' b', R (i + 1) a' b' ∧ (∀ n h, RC S h → F (n + 1) a i h = F n a' (i + 1) h) ∧ ∀ n h, RM S h → G (n + 1) b i h = G n b' (i + 1) h) {i : Nat} {a : α} {b : β} (hi : i ≤ N) (hR : R i a b) : Two S (F FU a i) (G FU b i) := by
  obtain ⟨r, h1, h2⟩ := two_loop F G N R hx (fun i a b hi hR => by
    obtain ⟨a', b', hR', hF, hG⟩ := hs i a b hi hR
    exact Or.inl ⟨a', b', hR', fun n h c => ⟨h, keepC.rf h, hF n h c⟩, fun n h c => ⟨h, keepM.rf h, hG n h c⟩⟩) (N - i) i a b hi rfl hR
  exact ⟨r, h1 FU (FU_gt (by omega)), h2 FU (FU_gt (by omega))⟩
theorem c_isFree {S : SD} (w : wfS S) {h : PH} (c : RC S h) {r f : Nat} (hr : r < br S.2.1) (hf : f < tf S.1) : f_X8_isFree (nI r) (nI f) h = some (b01 (!bt (faultsM S.1 (brin S.2.1 r)) f), h) := by
  have := w.f10
  rw [f_X8_isFree, c.rrin w hr, bO_some, c_faultsIn w.1 c.1, bP_some, has8 _ (by omega), bO_some]
  cases bt (faultsM S.1 (brin S.2.1 r)) f <;> rfl
theorem m_isFree {S : SD} (w : wfS S) {h : PH} (c : RM S h) {r f : Nat} (hr : r < br S.2.1) (hf : f < tf S.1) : f_X9_isFree (nI r) (nI f) h = some (b01 (!bt (faultsM S.1 (brin S.2.1 r)) f), h) := by
  have := w.f10
  rw [f_X9_isFree, c.rrin w hr, bO_some, m_faultsIn w.1 c.1, bP_some, has9 _ (by omega), bO_some]
  cases bt (faultsM S.1 (brin S.2.1 r)) f <;> rfl
theorem l_differs {S : SD} (w : wfS S) {k j : Nat} (hk : k < br S.2.1) (hj : j < br S.2.1) : Two S (fun h => f_X8_differs_31 (nI k) (nI j) FU 0 0 h) (fun h => f_X9_differs_25 (nI k) (nI j) FU 0 0 h) := by
  refine two_lp0 (fun n a i h => f_X8_differs_31 (nI k) (nI j) n a (nI i) h) (fun n a i h => f_X9_differs_25 (nI k) (nI j) n a (nI i) h) 16 (by omega) (fun _ a b => a = b) (fun a b e => ?_) (fun i a b hi e => ?_) (i := 0) (a := 0) (b := 0) (by omega) rfl
  · subst e
    refine ⟨a, fun n => Q.pt fun h c => ?_, fun n => P9.pt fun h c => ?_⟩
    · show f_X8_differs_31 _ _ (n + 1) _ _ h = _
      rw [f_X8_differs_31, if_pos (p16 (by omega) (by omega))]
    · show f_X9_differs_25 _ _ (n + 1) _ _ h = _
      rw [f_X9_differs_25, if_pos (p16 (by omega) (by omega))]
  · subst e
    by_cases hv : brv S.2.1 k i = brv S.2.1 j i
    · refine ⟨a, a, rfl, fun n h c => ?_, fun n h c => ?_⟩
      · show f_X8_differs_31 _ _ (n + 1) _ _ h = f_X8_differs_31 _ _ n _ _ h
        rw [f_X8_differs_31, if_neg (n16 hi), c.rrv w hk hi, bO_some, c.rrv w hj hi, bO_some, if_pos hv, nI1]
      · show f_X9_differs_25 _ _ (n + 1) _ _ h = f_X9_differs_25 _ _ n _ _ h
        rw [f_X9_differs_25, if_neg (n16 hi), c.rrv w hk hi, bO_some, c.rrv w hj hi, bO_some, if_pos hv, lt'_eq, or0, nI1]
    · refine ⟨a ||| (1 <<< (nI i &&& 31)), a ||| (1 <<< (nI i &&& 31)), rfl, fun n h c => ?_, fun n h c => ?_⟩
      · show f_X8_differs_31 _ _ (n + 1) _ _ h = f_X8_differs_31 _ _ n _ _ h
        rw [f_X8_differs_31, if_neg (n16 hi), c.rrv w hk hi, bO_some, c.rrv w hj hi, bO_some, if_neg hv, lt'_eq, nI1]
      · show f_X9_differs_25 _ _ (n + 1) _ _ h = f_X9_differs_25 _ _ n _ _ h
        rw [f_X9_differs_25, if_neg (n16 hi), c.rrv w hk hi, bO_some, c.rrv w hj hi, bO_some, if_neg hv, lt'_eq, nI1]
theorem p_differs (x y : Int32) : Pair (f_X8_differs x y) (f_X9_differs x y) := Pair.two (fun S w => by
  refine two_rel w (fun _ => rfl) (fun _ => rfl) (fun k hk e => ?_)
  subst e
  refine two_rel w (fun _ => rfl) (fun _ => rfl) (fun j hj e => ?_)
  subst e
  exact l_differs w hk hj)
theorem nIne {q : Nat} (hq : q < 2 ^ 31) : (0 : Int32) ≤ nI q := by rw [show (0 : Int32) = nI 0 from rfl, leN (by omega) hq]; omega
theorem l_freed {S : SD} (w : wfS S) {f l : Nat} (hf : f < tf S.1) (hl : l < bl S.2.1) : Two S (fun h => f_X8_freed_34 (nI f) (nI l) FU (-1) 0 0 h) (fun h => f_X9_freed_28 (nI f) (nI l) FU (-1) 0 0 h) := by
  have b20 := w.b20
  refine two_lp0 (fun n (a : Int32 × Bool) i h => f_X8_freed_34 (nI f) (nI l) n a.1 (b01 a.2) (nI i) h) (fun n (a : Int32 × Bool) i h => f_X9_freed_28 (nI f) (nI l) n a.1 (b01 a.2) (nI i) h) (br S.2.1) (by omega) (fun _ a b => a = b ∧ (a.1 = -1 ∨ ∃ q, q < 20 ∧ a.1 = nI q)) (fun a b e => ?_) (fun i a b hi e => ?_) (i := 0) (a := (-1, false)) (b := (-1, false)) (by omega) ⟨rfl, Or.inl rfl⟩
  · obtain ⟨rfl, -⟩ := e
    refine ⟨a.1, fun n => Q.pt fun h c => ?_, fun n => P9.pt fun h c => ?_⟩
    · show f_X8_freed_34 _ _ (n + 1) _ _ _ h = _
      rw [f_X8_freed_34, c.2.1.2.1, if_pos (Int32.le_refl _)]
    · show f_X9_freed_28 _ _ (n + 1) _ _ _ h = _
      rw [f_X9_freed_28, c.2.1.2.1, if_pos (Int32.le_refl _)]
  · obtain ⟨rfl, hx⟩ := e
    obtain ⟨x, wn⟩ := a
    replace hx : x = -1 ∨ ∃ q, q < 20 ∧ x = nI q := hx
    have gF : ∀ (n : Nat) (h : PH) (x' : Int32) (w' : Bool), RC S h → (if bof S.2.1 i = nI l then (if bt (faultsM S.1 (brin S.2.1 i)) f = true then x' = -1 ∧ w' = true else (if wn = true ∧ x = -1 then x' = nI i ∧ w' = true else x' = x ∧ w' = wn)) else x' = x ∧ w' = wn) → f_X8_freed_34 (nI f) (nI l) (n + 1) x (b01 wn) (nI i) h = f_X8_freed_34 (nI f) (nI l) n x' (b01 w') (nI (i + 1)) h := by
      intro n h x' w' c hh
      rw [f_X8_freed_34, c.2.1.2.1, if_neg (nle hi (by omega)), c.rof w hi, bO_some, nI1]
      by_cases hl2 : bof S.2.1 i = nI l
      · rw [if_pos hl2] at hh
        rw [if_pos hl2, c_isFree w c hi hf, bP_some]
        cases hfr : bt (faultsM S.1 (brin S.2.1 i)) f
        · rw [hfr, if_neg (by decide)] at hh
          rw [if_neg (by decide)]
          cases wn
          · rw [if_neg (by simp)] at hh
            rw [if_pos (by decide), hh.1, hh.2]
          · rw [if_neg (by decide)]
            by_cases hx1 : x = -1
            · rw [if_pos ⟨rfl, hx1⟩] at hh
              rw [if_pos hx1, hh.1, hh.2]
            · rw [if_neg (fun z => hx1 z.2)] at hh
              rw [if_neg hx1, hh.1, hh.2]
        · rw [hfr, if_pos rfl] at hh
          rw [if_pos (by decide), hh.1, hh.2, b01_t]
      · rw [if_neg hl2] at hh
        rw [if_neg hl2, hh.1, hh.2]
    have gM : ∀ (n : Nat) (h : PH) (x' : Int32) (w' : Bool), RM S h → (if bof S.2.1 i = nI l then (if bt (faultsM S.1 (brin S.2.1 i)) f = true then x' = -1 ∧ w' = true else (if wn = true ∧ x = -1 then x' = nI i ∧ w' = true else x' = x ∧ w' = wn)) else x' = x ∧ w' = wn) → f_X9_freed_28 (nI f) (nI l) (n + 1) x (b01 wn) (nI i) h = f_X9_freed_28 (nI f) (nI l) n x' (b01 w') (nI (i + 1)) h := by
      intro n h x' w' c hh
      rw [f_X9_freed_28, c.2.1.2.1, if_neg (nle hi (by omega)), c.rof w hi, bO_some]
      by_cases hl2 : bof S.2.1 i = nI l
      · rw [if_pos hl2] at hh
        rw [if_pos hl2, m_isFree w c hi hf, bP_some]
        cases hfr : bt (faultsM S.1 (brin S.2.1 i)) f
        · rw [hfr, if_neg (by decide)] at hh
          cases wn
          · rw [if_neg (by simp)] at hh
            rw [if_pos (by decide), if_neg (by decide), f_X9_freed_72, if_neg (by decide), if_pos rfl, nI1, hh.1, hh.2, b01_f]
          · rw [if_neg (by decide), f_X9_freed_67, f_X9_freed_72, if_neg (by decide), if_neg (by decide), nI1]
            by_cases hx1 : x = -1
            · rw [if_pos ⟨rfl, hx1⟩] at hh
              rw [if_neg (by rw [hx1]; decide), hh.1, hh.2, b01_t]
            · rw [if_neg (fun z => hx1 z.2)] at hh
              have h0 : (0 : Int32) ≤ x := by
                rcases hx with e | ⟨q, hq, rfl⟩
                · exact absurd e hx1
                · rw [show (0 : Int32) = nI 0 from rfl, leN (by omega) (by omega)]; omega
              rw [if_pos h0, hh.1, hh.2, b01_t]
        · rw [hfr, if_pos rfl] at hh
          have e1 : f_X9_freed_67 (nI f) (nI l) (f_X9_freed_28 (nI f) (nI l) n) x (nI i) (b01 (!true)) h = f_X9_freed_28 (nI f) (nI l) n x' (b01 w') (nI (i + 1)) h := by rw [f_X9_freed_67, f_X9_freed_72, if_pos (by decide), nI1, hh.1, hh.2, b01_t]
          cases wn
          · rw [if_pos (by decide), if_pos (by decide)]; exact e1
          · rw [if_neg (by decide)]; exact e1
      · rw [if_neg hl2] at hh
        rw [if_neg hl2, nI1, hh.1, hh.2]
    obtain ⟨x', w', hh, hx'⟩ : ∃ (x' : Int32) (w' : Bool), (if bof S.2.1 i = nI l then (if bt (faultsM S.1 (brin S.2.1 i)) f = true then x' = -1 ∧ w' = true else (if wn = true ∧ x = -1 then x' = nI i ∧ w' = true else x' = x ∧ w' = wn)) else x' = x ∧ w' = wn) ∧ (x' = -1 ∨ ∃ q, q < 20 ∧ x' = nI q) := by
      by_cases hl2 : bof S.2.1 i = nI l
      · by_cases h1 : bt (faultsM S.1 (brin S.2.1 i)) f = true
        · exact ⟨-1, true, by rw [if_pos hl2, if_pos h1]; exact ⟨rfl, rfl⟩, Or.inl rfl⟩
        · by_cases h2 : wn = true ∧ x = -1
          · exact ⟨nI i, true, by rw [if_pos hl2, if_neg h1, if_pos h2]; exact ⟨rfl, rfl⟩, Or.inr ⟨i, by omega, rfl⟩⟩
          · exact ⟨x, wn, by rw [if_pos hl2, if_neg h1, if_neg h2]; exact ⟨rfl, rfl⟩, hx⟩
      · exact ⟨x, wn, by rw [if_neg hl2]; exact ⟨rfl, rfl⟩, hx⟩
    exact ⟨(x', w'), (x', w'), ⟨rfl, hx'⟩, fun n h c => gF n h x' w' c hh, fun n h c => gM n h x' w' c hh⟩
theorem p_freed (x y : Int32) : Pair (f_X8_freed x y) (f_X9_freed x y) := Pair.two (fun S w => by
  refine two_fault w (fun _ => rfl) (fun _ => rfl) (fun f hf e => ?_)
  subst e
  refine two_line w (fun _ => rfl) (fun _ => rfl) (fun l hl e => ?_)
  subst e
  exact l_freed w hf hl)
/-- the last number below n with P -/
def lastQ (P : Nat → Bool) : Nat → Int32
  | 0 => -1
  | c + 1 => if P c = true then nI c else lastQ P c
theorem bt_set {T : TD} {c s : Nat} (hs : s < 16) : (bt (setsM T c) s = true) = ¬ tst T c s ≤ 0 := by
  rw [bt_sets hs, sb]; simp
def whP (S : SD) (l s c : Nat) : Bool := bt (bin S.2.1 l) c && (sb S.1 c s && decide (tst S.1 c s = bval S.2.1 l s))
theorem p_whence (x y : Int32) : Pair (f_X8_whence x y) (f_X9_whence x y) := Pair.two (fun S w => by
  refine two_line w (fun _ => rfl) (fun _ => rfl) (fun l hl e => ?_)
  subst e
  refine two_slot (fun _ => rfl) (fun _ => rfl) (fun s hs e => ?_)
  subst e
  have n24 := w.n24
  refine Two.of (lastQ (whP S l s) (tn S.1)) (Q.pt fun h c => ?_) (P9.pt fun h c => ?_)
  · have key : ∀ n i, i ≤ tn S.1 → i < n → f_X8_whence_48 (nI l) (nI s) (bval S.2.1 l s) n (nI i - 1) h = some (lastQ (whP S l s) i, h) := by
      intro n
      induction n with
      | zero => intro i hi hn; omega
      | succ n ih =>
        intro i hi hn
        rw [f_X8_whence_48]
        cases i with
        | zero => rw [if_pos (by decide)]; rfl
        | succ i =>
          have ih2 := ih i (by omega) (by omega)
          rw [nI_pred, if_neg (nI_pos (by omega)), c.rin w hl, bO_some, has8 _ (by omega), bO_some, lastQ, whP, nIm1']
          cases hb : bt (bin S.2.1 l) i
          · rw [if_pos (by decide), if_neg (by simp)]; exact ih2
          · rw [if_neg (by decide), c.rset w (by omega), bO_some, has8 _ (by omega), bO_some, bt_sets hs]
            cases hb2 : sb S.1 i s
            · rw [if_pos (by decide), if_neg (by simp)]; exact ih2
            · rw [if_neg (by decide), c.rst w (by omega) hs, bO_some]
              by_cases hv : tst S.1 i s = bval S.2.1 l s
              · rw [if_pos hv, if_pos (by simp [hv])]
              · rw [if_neg hv, if_neg (by simp [hv])]; exact ih2
    rw [c.rval w hl hs, bO_some, lt'_eq, c.1.1]
    exact key FU (tn S.1) (Nat.le_refl _) (FU_gt (by omega))
  · refine lp_up (fun n a i => f_X9_whence_24 (nI l) (nI s) n a (nI i) h) (lastQ (whP S l s)) (tn S.1) _ (fun n => ?_) (fun n i hi => ?_) FU 0 (Nat.zero_le _) (FU_gt (by omega))
    · show f_X9_whence_24 _ _ (n + 1) _ _ h = _
      rw [f_X9_whence_24, c.1.1, if_pos (Int32.le_refl _)]
    · show f_X9_whence_24 _ _ (n + 1) _ _ h = f_X9_whence_24 _ _ n _ _ h
      rw [f_X9_whence_24, c.1.1, if_neg (nle hi (by omega)), c.rin w hl, bO_some, has9 _ (by omega), bO_some, lastQ, whP]
      have e0 : f_X9_whence_92 (nI l) (nI s) (f_X9_whence_24 (nI l) (nI s) n) (lastQ (whP S l s) i) (nI i) h = f_X9_whence_24 (nI l) (nI s) n (lastQ (whP S l s) i) (nI (i + 1)) h := by rw [f_X9_whence_92, f_X9_whence_93, if_pos rfl, nI1]
      cases hb : bt (bin S.2.1 l) i
      · rw [if_pos (by decide), if_neg (by simp)]; exact e0
      · rw [if_neg (by decide), c.rst w (by omega) hs, bO_some]
        by_cases h0 : tst S.1 i s ≤ 0
        · rw [if_pos h0, if_neg (by simp [sb, h0])]; exact e0
        · rw [if_neg h0, bO_some, c.rval w hl hs, bO_some]
          by_cases hv : tst S.1 i s = bval S.2.1 l s
          · rw [if_pos hv, if_pos (by rw [← hv]; simp [sb, h0]), f_X9_whence_93, if_neg (by decide), nI1]
          · rw [if_neg hv, if_neg (by simp [hv])]; exact e0)
