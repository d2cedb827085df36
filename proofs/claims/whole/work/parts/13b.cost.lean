/-! ===== cost, best, soonest ===== -/
theorem keepC.hU {h : PH} {V : Nat} (k : Nat) (v : Int32) (hV : scC V = true) : keepC h (hU h V k v) := keepC.hC _ hV
/-- the change with which a fault goes, and its needs; of a fault in the line -/
def fxm (S : SD) (l f : Nat) : Option Int32 := if bt (faultsM S.1 (bin S.2.1 l)) f = true then (if ttl S.1 f = -1 then none else (ndM S l (tlN S.1 f)).map (fun r => r ||| (1 <<< (ttl S.1 f &&& 31)))) else none
theorem tl_cases {S : SD} (w : wfS S) {f : Nat} (hf : f < tf S.1) : ttl S.1 f = -1 ∨ ∃ k, k < tn S.1 ∧ ttl S.1 f = nI k ∧ tlN S.1 f = k := by
  have n24 := w.n24
  rcases w.1.2.2.2.2.2.2.2 f hf with e | ⟨k, hk, e⟩
  · exact Or.inl e
  · exact Or.inr ⟨k, hk, e, tlN_eq (T := S.1) (by omega) e⟩
theorem nd_bel {S : SD} {l k : Nat} (hk : k ≤ 31) {r : Int32} (h : ndM S l k = some r) : bel r k := needsM_bel hk h
theorem fxm_bel {S : SD} (w : wfS S) {l f : Nat} (hf : f < tf S.1) {r : Int32} (h : fxm S l f = some r) : bel r (tn S.1) := by
  have n24 := w.n24
  unfold fxm at h
  split at h
  · rcases tl_cases w hf with e | ⟨k, hk, e, e2⟩
    · rw [if_pos e] at h; cases h
    · rw [e, if_neg (nI_ne_m1 (by omega)), e2] at h
      cases hn : ndM S l k with
      | none => rw [hn] at h; cases h
      | some q =>
        rw [hn] at h
        simp only [Option.map_some, Option.some.injEq] at h
        rw [← h]
        exact bel_or (bel_mono (nd_bel (by omega) hn) (by omega)) (bel_one hk (by omega))
  · cases h
theorem bel_ne {x : Int32} {n : Nat} (h : bel x n) (hn : n ≤ 31) : ¬ x = -1 := nneg_ne (bel_nneg h hn)
def allF (S : SD) (l : Nat) (x : Int32) : Nat → Option Int32
  | 0 => some 0
  | k + 1 => match allF S l x k with
    | none => none
    | some a => if bt x k = true then (match fxm S l k with
      | none => none
      | some r => some (a ||| r)) else some a
def costM (S : SD) (l : Nat) (x : Int32) : Option Int32 := match allF S l x (tf S.1) with
  | none => none
  | some a => if goOK S.1 a (bval S.2.1 l) (tn S.1) = true then some a else none
theorem allF_none {S : SD} {l : Nat} {x : Int32} {i n : Nat} (h : i ≤ n) (hi : allF S l x i = none) : allF S l x n = none := by
  induction n with
  | zero => have : i = 0 := by omega
            subst this; exact hi
  | succ n ih =>
    by_cases e : i = n + 1
    · subst e; exact hi
    · rw [allF, ih (by omega)]
theorem allF_bel {S : SD} (w : wfS S) {l : Nat} {x : Int32} : ∀ k, k ≤ tf S.1 → ∀ a, allF S l x k = some a → bel a (tn S.1) := by
  intro k
  induction k with
  | zero => intro _ a h; rw [allF] at h; cases h; exact bel_zero _
  | succ k ih =>
    intro hk a h
    rw [allF] at h
    cases hp : allF S l x k with
    | none => rw [hp] at h; cases h
    | some b =>
      rw [hp] at h
      have hb := ih (by omega) b hp
      by_cases hx : bt x k = true
      · simp only [hx, if_true] at h
        cases hf : fxm S l k with
        | none => rw [hf] at h; cases h
        | some r =>
          rw [hf] at h
          cases h
          exact bel_or hb (fxm_bel w (by omega) hf)
      · simp only [hx] at h
        cases h
        exact hb
theorem costM_bel {S : SD} (w : wfS S) {l : Nat} {x a : Int32} (h : costM S l x = some a) : bel a (tn S.1) := by
  unfold costM at h
  cases hp : allF S l x (tf S.1) with
  | none => rw [hp] at h; cases h
  | some b =>
    rw [hp] at h
    simp only [] at h
    split at h
    · cases h; exact allF_bel w _ (Nat.le_refl _) _ hp
    · cases h
/-- what lookAt leaves -/
def fxv (S : SD) (l : Nat) (x : Int32) (f : Nat) : Int32 := if bt x f = true then (fxm S l f).getD (-1) else -1
def LK (S : SD) (l : Nat) (x : Int32) (h : PH) : Prop := h.1 58 2 = nI l ∧ h.1 58 4 = mkI (fun f => bt x f && (fxm S l f).isSome) (tf S.1) ∧ ∀ f, f < tf S.1 → h.1 59 f = fxv S l x f
theorem LK.keep {S : SD} {l : Nat} {x : Int32} {h : PH} (k : LK S l x h) {h' : PH} (e1 : h'.1 58 2 = h.1 58 2) (e2 : h'.1 58 4 = h.1 58 4) (e3 : h'.1 59 = h.1 59) : LK S l x h' := by
  unfold LK at k ⊢
  rw [e1, e2, e3]; exact k
theorem LK.hC56 {S : SD} {l : Nat} {x : Int32} {h : PH} (k : LK S l x h) (g : Nat → Int32) : LK S l x (hC h 56 g) := k.keep (by rw [hC_n _ _ (by decide)]) (by rw [hC_n _ _ (by decide)]) (by rw [hC_n _ _ (by decide)])
theorem LK.hU58 {S : SD} {l : Nat} {x : Int32} {h : PH} (k : LK S l x h) {j : Nat} (v : Int32) (h2 : j ≠ 2) (h4 : j ≠ 4) : LK S l x (hU h 58 j v) := k.keep (by rw [hU_s]; unfold upd; rw [if_neg (fun e => h2 e.symm)]) (by rw [hU_s]; unfold upd; rw [if_neg (fun e => h4 e.symm)]) (by rw [hU_n _ _ _ (by decide)])
theorem c_lookAt {S : SD} (w : wfS S) {l : Nat} (hl : l < bl S.2.1) (x : Int32) {h : PH} (c : RC S h) : ∃ h', f_X1_lookAt (nI l) x h = some h' ∧ keepC h h' ∧ LK S l x h' := by
  have n24 := w.n24
  have f10 := w.f10
  have k7 : keepC h (hU (hU h 58 2 (nI l)) 58 4 0) := (keepC.hU _ _ rfl).tr (keepC.hU _ _ rfl)
  have c7 := c.keepC k7
  rw [f_X1_lookAt, lt'_eq, lt'_eq, c7.rin w hl, bO_some, c_faultsIn w.1 c7.1, bP_some, lt'_eq]
  refine glF (fun n (_ : Unit) i h => f_X1_lookAt_35 (nI l) (faultsM S.1 (bin S.2.1 l) &&& x) n (nI i) h) (fun i _ h' => keepC h h' ∧ h'.1 58 2 = nI l ∧ h'.1 58 4 = mkI (fun f => bt x f && (fxm S l f).isSome) i ∧ ∀ f, f < i → h'.1 59 f = fxv S l x f) (tf S.1) (fun o => ∃ h', o = some h' ∧ keepC h h' ∧ LK S l x h') (by omega) (fun _ h' hI n => ?_) (fun i _ h' hi hI => Or.inr ?_) (i := 0) (b := ()) (Nat.zero_le _) ⟨k7, by rw [hU_s]; unfold upd; rw [if_neg (by decide), hU_s]; exact pk_us, by rw [hU_s]; exact pk_us, fun f hf => absurd hf (Nat.not_lt_zero f)⟩
  · obtain ⟨q1, q2, q3, q4⟩ := hI
    refine ⟨h', ?_, q1, q2, q3, q4⟩
    show f_X1_lookAt_35 _ _ (n + 1) (nI (tf S.1)) h' = _
    rw [f_X1_lookAt_35, (c.keepC q1).1.2.1, if_pos (Int32.le_refl _)]
  · obtain ⟨q1, q2, q3, q4⟩ := hI
    have c' := c.keepC q1
    -- the state behind a row, of a fault that is not fixable / that is
    have fin : ∀ (h2 : PH) (v : Int32), keepC h h2 → h2.1 58 2 = nI l → h2.1 58 4 = mkI (fun f => bt x f && (fxm S l f).isSome) i → (∀ f, f < i → h2.1 59 f = fxv S l x f) → h2.1 59 i = v → v = fxv S l x i → (¬ v = -1 ↔ (bt x i && (fxm S l i).isSome) = true) → ∃ b' h3, (keepC h h3 ∧ h3.1 58 2 = nI l ∧ h3.1 58 4 = mkI (fun f => bt x f && (fxm S l f).isSome) (i + 1) ∧ ∀ f, f < i + 1 → h3.1 59 f = fxv S l x f) ∧ ∀ k : Int32 → PH → Option PH, f_X1_lookAt_118 (nI l) (faultsM S.1 (bin S.2.1 l) &&& x) k (nI i) h2 = k (nI (i + 1)) h3 ∧ b' = () := by
      intro h2 v p1 p2 p3 p4 p5 p6 p7
      have hlast : ∀ f, f < i + 1 → h2.1 59 f = fxv S l x f := by
        intro f hf
        by_cases e : f = i
        · subst e; rw [p5, p6]
        · exact p4 f (by omega)
      by_cases hv : v = -1
      · refine ⟨(), h2, ⟨p1, p2, ?_, hlast⟩, fun k => ⟨?_, rfl⟩⟩
        · rw [p3, mkI, if_neg (fun z => p7.mpr z hv)]
        · rw [f_X1_lookAt_118, ag_nI h2 59 (by omega : i < 10) (by omega), bO_some, p5, if_pos hv, nI1]
      · refine ⟨(), hU h2 58 4 (h2.1 58 4 ||| (1 <<< (nI i &&& 31))), ⟨p1.tr (keepC.hU _ _ rfl), ?_, ?_, ?_⟩, fun k => ⟨?_, rfl⟩⟩
        · rw [hU_s]; unfold upd; rw [if_neg (by decide)]; exact p2
        · rw [hU_s, pk_us, p3, mkI, if_pos (p7.mp hv)]
        · rw [hU_n _ _ _ (by decide)]; exact hlast
        · rw [f_X1_lookAt_118, ag_nI h2 59 (by omega : i < 10) (by omega), bO_some, p5, if_neg hv, lt'_eq, nI1]
    have k66 : keepC h (hU h' 59 i (-1)) := q1.tr (keepC.hU _ _ rfl)
    have u59 : ∀ (v : Int32) (f : Nat), f < i → (hU h' 59 i v).1 59 f = fxv S l x f := fun v f hf => by
      rw [hU_s]; unfold upd; rw [if_neg (by omega)]; exact q4 f hf
    have start : ∀ n, f_X1_lookAt_35 (nI l) (faultsM S.1 (bin S.2.1 l) &&& x) (n + 1) (nI i) h' = (if (bt (faultsM S.1 (bin S.2.1 l)) i && bt x i) = false then f_X1_lookAt_118 (nI l) (faultsM S.1 (bin S.2.1 l) &&& x) (f_X1_lookAt_35 (nI l) (faultsM S.1 (bin S.2.1 l) &&& x) n) (nI i) (hU h' 59 i (-1)) else if ttl S.1 i = -1 then f_X1_lookAt_118 (nI l) (faultsM S.1 (bin S.2.1 l) &&& x) (f_X1_lookAt_35 (nI l) (faultsM S.1 (bin S.2.1 l) &&& x) n) (nI i) (hU h' 59 i (-1)) else bP (f_X2_needsOf (nI l) (ttl S.1 i) (hU h' 59 i (-1))) (fun r89 h89 => if r89 = -1 then f_X1_lookAt_117 (nI l) (faultsM S.1 (bin S.2.1 l) &&& x) (f_X1_lookAt_35 (nI l) (faultsM S.1 (bin S.2.1 l) &&& x) n) (nI i) (nI i) (-1) h89 else f_X1_lookAt_117 (nI l) (faultsM S.1 (bin S.2.1 l) &&& x) (f_X1_lookAt_35 (nI l) (faultsM S.1 (bin S.2.1 l) &&& x) n) (nI i) (nI i) (r89 ||| (1 <<< (ttl S.1 i &&& 31))) h89)) := by
      intro n
      rw [f_X1_lookAt_35, c'.1.2.1, if_neg (nle hi (by omega)), c'.rtl w hi, bO_some, asg_nI h' 59 (-1) (by omega : i < 10) (by omega), bO_some, has8 _ (by omega), bO_some, bt_and]
      cases (bt (faultsM S.1 (bin S.2.1 l)) i && bt x i) <;> rfl
    by_cases hb : (bt (faultsM S.1 (bin S.2.1 l)) i && bt x i) = false
    · have ev : fxv S l x i = -1 := by
        unfold fxv fxm
        cases h1 : bt x i
        · rfl
        · rw [h1, Bool.and_true] at hb
          rw [hb]; rfl
      obtain ⟨b', h3, r1, r2⟩ := fin (hU h' 59 i (-1)) (-1) k66 (by rw [hU_n _ _ _ (by decide)]; exact q2) (by rw [hU_n _ _ _ (by decide)]; exact q3) (u59 _) (by rw [hU_s]; exact pk_us) ev.symm (by
        constructor
        · intro z; exact absurd rfl z
        · intro z
          unfold fxm at z
          cases h1 : bt x i
          · rw [h1] at z; cases z
          · rw [h1, Bool.and_true] at hb
            rw [hb, h1] at z; cases z)
      refine ⟨b', h3, r1, fun n => ?_⟩
      show f_X1_lookAt_35 _ _ (n + 1) (nI i) h' = f_X1_lookAt_35 _ _ n (nI (i + 1)) h3
      rw [start n, if_pos hb, (r2 _).1]
    · have hb2 : bt (faultsM S.1 (bin S.2.1 l)) i = true ∧ bt x i = true := by
        cases h1 : bt (faultsM S.1 (bin S.2.1 l)) i <;> cases h2 : bt x i <;> simp [h1, h2] at hb ⊢
      rcases tl_cases w hi with e | ⟨k, hk, e, e2⟩
      · have ev : fxm S l i = none := by unfold fxm; rw [if_pos hb2.1, if_pos e]
        obtain ⟨b', h3, r1, r2⟩ := fin (hU h' 59 i (-1)) (-1) k66 (by rw [hU_n _ _ _ (by decide)]; exact q2) (by rw [hU_n _ _ _ (by decide)]; exact q3) (u59 _) (by rw [hU_s]; exact pk_us) (by unfold fxv; rw [ev, if_pos hb2.2]; rfl) (by rw [ev]; simp)
        refine ⟨b', h3, r1, fun n => ?_⟩
        show f_X1_lookAt_35 _ _ (n + 1) (nI i) h' = f_X1_lookAt_35 _ _ n (nI (i + 1)) h3
        rw [start n, if_neg hb, if_pos e, (r2 _).1]
      · have hm := nI_ne_m1 (k := k) (by omega)
        obtain ⟨g, eg⟩ := q_needs w hl hk (c.keepC k66)
        have k89 : keepC h (hC (hU h' 59 i (-1)) 56 g) := k66.tr (keepC.hC _ rfl)
        have ev : fxm S l i = (ndM S l k).map (fun r => r ||| (1 <<< (nI k &&& 31))) := by unfold fxm; rw [if_pos hb2.1, e, if_neg hm, e2]
        have last : ∀ v : Int32, v = (fxm S l i).getD (-1) → ∃ b' h3, (keepC h h3 ∧ h3.1 58 2 = nI l ∧ h3.1 58 4 = mkI (fun f => bt x f && (fxm S l f).isSome) (i + 1) ∧ ∀ f, f < i + 1 → h3.1 59 f = fxv S l x f) ∧ ∀ k : Int32 → PH → Option PH, f_X1_lookAt_117 (nI l) (faultsM S.1 (bin S.2.1 l) &&& x) k (nI i) (nI i) v (hC (hU h' 59 i (-1)) 56 g) = k (nI (i + 1)) h3 ∧ b' = () := by
          intro v hv
          obtain ⟨b', h3, r1, r2⟩ := fin (hU (hC (hU h' 59 i (-1)) 56 g) 59 i v) v (k89.tr (keepC.hU _ _ rfl)) (by rw [hU_n _ _ _ (by decide), hC_n _ _ (by decide), hU_n _ _ _ (by decide)]; exact q2) (by rw [hU_n _ _ _ (by decide), hC_n _ _ (by decide), hU_n _ _ _ (by decide)]; exact q3) (fun f hf => by
            rw [hU_s]; unfold upd; rw [if_neg (by omega), hC_n _ _ (by decide)]; exact u59 _ f hf) (by rw [hU_s]; exact pk_us) (by unfold fxv; rw [if_pos hb2.2, hv]) (by
            rw [hv, hb2.2, Bool.true_and]
            cases hq : fxm S l i with
            | none => simp
            | some r => simp [bel_ne (fxm_bel w hi hq) (by omega)])
          refine ⟨b', h3, r1, fun k => ⟨?_, rfl⟩⟩
          rw [f_X1_lookAt_117, asg_nI _ 59 v (by omega : i < 10) (by omega), bO_some, (r2 k).1]
        cases hn : ndM S l k with
        | none =>
          obtain ⟨b', h3, r1, r2⟩ := last (-1) (by rw [ev, hn]; rfl)
          refine ⟨b', h3, r1, fun n => ?_⟩
          show f_X1_lookAt_35 _ _ (n + 1) (nI i) h' = f_X1_lookAt_35 _ _ n (nI (i + 1)) h3
          rw [start n, if_neg hb, e, if_neg hm, eg, hn, bP_some]
          exact (r2 _).1
        | some r =>
          obtain ⟨b', h3, r1, r2⟩ := last (r ||| (1 <<< (nI k &&& 31))) (by rw [ev, hn]; rfl)
          refine ⟨b', h3, r1, fun n => ?_⟩
          show f_X1_lookAt_35 _ _ (n + 1) (nI i) h' = f_X1_lookAt_35 _ _ n (nI (i + 1)) h3
          rw [start n, if_neg hb, e, if_neg hm, eg, hn, bP_some]
          show (if r = -1 then _ else _) = _
          rw [if_neg (bel_ne (nd_bel (by omega) hn) (by omega))]
          exact (r2 _).1
