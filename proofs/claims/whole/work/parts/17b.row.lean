/-! ===== orders: the members, the model's row, whether it is clean ===== -/
theorem pc_mono (x : Int32) {a : Nat} : ∀ {b}, a ≤ b → pc x a ≤ pc x b := by
  intro b
  induction b with
  | zero => intro h; have : a = 0 := by omega
            subst this; exact Nat.le_refl _
  | succ b ih =>
    intro h
    by_cases e : a = b + 1
    · subst e; exact Nat.le_refl _
    · exact Nat.le_trans (ih (by omega)) (by rw [pc]; omega)
theorem mem_ex (x : Int32) : ∀ n, ∃ m : Nat → Nat, ∀ i, i < pc x n → m i < n ∧ bt x (m i) = true ∧ pc x (m i) = i := by
  intro n
  induction n with
  | zero => exact ⟨fun _ => 0, fun i hi => absurd hi (Nat.not_lt_zero i)⟩
  | succ n ih =>
    obtain ⟨m, hm⟩ := ih
    by_cases c : bt x n = true
    · refine ⟨fun i => if i < pc x n then m i else n, fun i hi => ?_⟩
      rw [pc, if_pos c] at hi
      show (if i < pc x n then m i else n) < n + 1 ∧ bt x (if i < pc x n then m i else n) = true ∧ pc x (if i < pc x n then m i else n) = i
      by_cases e : i < pc x n
      · rw [if_pos e]
        exact ⟨by have := (hm i e).1; omega, (hm i e).2⟩
      · rw [if_neg e]; exact ⟨by omega, c, by omega⟩
    · refine ⟨m, fun i hi => ?_⟩
      rw [pc, if_neg c] at hi
      exact ⟨by have := (hm i hi).1; omega, (hm i hi).2⟩
/-- m counts up the members of x -/
def Mb (x : Int32) (n : Nat) (m : Nat → Nat) : Prop := ∀ i, i < pc x n → m i < n ∧ bt x (m i) = true ∧ pc x (m i) = i
theorem Mb.lt {x : Int32} {n : Nat} {m : Nat → Nat} (hm : Mb x n m) {i j : Nat} (hj : j < pc x n) (h : i < j) : m i < m j := by
  rcases Nat.lt_or_ge (m i) (m j) with c | c
  · exact c
  · have := pc_mono x c
    rw [(hm j hj).2.2, (hm i (by omega)).2.2] at this
    omega
theorem Mb.lti {x : Int32} {n : Nat} {m : Nat → Nat} (hm : Mb x n m) {i j : Nat} (hi : i < pc x n) (hj : j < pc x n) : (m i < m j) = (i < j) := by
  apply propext
  rcases Nat.lt_trichotomy i j with h | h | h
  · exact ⟨fun _ => h, fun _ => hm.lt hj h⟩
  · subst h; exact ⟨fun h => absurd h (Nat.lt_irrefl _), fun h => absurd h (Nat.lt_irrefl _)⟩
  · have := hm.lt hi h
    exact ⟨fun h => by omega, fun h => by omega⟩
/-- the model's row is r, k long; the rest is as in g -/
def RW (g : PH) (k : Nat) (r : Nat → Nat) (h : PH) : Prop := keepM g h ∧ h.1 66 40 = nI k ∧ ∀ t, t < k → h.1 91 t = nI (r t)
theorem RW.cg {g : PH} {k : Nat} {r u : Nat → Nat} {h : PH} (e : ∀ t, t < k → r t = u t) (H : RW g k r h) : RW g k u h := ⟨H.1, H.2.1, fun t ht => by rw [← e t ht]; exact H.2.2 t ht⟩
theorem m_fill {S : SD} (w : wfS S) {x : Int32} {m : Nat → Nat} (hm : Mb x (tn S.1) m) (h8 : pc x (tn S.1) ≤ 8) {g : PH} (c : RM S g) : ∃ h', f_X9_fillRow x g = some h' ∧ RW g (pc x (tn S.1)) m h' := by
  have n24 := w.n24
  rw [f_X9_fillRow, lt'_eq]
  refine glF (fun n (_ : Unit) i h => f_X9_fillRow_7 x n (nI i) h) (fun i _ h => keepM g h ∧ h.1 66 40 = nI (pc x i) ∧ ∀ j, j < i → bt x j = true → h.1 91 (pc x j) = nI j) (tn S.1) (fun o => ∃ h', o = some h' ∧ RW g (pc x (tn S.1)) m h') (by omega) (fun _ h I n => ?_) (fun i _ h hi I => Or.inr ?_) (i := 0) (b := ()) (Nat.zero_le _) ⟨keepM.hU _ rfl, by rw [hU_s, upd_s]; rfl, fun j hj => absurd hj (Nat.not_lt_zero j)⟩
  · refine ⟨h, ?_, I.1, I.2.1, fun t ht => ?_⟩
    · show f_X9_fillRow_7 x (n + 1) (nI (tn S.1)) h = some h
      rw [f_X9_fillRow_7, (c.keepM I.1).1.1, if_pos (by rw [leN (by omega) (by omega)]; exact Nat.le_refl _)]
    · have q := hm t ht
      have := I.2.2 (m t) q.1 q.2.1
      rw [q.2.2] at this; exact this
  · obtain ⟨I1, I2, I3⟩ := I
    have e0 : ∀ n, f_X9_fillRow_7 x (n + 1) (nI i) h = (bO (f_X9_has x (nI i)) (fun r17 => if r17 = 0 then ((f_X9_fillRow_7 x n) (nI i + 1) h) else (bO (asg h 91 8 (h.1 66 40) (nI i)) (fun h32 => lt' (hU h32 66 40 ((h32.1 66 40) + 1)) (fun h40 => (f_X9_fillRow_7 x n) (nI i + 1) h40))))) := fun n => by
      rw [f_X9_fillRow_7, (c.keepM I1).1.1, if_neg (by rw [leN (by omega) (by omega)]; omega)]
    by_cases b : bt x i = true
    · have hp : pc x i < pc x (tn S.1) := by
        have := pc_mono x (show i + 1 ≤ tn S.1 by omega)
        rw [pc, if_pos b] at this; omega
      refine ⟨(), hU (hU h 91 (pc x i) (nI i)) 66 40 (nI (pc x i + 1)), ⟨?_, ?_, fun j hj bj => ?_⟩, fun n => ?_⟩
      · exact (I1.tr (keepM.hC (V := 91) _ rfl (by decide))).tr (keepM.hU _ rfl)
      · rw [hU_s, upd_s, pc, if_pos b]
      · rw [hU_n _ _ _ (by decide), hU_s]
        by_cases e : j = i
        · subst e; rw [upd_s]
        · have hj2 : j < i := by omega
          have := pc_mono x (show j + 1 ≤ i by omega)
          rw [pc, if_pos bj] at this
          rw [upd_n _ _ (by omega)]; exact I3 j hj2 bj
      · show f_X9_fillRow_7 x (n + 1) (nI i) h = f_X9_fillRow_7 x n (nI (i + 1)) _
        rw [e0 n, has9 _ (by omega), bO_some, if_pos b, if_neg (by decide), I2, asg_nI _ _ _ (by omega : pc x i < 8) (by omega), bO_some, lt'_eq, hU_n _ _ _ (by decide : (66 : Nat) ≠ 91), I2, nI1, nI1]
    · refine ⟨(), h, ⟨I1, by rw [pc, if_neg b]; exact I2, fun j hj bj => ?_⟩, fun n => ?_⟩
      · by_cases e : j = i
        · subst e; exact absurd bj b
        · exact I3 j (by omega) bj
      · show f_X9_fillRow_7 x (n + 1) (nI i) h = f_X9_fillRow_7 x n (nI (i + 1)) h
        rw [e0 n, has9 _ (by omega), bO_some, if_neg b, if_pos rfl, nI1]
/-! whether a row is clean -/
def pre (q : Nat → Nat) : Nat → Nat
  | 0 => 0
  | t + 1 => pre q t ||| 2 ^ q t
def okp (ok : Nat → Nat → Bool) (q : Nat → Nat) : Nat → Bool
  | 0 => true
  | t + 1 => okp ok q t && ok (pre q t) (q t)
theorem pre_cg {q u : Nat → Nat} : ∀ {n}, (∀ t, t < n → q t = u t) → pre q n = pre u n := by
  intro n
  induction n with
  | zero => intro _; rfl
  | succ n ih => intro h; rw [pre, pre, ih (fun t ht => h t (by omega)), h n (by omega)]
theorem okp_cg {ok : Nat → Nat → Bool} {q u : Nat → Nat} : ∀ {n}, (∀ t, t < n → q t = u t) → okp ok q n = okp ok u n := by
  intro n
  induction n with
  | zero => intro _; rfl
  | succ n ih => intro h; rw [okp, okp, ih (fun t ht => h t (by omega)), h n (by omega), pre_cg (fun t ht => h t (by omega))]
theorem okp_mono {ok : Nat → Nat → Bool} {q : Nat → Nat} {i : Nat} : ∀ {j}, i ≤ j → okp ok q i = false → okp ok q j = false := by
  intro j
  induction j with
  | zero => intro h e; have : i = 0 := by omega
            subst this; exact e
  | succ j ih =>
    intro h e
    by_cases c : i = j + 1
    · subst c; exact e
    · rw [okp, ih (by omega) e]; rfl
theorem pre_f {q : Nat → Nat} {j : Nat} : ∀ {n}, (∀ t, t < n → q t ≠ j) → (pre q n).testBit j = false := by
  intro n
  induction n with
  | zero => intro _; exact Nat.zero_testBit j
  | succ n ih => intro h; rw [pre, tb_or, ih (fun t ht => h t (by omega)), decide_eq_false (h n (by omega))]; rfl
theorem pre_lt {q : Nat → Nat} {k : Nat} : ∀ {n}, (∀ t, t < n → q t < k) → pre q n < 2 ^ k := by
  intro n
  induction n with
  | zero => intro _; exact Nat.two_pow_pos k
  | succ n ih => intro h; exact or_lt (ih (fun t ht => h t (by omega))) (h n (by omega))
/-- what the model asks of a change after a prefix -/
def OK (T : TD) (m : Nat → Nat) (k : Nat) (v0 : Nat → Int32) (ok : Nat → Nat → Bool) : Prop := ∀ a v, Vl T m k v0 a v → ∀ i, (clashM T (m i) v = 0) = (ok a i = true)
theorem m_isClean {S : SD} (w : wfS S) {m : Nat → Nat} {k l : Nat} (hk : k ≤ 8) (hm : ∀ i, i < k → m i < tn S.1) (hl : l < bl S.2.1) {ok : Nat → Nat → Bool} (ho : OK S.1 m k (bval S.2.1 l) ok) {q : Nat → Nat} (hq : ∀ t, t < k → q t < k) (hd : ∀ t u, t < u → u < k → q t ≠ q u) {g h : PH} (c : RM S g) (H : RW g k (fun t => m (q t)) h) : ∃ h', f_X9_isClean (nI l) h = some (b01 (okp ok q k), h') ∧ RW g k (fun t => m (q t)) h' := by
  have b4 := w.b4
  obtain ⟨h1, e1, k1, H1, -⟩ : ∃ h', f_X9_tryLine (nI l) h = some h' ∧ RW g k (fun t => m (q t)) h' ∧ Has (bval S.2.1 l) 89 h' ∧ True := by
    have cc := c.keepM H.1
    refine ⟨_, m_tryLine (by omega), ⟨H.1.tr (keepM.hC _ rfl (by decide)), by rw [hC_n _ _ (by decide)]; exact H.2.1, fun t ht => by rw [hC_n _ _ (by decide)]; exact H.2.2 t ht⟩, fun s hs => ?_, trivial⟩
    rw [hC_s, segF_in0 hs]
    exact (cc.2.1.2.2.1 l hl).2.2.2 s hs
  rw [f_X9_isClean, e1, bO_some]
  refine glF (fun n (b : Bool) i h => f_X9_isClean_9 n (b01 b) (nI i) h) (fun i b h => RW g k (fun t => m (q t)) h ∧ b = okp ok q i ∧ (b = true → ∃ v, Has v 89 h ∧ Vl S.1 m k (bval S.2.1 l) (pre q i) v)) k (fun o => ∃ h', o = some (b01 (okp ok q k), h') ∧ RW g k (fun t => m (q t)) h') (by omega) (fun b h I n => ?_) (fun i b h hi I => ?_) (i := 0) (b := true) (Nat.zero_le _) ⟨k1, rfl, fun _ => ⟨_, H1, Vl_0 _ _ _ _⟩⟩
  · refine ⟨h, ?_, I.1⟩
    show f_X9_isClean_9 (n + 1) (b01 b) (nI k) h = _
    rw [f_X9_isClean_9, I.1.2.1, if_pos (by rw [leN (by omega) (by omega)]; exact Nat.le_refl _), I.2.1]
    exact zr_b _ (fun r => (r, h))
  · obtain ⟨I1, I2, I3⟩ := I
    have st : ∀ n, f_X9_isClean_9 (n + 1) (b01 b) (nI i) h = (if b01 b = 0 then (zr (b01 b) (b01 b, h)) else (bO (ag h 91 8 (nI i)) (fun v27 => bP (f_X9_clashOf v27 h) (fun r28 h28 => if r28 = 0 then (f_X9_isClean_39 (f_X9_isClean_9 n) (nI i) 1 h28) else (f_X9_isClean_39 (f_X9_isClean_9 n) (nI i) 0 h28))))) := fun n => by
      rw [f_X9_isClean_9, I1.2.1, if_neg (by rw [leN (by omega) (by omega)]; omega)]
    cases b with
    | false =>
      refine Or.inl (fun n => ⟨h, ?_, I1⟩)
      show f_X9_isClean_9 (n + 1) (b01 false) (nI i) h = _
      rw [st n, if_pos (show b01 false = 0 from rfl), okp_mono (Nat.le_of_lt hi) I2.symm]; rfl
    | true =>
      obtain ⟨v, hv, hV⟩ := I3 rfl
      have cc := c.keepM I1.1
      have hmq := hm (q i) (hq i hi)
      refine Or.inr ⟨ok (pre q i) (q i), hC h 89 (segF (h.1 89) 0 (putM S.1 (m (q i)) (h.1 89)) 16), ⟨⟨I1.1.tr (keepM.hC _ rfl (by decide)), by rw [hC_n _ _ (by decide)]; exact I1.2.1, fun t ht => by rw [hC_n _ _ (by decide)]; exact I1.2.2 t ht⟩, by rw [okp, ← I2, Bool.true_and], fun e => ⟨putM S.1 (m (q i)) v, fun s hs => ?_, ?_⟩⟩, fun n => ?_⟩
      · rw [hC_s, segF_in0 hs]; exact putM_congr hv s hs
      · exact Vl_s (hq i hi) (pre_f (fun t ht => hd t i ht hi)) ((ho _ v hV (q i)).mpr e) hV
      · show f_X9_isClean_9 (n + 1) (b01 true) (nI i) h = f_X9_isClean_9 n (b01 (ok (pre q i) (q i))) (nI (i + 1)) _
        rw [st n, if_neg (by decide), ag_nI _ _ (by omega : i < 8) (by omega), bO_some, I1.2.2 i hi, rm_clash w cc hmq hv, bP_some, ite_c (ho _ v hV (q i))]
        have go : ∀ t, f_X9_isClean_39 (f_X9_isClean_9 n) (nI i) t h = f_X9_isClean_9 n t (nI (i + 1)) (hC h 89 (segF (h.1 89) 0 (putM S.1 (m (q i)) (h.1 89)) 16)) := fun t => by
          rw [f_X9_isClean_39, ag_nI _ _ (by omega : i < 8) (by omega), bO_some, I1.2.2 i hi, m_goOn w.1 cc.1 hmq, bO_some, nI1]
        rw [go, go]
        cases ok (pre q i) (q i) <;> rfl
