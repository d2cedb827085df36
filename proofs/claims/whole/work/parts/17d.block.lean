/-! ===== orders: the model's search runs through a block of rows ===== -/
def bN (b : Bool) (x : Nat) : Nat := if b = true then x else 0
theorem bN_add (b : Bool) (x y : Nat) : bN b (x + y) = bN b x + bN b y := by cases b <;> rfl
def rnk (k : Nat) (ok : Nat → Nat → Bool) (q : Nat → Nat) : Nat → Nat → Nat
  | 0, _ => 0
  | n + 1, p => Gs (wb k ok (pre q p)) (q p) + rnk k ok q n (p + 1)
/-- the first p places hold different indices -/
def Pp (k p : Nat) (q : Nat → Nat) : Prop := (∀ t, t < p → q t < k) ∧ ∀ t u, t < u → u < p → q t ≠ q u
theorem Pp_cg {k p : Nat} {q u : Nat → Nat} (e : ∀ t, t < p → q t = u t) (H : Pp k p q) : Pp k p u := ⟨fun t ht => by rw [← e t ht]; exact H.1 t ht, fun t v h1 h2 => by rw [← e t (by omega), ← e v h2]; exact H.2 t v h1 h2⟩
theorem pre_t {q : Nat → Nat} {i : Nat} : ∀ {n}, i < n → (pre q n).testBit (q i) = true := by
  intro n
  induction n with
  | zero => intro h; omega
  | succ n ih =>
    intro h
    rw [pre, tb_or]
    by_cases e : i = n
    · subst e; rw [decide_eq_true rfl, Bool.or_true]
    · rw [ih (by omega)]; rfl
theorem Pp_s {k p : Nat} {q : Nat → Nat} (H : Pp k p q) (h1 : q p < k) (h2 : (pre q p).testBit (q p) = false) : Pp k (p + 1) q := by
  refine ⟨fun t ht => ?_, fun t u htu hu e => ?_⟩
  · by_cases c : t = p
    · subst c; exact h1
    · exact H.1 t (by omega)
  · by_cases c : u = p
    · subst c
      rw [← e, pre_t htu] at h2; cases h2
    · exact H.2 t u htu (by omega) e
section
variable {S : SD} {m : Nat → Nat} {k l : Nat} {ok : Nat → Nat → Bool} {g : PH} {x3 : Int32}
/-- found in the block, or run through it -/
def HitR (S : SD) (m : Nat → Nat) (k l : Nat) (ok : Nat → Nat → Bool) (g : PH) (x3 : Int32) (n p c : Nat) (q : Nat → Nat) (F : Nat → Option (Int32 × PH)) : Prop :=
  ∃ (q' : Nat → Nat) (h' : PH), Pp k k q' ∧ (∀ t, t < p → q' t = q t) ∧ okp ok q' k = true ∧ x3 = nI (c + rnk k ok q' n p) ∧ RW g k (fun t => m (q' t)) h' ∧ ∀ f, F f = some (x3, h')
def EndR (S : SD) (m : Nat → Nat) (k l : Nat) (g : PH) (x3 : Int32) (n p c N : Nat) (U q : Nat → Nat) (F : Nat → Option (Int32 × PH)) : Prop :=
  ∃ (q' : Nat → Nat) (h' : PH), (∀ t, t < p → q' t = q t) ∧ (∀ t, t < n → q' (p + t) = U (n - 1 - t)) ∧ RW g k (fun t => m (q' t)) h' ∧ ∀ f, F f = f_X9_seek_36 (nI l) x3 (f_X9_seek_11 (nI l) x3 f) (nI (c + N)) h'
theorem m_block (w : wfS S) (hk : k ≤ 8) (hm : ∀ i, i < k → m i < tn S.1) (hmm : ∀ i j, i < j → j < k → m i < m j) (hl : l < bl S.2.1) (ho : OK S.1 m k (bval S.2.1 l) ok) (cg : RM S g) : ∀ n U p q c h, p + n = k → Pp k p q → Cm k n U (pre q p) → (∀ t, t < n → q (p + t) = U t) → RW g k (fun t => m (q t)) h →
    HitR S m k l ok g x3 n p c q (fun f => f_X9_seek_11 (nI l) x3 (f + fc n) (nI c) 1 h) ∨ ((∀ e, e < bN (okp ok q p) (wa k ok (pre q p)) → x3 ≠ nI (c + e)) ∧ EndR S m k l g x3 n p c (bN (okp ok q p) (wa k ok (pre q p))) U q (fun f => f_X9_seek_11 (nI l) x3 (f + fc n) (nI c) 1 h)) := by
  have n24 := w.n24
  intro n
  induction n with
  | zero =>
    intro U p q c h hp P C hU R
    have hpk : p = k := by omega
    subst hpk
    obtain ⟨h', e', R'⟩ := m_isClean w hk hm hl ho P.1 P.2 cg R
    have ha : pre q p < 2 ^ p := pre_lt P.1
    have hw : wa p ok (pre q p) = 1 := by rw [wa_eq hk ok ha, if_pos (Cm_full ha C)]
    have st : ∀ f, f_X9_seek_11 (nI l) x3 (f + fc 0) (nI c) 1 h = if b01 (okp ok q p) = 0 then f_X9_seek_36 (nI l) x3 (f_X9_seek_11 (nI l) x3 f) (nI c) h' else if nI c = x3 then some (nI c, h') else f_X9_seek_36 (nI l) x3 (f_X9_seek_11 (nI l) x3 f) (nI c + 1) h' := fun f => by
      show f_X9_seek_11 (nI l) x3 (f + 1) (nI c) 1 h = _
      rw [f_X9_seek_11, if_neg (by decide), e', bP_some]
    rw [hw]
    cases hb : okp ok q p with
    | false =>
      refine Or.inr ⟨fun e he => absurd he (Nat.not_lt_zero e), q, h', fun _ _ => rfl, fun t ht => absurd ht (Nat.not_lt_zero t), R', fun f => ?_⟩
      show f_X9_seek_11 (nI l) x3 (f + fc 0) (nI c) 1 h = _
      rw [st f, hb, if_pos (show b01 false = 0 from rfl)]; rfl
    | true =>
      by_cases e : nI c = x3
      · refine Or.inl ⟨q, h', P, fun _ _ => rfl, hb, e.symm, R', fun f => ?_⟩
        show f_X9_seek_11 (nI l) x3 (f + fc 0) (nI c) 1 h = _
        rw [st f, hb, if_neg (show ¬ b01 true = 0 by decide), if_pos e, e]
      · refine Or.inr ⟨fun i hi => ?_, q, h', fun _ _ => rfl, fun t ht => absurd ht (Nat.not_lt_zero t), R', fun f => ?_⟩
        · have : i < 1 := hi
          have : i = 0 := by omega
          subst this; exact fun x => e x.symm
        · show f_X9_seek_11 (nI l) x3 (f + fc 0) (nI c) 1 h = _
          rw [st f, hb, if_neg (show ¬ b01 true = 0 by decide), if_neg e, nI1]; rfl
  | succ n ih =>
    intro U p q0 c h0 hp P0 C hU0 R0
    obtain ⟨a, ha⟩ : ∃ a, pre q0 p = a := ⟨_, rfl⟩
    obtain ⟨b, hb⟩ : ∃ b, okp ok q0 p = b := ⟨_, rfl⟩
    rw [ha] at C
    rw [ha, hb]
    have halt : a < 2 ^ k := ha ▸ pre_lt P0.1
    have hG := Gs_Cm C (g := wb k ok a) (fun i h => wb_z k ok h)
    have hw : wa k ok a = Gs (fun t => wb k ok a (U t)) (n + 1) := by rw [wa_eq hk ok halt, if_neg (Cm_nfull C), hG.2]
    have key : ∀ (d j : Nat) (q : Nat → Nat) (h : PH), j + d = n → (∀ t, t < p → q t = q0 t) → q p = U j → (∀ t, t < n → q (p + 1 + t) = del U j t) → RW g k (fun t => m (q t)) h →
        HitR S m k l ok g x3 (n + 1) p c q0 (fun f => f_X9_seek_11 (nI l) x3 (f + (d + 1) * fc n) (nI (c + bN b (Gs (fun t => wb k ok a (U t)) j))) 1 h) ∨ ((∀ e, bN b (Gs (fun t => wb k ok a (U t)) j) ≤ e → e < bN b (wa k ok a) → x3 ≠ nI (c + e)) ∧ EndR S m k l g x3 (n + 1) p c (bN b (wa k ok a)) U q0 (fun f => f_X9_seek_11 (nI l) x3 (f + (d + 1) * fc n) (nI (c + bN b (Gs (fun t => wb k ok a (U t)) j))) 1 h)) := by
      intro d
      induction d with
      | zero =>
        intro j q h hj hq hqp hqs R
        have hjn : j = n := by omega
        subst hjn
        have hpre : pre q p = a := by rw [pre_cg hq, ha]
        have hokp : okp ok q p = b := by rw [okp_cg hq, hb]
        have hUj := C.2.1 j (by omega)
        have P1 : Pp k (p + 1) q := Pp_s (Pp_cg (fun t ht => (hq t ht).symm) P0) (by rw [hqp]; exact hUj.1) (by rw [hqp, hpre]; exact hUj.2)
        have hpre1 : pre q (p + 1) = a ||| 2 ^ U j := by rw [pre, hpre, hqp]
        have hN : bN (okp ok q (p + 1)) (wa k ok (pre q (p + 1))) = bN b (wb k ok a (U j)) := by
          rw [hpre1, okp, hokp, hpre, hqp, wb, hUj.2]
          cases b <;> cases ok a (U j) <;> rfl
        rcases ih (del U j) (p + 1) q (c + bN b (Gs (fun t => wb k ok a (U t)) j)) h (by omega) P1 (by rw [hpre1]; exact Cm_del C (by omega)) hqs R with ⟨q', h', z1, z2, z3, z4, z5, z6⟩ | ⟨y, q', h', z2, z3, z5, z6⟩
        · refine Or.inl ⟨q', h', z1, fun t ht => (z2 t (by omega)).trans (hq t ht), z3, ?_, z5, fun f => ?_⟩
          · have hb1 : b = true := by
              cases hbb : b with
              | true => rfl
              | false =>
                have : okp ok q' p = false := by rw [okp_cg (fun t ht => (z2 t (by omega)).trans (hq t ht)), hb, hbb]
                rw [okp_mono (by omega) this] at z3; cases z3
            rw [z4, rnk, pre_cg (fun t ht => (z2 t (by omega)).trans (hq t ht)), ha, z2 p (by omega), hqp, hG.1 j (by omega), hb1]
            congr 1
            show c + Gs _ j + rnk k ok q' j (p + 1) = _
            omega
          · show f_X9_seek_11 (nI l) x3 (f + (0 + 1) * fc j) _ 1 h = _
            rw [Nat.zero_add, Nat.one_mul]; exact z6 f
        · rw [hN] at y z6
          have hN2 : bN b (Gs (fun t => wb k ok a (U t)) j) + bN b (wb k ok a (U j)) = bN b (wa k ok a) := by rw [hw, Gs, bN_add]
          refine Or.inr ⟨fun e h1 h2 => ?_, q', h', fun t ht => (z2 t (by omega)).trans (hq t ht), fun t ht => ?_, z5, fun f => ?_⟩
          · have := y (e - bN b (Gs (fun t => wb k ok a (U t)) j)) (by omega)
            rwa [show c + bN b (Gs (fun t => wb k ok a (U t)) j) + (e - bN b (Gs (fun t => wb k ok a (U t)) j)) = c + e by omega] at this
          · cases t with
            | zero => rw [Nat.add_zero, z2 p (by omega), hqp]; rfl
            | succ t =>
              rw [show p + (t + 1) = p + 1 + t by omega, z3 t (by omega), del, if_pos (by omega)]; congr 1; omega
          · show f_X9_seek_11 (nI l) x3 (f + (0 + 1) * fc j) _ 1 h = _
            rw [Nat.zero_add, Nat.one_mul, ← hN2, ← Nat.add_assoc]; exact z6 f
      | succ d ihd =>
        intro j q h hj hq hqp hqs R
        have hpre : pre q p = a := by rw [pre_cg hq, ha]
        have hokp : okp ok q p = b := by rw [okp_cg hq, hb]
        have hUj := C.2.1 j (by omega)
        have CD := Cm_del C (j := j) (by omega)
        have P1 : Pp k (p + 1) q := Pp_s (Pp_cg (fun t ht => (hq t ht).symm) P0) (by rw [hqp]; exact hUj.1) (by rw [hqp, hpre]; exact hUj.2)
        have hpre1 : pre q (p + 1) = a ||| 2 ^ U j := by rw [pre, hpre, hqp]
        have hN : bN (okp ok q (p + 1)) (wa k ok (pre q (p + 1))) = bN b (wb k ok a (U j)) := by
          rw [hpre1, okp, hokp, hpre, hqp, wb, hUj.2]
          cases b <;> cases ok a (U j) <;> rfl
        rcases ih (del U j) (p + 1) q (c + bN b (Gs (fun t => wb k ok a (U t)) j)) h (by omega) P1 (by rw [hpre1]; exact CD) hqs R with ⟨q', h', z1, z2, z3, z4, z5, z6⟩ | ⟨y, q', h', z2, z3, z5, z6⟩
        · refine Or.inl ⟨q', h', z1, fun t ht => (z2 t (by omega)).trans (hq t ht), z3, ?_, z5, fun f => ?_⟩
          · have hb1 : b = true := by
              cases hbb : b with
              | true => rfl
              | false =>
                have : okp ok q' p = false := by rw [okp_cg (fun t ht => (z2 t (by omega)).trans (hq t ht)), hb, hbb]
                rw [okp_mono (by omega) this] at z3; cases z3
            rw [z4, rnk, pre_cg (fun t ht => (z2 t (by omega)).trans (hq t ht)), ha, z2 p (by omega), hqp, hG.1 j (by omega), hb1]
            congr 1
            show c + Gs _ j + rnk k ok q' n (p + 1) = _
            omega
          · show f_X9_seek_11 (nI l) x3 (f + (d + 1 + 1) * fc n) _ 1 h = _
            rw [Nat.succ_mul (d + 1), ← Nat.add_assoc]; exact z6 _
        · rw [hN] at y z6
          have hN2 : bN b (Gs (fun t => wb k ok a (U t)) j) + bN b (wb k ok a (U j)) = bN b (Gs (fun t => wb k ok a (U t)) (j + 1)) := by rw [Gs, bN_add]
          have z2p : q' p = U j := by rw [z2 p (by omega), hqp]
          have hlt : ∀ t, t < k → q' t < k := fun t ht => by
            by_cases c1 : t < p + 1
            · rw [z2 t c1]; exact P1.1 t c1
            · have := z3 (t - (p + 1)) (by omega)
              rw [show p + 1 + (t - (p + 1)) = t by omega] at this
              rw [this]; exact (CD.2.1 _ (by omega)).1
          have hqb : q' (p + n - j) = U (j + 1) := by
            have := z3 (n - 1 - j) (by omega)
            rw [show p + 1 + (n - 1 - j) = p + n - j by omega] at this
            rw [this, del, if_neg (by omega)]; congr 1; omega
          obtain ⟨h2, e2, R2⟩ := m_next hk (r := fun t => m (q' t)) (fun t ht => Nat.lt_of_lt_of_le (hm _ (hlt t ht)) n24) z5 (p := p) (b := p + n - j) (by omega) (by
            show m (q' p) < m (q' (p + 1))
            refine hmm _ _ ?_ (hlt _ (by omega))
            have := z3 0 (by omega)
            rw [Nat.add_zero] at this
            rw [z2p, this, del, if_neg (by omega)]
            exact C.1 _ _ (by omega) (by omega)) (fun t ht ht2 => by
            show m (q' (t + 1)) < m (q' t)
            refine hmm _ _ ?_ (hlt _ (by omega))
            have e1 := z3 (t - (p + 1)) (by omega)
            have e2 := z3 (t - p) (by omega)
            rw [show p + 1 + (t - (p + 1)) = t by omega] at e1
            rw [show p + 1 + (t - p) = t + 1 by omega] at e2
            rw [e1, e2]
            exact CD.1 _ _ (by omega) (by omega)) (by omega) (by omega) (by
            show m (q' p) < m (q' (p + n - j))
            refine hmm _ _ ?_ (hlt _ (by omega))
            rw [z2p, hqb]; exact C.1 _ _ (by omega) (by omega)) (fun t ht ht2 => by
            show m (q' t) < m (q' p)
            refine hmm _ _ ?_ (hlt _ (by omega))
            have e1 := z3 (t - (p + 1)) (by omega)
            rw [show p + 1 + (t - (p + 1)) = t by omega] at e1
            rw [z2p, e1, del, if_pos (by omega)]
            exact C.1 _ _ (by omega) (by omega))
          obtain ⟨q2, hq2⟩ : ∃ q2 : Nat → Nat, q2 = fun t => if t < p then q' t else if t = p then q' (p + n - j) else if p + k - t = p + n - j then q' p else q' (p + k - t) := ⟨_, rfl⟩
          have R3 : RW g k (fun t => m (q2 t)) h2 := R2.cg (fun t ht => by
            show (if t < p then m (q' t) else if t = p then m (q' (p + n - j)) else if p + k - t = p + n - j then m (q' p) else m (q' (p + k - t))) = m (q2 t)
            rw [hq2]
            show _ = m (if t < p then q' t else if t = p then q' (p + n - j) else if p + k - t = p + n - j then q' p else q' (p + k - t))
            by_cases c1 : t < p
            · rw [if_pos c1, if_pos c1]
            · rw [if_neg c1, if_neg c1]
              by_cases c2 : t = p
              · rw [if_pos c2, if_pos c2]
              · rw [if_neg c2, if_neg c2]
                by_cases c3 : p + k - t = p + n - j
                · rw [if_pos c3, if_pos c3]
                · rw [if_neg c3, if_neg c3])
          have st : ∀ f, f_X9_seek_11 (nI l) x3 (f + (d + 1 + 1) * fc n) (nI (c + bN b (Gs (fun t => wb k ok a (U t)) j))) 1 h = f_X9_seek_11 (nI l) x3 (f + (d + 1) * fc n) (nI (c + bN b (Gs (fun t => wb k ok a (U t)) (j + 1)))) 1 h2 := fun f => by
            rw [Nat.succ_mul (d + 1), ← Nat.add_assoc]
            refine (z6 _).trans ?_
            rw [f_X9_seek_36, e2, bP_some, Nat.add_assoc, hN2]
          have r1 : ∀ t, t < p → q2 t = q0 t := fun t ht => by
            rw [hq2]
            show (if t < p then q' t else _) = q0 t
            rw [if_pos ht, z2 t (by omega), hq t ht]
          have r2 : q2 p = U (j + 1) := by
            rw [hq2]
            show (if p < p then q' p else if p = p then q' (p + n - j) else _) = _
            rw [if_neg (Nat.lt_irrefl p), if_pos rfl, hqb]
          have r3 : ∀ t, t < n → q2 (p + 1 + t) = del U (j + 1) t := fun t ht => by
            rw [hq2]
            show (if p + 1 + t < p then _ else if p + 1 + t = p then _ else if p + k - (p + 1 + t) = p + n - j then q' p else q' (p + k - (p + 1 + t))) = _
            rw [if_neg (by omega), if_neg (by omega)]
            by_cases c1 : t = j
            · rw [if_pos (by omega), z2p, del, if_pos (by omega), c1]
            · rw [if_neg (by omega)]
              have := z3 (n - 1 - t) (by omega)
              rw [show p + 1 + (n - 1 - t) = p + k - (p + 1 + t) by omega] at this
              rw [this, show n - 1 - (n - 1 - t) = t by omega, del, del]
              by_cases c2 : t < j
              · rw [if_pos c2, if_pos (by omega)]
              · rw [if_neg c2, if_neg (by omega)]
          rcases ihd (j + 1) q2 h2 (by omega) r1 r2 r3 R3 with ⟨u, h', y1, y2, y3, y4, y5, y6⟩ | ⟨y0, u, h', y2, y3, y5, y6⟩
          · exact Or.inl ⟨u, h', y1, y2, y3, y4, y5, fun f => (st f).trans (y6 f)⟩
          · refine Or.inr ⟨fun e h1 h3 => ?_, u, h', y2, y3, y5, fun f => (st f).trans (y6 f)⟩
            by_cases c1 : bN b (Gs (fun t => wb k ok a (U t)) (j + 1)) ≤ e
            · exact y0 e c1 h3
            · have := y (e - bN b (Gs (fun t => wb k ok a (U t)) j)) (by omega)
              rwa [show c + bN b (Gs (fun t => wb k ok a (U t)) j) + (e - bN b (Gs (fun t => wb k ok a (U t)) j)) = c + e by omega] at this
    have hz : bN b (Gs (fun t => wb k ok a (U t)) 0) = 0 := by cases b <;> rfl
    have := key n 0 q0 h0 (by omega) (fun _ _ => rfl) (by have := hU0 0 (by omega); rwa [Nat.add_zero] at this) (fun t ht => by rw [show p + 1 + t = p + (t + 1) by omega, hU0 (t + 1) (by omega), del, if_neg (by omega)]) R0
    rw [hz, Nat.add_zero] at this
    rcases this with h1 | ⟨h1, h2⟩
    · exact Or.inl h1
    · exact Or.inr ⟨fun e he => h1 e (Nat.zero_le _) he, h2⟩
end
