/-! ===== a text's signs, and the class's reader ===== -/
def kd (b : Int32) : Nat := if 97 ≤ b.toInt ∧ b.toInt ≤ 122 then 1 else if 48 ≤ b.toInt ∧ b.toInt ≤ 57 then 2 else 3
def kn (X : XD) (q : Nat) : Nat := if q < X.1 then kd (X.2 q) else 0
def sk (X : XD) (p : Nat) : Nat := fs (fun k => decide (p ≤ k) && !decide (X.2 k = 32)) X.1
def enl (X : XD) (q : Nat) : Nat := fs (fun k => decide (q ≤ k) && !decide (kd (X.2 k) = kd (X.2 q))) X.1
def en (X : XD) (q : Nat) : Nat := if kn X q = 0 then q else if kn X q = 3 then q + 1 else enl X q
def nx (X : XD) (q : Nat) : Nat := sk X (en X q)
theorem kd_cases (b : Int32) : kd b = 1 ∨ kd b = 2 ∨ kd b = 3 := by
  unfold kd
  split
  · exact Or.inl rfl
  · split
    · exact Or.inr (Or.inl rfl)
    · exact Or.inr (Or.inr rfl)
theorem sk_spec (X : XD) {p : Nat} (hp : p ≤ X.1) : p ≤ sk X p ∧ sk X p ≤ X.1 ∧ (∀ k, p ≤ k → k < sk X p → X.2 k = 32) ∧ (sk X p < X.1 → ¬ X.2 (sk X p) = 32) := by
  obtain ⟨h1, h2, h3⟩ := fs_spec (fun k => decide (p ≤ k) && !decide (X.2 k = 32)) X.1
  refine ⟨?_, h1, fun k hk hk2 => ?_, fun h => ?_⟩
  · rcases Nat.lt_or_ge (sk X p) p with q | q
    · have := h3 (show sk X p < X.1 by omega)
      simp only [Bool.and_eq_true, decide_eq_true_eq] at this
      have h4 : p ≤ sk X p := this.1
      omega
    · exact q
  · have := h2 k hk2
    simp only [hk, decide_true, Bool.true_and, Bool.not_eq_false', decide_eq_true_eq] at this
    exact this
  · have := h3 h
    simp only [Bool.and_eq_true, Bool.not_eq_true', decide_eq_false_iff_not] at this
    exact this.2
theorem sk_self {X : XD} {q : Nat} (hq : q ≤ X.1) (h : q < X.1 → ¬ X.2 q = 32) : sk X q = q := by
  refine fs_eq (fun k hk => by rw [decide_eq_false (by omega)]; rfl) ?_
  rcases Nat.lt_or_ge q X.1 with z | z
  · exact Or.inr ⟨z, by rw [decide_eq_true (Nat.le_refl q), decide_eq_false (h z)]; rfl⟩
  · exact Or.inl (by omega)
theorem sk_sk {X : XD} {p : Nat} (hp : p ≤ X.1) : sk X (sk X p) = sk X p := by
  obtain ⟨h1, h2, h3, h4⟩ := sk_spec X hp
  exact sk_self h2 h4
theorem sk_in {X : XD} {p q : Nat} (hq : sk X q = q) (hqN : q ≤ X.1) (hp : p ≤ q) (h : ∀ k, p ≤ k → k < q → X.2 k = 32) : sk X p = q := by
  obtain ⟨h1, h2, h3, h4⟩ := sk_spec X hqN
  refine fs_eq (fun k hk => ?_) ?_
  · by_cases e : p ≤ k
    · rw [decide_eq_true e, h k e hk, decide_eq_true rfl]; rfl
    · rw [decide_eq_false e]; rfl
  · rcases Nat.lt_or_ge q X.1 with z | z
    · rw [hq] at h4
      exact Or.inr ⟨z, by rw [decide_eq_true hp, decide_eq_false (h4 z)]; rfl⟩
    · exact Or.inl (by omega)
theorem enl_spec (X : XD) {q : Nat} (hq : q < X.1) : q < enl X q ∧ enl X q ≤ X.1 ∧ (∀ k, q ≤ k → k < enl X q → kd (X.2 k) = kd (X.2 q)) ∧ (enl X q < X.1 → ¬ kd (X.2 (enl X q)) = kd (X.2 q)) := by
  obtain ⟨h1, h2, h3⟩ := fs_spec (fun k => decide (q ≤ k) && !decide (kd (X.2 k) = kd (X.2 q))) X.1
  refine ⟨?_, h1, fun k hk hk2 => ?_, fun h => ?_⟩
  · rcases Nat.lt_or_ge q (enl X q) with z | z
    · exact z
    · have := h3 (show enl X q < X.1 by omega)
      simp only [Bool.and_eq_true, decide_eq_true_eq, Bool.not_eq_true', decide_eq_false_iff_not] at this
      have h4 : q ≤ enl X q := this.1
      have h5 : enl X q = q := by omega
      have h6 : ¬ kd (X.2 (enl X q)) = kd (X.2 q) := this.2
      rw [h5] at h6
      exact absurd rfl h6
  · have := h2 k hk2
    simp only [hk, decide_true, Bool.true_and, Bool.not_eq_false', decide_eq_true_eq] at this
    exact this
  · have := h3 h
    simp only [Bool.and_eq_true, Bool.not_eq_true', decide_eq_false_iff_not] at this
    exact this.2
theorem kn_lt {X : XD} {q : Nat} (h : ¬ kn X q = 0) : q < X.1 := by
  unfold kn at h
  by_cases z : q < X.1
  · exact z
  · rw [if_neg z] at h; exact absurd rfl h
theorem kn_kd {X : XD} {q : Nat} (h : q < X.1) : kn X q = kd (X.2 q) := if_pos h
theorem en_le {X : XD} {q : Nat} (hq : q ≤ X.1) : q ≤ en X q ∧ en X q ≤ X.1 := by
  unfold en
  by_cases h0 : kn X q = 0
  · rw [if_pos h0]; omega
  · have hl := kn_lt h0
    rw [if_neg h0]
    by_cases h3 : kn X q = 3
    · rw [if_pos h3]; omega
    · rw [if_neg h3]
      have := enl_spec X hl
      omega
theorem en_lt {X : XD} {q : Nat} (hq : q < X.1) : q < en X q := by
  unfold en
  have h0 : ¬ kn X q = 0 := by rw [kn_kd hq]; rcases kd_cases (X.2 q) with e | e | e <;> omega
  rw [if_neg h0]
  by_cases h3 : kn X q = 3
  · rw [if_pos h3]; omega
  · rw [if_neg h3]
    exact (enl_spec X hq).1
theorem nx_le {X : XD} {q : Nat} (hq : q ≤ X.1) : q ≤ nx X q ∧ nx X q ≤ X.1 ∧ sk X (nx X q) = nx X q := by
  obtain ⟨h1, h2⟩ := en_le hq
  obtain ⟨h3, h4, _, _⟩ := sk_spec X h2
  exact ⟨Nat.le_trans h1 h3, h4, sk_sk h2⟩
theorem nx_lt {X : XD} {q : Nat} (hq : q < X.1) : q < nx X q := by
  have h1 := en_lt hq
  have h2 := (sk_spec X (en_le (Nat.le_of_lt hq)).2).1
  exact Nat.lt_of_lt_of_le h1 h2
theorem c_kind (b : Int32) : f_X3_kindOf b = some (nI (kd b)) := by
  have e14 : f_X3_kindOf_14 b = some (nI (if 48 ≤ b.toInt ∧ b.toInt ≤ 57 then 2 else 3)) := by
    rw [f_X3_kindOf_14, ite_c (ltI _ _), ite_c (ltI _ _), show (48 : Int32).toInt = 48 from rfl, show (57 : Int32).toInt = 57 from rfl]
    by_cases h1 : b.toInt < 48
    · rw [if_pos h1, if_neg (by omega)]; rfl
    · rw [if_neg h1]
      by_cases h2 : 57 < b.toInt
      · rw [if_pos h2, if_neg (by omega)]; rfl
      · rw [if_neg h2, if_pos (by omega)]; rfl
  rw [f_X3_kindOf, e14, ite_c (ltI _ _), ite_c (ltI _ _), show (97 : Int32).toInt = 97 from rfl, show (122 : Int32).toInt = 122 from rfl]
  unfold kd
  by_cases h1 : b.toInt < 97
  · rw [if_pos h1, if_neg (show ¬ (97 ≤ b.toInt ∧ b.toInt ≤ 122) by omega)]
  · rw [if_neg h1]
    by_cases h2 : 122 < b.toInt
    · rw [if_pos h2, if_neg (show ¬ (97 ≤ b.toInt ∧ b.toInt ≤ 122) by omega)]
    · rw [if_neg h2, if_pos (by omega)]; rfl
def stepF (X : XD) (f : Nat → Int32) (q : Nat) : Nat → Int32 := upd (upd (upd f 3 (nI q)) 2 (nI (kn X q))) 4 (nI (en X q))
theorem hU3 (h : PH) (f : Nat → Int32) (k : Nat) (v : Int32) : hU (hC h 3 f) 3 k v = hC h 3 (upd f k v) := hC_hU h 3 f k v
theorem hU_hU (h : PH) (V k : Nat) (v u : Int32) : hU (hU h V k v) V k u = hU h V k u := by
  have uu : upd (upd (h.1 V) k v) k u = upd (h.1 V) k u := by
    funext j; unfold upd; by_cases e : j = k <;> simp [e]
  have e1 : hU (hU h V k v) V k u = hC h V (upd (upd (h.1 V) k v) k u) := hC_hU h V (upd (h.1 V) k v) k u
  rw [e1, uu]
  rfl
theorem hU_hC (h : PH) (V k : Nat) (v : Int32) : hU h V k v = hC h V (upd (h.1 V) k v) := rfl
theorem c_step {X : XD} {h : PH} (hN : X.1 ≤ 500) (cx : CX X h) {p : Nat} (hp : p ≤ X.1) (h4 : h.1 3 4 = nI p) : f_X3_step h = some (hC h 3 (stepF X (h.1 3) (sk X p))) := by
  obtain ⟨s1, s2, s3, s4⟩ := sk_spec X hp
  generalize hq : sk X p = q at s1 s2 s3 s4
  rw [f_X3_step, lt'_eq, lt'_eq, cx.1, h4]
  have rd : ∀ (g : Nat → Int32) k, k < X.1 → ag (hC h 3 g) 2 500 (nI k) = some (X.2 k) := fun g k hk => by
    rw [ag_nI _ 2 (by omega) (by omega), hC_n _ _ (by decide)]; exact congrArg some (cx.2 k hk)
  have e119 : ∀ (g : Nat → Int32) (v : Nat), f_X3_step_119 (nI v) (hC h 3 g) = some (hC h 3 (upd g 4 (nI v))) := fun g v => by rw [f_X3_step_119, lt'_eq, hU3]
  have e65 : f_X3_step_65 (nI X.1) (nI q) (nI (kn X q)) (hC h 3 (upd (h.1 3) 3 (nI q))) = some (hC h 3 (stepF X (h.1 3) q)) := by
    rw [f_X3_step_65, lt'_eq, hU3, hC_s, upd_s, nI1, e119, e119]
    unfold stepF en
    by_cases h0 : kn X q = 0
    · rw [h0, if_neg (by decide), if_pos (by decide), if_pos rfl]
    · have hl := kn_lt h0
      have kc := kd_cases (X.2 q)
      rw [← kn_kd hl] at kc
      by_cases h3 : kn X q = 3
      · rw [h3, if_pos (by decide), if_neg (by decide), if_pos rfl]
      · rw [if_neg h0, if_neg h3, if_neg (show ¬ nI (kn X q) = 3 by rw [show (3 : Int32) = nI 3 from rfl, eqN (by omega) (by omega)]; omega), if_neg (show ¬ nI (kn X q) = 0 from nI_ne0 (by omega) (by omega))]
        obtain ⟨l1, l2, l3, l4⟩ := enl_spec X hl
        refine glF (fun n (_ : Unit) i h => f_X3_step_89 (nI X.1) n (nI i) h) (fun i _ h' => q ≤ i ∧ h' = hC h 3 (upd (upd (h.1 3) 3 (nI q)) 2 (nI (kn X q)))) (enl X q) (fun o => o = some (hC h 3 (upd (upd (upd (h.1 3) 3 (nI q)) 2 (nI (kn X q))) 4 (nI (enl X q))))) (by omega) (fun _ h' hI n => ?_) (fun i _ h' hi hI => Or.inr ?_) (i := q) (b := ()) (by omega) ⟨Nat.le_refl q, rfl⟩
        · obtain ⟨-, rfl⟩ := hI
          show f_X3_step_89 _ (n + 1) (nI (enl X q)) _ = _
          rw [f_X3_step_89, e119]
          by_cases z : enl X q < X.1
          · rw [if_neg (nle z (by omega)), rd _ _ z, bO_some, c_kind, bO_some, hC_s, upd_s, if_neg (by rw [eqN (by rcases kd_cases (X.2 (enl X q)) with e | e | e <;> omega) (by omega), kn_kd hl]; exact l4 z)]
          · rw [if_pos (by rw [leN (by omega) (by omega)]; omega)]
        · obtain ⟨hqi, rfl⟩ := hI
          refine ⟨(), _, ⟨by omega, rfl⟩, fun n => ?_⟩
          show f_X3_step_89 _ (n + 1) (nI i) _ = f_X3_step_89 _ n (nI (i + 1)) _
          rw [f_X3_step_89, if_neg (nle (by omega) (by omega)), rd _ _ (by omega), bO_some, c_kind, bO_some, hC_s, upd_s, l3 i hqi hi, kn_kd hl, if_pos rfl, nI1]
  have e38 : f_X3_step_38 (nI X.1) (nI q) h = some (hC h 3 (stepF X (h.1 3) q)) := by
    rw [f_X3_step_38, lt'_eq, hU_hC]
    by_cases z : q < X.1
    · rw [if_neg (nle z (by omega)), rd _ _ z, bO_some, c_kind, bO_some, ← kn_kd z, e65]
    · have hk : kn X q = 0 := if_neg z
      rw [if_pos (by rw [leN (by omega) (by omega)]; omega)]
      rw [hk] at e65
      exact e65
  refine glF (fun n (_ : Unit) i h => f_X3_step_13 (nI X.1) n (nI i) h) (fun i _ h' => p ≤ i ∧ h' = h) q (fun o => o = some (hC h 3 (stepF X (h.1 3) q))) (by omega) (fun _ h' hI n => ?_) (fun i _ h' hi hI => Or.inr ?_) (i := p) (b := ()) s1 ⟨Nat.le_refl p, rfl⟩
  · obtain ⟨-, rfl⟩ := hI
    show f_X3_step_13 _ (n + 1) (nI q) h' = _
    rw [f_X3_step_13, e38]
    by_cases z : q < X.1
    · rw [if_neg (nle z (by omega)), ag_nI _ 2 (by omega) (by omega), bO_some, cx.2 q z, if_neg (s4 z)]
    · rw [if_pos (by rw [leN (by omega) (by omega)]; omega)]
  · obtain ⟨hpi, rfl⟩ := hI
    refine ⟨(), h', ⟨by omega, rfl⟩, fun n => ?_⟩
    show f_X3_step_13 _ (n + 1) (nI i) h' = f_X3_step_13 _ n (nI (i + 1)) h'
    rw [f_X3_step_13, if_neg (nle (by omega) (by omega)), ag_nI _ 2 (by omega) (by omega), bO_some, cx.2 i (by omega), s3 i hpi hi, if_pos rfl, nI1]
/-- the class's reader stands at q, with no breach -/
def RD (X : XD) (fig q : Nat) (h : PH) : Prop := CX X h ∧ X.1 ≤ 500 ∧ q ≤ X.1 ∧ sk X q = q ∧ h.1 3 1 = nI fig ∧ h.1 3 2 = nI (kn X q) ∧ h.1 3 3 = nI q ∧ h.1 3 4 = nI (en X q) ∧ h.1 3 6 = 0 ∧ h.1 3 7 = -1
def tC (h h' : PH) : Prop := (∀ k, k ≠ 3 → h'.1 k = h.1 k) ∧ h'.2 = h.2
theorem tC.rf (h : PH) : tC h h := ⟨fun _ _ => rfl, rfl⟩
theorem tC.tr {a b c : PH} (h1 : tC a b) (h2 : tC b c) : tC a c := ⟨fun k hk => (h2.1 k hk).trans (h1.1 k hk), h2.2.trans h1.2⟩
theorem tC.c3 (h : PH) (f : Nat → Int32) : tC h (hC h 3 f) := ⟨fun k hk => hC_n _ _ hk, rfl⟩
theorem tC.u3 (h : PH) (k : Nat) (v : Int32) : tC h (hU h 3 k v) := tC.c3 _ _
theorem CX.tC {X : XD} {h h' : PH} (c : CX X h) (t : tC h h') : CX X h' := by
  unfold CX at c ⊢
  rw [t.1 1 (by decide), t.1 2 (by decide)]; exact c
/-- other cells than the reader's may change -/
theorem RD.k3 {X : XD} {fig q : Nat} {h h' : PH} (r : RD X fig q h) (e1 : h'.1 1 = h.1 1) (e2 : h'.1 2 = h.1 2) (e3 : h'.1 3 = h.1 3) : RD X fig q h' := by
  unfold RD CX at r ⊢
  rw [e1, e2, e3]; exact r
theorem c_stepR {X : XD} {fig q : Nat} {h : PH} (r : RD X fig q h) : ∃ h', f_X3_step h = some h' ∧ tC h h' ∧ RD X fig (nx X q) h' ∧ h'.1 3 5 = h.1 3 5 := by
  obtain ⟨cx, hN, hq, hs, r1, r2, r3, r4, r6, r7⟩ := r
  obtain ⟨n1, n2, n3⟩ := nx_le hq
  refine ⟨_, c_step hN cx (en_le hq).2 r4, tC.c3 _ _, ⟨cx.tC (tC.c3 _ _), hN, n2, n3, ?_, ?_, ?_, ?_, ?_, ?_⟩, ?_⟩
  · rw [hC_s]; exact r1
  · rw [hC_s]; rfl
  · rw [hC_s]; rfl
  · rw [hC_s]; rfl
  · rw [hC_s]; exact r6
  · rw [hC_s]; exact r7
  · rw [hC_s]; rfl
/-! words, signs -/
def eqw (X : XD) (w q : Nat) : Nat → Bool
  | 0 => true
  | k + 1 => eqw X w q k && decide (X.2 (q + k) = chT w (nI k))
def wdB (X : XD) (w q : Nat) : Bool := decide (kn X q = 1) && (decide (en X q - q = lenT.getD w 0) && eqw X w q (lenT.getD w 0))
def sgB (X : XD) (s : Int32) (q : Nat) : Bool := decide (kn X q = 3) && decide (X.2 q = s)
theorem eqw_down {X : XD} {w q i n : Nat} (h : i ≤ n) (hi : eqw X w q i = false) : eqw X w q n = false := by
  induction n with
  | zero => have : i = 0 := by omega
            subst this; exact hi
  | succ n ih =>
    by_cases e : i = n + 1
    · subst e; exact hi
    · rw [eqw, ih (by omega)]; rfl
theorem kn4 (X : XD) (q : Nat) : kn X q < 4 := by
  unfold kn
  split
  · rcases kd_cases (X.2 q) with e | e | e <;> omega
  · omega
theorem c_isWord {X : XD} {fig q : Nat} {h : PH} (r : RD X fig q h) {w : Nat} (hw : w < 10) : f_X3_isWord w h = some (b01 (wdB X w q), h) := by
  obtain ⟨cx, hN, hq, hs, r1, r2, r3, r4, r6, r7⟩ := r
  have hl := lenT_lt w hw
  have h4 := kn4 X q
  obtain ⟨n1, n2⟩ := en_le hq
  rw [f_X3_isWord, r2, r3, r4, f_J0_length_8abf5, bO_some, pk_sub n1, ite_c (show (nI (kn X q) = 1) = (kn X q = 1) from eqN (b := 1) (by omega) (by omega)), ite_c (eqN (by omega) (by omega))]
  unfold wdB
  by_cases k1 : kn X q = 1
  · rw [if_pos k1, decide_eq_true k1, Bool.true_and]
    by_cases k2 : en X q - q = lenT.getD w 0
    · rw [if_pos k2, decide_eq_true k2, Bool.true_and]
      refine glF (fun n (_ : Unit) i h => f_X3_isWord_28 w n (nI i) h) (fun i _ h' => h' = h ∧ eqw X w q i = true) (lenT.getD w 0) (fun o => o = some (b01 (eqw X w q (lenT.getD w 0)), h)) (by omega) (fun _ h' hI n => ?_) (fun i _ h' hi hI => ?_) (i := 0) (b := ()) (Nat.zero_le _) ⟨rfl, rfl⟩
      · obtain ⟨rfl, z⟩ := hI
        show f_X3_isWord_28 w (n + 1) _ h' = _
        rw [f_X3_isWord_28, f_J0_length_8abf5, bO_some, if_pos (Int32.le_refl _), z]; rfl
      · obtain ⟨rfl, z⟩ := hI
        have st : ∀ n, f_X3_isWord_28 w (n + 1) (nI i) h' = if X.2 (q + i) = chT w (nI i) then f_X3_isWord_28 w n (nI (i + 1)) h' else some (0, h') := fun n => by
          rw [f_X3_isWord_28, f_J0_length_8abf5, bO_some, if_neg (nle hi (by omega)), r3, nI_add, ag_nI h' 2 (by omega) (by omega), bO_some, f_J0_charAt_5068e, if_pos (ib_nI hi (by omega)), bO_some, cx.2 _ (by omega), nI1]
        by_cases e : X.2 (q + i) = chT w (nI i)
        · refine Or.inr ⟨(), h', ⟨rfl, by rw [eqw, z, decide_eq_true e]; rfl⟩, fun n => ?_⟩
          show f_X3_isWord_28 w (n + 1) _ h' = f_X3_isWord_28 w n _ h'
          rw [st n, if_pos e]
        · refine Or.inl (fun n => ?_)
          show f_X3_isWord_28 w (n + 1) _ h' = _
          rw [st n, if_neg e, eqw_down (i := i + 1) (by omega) (by rw [eqw, decide_eq_false e, Bool.and_false])]; rfl
    · rw [if_neg k2, decide_eq_false k2]; rfl
  · rw [if_neg k1, decide_eq_false k1]; rfl
theorem c_isSign {X : XD} {fig q : Nat} {h : PH} (r : RD X fig q h) (s : Int32) : f_X3_isSign s h = some (b01 (sgB X s q), h) := by
  obtain ⟨cx, hN, hq, hs, r1, r2, r3, r4, r6, r7⟩ := r
  have h4 := kn4 X q
  rw [f_X3_isSign, r2, r3, ite_c (show (nI (kn X q) = 3) = (kn X q = 3) from eqN (b := 3) (by omega) (by omega))]
  unfold sgB
  by_cases k1 : kn X q = 3
  · have hl := kn_lt (X := X) (q := q) (by omega)
    rw [if_pos k1, decide_eq_true k1, Bool.true_and, ag_nI h 2 (by omega) (by omega), bO_some, cx.2 q hl]
    by_cases e : X.2 q = s
    · rw [if_pos e, decide_eq_true e]; rfl
    · rw [if_neg e, decide_eq_false e]; rfl
  · rw [if_neg k1, decide_eq_false k1]; rfl
/-- refused: which, where -/
def FC (n q : Nat) (h : PH) : Prop := h.1 3 6 = nI n ∧ h.1 3 7 = nI q
theorem c_refuse {X : XD} {fig q : Nat} {h : PH} (r : RD X fig q h) (n : Nat) : ∃ h', f_X3_refuse (nI n) h = some (0, h') ∧ tC h h' ∧ FC n q h' := by
  obtain ⟨cx, hN, hq, hs, r1, r2, r3, r4, r6, r7⟩ := r
  refine ⟨hU (hU h 3 6 (nI n)) 3 7 (nI q), ?_, (tC.u3 _ _ _).tr (tC.u3 _ _ _), ?_, ?_⟩
  · rw [f_X3_refuse, lt'_eq, lt'_eq, hU_s, upd_n _ _ (show 3 ≠ 6 by decide), r3]
  · rw [hU_s, upd_n _ _ (show 6 ≠ 7 by decide), hU_s, upd_s]
  · rw [hU_s, upd_s]
theorem c_takeWord {X : XD} {fig q : Nat} {h : PH} (r : RD X fig q h) {w : Nat} (hw : w < 10) : (wdB X w q = false ∧ f_X3_takeWord w h = some (0, h)) ∨ (wdB X w q = true ∧ ∃ h', f_X3_takeWord w h = some (1, h') ∧ tC h h' ∧ RD X fig (nx X q) h') := by
  rw [f_X3_takeWord, c_isWord r hw, bP_some]
  cases hb : wdB X w q
  · exact Or.inl ⟨rfl, rfl⟩
  · obtain ⟨h', e, t, r', -⟩ := c_stepR r
    exact Or.inr ⟨rfl, h', by rw [if_neg (by decide), e, bO_some], t, r'⟩
theorem c_takeSign {X : XD} {fig q : Nat} {h : PH} (r : RD X fig q h) (s : Int32) : (sgB X s q = false ∧ f_X3_takeSign s h = some (0, h)) ∨ (sgB X s q = true ∧ ∃ h', f_X3_takeSign s h = some (1, h') ∧ tC h h' ∧ RD X fig (nx X q) h') := by
  rw [f_X3_takeSign, c_isSign r s, bP_some]
  cases hb : sgB X s q
  · exact Or.inl ⟨rfl, rfl⟩
  · obtain ⟨h', e, t, r', -⟩ := c_stepR r
    exact Or.inr ⟨rfl, h', by rw [if_neg (by decide), e, bO_some], t, r'⟩
theorem c_needWord {X : XD} {fig q : Nat} {h : PH} (r : RD X fig q h) {w : Nat} (hw : w < 10) : (wdB X w q = false ∧ ∃ h', f_X3_needWord w h = some (0, h') ∧ tC h h' ∧ FC 1 q h') ∨ (wdB X w q = true ∧ ∃ h', f_X3_needWord w h = some (1, h') ∧ tC h h' ∧ RD X fig (nx X q) h') := by
  rcases c_takeWord r hw with ⟨hb, e⟩ | ⟨hb, h', e, t, r'⟩
  · obtain ⟨h2, e2, t2, f2⟩ := c_refuse r 1
    have e2 : f_X3_refuse 1 h = some (0, h2) := e2
    exact Or.inl ⟨hb, h2, by rw [f_X3_needWord, e, bP_some, if_pos rfl, e2, bP_some, if_pos rfl], t2, f2⟩
  · exact Or.inr ⟨hb, h', by rw [f_X3_needWord, e, bP_some, if_neg (by decide)], t, r'⟩
theorem c_needSign {X : XD} {fig q : Nat} {h : PH} (r : RD X fig q h) (s : Int32) : (sgB X s q = false ∧ ∃ h', f_X3_needSign s h = some (0, h') ∧ tC h h' ∧ FC 1 q h') ∨ (sgB X s q = true ∧ ∃ h', f_X3_needSign s h = some (1, h') ∧ tC h h' ∧ RD X fig (nx X q) h') := by
  rcases c_takeSign r s with ⟨hb, e⟩ | ⟨hb, h', e, t, r'⟩
  · obtain ⟨h2, e2, t2, f2⟩ := c_refuse r 1
    have e2 : f_X3_refuse 1 h = some (0, h2) := e2
    exact Or.inl ⟨hb, h2, by rw [f_X3_needSign, e, bP_some, if_pos rfl, e2, bP_some, if_pos rfl], t2, f2⟩
  · exact Or.inr ⟨hb, h', by rw [f_X3_needSign, e, bP_some, if_neg (by decide)], t, r'⟩
/-! numbers -/
def dg (X : XD) (p : Nat) : Nat := (X.2 p).toInt.toNat - 48
def hv (X : XD) (q : Nat) : Nat → Nat
  | 0 => 0
  | k + 1 => 10 * hv X q k + dg X (q + k)
def nv (X : XD) (q : Nat) : Nat := hv X q (min 3 (en X q - q))
/-- 0: a number within bounds; 1, 2: the breach -/
def ft (X : XD) (fig q : Nat) (lo hi : Int32) : Nat := if kn X q = 2 then (if en X q - q ≤ fig ∧ lo.toInt ≤ (nv X q : Int) ∧ (nv X q : Int) ≤ hi.toInt then 0 else 2) else 1
theorem dg_b {X : XD} {q k : Nat} (hk : kn X q = 2) (h1 : q ≤ k) (h2 : k < en X q) : dg X k ≤ 9 ∧ X.2 k = nI (48 + dg X k) := by
  have hl := kn_lt (X := X) (q := q) (by omega)
  have he : en X q = enl X q := by unfold en; rw [if_neg (by omega), if_neg (by omega)]
  obtain ⟨l1, l2, l3, l4⟩ := enl_spec X hl
  have hkd : kd (X.2 k) = 2 := by rw [l3 k h1 (by omega), ← kn_kd hl, hk]
  unfold kd at hkd
  split at hkd
  · cases hkd
  · split at hkd
    · rename_i hb
      unfold dg
      refine ⟨by omega, ?_⟩
      apply Int32.toInt_inj.mp
      rw [nI_toInt (by omega)]
      omega
    · cases hkd
theorem hv_b {X : XD} {q : Nat} (hk : kn X q = 2) : ∀ k, q + k ≤ en X q → hv X q k < 10 ^ k := by
  intro k
  induction k with
  | zero => intro _; exact Nat.one_pos
  | succ k ih =>
    intro h
    have h1 := ih (by omega)
    have h2 := (dg_b hk (show q ≤ q + k by omega) (by omega)).1
    rw [hv, Nat.pow_succ]
    omega
theorem nv_b {X : XD} {q : Nat} (hk : kn X q = 2) : nv X q < 1000 := by
  have hl := kn_lt (X := X) (q := q) (by omega)
  have h0 := en_lt hl
  have h1 := hv_b hk (min 3 (en X q - q)) (by omega)
  have h2 : 10 ^ (min 3 (en X q - q)) ≤ 10 ^ 3 := Nat.pow_le_pow_right (by decide) (by omega)
  unfold nv
  omega
theorem c_fits {X : XD} {fig q : Nat} {h : PH} (r : RD X fig q h) (hf : fig ≤ 3) (lo hi : Int32) : (ft X fig q lo hi = 0 ∧ ∃ h', f_X3_fits lo hi h = some (1, h') ∧ tC h h' ∧ RD X fig q h' ∧ h'.1 3 5 = nI (nv X q)) ∨ (¬ ft X fig q lo hi = 0 ∧ ∃ h', f_X3_fits lo hi h = some (0, h') ∧ tC h h' ∧ FC (ft X fig q lo hi) q h') := by
  have r0 := r
  obtain ⟨cx, hN, hq, hs, r1, r2, r3, r4, r6, r7⟩ := r
  have h4 := kn4 X q
  obtain ⟨n1, n2⟩ := en_le hq
  unfold ft
  rw [f_X3_fits, r2, ite_c (show (nI (kn X q) = 2) = (kn X q = 2) from eqN (b := 2) (by omega) (by omega))]
  by_cases k2 : kn X q = 2
  · rw [if_pos k2, if_pos k2]
    have hl := kn_lt (X := X) (q := q) (by omega)
    have e1 := en_lt hl
    have hnv := nv_b k2
    rw [lt'_eq, lt'_eq, hU_s, upd_n _ _ (show 3 ≠ 5 by decide), r3]
    have loop : f_X3_fits_24 lo hi FU (nI q) (hU h 3 5 0) = f_X3_fits_72 lo hi (hU h 3 5 (nI (nv X q))) := by
      refine glF (fun n (_ : Unit) i h => f_X3_fits_24 lo hi n (nI i) h) (fun i _ h' => q ≤ i ∧ h' = hU h 3 5 (nI (hv X q (i - q)))) (q + min 3 (en X q - q)) (fun o => o = f_X3_fits_72 lo hi (hU h 3 5 (nI (nv X q)))) (by omega) (fun _ h' hI n => ?_) (fun i _ h' hi2 hI => Or.inr ?_) (i := q) (b := ()) (by omega) ⟨Nat.le_refl q, by rw [Nat.sub_self]; rfl⟩
      · obtain ⟨-, rfl⟩ := hI
        show f_X3_fits_24 lo hi (n + 1) _ _ = _
        rw [Nat.add_sub_cancel_left, show hv X q (min 3 (en X q - q)) = nv X q from rfl, f_X3_fits_24, hU_s, upd_n _ _ (show 4 ≠ 5 by decide), upd_n _ _ (show 3 ≠ 5 by decide), r3, r4, show (3 : Int32) = nI 3 from rfl, nI_add]
        by_cases z : en X q ≤ q + min 3 (en X q - q)
        · rw [if_pos (by rw [leN (by omega) (by omega)]; exact z)]
        · rw [if_neg (by rw [leN (by omega) (by omega)]; exact z), if_pos (by rw [leN (by omega) (by omega)]; omega)]
      · obtain ⟨hqi, rfl⟩ := hI
        have db := dg_b k2 hqi (by omega)
        have hb := hv_b k2 (i - q) (by omega)
        have hp : 10 ^ (i - q) ≤ 10 ^ 3 := Nat.pow_le_pow_right (by decide) (by omega)
        have ev : 10 * nI (hv X q (i - q)) + nI (48 + dg X i) - 48 = nI (hv X q (i + 1 - q)) := by
          rw [show (10 : Int32) = nI 10 from rfl, pk_mul, nI_add, show (48 : Int32) = nI 48 from rfl, pk_sub (by omega), show i + 1 - q = (i - q) + 1 by omega, hv, show q + (i - q) = i by omega]
          congr 1; omega
        refine ⟨(), _, ⟨by omega, rfl⟩, fun n => ?_⟩
        show f_X3_fits_24 lo hi (n + 1) (nI i) _ = f_X3_fits_24 lo hi n (nI (i + 1)) _
        rw [f_X3_fits_24, hU_s, upd_n _ _ (show 4 ≠ 5 by decide), upd_n _ _ (show 3 ≠ 5 by decide), r3, r4, if_neg (nle (by omega) (by omega)), show (3 : Int32) = nI 3 from rfl, nI_add, if_neg (by rw [leN (by omega) (by omega)]; omega), ag_nI _ 2 (by omega) (by omega), bO_some, hU_n _ _ _ (show 2 ≠ 3 by decide), cx.2 i (by omega), db.2, lt'_eq, upd_s, ev, nI1]
        rw [hU_hU]
    rw [loop]
    have u5 : (hU h 3 5 (nI (nv X q))).1 3 = upd (h.1 3) 5 (nI (nv X q)) := hU_s _ _ _ _
    have rh : RD X fig q (hU h 3 5 (nI (nv X q))) := ⟨cx.tC (tC.u3 _ _ _), hN, hq, hs, by rw [u5]; exact r1, by rw [u5]; exact r2, by rw [u5]; exact r3, by rw [u5]; exact r4, by rw [u5]; exact r6, by rw [u5]; exact r7⟩
    have s5 : (hU h 3 5 (nI (nv X q))).1 3 5 = nI (nv X q) := by rw [u5, upd_s]
    obtain ⟨h2, e2, t2, f2⟩ := c_refuse rh 2
    have e108 : f_X3_fits_108 (hU h 3 5 (nI (nv X q))) = some (0, h2) := by
      have e2 : f_X3_refuse 2 (hU h 3 5 (nI (nv X q))) = some (0, h2) := e2
      rw [f_X3_fits_108, f_X3_fits_109, if_pos rfl, e2, bP_some, if_pos rfl]
    have e72 : f_X3_fits_72 lo hi (hU h 3 5 (nI (nv X q))) = if en X q - q ≤ fig ∧ lo.toInt ≤ (nv X q : Int) ∧ (nv X q : Int) ≤ hi.toInt then some (1, hU h 3 5 (nI (nv X q))) else some (0, h2) := by
      rw [f_X3_fits_72, rh.2.2.2.2.1, rh.2.2.2.2.2.2.1, rh.2.2.2.2.2.2.2.1, s5, pk_sub (by omega), e108, f_X3_fits_109, if_neg (show ¬ (1 : Int32) = 0 by decide), ite_c (ltN (by omega) (by omega)), ite_c (ltI _ _), ite_c (ltI _ _), nI_toInt (by omega)]
      by_cases z1 : fig < en X q - q
      · rw [if_pos z1, if_neg (by omega)]
      · rw [if_neg z1]
        by_cases z2 : (nv X q : Int) < lo.toInt
        · rw [if_pos z2, if_neg (by omega)]
        · rw [if_neg z2]
          by_cases z3 : hi.toInt < (nv X q : Int)
          · rw [if_pos z3, if_neg (by omega)]
          · rw [if_neg z3, if_pos (by omega)]
    rw [e72]
    by_cases z : en X q - q ≤ fig ∧ lo.toInt ≤ (nv X q : Int) ∧ (nv X q : Int) ≤ hi.toInt
    · rw [if_pos z, if_pos z]
      exact Or.inl ⟨rfl, _, rfl, tC.u3 _ _ _, rh, s5⟩
    · rw [if_neg z, if_neg z]
      exact Or.inr ⟨by decide, h2, rfl, (tC.u3 _ _ _).tr t2, f2⟩
  · rw [if_neg k2, if_neg k2]
    obtain ⟨h2, e2, t2, f2⟩ := c_refuse r0 1
    have e2 : f_X3_refuse 1 h = some (0, h2) := e2
    exact Or.inr ⟨by decide, h2, by rw [e2, bP_some]; rfl, t2, f2⟩
theorem c_needNumber {X : XD} {fig q : Nat} {h : PH} (r : RD X fig q h) (hf : fig ≤ 3) (lo hi : Int32) : (ft X fig q lo hi = 0 ∧ ∃ h', f_X3_needNumber lo hi h = some (nI (nv X q), h') ∧ tC h h' ∧ RD X fig (nx X q) h') ∨ (¬ ft X fig q lo hi = 0 ∧ ∃ h', f_X3_needNumber lo hi h = some (-1, h') ∧ tC h h' ∧ FC (ft X fig q lo hi) q h') := by
  rcases c_fits r hf lo hi with ⟨h0, h1, e1, t1, r1, s1⟩ | ⟨h0, h1, e1, t1, f1⟩
  · obtain ⟨h2, e2, t2, r2, s2⟩ := c_stepR r1
    exact Or.inl ⟨h0, h2, by rw [f_X3_needNumber, e1, bP_some, if_neg (by decide), e2, bO_some, s2, s1], t1.tr t2, r2⟩
  · exact Or.inr ⟨h0, h1, by rw [f_X3_needNumber, e1, bP_some, if_pos rfl], t1, f1⟩
/-- as needNumber, of numbers below 16 that are not in a set -/
theorem c_needNew {X : XD} {fig q : Nat} {h : PH} (r : RD X fig q h) (hf : fig ≤ 3) {n : Nat} (hn : n < 16) (m : Int32) : (ft X fig q 0 (nI n) = 0 ∧ nv X q ≤ n ∧ bt m (nv X q) = false ∧ ∃ h', f_X3_needNew 0 (nI n) m h = some (nI (nv X q), h') ∧ tC h h' ∧ RD X fig (nx X q) h') ∨ (ft X fig q 0 (nI n) = 0 ∧ nv X q ≤ n ∧ bt m (nv X q) = true ∧ ∃ h', f_X3_needNew 0 (nI n) m h = some (-1, h') ∧ tC h h' ∧ FC 4 q h') ∨ (¬ ft X fig q 0 (nI n) = 0 ∧ ∃ h', f_X3_needNew 0 (nI n) m h = some (-1, h') ∧ tC h h' ∧ FC (ft X fig q 0 (nI n)) q h') := by
  rcases c_fits r hf 0 (nI n) with ⟨h0, h1, e1, t1, r1, s1⟩ | ⟨h0, h1, e1, t1, f1⟩
  · have hv : nv X q ≤ n := by
      unfold ft at h0
      split at h0
      · split at h0
        · rename_i hh
          have := hh.2.2
          rw [nI_toInt (by omega)] at this
          omega
        · cases h0
      · cases h0
    have e16 : ¬ (16 : Int32) ≤ nI (nv X q) := n16 (by omega)
    cases hb : bt m (nv X q)
    · obtain ⟨h2, e2, t2, r2, s2⟩ := c_stepR r1
      refine Or.inl ⟨h0, hv, rfl, h2, ?_, t1.tr t2, r2⟩
      rw [f_X3_needNew, e1, bP_some, if_neg (by decide), s1, if_neg e16, has8 _ (by omega), bO_some, hb, if_pos (by decide), f_X3_needNew_39, e2, bO_some, s2, s1]
    · obtain ⟨h2, e2, t2, f2⟩ := c_refuse r1 4
      have e2 : f_X3_refuse 4 h1 = some (0, h2) := e2
      refine Or.inr (Or.inl ⟨h0, hv, rfl, h2, ?_, t1.tr t2, f2⟩)
      rw [f_X3_needNew, e1, bP_some, if_neg (by decide), s1, if_neg e16, has8 _ (by omega), bO_some, hb, if_neg (by decide), e2, bP_some]
  · exact Or.inr (Or.inr ⟨h0, h1, by rw [f_X3_needNew, e1, bP_some, if_pos rfl], t1, f1⟩)
