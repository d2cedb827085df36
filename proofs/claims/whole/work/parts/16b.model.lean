/-! ===== the model's reader ===== -/
def PM (X : XD) (fig q : Nat) (h : PH) : Prop := MX X h ∧ wfX X ∧ q ≤ X.1 ∧ sk X q = q ∧ h.1 66 22 = nI fig ∧ (∃ p, p ≤ q ∧ h.1 66 21 = nI p ∧ sk X p = q) ∧ h.1 66 20 = -1
def tS (i : Nat) : Bool := i == 20 || i == 21 || i == 24 || i == 25 || i == 26
def tM (h h' : PH) : Prop := (∀ k, k ≠ 66 → h'.1 k = h.1 k) ∧ ∀ i, tS i = false → h'.1 66 i = h.1 66 i
theorem tM.rf (h : PH) : tM h h := ⟨fun _ _ => rfl, fun _ _ => rfl⟩
theorem tM.tr {a b c : PH} (h1 : tM a b) (h2 : tM b c) : tM a c := ⟨fun k hk => (h2.1 k hk).trans (h1.1 k hk), fun i hi => (h2.2 i hi).trans (h1.2 i hi)⟩
theorem tM.u {h : PH} {k : Nat} (v : Int32) (hk : tS k = true) : tM h (hU h 66 k v) := ⟨fun j hj => hU_n _ _ _ hj, fun i hi => by
  rw [hU_s]; exact upd_n _ _ (fun e => by rw [e, hk] at hi; cases hi)⟩
theorem tM.l {h : PH} (v : Int64) : tM h (hL h v) := ⟨fun _ _ => rfl, fun _ _ => rfl⟩
theorem MX.tM {X : XD} {h h' : PH} (c : MX X h) (t : tM h h') : MX X h' := by
  unfold MX at c ⊢
  rw [t.2 19 rfl, t.1 81 (by decide)]; exact c
/-- other cells may change; of the object its own slots may not -/
theorem PM.k {X : XD} {fig q : Nat} {h h' : PH} (r : PM X fig q h) (e81 : h'.1 81 = h.1 81) (e : ∀ i, 19 ≤ i → i ≤ 22 → h'.1 66 i = h.1 66 i) : PM X fig q h' := by
  unfold PM MX at r ⊢
  rw [e81, e 19 (by omega) (by omega), e 20 (by omega) (by omega), e 21 (by omega) (by omega), e 22 (by omega) (by omega)]; exact r
theorem PM.at' {X : XD} {fig q : Nat} {h h' : PH} (r : PM X fig q h) (t : tM h h') {p q' : Nat} (hp : p ≤ q') (hq' : q' ≤ X.1) (hs : sk X p = q') (hs2 : sk X q' = q') (e21 : h'.1 66 21 = nI p) (e20 : h'.1 66 20 = -1) : PM X fig q' h' := ⟨r.1.tM t, r.2.1, hq', hs2, by rw [t.2 22 rfl]; exact r.2.2.2.2.1, ⟨p, hp, e21, hs⟩, e20⟩
def hereV (X : XD) (q : Nat) : Int32 := if q < X.1 then X.2 q else -1
theorem m_here {X : XD} {fig q : Nat} {h : PH} (r : PM X fig q h) : ∃ h', f_X9_here h = some (hereV X q, h') ∧ tM h h' ∧ PM X fig q h' ∧ h'.1 66 21 = nI q ∧ h'.1 66 20 = -1 := by
  have r0 := r
  obtain ⟨mx, wx, hq, hs, r22, ⟨p, hp, r21, hsp⟩, r20⟩ := r
  have hN := wx.1
  obtain ⟨s1, s2, s3, s4⟩ := sk_spec X (show p ≤ X.1 by omega)
  rw [hsp] at s3 s4
  have fin : ∀ h', tM h h' → h'.1 66 21 = nI q → h'.1 66 20 = -1 → tM h h' ∧ PM X fig q h' ∧ h'.1 66 21 = nI q ∧ h'.1 66 20 = -1 := fun h' t e e2 => ⟨t, r0.at' t (Nat.le_refl q) hq hs hs e e2, e, e2⟩
  refine glF (fun n (_ : Unit) (_ : Nat) h => f_X9_here_0 n h) (fun i _ h' => p ≤ i ∧ tM h h' ∧ h'.1 66 21 = nI i ∧ h'.1 66 20 = -1) q (fun o => ∃ h', o = some (hereV X q, h') ∧ tM h h' ∧ PM X fig q h' ∧ h'.1 66 21 = nI q ∧ h'.1 66 20 = -1) (by omega) (fun _ h' hI n => ?_) (fun i _ h' hi hI => Or.inr ?_) (i := p) (b := ()) hp ⟨Nat.le_refl p, tM.rf h, r21, r20⟩
  · obtain ⟨-, t, e21, e20⟩ := hI
    have mx' := mx.tM t
    refine ⟨h', ?_, fin h' t e21 e20⟩
    show f_X9_here_0 (n + 1) h' = _
    have e38 : f_X9_here_38 h' = some (hereV X q, h') := by
      rw [f_X9_here_38, mx'.1, e21]
      unfold hereV
      by_cases z : q < X.1
      · rw [if_neg (nle z (by omega)), if_pos z, ag_nI h' 81 (by omega) (by omega), bO_some, mx'.2 q z]
      · rw [if_pos (by rw [leN (by omega) (by omega)]; omega), if_neg z]
    rw [f_X9_here_0, e38, mx'.1, e21]
    by_cases z : q < X.1
    · rw [if_neg (nle z (by omega)), ag_nI h' 81 (by omega) (by omega), bO_some, mx'.2 q z, if_neg (s4 z)]
    · rw [if_pos (by rw [leN (by omega) (by omega)]; omega)]
  · obtain ⟨hpi, t, e21, e20⟩ := hI
    have mx' := mx.tM t
    refine ⟨(), hU h' 66 21 (nI (i + 1)), ⟨by omega, t.tr (tM.u _ rfl), by rw [hU_s, upd_s], by rw [hU_s, upd_n _ _ (by decide)]; exact e20⟩, fun n => ?_⟩
    show f_X9_here_0 (n + 1) h' = f_X9_here_0 n _
    rw [f_X9_here_0, mx'.1, e21, if_neg (nle (by omega) (by omega)), ag_nI h' 81 (by omega) (by omega), bO_some, mx'.2 i (by omega), s3 i hpi hi, if_pos rfl, lt'_eq, nI1]
theorem m_breaks (n q : Nat) (h : PH) : ∃ h', f_X9_breaks (nI n) (nI q) h = some (nI n, h') ∧ tM h h' ∧ h'.1 66 20 = nI q := ⟨_, by rw [f_X9_breaks, lt'_eq], tM.u _ rfl, by rw [hU_s, upd_s]⟩
theorem here_sg {X : XD} (wx : wfX X) {q : Nat} {s : Nat} (hs : kd (nI s) = 3) (h31 : s < 2 ^ 31) : (hereV X q = nI s) = (sgB X (nI s) q = true) := by
  unfold hereV sgB kn
  by_cases z : q < X.1
  · rw [if_pos z, if_pos z]
    apply propext
    constructor
    · intro e; rw [e, decide_eq_true hs, decide_eq_true rfl]; rfl
    · intro e
      rw [Bool.and_eq_true, decide_eq_true_eq, decide_eq_true_eq] at e
      exact e.2
  · rw [if_neg z, if_neg z]
    apply propext
    constructor
    · intro e; exact absurd e.symm (nI_ne_m1 h31)
    · intro e; cases e
theorem sg_en {X : XD} {s : Int32} {q : Nat} (h : sgB X s q = true) : q < X.1 ∧ en X q = q + 1 := by
  unfold sgB at h
  rw [Bool.and_eq_true, decide_eq_true_eq] at h
  refine ⟨kn_lt (by omega), ?_⟩
  unfold en
  rw [if_neg (by omega), if_pos h.1]
theorem m_takeStop {X : XD} {fig q : Nat} {h : PH} (r : PM X fig q h) : (sgB X 59 q = false ∧ ∃ h', f_X9_takeStop h = some (1, h') ∧ tM h h' ∧ h'.1 66 20 = nI q) ∨ (sgB X 59 q = true ∧ ∃ h', f_X9_takeStop h = some (0, h') ∧ tM h h' ∧ PM X fig (nx X q) h') := by
  obtain ⟨h1, e1, t1, r1, a1, b1⟩ := m_here r
  have es : (hereV X q = 59) = (sgB X 59 q = true) := here_sg r.2.1 (s := 59) (by decide) (by omega)
  rw [f_X9_takeStop, e1, bP_some, ite_c es]
  cases hb : sgB X 59 q
  · refine Or.inl ⟨rfl, ?_⟩
    obtain ⟨h2, e2, t2, f2⟩ := m_breaks 1 q h1
    have e2 : f_X9_breaks 1 (nI q) h1 = some (1, h2) := e2
    exact ⟨h2, by rw [if_neg (by decide), a1, e2, bP_some], t1.tr t2, f2⟩
  · refine Or.inr ⟨rfl, hU h1 66 21 (nI (q + 1)), by rw [if_pos rfl, lt'_eq, a1, nI1], t1.tr (tM.u _ rfl), ?_⟩
    obtain ⟨hl, he⟩ := sg_en hb
    obtain ⟨n1, n2, n3⟩ := nx_le (Nat.le_of_lt hl)
    refine r1.at' (tM.u _ rfl) (p := q + 1) (q' := nx X q) (nx_lt hl) n2 (by unfold nx; rw [he]) n3 (by rw [hU_s, upd_s]) (by rw [hU_s, upd_n _ _ (by decide)]; exact b1)
theorem m_isComma {X : XD} {fig q : Nat} {h : PH} (r : PM X fig q h) : ∃ h', f_X9_isComma h = some (b01 (sgB X 44 q), h') ∧ tM h h' ∧ PM X fig (if sgB X 44 q = true then nx X q else q) h' := by
  obtain ⟨h1, e1, t1, r1, a1, b1⟩ := m_here r
  have es : (hereV X q = 44) = (sgB X 44 q = true) := here_sg r.2.1 (s := 44) (by decide) (by omega)
  rw [f_X9_isComma, e1, bP_some, ite_c es]
  cases hb : sgB X 44 q
  · refine ⟨hU h1 66 21 (nI q), ?_, t1.tr (tM.u _ rfl), ?_⟩
    · rw [if_neg (by decide), f_X9_isComma_14, if_pos rfl, f_X9_isComma_29, lt'_eq, a1, add0]; rfl
    · rw [if_neg (by decide)]
      exact r1.at' (tM.u _ rfl) (Nat.le_refl q) r.2.2.1 r.2.2.2.1 r.2.2.2.1 (by rw [hU_s, upd_s]) (by rw [hU_s, upd_n _ _ (by decide)]; exact b1)
  · obtain ⟨hl, he⟩ := sg_en hb
    obtain ⟨n1, n2, n3⟩ := nx_le (Nat.le_of_lt hl)
    refine ⟨hU h1 66 21 (nI (q + 1)), ?_, t1.tr (tM.u _ rfl), ?_⟩
    · rw [if_pos rfl, f_X9_isComma_14, if_neg (by decide), f_X9_isComma_29, lt'_eq, a1, nI1]; rfl
    · rw [if_pos rfl]
      exact r1.at' (tM.u _ rfl) (p := q + 1) (q' := nx X q) (nx_lt hl) n2 (by unfold nx; rw [he]) n3 (by rw [hU_s, upd_s]) (by rw [hU_s, upd_n _ _ (by decide)]; exact b1)
/-! numbers -/
def mv (X : XD) (q : Nat) : Nat → Nat
  | 0 => 0
  | k + 1 => if 10000 < mv X q k then mv X q k else 10 * mv X q k + dg X (q + k)
theorem mv_hv {X : XD} {q : Nat} (hk : kn X q = 2) : ∀ k, k ≤ 3 → q + k ≤ en X q → mv X q k = hv X q k := by
  intro k
  induction k with
  | zero => intro _ _; rfl
  | succ k ih =>
    intro h3 he
    have e := ih (by omega) (by omega)
    have hb := hv_b hk k (by omega)
    have hp : 10 ^ k ≤ 10 ^ 2 := Nat.pow_le_pow_right (by decide) (by omega)
    rw [mv, hv, e, if_neg (by omega)]
theorem mv_b {X : XD} {q : Nat} (hk : kn X q = 2) : ∀ k, q + k ≤ en X q → mv X q k ≤ 100009 := by
  intro k
  induction k with
  | zero => intro _; exact Nat.zero_le _
  | succ k ih =>
    intro he
    have e := ih (by omega)
    have d := (dg_b hk (show q ≤ q + k by omega) (by omega)).1
    rw [mv]
    by_cases z : 10000 < mv X q k
    · rw [if_pos z]; exact e
    · rw [if_neg z]; omega
theorem in_dig (b : Int32) : f_X9_in b.toInt64 48 57 = some (b01 (decide (kd b = 2))) := by
  rw [in9, Int32.toInt_toInt64, show (48 : Int64).toInt = 48 from rfl, show (57 : Int64).toInt = 57 from rfl]
  unfold kd
  by_cases h1 : 48 ≤ b.toInt ∧ b.toInt ≤ 57
  · rw [if_pos h1, if_neg (by omega), if_pos h1]; rfl
  · rw [if_neg h1]
    by_cases h2 : 97 ≤ b.toInt ∧ b.toInt ≤ 122
    · rw [if_pos h2]; rfl
    · rw [if_neg h2, if_neg h1]; rfl
theorem in_let (b : Int32) : f_X9_in b.toInt64 97 122 = some (b01 (decide (kd b = 1))) := by
  rw [in9, Int32.toInt_toInt64, show (97 : Int64).toInt = 97 from rfl, show (122 : Int64).toInt = 122 from rfl]
  unfold kd
  by_cases h1 : 97 ≤ b.toInt ∧ b.toInt ≤ 122
  · rw [if_pos h1, if_pos h1]; rfl
  · rw [if_neg h1, if_neg h1]
    by_cases h2 : 48 ≤ b.toInt ∧ b.toInt ≤ 57
    · rw [if_pos h2]; rfl
    · rw [if_neg h2]; rfl
theorem kd_m1 : kd (-1) = 3 := by decide
theorem here_kd {X : XD} {q : Nat} : (kd (hereV X q) = 2) = (kn X q = 2) := by
  unfold hereV kn
  by_cases z : q < X.1
  · rw [if_pos z, if_pos z]
  · rw [if_neg z, if_neg z, kd_m1]; simp
theorem m_takeNumber {X : XD} {fig q : Nat} {h : PH} (r : PM X fig q h) (hf : fig ≤ 3) (lo hi : Int32) : (ft X fig q lo hi = 0 ∧ ∃ h', f_X9_takeNumber lo hi h = some (0, h') ∧ tM h h' ∧ PM X fig (nx X q) h' ∧ h'.1 66 25 = nI (nv X q) ∧ h'.1 66 26 = nI q) ∨ (¬ ft X fig q lo hi = 0 ∧ ∃ h', f_X9_takeNumber lo hi h = some (nI (ft X fig q lo hi), h') ∧ tM h h' ∧ h'.1 66 20 = nI q) := by
  obtain ⟨h1, e1, t1, r1, a1, b1⟩ := m_here r
  have wx := r.2.1
  have hN := wx.1
  have hq := r.2.2.1
  rw [f_X9_takeNumber, e1, bP_some, in_dig, bO_some]
  unfold ft
  by_cases k2 : kn X q = 2
  · have hl := kn_lt (X := X) (q := q) (by omega)
    have he := en_lt hl
    have hen := en_le hq
    have hel : en X q = enl X q := by unfold en; rw [if_neg (by omega), if_neg (by omega)]
    obtain ⟨l1, l2, l3, l4⟩ := enl_spec X hl
    rw [← kn_kd hl, k2] at l3 l4
    rw [decide_eq_true (show kd (hereV X q) = 2 by rw [here_kd]; exact k2), if_neg (show ¬ b01 true = 0 by decide), lt'_eq, lt'_eq, a1, if_pos k2]
    have loop : ∃ h', f_X9_takeNumber_42 lo hi FU (hU (hU h1 66 26 (nI q)) 66 25 0) = f_X9_takeNumber_129 lo hi h' ∧ tM h h' ∧ h'.1 66 21 = nI (en X q) ∧ h'.1 66 25 = nI (mv X q (en X q - q)) ∧ h'.1 66 26 = nI q ∧ h'.1 66 20 = -1 := by
      refine glF (fun n (_ : Unit) (_ : Nat) h => f_X9_takeNumber_42 lo hi n h) (fun i _ h' => q ≤ i ∧ tM h h' ∧ h'.1 66 21 = nI i ∧ h'.1 66 25 = nI (mv X q (i - q)) ∧ h'.1 66 26 = nI q ∧ h'.1 66 20 = -1) (en X q) (fun o => ∃ h', o = f_X9_takeNumber_129 lo hi h' ∧ tM h h' ∧ h'.1 66 21 = nI (en X q) ∧ h'.1 66 25 = nI (mv X q (en X q - q)) ∧ h'.1 66 26 = nI q ∧ h'.1 66 20 = -1) (by omega) (fun _ h' hI n => ?_) (fun i _ h' hi2 hI => Or.inr ?_) (i := q) (b := ()) (by omega) ⟨Nat.le_refl q, t1.tr ((tM.u _ rfl).tr (tM.u _ rfl)), ?_, ?_, ?_, ?_⟩
      · obtain ⟨-, t, e21, e25, e26, e20⟩ := hI
        have mx' := r.1.tM t
        refine ⟨h', ?_, t, e21, e25, e26, e20⟩
        show f_X9_takeNumber_42 lo hi (n + 1) h' = _
        rw [f_X9_takeNumber_42, mx'.1, e21]
        by_cases z : en X q < X.1
        · rw [if_neg (nle z (by omega)), ag_nI h' 81 (by omega) (by omega), bO_some, mx'.2 _ z, in_dig, bO_some, decide_eq_false (show ¬ kd (X.2 (en X q)) = 2 by rw [hel]; exact l4 (by omega)), if_pos (show b01 false = 0 from rfl)]
        · rw [if_pos (by rw [leN (by omega) (by omega)]; omega)]
      · obtain ⟨hqi, t, e21, e25, e26, e20⟩ := hI
        have mx' := r.1.tM t
        have db := dg_b k2 hqi hi2
        have hb := mv_b k2 (i - q) (by omega)
        have es : i + 1 - q = (i - q) + 1 := by omega
        have eq' : q + (i - q) = i := by omega
        refine ⟨(), hU (hU h' 66 25 (nI (mv X q (i + 1 - q)))) 66 21 (nI (i + 1)), ⟨by omega, t.tr ((tM.u _ rfl).tr (tM.u _ rfl)), ?_, ?_, ?_, ?_⟩, fun n => ?_⟩
        · rw [hU_s, upd_s]
        · rw [hU_s, upd_n _ _ (by decide), hU_s, upd_s]
        · rw [hU_s, upd_n _ _ (by decide), hU_s, upd_n _ _ (by decide)]; exact e26
        · rw [hU_s, upd_n _ _ (by decide), hU_s, upd_n _ _ (by decide)]; exact e20
        · show f_X9_takeNumber_42 lo hi (n + 1) h' = f_X9_takeNumber_42 lo hi n _
          have e113 : ∀ v, f_X9_takeNumber_113 lo hi (f_X9_takeNumber_42 lo hi n) v h' = f_X9_takeNumber_42 lo hi n (hU (hU h' 66 25 v) 66 21 (nI (i + 1))) := fun v => by
            rw [f_X9_takeNumber_113, lt'_eq, lt'_eq, hU_s, upd_n _ _ (show 21 ≠ 25 by decide), e21, nI1]
          rw [f_X9_takeNumber_42, mx'.1, e21, if_neg (nle (by omega) (by omega)), ag_nI h' 81 (by omega) (by omega), bO_some, bO_some, mx'.2 i (by omega), in_dig, bO_some, decide_eq_true (l3 i hqi (by omega)), if_neg (show ¬ b01 true = 0 by decide), e113, e113, e25, db.2, es, mv, eq', show (10000 : Int32) = nI 10000 from rfl]
          by_cases z : 10000 < mv X q (i - q)
          · rw [if_neg (by rw [leN (by omega) (by omega)]; omega), if_pos z]
          · rw [if_pos (by rw [leN (by omega) (by omega)]; omega), if_neg z, show (10 : Int32) = nI 10 from rfl, pk_mul, nI_add, show (48 : Int32) = nI 48 from rfl, pk_sub (by omega), show 10 * mv X q (i - q) + (48 + dg X i) - 48 = 10 * mv X q (i - q) + dg X i by omega]
      · rw [hU_s, upd_n _ _ (by decide), hU_s, upd_n _ _ (by decide)]; exact a1
      · rw [hU_s, upd_s, Nat.sub_self]; rfl
      · rw [hU_s, upd_n _ _ (by decide), hU_s, upd_s]
      · rw [hU_s, upd_n _ _ (by decide), hU_s, upd_n _ _ (by decide)]; exact b1
    obtain ⟨h3, e3, t3, a21, a25, a26, a20⟩ := loop
    have hmb := mv_b k2 (en X q - q) (by omega)
    have hnv := nv_b k2
    obtain ⟨h4, e4, t4, f4⟩ := m_breaks 2 q h3
    have e4 : f_X9_breaks 2 (nI q) h3 = some (2, h4) := e4
    have e160 : f_X9_takeNumber_160 h3 = some (2, h4) := by rw [f_X9_takeNumber_160, a26, e4, bP_some]
    have hfig : h3.1 66 22 = nI fig := by rw [t3.2 22 rfl]; exact r.2.2.2.2.1
    have hmn : en X q - q ≤ fig → mv X q (en X q - q) = nv X q := fun z => by
      unfold nv
      rw [mv_hv k2 _ (by omega) (by omega), Nat.min_eq_right (by omega)]
    rw [e3, f_X9_takeNumber_129, hfig, a21, a26, pk_sub (by omega), ite_c (ltN (by omega) (by omega)), e160, a25, in9, Int32.toInt_toInt64, Int32.toInt_toInt64, Int32.toInt_toInt64, nI_toInt (by omega), bO_some]
    by_cases z : en X q - q ≤ fig
    · rw [hmn z]
      by_cases z2 : lo.toInt ≤ (nv X q : Int) ∧ (nv X q : Int) ≤ hi.toInt
      · rw [if_pos (show en X q - q ≤ fig ∧ lo.toInt ≤ (nv X q : Int) ∧ (nv X q : Int) ≤ hi.toInt from ⟨z, z2⟩), if_neg (show ¬ fig < en X q - q by omega), if_pos z2, if_neg (show ¬ (1 : Int32) = 0 by decide)]
        obtain ⟨n1, n2, n3⟩ := nx_le hq
        exact Or.inl ⟨rfl, h3, rfl, t3, r.at' t3 (p := en X q) (q' := nx X q) (sk_spec X hen.2).1 n2 rfl n3 a21 a20, by rw [a25, hmn z], a26⟩
      · rw [if_neg (show ¬ (en X q - q ≤ fig ∧ lo.toInt ≤ (nv X q : Int) ∧ (nv X q : Int) ≤ hi.toInt) from fun y => z2 y.2), if_neg (show ¬ fig < en X q - q by omega), if_neg z2, if_pos rfl]
        exact Or.inr ⟨by decide, h4, rfl, t3.tr t4, f4⟩
    · rw [if_neg (show ¬ (en X q - q ≤ fig ∧ lo.toInt ≤ (nv X q : Int) ∧ (nv X q : Int) ≤ hi.toInt) from fun y => z y.1), if_pos (show fig < en X q - q by omega)]
      exact Or.inr ⟨by decide, h4, rfl, t3.tr t4, f4⟩
  · rw [decide_eq_false (show ¬ kd (hereV X q) = 2 by rw [here_kd]; exact k2), if_pos (show b01 false = 0 from rfl), if_neg k2, a1]
    obtain ⟨h4, e4, t4, f4⟩ := m_breaks 1 q h1
    have e4 : f_X9_breaks 1 (nI q) h1 = some (1, h4) := e4
    exact Or.inr ⟨by decide, h4, by rw [e4, bP_some]; rfl, t1.tr t4, f4⟩
/-! words by their codes -/
def lt1 (X : XD) (p : Nat) : Nat := (X.2 p).toInt.toNat - 96
def cw (X : XD) (q : Nat) : Nat → Nat
  | 0 => 0
  | k + 1 => if 1000000000000 < cw X q k then 2000000000000 else 27 * cw X q k + lt1 X (q + k)
def wl (w i : Nat) : Nat := ((bytT.getD w []).getD i 0).toInt.toNat - 96
def wc (w : Nat) : Nat → Nat
  | 0 => 0
  | m + 1 => 27 * wc w m + wl w m
theorem wl_ok : ∀ w, w < 10 → ∀ i, i < lenT.getD w 0 → chT w (nI i) = nI (96 + wl w i) ∧ 1 ≤ wl w i ∧ wl w i ≤ 26 := by decide +kernel
theorem wc_ok : ∀ w, w < 10 → wc w (lenT.getD w 0) ≤ 1000000000000 ∧ 0 < wc w (lenT.getD w 0) := by decide +kernel
def we (X : XD) (q : Nat) : Nat := if kn X q = 1 then en X q else q
theorem lt1_b {X : XD} {q k : Nat} (hk : kn X q = 1) (h1 : q ≤ k) (h2 : k < en X q) : 1 ≤ lt1 X k ∧ lt1 X k ≤ 26 ∧ X.2 k = nI (96 + lt1 X k) := by
  have hl := kn_lt (X := X) (q := q) (by omega)
  have he : en X q = enl X q := by unfold en; rw [if_neg (by omega), if_neg (by omega)]
  obtain ⟨l1, l2, l3, l4⟩ := enl_spec X hl
  have hkd : kd (X.2 k) = 1 := by rw [l3 k h1 (by omega), ← kn_kd hl, hk]
  unfold kd at hkd
  split at hkd
  · rename_i hb
    unfold lt1
    refine ⟨by omega, by omega, ?_⟩
    apply Int32.toInt_inj.mp
    rw [nI_toInt (by omega)]
    omega
  · split at hkd <;> cases hkd
theorem cw_b {X : XD} {q : Nat} : ∀ k, (∀ j, j < k → lt1 X (q + j) ≤ 26) → cw X q k ≤ 27000000000026 := by
  intro k
  induction k with
  | zero => intro _; exact Nat.zero_le _
  | succ k ih =>
    intro h
    have e := ih (fun j hj => h j (by omega))
    have d := h k (by omega)
    rw [cw]
    by_cases z : 1000000000000 < cw X q k
    · rw [if_pos z]; omega
    · rw [if_neg z]; omega
theorem cw_iff {X : XD} {q w : Nat} : ∀ m k, (∀ j, j < m → 1 ≤ wl w j ∧ wl w j ≤ 26) → (∀ j, j < k → 1 ≤ lt1 X (q + j) ∧ lt1 X (q + j) ≤ 26) → wc w m ≤ 1000000000000 → (cw X q k = wc w m ↔ k = m ∧ ∀ j, j < m → lt1 X (q + j) = wl w j) := by
  intro m
  induction m with
  | zero =>
    intro k _ hk _
    cases k with
    | zero => exact ⟨fun _ => ⟨rfl, fun j hj => absurd hj (Nat.not_lt_zero j)⟩, fun _ => rfl⟩
    | succ k =>
      have := hk k (by omega)
      constructor
      · intro e
        rw [cw, wc] at e
        split at e <;> omega
      · rintro ⟨e, -⟩; cases e
  | succ m ih =>
    intro k hm hk hw
    have b := hm m (by omega)
    rw [wc] at hw ⊢
    cases k with
    | zero =>
      constructor
      · intro e; rw [cw] at e; omega
      · rintro ⟨e, -⟩; cases e
    | succ k =>
      have a := hk k (by omega)
      have ih' := ih k (fun j hj => hm j (by omega)) (fun j hj => hk j (by omega)) (by omega)
      rw [cw]
      by_cases z : 1000000000000 < cw X q k
      · rw [if_pos z]
        constructor
        · intro e; omega
        · rintro ⟨e, e2⟩
          have := ih'.mpr ⟨by omega, fun j hj => e2 j (by omega)⟩
          omega
      · rw [if_neg z]
        constructor
        · intro e
          have e1 : cw X q k = wc w m := by omega
          have e2 : lt1 X (q + k) = wl w m := by omega
          obtain ⟨f1, f2⟩ := ih'.mp e1
          refine ⟨by omega, fun j hj => ?_⟩
          by_cases ej : j = m
          · subst ej; rw [← f1]; rw [← f1] at e2; exact e2
          · exact f2 j (by omega)
        · rintro ⟨e, e2⟩
          have e1 := ih'.mpr ⟨by omega, fun j hj => e2 j (by omega)⟩
          have e3 := e2 m (by omega)
          have : k = m := by omega
          subst this
          omega
theorem eqw_iff {X : XD} {w q : Nat} : ∀ n, eqw X w q n = true ↔ ∀ j, j < n → X.2 (q + j) = chT w (nI j) := by
  intro n
  induction n with
  | zero => exact ⟨fun _ j hj => absurd hj (Nat.not_lt_zero j), fun _ => rfl⟩
  | succ n ih =>
    rw [eqw, Bool.and_eq_true, ih, decide_eq_true_eq]
    constructor
    · rintro ⟨a, b⟩ j hj
      by_cases e : j = n
      · subst e; exact b
      · exact a j (by omega)
    · intro a
      exact ⟨fun j hj => a j (by omega), a n (by omega)⟩
theorem cw_wd {X : XD} {q w : Nat} (hw : w < 10) : (cw X q (we X q - q) = wc w (lenT.getD w 0)) = (wdB X w q = true) := by
  apply propext
  obtain ⟨c1, c2⟩ := wc_ok w hw
  unfold wdB we
  by_cases k1 : kn X q = 1
  · have hl := kn_lt (X := X) (q := q) (by omega)
    have he := en_lt hl
    rw [if_pos k1, decide_eq_true k1, Bool.true_and, Bool.and_eq_true, decide_eq_true_eq, eqw_iff]
    rw [cw_iff (lenT.getD w 0) (en X q - q) (fun j hj => (wl_ok w hw j hj).2) (fun j hj => by have := lt1_b k1 (show q ≤ q + j by omega) (by omega); omega) c1]
    constructor
    · rintro ⟨e, e2⟩
      refine ⟨e, fun j hj => ?_⟩
      rw [(lt1_b k1 (show q ≤ q + j by omega) (by omega)).2.2, (wl_ok w hw j hj).1, e2 j hj]
    · rintro ⟨e, e2⟩
      refine ⟨e, fun j hj => ?_⟩
      have h1 := e2 j hj
      have h2 := lt1_b k1 (show q ≤ q + j by omega) (by omega)
      have h3 := wl_ok w hw j hj
      rw [h2.2.2, h3.1, eqN (by omega) (by omega)] at h1
      omega
  · rw [if_neg k1, decide_eq_false k1, Nat.sub_self]
    constructor
    · intro e; rw [cw] at e; omega
    · intro e; cases e
theorem m_readWord {X : XD} {fig q : Nat} {h : PH} (r : PM X fig q h) : ∃ h', f_X9_readWord h = some h' ∧ tM h h' ∧ PM X fig q h' ∧ h'.1 66 21 = nI q ∧ h'.1 66 20 = -1 ∧ h'.1 66 24 = nI (we X q) ∧ h'.2 = lN (cw X q (we X q - q)) := by
  obtain ⟨h1, e1, t1, r1, a1, b1⟩ := m_here r
  have wx := r.2.1
  have hN := wx.1
  have hq := r.2.2.1
  have hen := en_le hq
  have hwe : q ≤ we X q ∧ we X q ≤ X.1 := by unfold we; split <;> omega
  rw [f_X9_readWord, e1, bP_some, lt'_eq, lt'_eq]
  have lets : ∀ j, q ≤ j → j < we X q → kn X q = 1 ∧ j < en X q := fun j h1 h2 => by
    unfold we at h2
    split at h2
    · exact ⟨by assumption, h2⟩
    · omega
  refine glF (fun n (_ : Unit) (_ : Nat) h => f_X9_readWord_18 n h) (fun i _ h' => q ≤ i ∧ tM h h' ∧ h'.1 66 21 = nI q ∧ h'.1 66 20 = -1 ∧ h'.1 66 24 = nI i ∧ h'.2 = lN (cw X q (i - q))) (we X q) (fun o => ∃ h', o = some h' ∧ tM h h' ∧ PM X fig q h' ∧ h'.1 66 21 = nI q ∧ h'.1 66 20 = -1 ∧ h'.1 66 24 = nI (we X q) ∧ h'.2 = lN (cw X q (we X q - q))) (by omega) (fun _ h' hI n => ?_) (fun i _ h' hi hI => Or.inr ?_) (i := q) (b := ()) hwe.1 ⟨Nat.le_refl q, t1.tr ((tM.l _).tr (tM.u _ rfl)), ?_, ?_, ?_, ?_⟩
  · obtain ⟨-, t, e21, e20, e24, e2⟩ := hI
    have mx' := r.1.tM t
    refine ⟨h', ?_, t, r.at' t (Nat.le_refl q) hq r.2.2.2.1 r.2.2.2.1 e21 e20, e21, e20, e24, e2⟩
    show f_X9_readWord_18 (n + 1) h' = _
    rw [f_X9_readWord_18, mx'.1, e24]
    by_cases z : we X q < X.1
    · have hk : ¬ kd (X.2 (we X q)) = 1 := by
        unfold we
        by_cases k1 : kn X q = 1
        · have hl := kn_lt (X := X) (q := q) (by omega)
          have hel : en X q = enl X q := by unfold en; rw [if_neg (by omega), if_neg (by omega)]
          have l4 := (enl_spec X hl).2.2.2
          unfold we at z
          rw [if_pos k1] at z
          rw [if_pos k1, hel]
          rw [hel] at z
          rw [← kn_kd hl, k1] at l4
          exact l4 z
        · unfold we at z
          rw [if_neg k1] at z
          rw [if_neg k1, ← kn_kd z]; exact k1
      rw [if_neg (nle z (by omega)), ag_nI h' 81 (by omega) (by omega), bO_some, mx'.2 _ z, in_let, bO_some, decide_eq_false hk, if_pos (show b01 false = 0 from rfl)]
    · rw [if_pos (by rw [leN (by omega) (by omega)]; omega)]
  · obtain ⟨hqi, t, e21, e20, e24, e2⟩ := hI
    have mx' := r.1.tM t
    obtain ⟨k1, hie⟩ := lets i hqi hi
    have lb := lt1_b k1 hqi hie
    have hl := kn_lt (X := X) (q := q) (by omega)
    have hel : en X q = enl X q := by unfold en; rw [if_neg (by omega), if_neg (by omega)]
    have l3 := (enl_spec X hl).2.2.1 i hqi (by omega)
    rw [← kn_kd hl, k1] at l3
    have cb := cw_b (X := X) (q := q) (i - q) (fun j hj => by have := lt1_b k1 (show q ≤ q + j by omega) (by omega); omega)
    have es : i + 1 - q = (i - q) + 1 := by omega
    have eq' : q + (i - q) = i := by omega
    refine ⟨(), hU (hL h' (lN (cw X q (i + 1 - q)))) 66 24 (nI (i + 1)), ⟨by omega, t.tr ((tM.l _).tr (tM.u _ rfl)), ?_, ?_, ?_, ?_⟩, fun n => ?_⟩
    · rw [hU_s, upd_n _ _ (by decide)]; exact e21
    · rw [hU_s, upd_n _ _ (by decide)]; exact e20
    · rw [hU_s, upd_s]
    · rfl
    · show f_X9_readWord_18 (n + 1) h' = f_X9_readWord_18 n _
      have e92 : ∀ v, f_X9_readWord_92 (f_X9_readWord_18 n) v h' = f_X9_readWord_18 n (hU (hL h' v) 66 24 (nI (i + 1))) := fun v => by
        rw [f_X9_readWord_92, lt'_eq, lt'_eq, show (hL h' v).1 66 24 = nI i from e24, nI1]
      rw [f_X9_readWord_18, mx'.1, e24, if_neg (nle (by omega) (by omega)), ag_nI h' 81 (by omega) (by omega), bO_some, bO_some, mx'.2 i (by omega), in_let, bO_some, decide_eq_true l3, if_neg (show ¬ b01 true = 0 by decide), e92, e92, e2, es, cw, eq', lb.2.2, show (1000000000000 : Int64) = lN 1000000000000 from rfl]
      have ele : (lg_cmp (lN (cw X q (i - q))) (lN 1000000000000) ≤ 0) = (cw X q (i - q) ≤ 1000000000000) := propext ((lg_cmp_le _ _).trans (pk_lLE (by omega) (by omega)))
      rw [ite_c ele]
      by_cases z : 1000000000000 < cw X q (i - q)
      · rw [if_neg (by omega), if_pos z]; rfl
      · rw [if_pos (by omega), if_neg z, show (27 : Int64) = lN 27 from rfl, lN_mul, nI_l (by omega), lN_add, show (96 : Int64) = lN 96 from rfl, lN_sub (by omega), show 27 * cw X q (i - q) + (96 + lt1 X i) - 96 = 27 * cw X q (i - q) + lt1 X i by omega]
  · rw [hU_s, upd_n _ _ (by decide)]; exact a1
  · rw [hU_s, upd_n _ _ (by decide)]; exact b1
  · rw [hU_s, upd_s]; exact a1
  · rw [Nat.sub_self]; rfl
theorem m_cmp {X : XD} {q : Nat} {h : PH} (e : h.2 = lN (cw X q (we X q - q))) (hwe : kn X q = 1 → q ≤ en X q) {w : Nat} (hw : w < 10) : (lg_cmp h.2 (lN (wc w (lenT.getD w 0))) = 0) = (wdB X w q = true) := by
  have cb : cw X q (we X q - q) ≤ 27000000000026 := cw_b _ (fun j hj => by
    unfold we at hj
    split at hj
    · rename_i k1
      have := lt1_b k1 (show q ≤ q + j by omega) (by omega)
      omega
    · omega)
  have c1 := (wc_ok w hw).1
  rw [e, ← cw_wd hw]
  exact propext ((lg_cmp_eq _ _).trans (pk_lEQ (by omega) (by omega)))
theorem cd_change : f_X9_code 99 104 97 110 = some (lN (wc 0 4)) ∧ f_X9_longer (lN (wc 0 4)) 103 = some (lN (wc 0 5)) ∧ f_X9_longer (lN (wc 0 5)) 101 = some (lN (wc 0 (lenT.getD 0 0))) := by decide +kernel
theorem cd_fault : f_X9_code 102 97 117 108 = some (lN (wc 1 4)) ∧ f_X9_longer (lN (wc 1 4)) 116 = some (lN (wc 1 (lenT.getD 1 0))) := by decide +kernel
theorem cd_sets : f_X9_code 115 101 116 115 = some (lN (wc 2 (lenT.getD 2 0))) := by decide +kernel
theorem cd_reads : f_X9_code 114 101 97 100 = some (lN (wc 3 4)) ∧ f_X9_longer (lN (wc 3 4)) 115 = some (lN (wc 3 (lenT.getD 3 0))) := by decide +kernel
theorem cd_risk : f_X9_code 114 105 115 107 = some (lN (wc 4 (lenT.getD 4 0))) := by decide +kernel
theorem cd_from : f_X9_code 102 114 111 109 = some (lN (wc 5 (lenT.getD 5 0))) := by decide +kernel
theorem cd_till : f_X9_code 116 105 108 108 = some (lN (wc 6 (lenT.getD 6 0))) := by decide +kernel
theorem cd_freeze : f_X9_code 102 114 101 101 = some (lN (wc 7 4)) ∧ f_X9_longer (lN (wc 7 4)) 122 = some (lN (wc 7 5)) ∧ f_X9_longer (lN (wc 7 5)) 101 = some (lN (wc 7 (lenT.getD 7 0))) := by decide +kernel
theorem cd_weigh : f_X9_code 119 101 105 103 = some (lN (wc 8 4)) ∧ f_X9_longer (lN (wc 8 4)) 104 = some (lN (wc 8 (lenT.getD 8 0))) := by decide +kernel
theorem cd_only : f_X9_code 111 110 108 121 = some (lN (wc 9 (lenT.getD 9 0))) := by decide +kernel
