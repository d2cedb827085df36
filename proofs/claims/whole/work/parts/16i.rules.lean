/-! ===== a policy's text: clauses ===== -/
def DPc (P : PD) (k : Nat) (h : PH) : Prop := h.1 25 0 = nI k ∧ h.1 25 1 = nI P.1 ∧ (∀ j, j < P.1 → h.1 26 j = P.2.1 j ∧ h.1 27 j = P.2.2.1 j) ∧ h.1 25 4 = P.2.2.2.1 ∧ h.1 25 5 = P.2.2.2.2.1 ∧ h.1 25 6 = P.2.2.2.2.2
def DPm (P : PD) (h : PH) : Prop := h.1 66 47 = nI P.1 ∧ (∀ j, j < P.1 → h.1 94 j = P.2.1 j ∧ h.1 95 j = P.2.2.1 j) ∧ h.1 66 50 = P.2.2.2.1 ∧ h.1 66 51 = P.2.2.2.2.1 ∧ h.1 66 52 = P.2.2.2.2.2
def FcP (h0 h : PH) : Prop := ∀ k, k ≠ 3 → ¬ (25 ≤ k ∧ k ≤ 27) → h.1 k = h0.1 k
def rP (i : Nat) : Bool := tS i || i == 35 || i == 47 || i == 50 || i == 51 || i == 52
def FmP (h0 h : PH) : Prop := (∀ k, k ≠ 66 → ¬ (94 ≤ k ∧ k ≤ 95) → h.1 k = h0.1 k) ∧ ∀ i, rP i = false → h.1 66 i = h0.1 66 i
theorem FcP.on {h0 h h' : PH} (f : FcP h0 h) (t : tC h h') : FcP h0 h' := fun k h1 h2 => (t.1 k h1).trans (f k h1 h2)
theorem FcP.u {h0 h : PH} (f : FcP h0 h) {V : Nat} (k : Nat) (v : Int32) (hV : 25 ≤ V ∧ V ≤ 27) : FcP h0 (hU h V k v) := fun j h1 h2 => (hU_n _ _ _ (by omega)).trans (f j h1 h2)
theorem tS_p {i : Nat} (h : rP i = false) : tS i = false := by
  unfold rP at h
  cases hh : tS i
  · rfl
  · rw [hh] at h; cases h
theorem FmP.on {h0 h h' : PH} (f : FmP h0 h) (t : tM h h') : FmP h0 h' := ⟨fun k h1 h2 => (t.1 k h1).trans (f.1 k h1 h2), fun i hi => (t.2 i (tS_p hi)).trans (f.2 i hi)⟩
theorem FmP.u {h0 h : PH} (f : FmP h0 h) {V : Nat} (k : Nat) (v : Int32) (hV : 94 ≤ V ∧ V ≤ 95) : FmP h0 (hU h V k v) := ⟨fun j h1 h2 => (hU_n _ _ _ (by omega)).trans (f.1 j h1 h2), fun i hi => by rw [hU_n _ _ _ (by omega)]; exact f.2 i hi⟩
theorem FmP.u66 {h0 h : PH} (f : FmP h0 h) {k : Nat} (v : Int32) (hk : rP k = true) : FmP h0 (hU h 66 k v) := ⟨fun j h1 h2 => (hU_n _ _ _ h1).trans (f.1 j h1 h2), fun i hi => by rw [hU_s, upd_n _ _ (fun e => by rw [e, hk] at hi; cases hi)]; exact f.2 i hi⟩
def QC (X : XD) (P : PD) (k q : Nat) (h0 h : PH) : Prop := RD X 3 q h ∧ DPc P k h ∧ FcP h0 h
def QM (X : XD) (P : PD) (q : Nat) (h0 h : PH) : Prop := PM X 3 q h ∧ DPm P h ∧ FmP h0 h
theorem QC.t {X : XD} {P : PD} {k q q' : Nat} {h0 h h' : PH} (s : QC X P k q h0 h) (t : tC h h') (r : RD X 3 q' h') : QC X P k q' h0 h' := by
  refine ⟨r, ?_, s.2.2.on t⟩
  have d := s.2.1
  unfold DPc at d ⊢
  rw [t.1 25 (by decide), t.1 26 (by decide), t.1 27 (by decide)]; exact d
theorem QM.t {X : XD} {P : PD} {q q' : Nat} {h0 h h' : PH} (s : QM X P q h0 h) (t : tM h h') (r : PM X 3 q' h') : QM X P q' h0 h' := by
  refine ⟨r, ?_, s.2.2.on t⟩
  have d := s.2.1
  unfold DPm at d ⊢
  rw [t.2 47 rfl, t.2 50 rfl, t.2 51 rfl, t.2 52 rfl, t.1 94 (by decide), t.1 95 (by decide)]; exact d
def setO (P : PD) (v : Int32) : PD := (P.1, P.2.1, P.2.2.1, P.2.2.2.1, P.2.2.2.2.1, v)
def setR (P : PD) (v : Int32) : PD := (P.1, P.2.1, P.2.2.1, v, P.2.2.2.2.1, P.2.2.2.2.2)
def setW (P : PD) (v : Int32) : PD := (P.1, P.2.1, P.2.2.1, P.2.2.2.1, v, P.2.2.2.2.2)
def addZ (P : PD) (a b : Int32) : PD := (P.1 + 1, upd P.2.1 P.1 a, upd P.2.2.1 P.1 b, P.2.2.2.1, P.2.2.2.2.1, P.2.2.2.2.2)
theorem QC.o {X : XD} {P : PD} {k q : Nat} {h0 h : PH} (s : QC X P k q h0 h) (v : Int32) : QC X (setO P v) k q h0 (hU h 25 6 v) := by
  obtain ⟨d0, d1, d2, d4, d5, d6⟩ := s.2.1
  exact ⟨s.1.k3 rfl rfl rfl, ⟨by rw [hU_s, upd_n _ _ (by decide)]; exact d0, by rw [hU_s, upd_n _ _ (by decide)]; exact d1, d2, by rw [hU_s, upd_n _ _ (by decide)]; exact d4, by rw [hU_s, upd_n _ _ (by decide)]; exact d5, by rw [hU_s, upd_s]; rfl⟩, s.2.2.u _ _ (by omega)⟩
theorem QC.r {X : XD} {P : PD} {k q : Nat} {h0 h : PH} (s : QC X P k q h0 h) (v : Int32) : QC X (setR P v) k q h0 (hU h 25 4 v) := by
  obtain ⟨d0, d1, d2, d4, d5, d6⟩ := s.2.1
  exact ⟨s.1.k3 rfl rfl rfl, ⟨by rw [hU_s, upd_n _ _ (by decide)]; exact d0, by rw [hU_s, upd_n _ _ (by decide)]; exact d1, d2, by rw [hU_s, upd_s]; rfl, by rw [hU_s, upd_n _ _ (by decide)]; exact d5, by rw [hU_s, upd_n _ _ (by decide)]; exact d6⟩, s.2.2.u _ _ (by omega)⟩
theorem QC.w {X : XD} {P : PD} {k q : Nat} {h0 h : PH} (s : QC X P k q h0 h) (v : Int32) : QC X (setW P v) k q h0 (hU h 25 5 v) := by
  obtain ⟨d0, d1, d2, d4, d5, d6⟩ := s.2.1
  exact ⟨s.1.k3 rfl rfl rfl, ⟨by rw [hU_s, upd_n _ _ (by decide)]; exact d0, by rw [hU_s, upd_n _ _ (by decide)]; exact d1, d2, by rw [hU_s, upd_n _ _ (by decide)]; exact d4, by rw [hU_s, upd_s]; rfl, by rw [hU_s, upd_n _ _ (by decide)]; exact d6⟩, s.2.2.u _ _ (by omega)⟩
theorem QC.n {X : XD} {P : PD} {k q : Nat} {h0 h : PH} (s : QC X P k q h0 h) : QC X P (k + 1) q h0 (hU h 25 0 (nI (k + 1))) := by
  obtain ⟨d0, d1, d2, d4, d5, d6⟩ := s.2.1
  exact ⟨s.1.k3 rfl rfl rfl, ⟨by rw [hU_s, upd_s], by rw [hU_s, upd_n _ _ (by decide)]; exact d1, d2, by rw [hU_s, upd_n _ _ (by decide)]; exact d4, by rw [hU_s, upd_n _ _ (by decide)]; exact d5, by rw [hU_s, upd_n _ _ (by decide)]; exact d6⟩, s.2.2.u _ _ (by omega)⟩
theorem QM.u66 {X : XD} {P P' : PD} {q : Nat} {h0 h : PH} (s : QM X P q h0 h) {i : Nat} (v : Int32) (hi : 23 ≤ i) (hr : rP i = true) (d : DPm P' (hU h 66 i v)) : QM X P' q h0 (hU h 66 i v) := ⟨s.1.k rfl (fun j h1 h2 => by rw [hU_s, upd_n _ _ (by omega)]), d, s.2.2.u66 v hr⟩
theorem QM.o {X : XD} {P : PD} {q : Nat} {h0 h : PH} (s : QM X P q h0 h) (v : Int32) : QM X (setO P v) q h0 (hU h 66 52 v) := by
  obtain ⟨d1, d2, d4, d5, d6⟩ := s.2.1
  exact s.u66 v (by decide) rfl ⟨by rw [hU_s, upd_n _ _ (by decide)]; exact d1, d2, by rw [hU_s, upd_n _ _ (by decide)]; exact d4, by rw [hU_s, upd_n _ _ (by decide)]; exact d5, by rw [hU_s, upd_s]; rfl⟩
theorem QM.r {X : XD} {P : PD} {q : Nat} {h0 h : PH} (s : QM X P q h0 h) (v : Int32) : QM X (setR P v) q h0 (hU h 66 50 v) := by
  obtain ⟨d1, d2, d4, d5, d6⟩ := s.2.1
  exact s.u66 v (by decide) rfl ⟨by rw [hU_s, upd_n _ _ (by decide)]; exact d1, d2, by rw [hU_s, upd_s]; rfl, by rw [hU_s, upd_n _ _ (by decide)]; exact d5, by rw [hU_s, upd_n _ _ (by decide)]; exact d6⟩
theorem QM.w {X : XD} {P : PD} {q : Nat} {h0 h : PH} (s : QM X P q h0 h) (v : Int32) : QM X (setW P v) q h0 (hU h 66 51 v) := by
  obtain ⟨d1, d2, d4, d5, d6⟩ := s.2.1
  exact s.u66 v (by decide) rfl ⟨by rw [hU_s, upd_n _ _ (by decide)]; exact d1, d2, by rw [hU_s, upd_n _ _ (by decide)]; exact d4, by rw [hU_s, upd_s]; rfl, by rw [hU_s, upd_n _ _ (by decide)]; exact d6⟩
theorem QM.l {X : XD} {P : PD} {q : Nat} {h0 h : PH} (s : QM X P q h0 h) (v : Int32) : QM X P q h0 (hU h 66 35 v) := by
  obtain ⟨d1, d2, d4, d5, d6⟩ := s.2.1
  exact s.u66 v (by decide) rfl ⟨by rw [hU_s, upd_n _ _ (by decide)]; exact d1, d2, by rw [hU_s, upd_n _ _ (by decide)]; exact d4, by rw [hU_s, upd_n _ _ (by decide)]; exact d5, by rw [hU_s, upd_n _ _ (by decide)]; exact d6⟩
def ResQ {α : Type} (h0 : PH) (o : (Nat × Nat) ⊕ α) (Q : α → PH → Prop) (res : Option (Int32 × PH)) : Prop := match o with
  | .inl bp => ∃ h', res = some (0, h') ∧ FC bp.1 bp.2 h' ∧ FcP h0 h'
  | .inr a => ∃ h', res = some (1, h') ∧ Q a h'
def ResN {α : Type} (h0 : PH) (o : (Nat × Nat) ⊕ α) (Q : α → PH → Prop) (res : Option (Int32 × PH)) : Prop := match o with
  | .inl bp => 0 < bp.1 ∧ bp.1 ≤ 4 ∧ ∃ h', res = some (nI bp.1, h') ∧ h'.1 66 20 = nI bp.2 ∧ FmP h0 h'
  | .inr a => ∃ h', res = some (0, h') ∧ Q a h'
/-- one line's number, then the rest by what is given of it -/
theorem L_only_step {X : XD} {P : PD} {c : Nat} {d : Nat} (ih : ∀ k m q, d + k = 5 → pc m 4 = k → bel m 4 → 0 < d ∧ ∃ o : (Nat × Nat) ⊕ (Int32 × Nat), (∀ h0 h n1, d ≤ n1 → QC X (setO P m) c q h0 h → ResQ h0 o (fun a h' => QC X (setO P a.1) c a.2 h0 h') (f_X5_readLines_6 25 n1 (nI k) h)) ∧ (∀ h0 h n2, d < n2 → QM X P q h0 h → h.1 66 35 = m → ResN h0 o (fun a h' => QM X (setO P a.1) a.2 h0 h') (f_X9_takeOnly_7 n2 1 h)) ∧ ∀ a, o = .inr a → bel a.1 4 ∧ q ≤ a.2) (k : Nat) (m : Int32) (q : Nat) (hd : d + k = 4) (hk : pc m 4 = k) (hok : bel m 4) : ∃ o : (Nat × Nat) ⊕ (Int32 × Nat), (∀ h0 h n1, d < n1 → QC X (setO P m) c q h0 h → ResQ h0 o (fun a h' => QC X (setO P a.1) c a.2 h0 h') (f_X5_readLines_6 25 n1 (nI k) h)) ∧ (∀ h0 h n2, d + 1 < n2 → QM X P q h0 h → h.1 66 35 = m → ResN h0 o (fun a h' => QM X (setO P a.1) a.2 h0 h') (f_X9_takeOnly_7 n2 1 h)) ∧ ∀ a, o = .inr a → bel a.1 4 ∧ q ≤ a.2 := by
  have fl := ft_le X 3 q 0 3
  have hk17 : ¬ (4 : Int32) < nI k := by rw [show (4 : Int32) = nI 4 from rfl, ltN (by omega) (by omega)]; omega
  have a6 : ∀ h0 h, QC X (setO P m) c q h0 h → h.1 25 6 = m := fun h0 h s => s.2.1.2.2.2.2.2
  by_cases f0 : ft X 3 q 0 3 = 0
  · have nvb := (ft_nv f0).2.2.1
    rw [show (3 : Int32).toInt = 3 from rfl] at nvb
    have hqN : q ≤ X.1 := Nat.le_of_lt (kn_lt (by have := (ft_nv f0).1; omega))
    have hx1 := nx_le hqN
    have hx2 := nx_le hx1.2.1
    cases hb : bt m (nv X q)
    · generalize hsv : nv X q = sv at hb nvb
      generalize hm' : m ||| (1 <<< (nI sv &&& 31)) = m'
      have hok' : bel m' 4 := by rw [← hm']; exact bel_or hok (bel_one (by omega) (by omega))
      have hpc' : pc m' 4 = k + 1 := by rw [← hm', pc_one (by omega) hb 4 (by omega), hk, if_pos (by omega)]
      have cside : ∀ h0 h, QC X (setO P m) c q h0 h → ∃ h', QC X (setO P m') c (nx X q) h0 h' ∧ ∀ n1, f_X5_readLines_6 25 (n1 + 1) (nI k) h = bP (f_X3_takeSign 44 h') (fun r44 h44 => if r44 = 0 then (some (1, h44)) else ((f_X5_readLines_6 25 n1) (nI (k + 1)) h44)) := fun h0 h s => by
        rcases c_needNew s.1 (by omega) (n := 3) (by omega) m with ⟨g0, g1, g2, h1, e1, t1, r1⟩ | ⟨g0, g1, g2, -⟩ | ⟨g0, -⟩
        · have e1 : f_X3_needNew 0 3 m h = some (nI sv, h1) := by rw [← hsv]; exact e1
          have s1 := s.t t1 r1
          refine ⟨hU h1 25 6 m', s1.o m', fun n1 => ?_⟩
          rw [f_X5_readLines_6, if_neg hk17, a6 h0 h s, e1, bP_some, if_neg (nI_ne_m1 (by omega)), lt'_eq, show h1.1 25 6 = m from s1.2.1.2.2.2.2.2, hm', nI1]
        · rw [hsv, hb] at g2; cases g2
        · exact absurd f0 g0
      have mside : ∀ h0 h, QM X P q h0 h → h.1 66 35 = m → ∃ h', QM X P (nx X q) h0 h' ∧ h'.1 66 35 = m' ∧ ∀ n2, f_X9_takeOnly_7 (n2 + 1) 1 h = bP (f_X9_isComma h') (fun r72 h72 => f_X9_takeOnly_7 n2 r72 h72) := fun h0 h s e35 => by
        rcases m_takeNumber s.1 (by omega) 0 3 with ⟨g0, h1, e1, t1, r1, s25, s26⟩ | ⟨g0, -⟩
        · rw [hsv] at s25
          have e351 : h1.1 66 35 = m := (t1.2 35 rfl).trans e35
          refine ⟨hU h1 66 35 m', (s.t t1 r1).l m', by rw [hU_s, upd_s], fun n2 => ?_⟩
          rw [f_X9_takeOnly_7, if_neg (by decide), e1, bP_some, if_pos rfl, e351, s25, has9 _ (by omega), bO_some, hb, if_pos (by decide), f_X9_takeOnly_48, f_X9_takeOnly_49, if_pos (by decide), lt'_eq, e351, s25, hm']
        · exact absurd f0 g0
      cases hc : sgB X 44 (nx X q)
      · refine ⟨.inr (m', nx X q), fun h0 h n1 hn1 s => ?_, fun h0 h n2 hn2 s e35 => ?_, fun a e => ?_⟩
        · cases n1 with
          | zero => omega
          | succ n1 =>
            obtain ⟨h', s', e'⟩ := cside h0 h s
            rcases c_takeSign s'.1 44 with ⟨-, e2⟩ | ⟨g, -⟩
            · exact ⟨h', by rw [e' n1, e2, bP_some, if_pos rfl], s'⟩
            · rw [hc] at g; cases g
        · cases n2 with
          | zero => omega
          | succ n2 =>
            cases n2 with
            | zero => omega
            | succ n2 =>
              obtain ⟨h', s', e35', e'⟩ := mside h0 h s e35
              obtain ⟨h2, e2, t2, r2⟩ := m_isComma s'.1
              rw [hc] at e2 r2
              rw [if_neg (by decide)] at r2
              refine ⟨hU h2 66 52 m', ?_, (s'.t t2 r2).o m'⟩
              rw [e' (n2 + 1), e2, bP_some, f_X9_takeOnly_7, if_pos (show b01 false = 0 from rfl), lt'_eq, t2.2 35 rfl, e35']
        · cases e
          exact ⟨hok', hx1.1⟩
      · obtain ⟨hd0, o, oC, oM, oI⟩ := ih (k + 1) m' (nx X (nx X q)) (by omega) hpc' hok'
        refine ⟨o, fun h0 h n1 hn1 s => ?_, fun h0 h n2 hn2 s e35 => ?_, fun a e => ?_⟩
        · cases n1 with
          | zero => omega
          | succ n1 =>
            obtain ⟨h', s', e'⟩ := cside h0 h s
            rcases c_takeSign s'.1 44 with ⟨g, -⟩ | ⟨-, h2, e2, t2, r2⟩
            · rw [hc] at g; cases g
            · rw [e' n1, e2, bP_some, if_neg (by decide)]
              exact oC h0 h2 n1 (by omega) (s'.t t2 r2)
        · cases n2 with
          | zero => omega
          | succ n2 =>
            obtain ⟨h', s', e35', e'⟩ := mside h0 h s e35
            obtain ⟨h2, e2, t2, r2⟩ := m_isComma s'.1
            rw [hc] at e2 r2
            rw [if_pos rfl] at r2
            rw [e' n2, e2, bP_some]
            exact oM h0 h2 n2 (by omega) (s'.t t2 r2) ((t2.2 35 rfl).trans e35')
        · obtain ⟨a1, a2⟩ := oI a e
          exact ⟨a1, by omega⟩
    · refine ⟨.inl (4, q), fun h0 h n1 hn1 s => ?_, fun h0 h n2 hn2 s e35 => ?_, fun a e => by cases e⟩
      · cases n1 with
        | zero => omega
        | succ n1 =>
          rcases c_needNew s.1 (by omega) (n := 3) (by omega) m with ⟨g0, g1, g2, -⟩ | ⟨g0, g1, g2, h', e', t', f'⟩ | ⟨g0, -⟩
          · rw [hb] at g2; cases g2
          · have e' : f_X3_needNew 0 3 m h = some (-1, h') := e'
            refine ⟨h', ?_, f', s.2.2.on t'⟩
            rw [f_X5_readLines_6, if_neg hk17, a6 h0 h s, e', bP_some, if_pos rfl]
          · exact absurd f0 g0
      · cases n2 with
        | zero => omega
        | succ n2 =>
          rcases m_takeNumber s.1 (by omega) 0 3 with ⟨g0, h1, e1, t1, r1, s25, s26⟩ | ⟨g0, -⟩
          · have e351 : h1.1 66 35 = m := (t1.2 35 rfl).trans e35
            obtain ⟨h2, e2, t2, f2⟩ := m_breaks 4 q h1
            have e2 : f_X9_breaks 4 (nI q) h1 = some (4, h2) := e2
            refine ⟨show 0 < 4 by decide, show 4 ≤ 4 by decide, h2, ?_, f2, (s.2.2.on t1).on t2⟩
            rw [f_X9_takeOnly_7, if_neg (by decide), e1, bP_some, if_pos rfl, e351, s25, has9 _ (by omega), bO_some, hb, if_neg (by decide), s26, e2, bP_some, f_X9_takeOnly_49, if_neg (by decide)]
            rfl
          · exact absurd f0 g0
  · refine ⟨.inl (ft X 3 q 0 3, q), fun h0 h n1 hn1 s => ?_, fun h0 h n2 hn2 s e35 => ?_, fun a e => by cases e⟩
    · cases n1 with
      | zero => omega
      | succ n1 =>
        rcases c_needNew s.1 (by omega) (n := 3) (by omega) m with ⟨g0, -⟩ | ⟨g0, -⟩ | ⟨g0, h', e', t', f'⟩
        · exact absurd g0 f0
        · exact absurd g0 f0
        · have e' : f_X3_needNew 0 3 m h = some (-1, h') := e'
          refine ⟨h', ?_, f', s.2.2.on t'⟩
          rw [f_X5_readLines_6, if_neg hk17, a6 h0 h s, e', bP_some, if_pos rfl]
    · cases n2 with
      | zero => omega
      | succ n2 =>
        rcases m_takeNumber s.1 (by omega) 0 3 with ⟨g0, -⟩ | ⟨g0, h1, e1, t1, f1⟩
        · exact absurd g0 f0
        · refine ⟨by show 0 < ft X 3 q 0 3; omega, by show ft X 3 q 0 3 ≤ 4; omega, h1, ?_, f1, s.2.2.on t1⟩
          rw [f_X9_takeOnly_7, if_neg (by decide), e1, bP_some, if_neg (nI_ne0 (by omega) (by omega)), f_X9_takeOnly_48, f_X9_takeOnly_49, if_neg (nI_nle (by omega) (by omega))]
theorem L_only {X : XD} {P : PD} {c : Nat} : ∀ d k m q, d + k = 4 → pc m 4 = k → bel m 4 → ∃ o : (Nat × Nat) ⊕ (Int32 × Nat), (∀ h0 h n1, d < n1 → QC X (setO P m) c q h0 h → ResQ h0 o (fun a h' => QC X (setO P a.1) c a.2 h0 h') (f_X5_readLines_6 25 n1 (nI k) h)) ∧ (∀ h0 h n2, d + 1 < n2 → QM X P q h0 h → h.1 66 35 = m → ResN h0 o (fun a h' => QM X (setO P a.1) a.2 h0 h') (f_X9_takeOnly_7 n2 1 h)) ∧ ∀ a, o = .inr a → bel a.1 4 ∧ q ≤ a.2 := by
  intro d
  induction d with
  | zero =>
    intro k m q hd hk hok
    exact L_only_step (fun k' m' q' h1 h2 _ => by have := pc_le m' 4; omega) k m q hd hk hok
  | succ d ih =>
    intro k m q hd hk hok
    exact L_only_step (fun k' m' q' h1 h2 h3 => by
      obtain ⟨o, oC, oM, oI⟩ := ih k' m' q' (by omega) h2 h3
      exact ⟨by omega, o, fun h0 h n1 hn1 => oC h0 h n1 (by omega), fun h0 h n2 hn2 => oM h0 h n2 (by omega), oI⟩) k m q hd hk hok
/-! the end of a clause -/
def ClS (X : XD) (h0 : PH) (k : Nat) (o : (Nat × Nat) ⊕ (PD × Nat)) (E : (PH → Option (Int32 × PH)) → Option (Int32 × PH)) : Prop := match o with
  | .inl bp => ∃ h', (∀ K, E K = some (0, h')) ∧ FC bp.1 bp.2 h' ∧ FcP h0 h'
  | .inr a => ∃ h', (∀ K, E K = K h') ∧ QC X a.1 k a.2 h0 h'
def clE (o : Option (Int32 × PH)) (K : PH → Option (Int32 × PH)) : Option (Int32 × PH) := bP o (fun r43 h43 => if r43 = 0 then (some (0, h43)) else (bP (f_X3_needSign 59 h43) (fun r52 h52 => if r52 = 0 then (some (0, h52)) else K h52)))
def QMa (X : XD) (h0 : PH) (a : PD × Nat) (h' : PH) : Prop := QM X a.1 a.2 h0 h'
theorem pend {X : XD} (P : PD) (k q : Nat) : ∃ o : (Nat × Nat) ⊕ (PD × Nat), (∀ h0 h, QC X P k q h0 h → ClS X h0 k o (clE (some (1, h)))) ∧ (∀ h0 h, QM X P q h0 h → ResN h0 o (QMa X h0) (f_X9_takeRule_270 0 h)) ∧ ∀ a, o = .inr a → a.1 = P ∧ q ≤ a.2 := by
  have e270 : ∀ h, f_X9_takeRule_270 0 h = bP (f_X9_takeStop h) (fun r281 h281 => some (r281, h281)) := fun h => by rw [f_X9_takeRule_270, if_pos (Int32.le_refl _)]
  cases hb : sgB X 59 q
  · refine ⟨.inl (1, q), fun h0 h s => ?_, fun h0 h s => ?_, fun a e => by cases e⟩
    · rcases c_needSign s.1 59 with ⟨-, h', e', t', f'⟩ | ⟨g, -⟩
      · exact ⟨h', fun K => by rw [clE, bP_some, if_neg (by decide), e', bP_some, if_pos rfl], f', s.2.2.on t'⟩
      · rw [hb] at g; cases g
    · rcases m_takeStop s.1 with ⟨-, h2, e2, t2, f2⟩ | ⟨g, -⟩
      · exact ⟨show 0 < 1 by decide, show 1 ≤ 4 by decide, h2, by rw [e270, e2, bP_some]; rfl, f2, s.2.2.on t2⟩
      · rw [hb] at g; cases g
  · refine ⟨.inr (P, nx X q), fun h0 h s => ?_, fun h0 h s => ?_, fun a e => ?_⟩
    · rcases c_needSign s.1 59 with ⟨g, -⟩ | ⟨-, h1, e1, t1, r1⟩
      · rw [hb] at g; cases g
      · exact ⟨h1, fun K => by rw [clE, bP_some, if_neg (by decide), e1, bP_some, if_neg (by decide)], s.t t1 r1⟩
    · rcases m_takeStop s.1 with ⟨g, -⟩ | ⟨-, h2, e2, t2, r2⟩
      · rw [hb] at g; cases g
      · exact ⟨h2, by rw [e270, e2, bP_some], s.t t2 r2⟩
    · cases e
      exact ⟨rfl, Nat.le_of_lt (nx_lt (sg_en hb).1)⟩
theorem ClS.fail {X : XD} {h0 : PH} {k b p : Nat} {res : Option (Int32 × PH)} (e : ∃ h', res = some (0, h') ∧ FC b p h' ∧ FcP h0 h') : ClS X h0 k (.inl (b, p)) (clE res) := by
  obtain ⟨h', e1, f, g⟩ := e
  exact ⟨h', fun K => by rw [clE, e1, bP_some, if_pos rfl], f, g⟩
theorem wfP_O {P : PD} (w : wfP P) {v : Int32} (h : bel v 4) : wfP (setO P v) := ⟨w.1, w.2.1, w.2.2.1, w.2.2.2.1, h⟩
theorem wfP_R {P : PD} (w : wfP P) {v : Int32} (h : v = -1 ∨ 0 ≤ v.toInt ∧ v.toInt ≤ 99) : wfP (setR P v) := ⟨w.1, w.2.1, h, w.2.2.2.1, w.2.2.2.2⟩
theorem wfP_W {P : PD} (w : wfP P) {v : Int32} (h : v = -1 ∨ 0 ≤ v.toInt ∧ v.toInt ≤ 99) : wfP (setW P v) := ⟨w.1, w.2.1, w.2.2.1, h, w.2.2.2.2⟩
theorem wfP_Z {P : PD} (w : wfP P) (h8 : P.1 < 8) {a b : Nat} (ha : a ≤ 999) (hb : b ≤ 999) : wfP (addZ P (nI a) (nI b)) := by
  refine ⟨show P.1 + 1 ≤ 8 by omega, fun j hj => ?_, w.2.2.1, w.2.2.2.1, w.2.2.2.2⟩
  have hj : j < P.1 + 1 := hj
  show 0 ≤ (upd P.2.1 P.1 (nI a) j).toInt ∧ (upd P.2.1 P.1 (nI a) j).toInt ≤ 999 ∧ 0 ≤ (upd P.2.2.1 P.1 (nI b) j).toInt ∧ (upd P.2.2.1 P.1 (nI b) j).toInt ≤ 999
  by_cases e : j = P.1
  · subst e; rw [upd_s, upd_s, nI_toInt (by omega), nI_toInt (by omega)]; omega
  · rw [upd_n _ _ e, upd_n _ _ e]; exact w.2.1 j (by omega)
