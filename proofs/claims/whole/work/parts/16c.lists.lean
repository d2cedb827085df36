/-! ===== a trunk's text: drafts, lists ===== -/
def DCt (T : TD) (h : PH) : Prop := h.1 13 0 = nI (tn T) ∧ h.1 13 6 = nI (tf T) ∧ (∀ c, c < tn T → h.1 14 c = setsM T c ∧ h.1 15 c = trd T c ∧ h.1 16 c = trk T c ∧ ∀ s, s < 16 → h.1 17 (16 * c + s) = tst T c s) ∧ (∀ c, c ≤ tn T → ∀ s, s < 16 → h.1 18 (16 * c + s) = ahd T c s) ∧ ∀ f, f < tf T → h.1 19 f = twt T f ∧ h.1 20 f = tfr T f ∧ h.1 21 f = ttl T f
def DMt (T : TD) (h : PH) : Prop := h.1 66 27 = nI (tn T) ∧ h.1 66 31 = nI (tf T) ∧ (∀ c, c < tn T → h.1 83 c = trd T c ∧ h.1 84 c = trk T c ∧ ∀ s, s < 16 → h.1 82 (16 * c + s) = tst T c s) ∧ ∀ f, f < tf T → h.1 85 f = twt T f ∧ h.1 86 f = tfr T f ∧ h.1 87 f = ttl T f
def IC (n : Nat) (m rd rk : Int32) (st : Nat → Int32) (h : PH) : Prop := h.1 14 n = m ∧ h.1 15 n = rd ∧ h.1 16 n = rk ∧ ∀ s, s < 16 → h.1 17 (16 * n + s) = st s
def IM (n : Nat) (rd rk : Int32) (st : Nat → Int32) (h : PH) : Prop := h.1 83 n = rd ∧ h.1 84 n = rk ∧ ∀ s, s < 16 → h.1 82 (16 * n + s) = st s
def FrC (h0 h : PH) : Prop := (∀ k, k ≠ 3 → ¬ (13 ≤ k ∧ k ≤ 21) → h.1 k = h0.1 k) ∧ ∀ s, s < 16 → h.1 18 s = h0.1 18 s
def rS (i : Nat) : Bool := tS i || i == 27 || i == 31 || i == 35
def FrM (h0 h : PH) : Prop := (∀ k, k ≠ 66 → ¬ (82 ≤ k ∧ k ≤ 87) → h.1 k = h0.1 k) ∧ ∀ i, rS i = false → h.1 66 i = h0.1 66 i
theorem FrC.tC {h0 h h' : PH} (f : FrC h0 h) (t : tC h h') : FrC h0 h' := ⟨fun k h1 h2 => (t.1 k h1).trans (f.1 k h1 h2), fun s hs => by rw [t.1 18 (by decide)]; exact f.2 s hs⟩
theorem FrC.u {h0 h : PH} (f : FrC h0 h) {V : Nat} (k : Nat) (v : Int32) (hV : 13 ≤ V ∧ V ≤ 21 ∧ V ≠ 18) : FrC h0 (hU h V k v) := ⟨fun j h1 h2 => (hU_n _ _ _ (by omega)).trans (f.1 j h1 h2), fun s hs => by rw [hU_n _ _ _ (by omega)]; exact f.2 s hs⟩
theorem tS_r {i : Nat} (h : rS i = false) : tS i = false := by
  unfold rS at h
  cases hh : tS i
  · rfl
  · rw [hh] at h; cases h
theorem FrM.tM {h0 h h' : PH} (f : FrM h0 h) (t : tM h h') : FrM h0 h' := ⟨fun k h1 h2 => (t.1 k h1).trans (f.1 k h1 h2), fun i hi => (t.2 i (tS_r hi)).trans (f.2 i hi)⟩
theorem FrM.u {h0 h : PH} (f : FrM h0 h) {V : Nat} (k : Nat) (v : Int32) (hV : 82 ≤ V ∧ V ≤ 87) : FrM h0 (hU h V k v) := ⟨fun j h1 h2 => (hU_n _ _ _ (by omega)).trans (f.1 j h1 h2), fun i hi => by rw [hU_n _ _ _ (by omega)]; exact f.2 i hi⟩
theorem FrM.u66 {h0 h : PH} (f : FrM h0 h) {k : Nat} (v : Int32) (hk : rS k = true) : FrM h0 (hU h 66 k v) := ⟨fun j h1 h2 => (hU_n _ _ _ h1).trans (f.1 j h1 h2), fun i hi => by rw [hU_s, upd_n _ _ (fun e => by rw [e, hk] at hi; cases hi)]; exact f.2 i hi⟩
theorem DCt.keep {T : TD} {h h' : PH} (d : DCt T h) (e13 : h'.1 13 = h.1 13) (e14 : ∀ c, c < tn T → h'.1 14 c = h.1 14 c ∧ h'.1 15 c = h.1 15 c ∧ h'.1 16 c = h.1 16 c) (e17 : ∀ j, j < 16 * tn T → h'.1 17 j = h.1 17 j) (e18 : ∀ j, j < 16 * (tn T + 1) → h'.1 18 j = h.1 18 j) (e19 : ∀ f, f < tf T → h'.1 19 f = h.1 19 f ∧ h'.1 20 f = h.1 20 f ∧ h'.1 21 f = h.1 21 f) : DCt T h' := by
  obtain ⟨d0, d6, d1, d2, d3⟩ := d
  refine ⟨by rw [e13]; exact d0, by rw [e13]; exact d6, fun c hc => ?_, fun c hc s hs => (e18 _ (by omega)).trans (d2 c hc s hs), fun f hf => ?_⟩
  · obtain ⟨a, b, cc⟩ := e14 c hc
    obtain ⟨q1, q2, q3, q4⟩ := d1 c hc
    exact ⟨a.trans q1, b.trans q2, cc.trans q3, fun s hs => (e17 _ (by omega)).trans (q4 s hs)⟩
  · obtain ⟨a, b, cc⟩ := e19 f hf
    obtain ⟨q1, q2, q3⟩ := d3 f hf
    exact ⟨a.trans q1, b.trans q2, cc.trans q3⟩
theorem DCt.tC {T : TD} {h h' : PH} (d : DCt T h) (t : tC h h') : DCt T h' := by
  unfold DCt at d ⊢
  rw [t.1 13 (by decide), t.1 14 (by decide), t.1 15 (by decide), t.1 16 (by decide), t.1 17 (by decide), t.1 18 (by decide), t.1 19 (by decide), t.1 20 (by decide), t.1 21 (by decide)]
  exact d
theorem IC.tC {n : Nat} {m rd rk : Int32} {st : Nat → Int32} {h h' : PH} (d : IC n m rd rk st h) (t : tC h h') : IC n m rd rk st h' := by
  unfold IC at d ⊢
  rw [t.1 14 (by decide), t.1 15 (by decide), t.1 16 (by decide), t.1 17 (by decide)]
  exact d
theorem DMt.keep {T : TD} {h h' : PH} (d : DMt T h) (e27 : h'.1 66 27 = h.1 66 27) (e31 : h'.1 66 31 = h.1 66 31) (e83 : ∀ c, c < tn T → h'.1 83 c = h.1 83 c ∧ h'.1 84 c = h.1 84 c) (e82 : ∀ j, j < 16 * tn T → h'.1 82 j = h.1 82 j) (e85 : ∀ f, f < tf T → h'.1 85 f = h.1 85 f ∧ h'.1 86 f = h.1 86 f ∧ h'.1 87 f = h.1 87 f) : DMt T h' := by
  obtain ⟨d0, d6, d1, d3⟩ := d
  refine ⟨e27.trans d0, e31.trans d6, fun c hc => ?_, fun f hf => ?_⟩
  · obtain ⟨a, b⟩ := e83 c hc
    obtain ⟨q1, q2, q3⟩ := d1 c hc
    exact ⟨a.trans q1, b.trans q2, fun s hs => (e82 _ (by omega)).trans (q3 s hs)⟩
  · obtain ⟨a, b, cc⟩ := e85 f hf
    obtain ⟨q1, q2, q3⟩ := d3 f hf
    exact ⟨a.trans q1, b.trans q2, cc.trans q3⟩
theorem DMt.tM {T : TD} {h h' : PH} (d : DMt T h) (t : tM h h') : DMt T h' := d.keep (t.2 27 rfl) (t.2 31 rfl) (fun c _ => by rw [t.1 83 (by decide), t.1 84 (by decide)]; exact ⟨rfl, rfl⟩) (fun j _ => by rw [t.1 82 (by decide)]) (fun f _ => by rw [t.1 85 (by decide), t.1 86 (by decide), t.1 87 (by decide)]; exact ⟨rfl, rfl, rfl⟩)
theorem IM.tM {n : Nat} {rd rk : Int32} {st : Nat → Int32} {h h' : PH} (d : IM n rd rk st h) (t : tM h h') : IM n rd rk st h' := by
  unfold IM at d ⊢
  rw [t.1 82 (by decide), t.1 83 (by decide), t.1 84 (by decide)]
  exact d
/-- the class within a change; the model within a change -/
def SC (X : XD) (T : TD) (m rd rk : Int32) (st : Nat → Int32) (q : Nat) (h0 h : PH) : Prop := RD X 2 q h ∧ DCt T h ∧ IC (tn T) m rd rk st h ∧ FrC h0 h
def SM (X : XD) (T : TD) (rd rk : Int32) (st : Nat → Int32) (q : Nat) (h0 h : PH) : Prop := PM X 2 q h ∧ DMt T h ∧ IM (tn T) rd rk st h ∧ FrM h0 h
theorem SC.t {X : XD} {T : TD} {m rd rk : Int32} {st : Nat → Int32} {q q' : Nat} {h0 h h' : PH} (s : SC X T m rd rk st q h0 h) (t : tC h h') (r : RD X 2 q' h') : SC X T m rd rk st q' h0 h' := ⟨r, s.2.1.tC t, s.2.2.1.tC t, s.2.2.2.tC t⟩
theorem SM.t {X : XD} {T : TD} {rd rk : Int32} {st : Nat → Int32} {q q' : Nat} {h0 h h' : PH} (s : SM X T rd rk st q h0 h) (t : tM h h') (r : PM X 2 q' h') : SM X T rd rk st q' h0 h' := ⟨r, s.2.1.tM t, s.2.2.1.tM t, s.2.2.2.tM t⟩
/-- what comes of a piece of text: a breach (which, where), or what was read -/
def ResC {α : Type} (h0 : PH) (o : (Nat × Nat) ⊕ α) (P : α → PH → Prop) (res : Option (Int32 × PH)) : Prop := match o with
  | .inl bp => ∃ h', res = some (0, h') ∧ FC bp.1 bp.2 h' ∧ FrC h0 h'
  | .inr a => ∃ h', res = some (1, h') ∧ P a h'
def ResM {α : Type} (h0 : PH) (o : (Nat × Nat) ⊕ α) (P : α → PH → Prop) (res : Option (Int32 × PH)) : Prop := match o with
  | .inl bp => 0 < bp.1 ∧ bp.1 ≤ 4 ∧ ∃ h', res = some (nI bp.1, h') ∧ h'.1 66 20 = nI bp.2 ∧ FrM h0 h'
  | .inr a => ∃ h', res = some (0, h') ∧ P a h'
theorem ft_le (X : XD) (fig q : Nat) (lo hi : Int32) : ft X fig q lo hi ≤ 2 := by
  unfold ft
  split
  · split <;> omega
  · omega
theorem ft_nv {X : XD} {fig q : Nat} {lo hi : Int32} (h : ft X fig q lo hi = 0) : kn X q = 2 ∧ lo.toInt ≤ (nv X q : Int) ∧ (nv X q : Int) ≤ hi.toInt ∧ nv X q < 1000 := by
  unfold ft at h
  split at h
  · rename_i h2
    split at h
    · rename_i h3
      exact ⟨h2, h3.2.1, h3.2.2, nv_b h2⟩
    · cases h
  · cases h
/-- a set's next number in the model -/
theorem m_takeSlot {X : XD} {q : Nat} {h : PH} (r : PM X 2 q h) {m : Int32} (e35 : h.1 66 35 = m) : (ft X 2 q 0 15 = 0 ∧ bt m (nv X q) = false ∧ ∃ h1, tM h h1 ∧ PM X 2 (nx X q) h1 ∧ h1.1 66 25 = nI (nv X q) ∧ f_X9_takeSlot h = some ((0 : Int32), hU h1 66 35 (m ||| (1 <<< (nI (nv X q) &&& 31))))) ∨ (ft X 2 q 0 15 = 0 ∧ bt m (nv X q) = true ∧ ∃ h1 v, f_X9_takeSlot h = some ((4 : Int32), hU h1 66 35 v) ∧ tM h h1 ∧ h1.1 66 20 = nI q) ∨ (¬ ft X 2 q 0 15 = 0 ∧ ∃ h1 v, f_X9_takeSlot h = some (nI (ft X 2 q 0 15), hU h1 66 35 v) ∧ tM h h1 ∧ h1.1 66 20 = nI q) := by
  have fl := ft_le X 2 q 0 15
  rcases m_takeNumber r (by omega) 0 15 with ⟨f0, h1, e1, t1, r1, s25, s26⟩ | ⟨f0, h1, e1, t1, s20⟩
  · have nvb := (ft_nv f0).2.2.1
    rw [show (15 : Int32).toInt = 15 from rfl] at nvb
    have e351 : h1.1 66 35 = m := (t1.2 35 rfl).trans e35
    cases hb : bt m (nv X q)
    · refine Or.inl ⟨f0, rfl, h1, t1, r1, s25, ?_⟩
      rw [f_X9_takeSlot, e1, bP_some, if_pos rfl, e351, s25, has9 _ (by omega), bO_some, hb, if_pos (by decide), f_X9_takeSlot_36, if_pos (by decide), f_X9_takeSlot_55, lt'_eq, e351, s25]
    · obtain ⟨h2, e2, t2, f2⟩ := m_breaks 4 q h1
      have e2 : f_X9_breaks 4 (nI q) h1 = some (4, h2) := e2
      refine Or.inr (Or.inl ⟨f0, rfl, h2, h2.1 66 35 ||| 0, ?_, t1.tr t2, f2⟩)
      rw [f_X9_takeSlot, e1, bP_some, if_pos rfl, e351, s25, has9 _ (by omega), bO_some, hb, if_neg (by decide), s26, e2, bP_some, f_X9_takeSlot_36, if_neg (by decide), f_X9_takeSlot_55, lt'_eq]
  · refine Or.inr (Or.inr ⟨f0, h1, h1.1 66 35 ||| 0, ?_, t1, s20⟩)
    rw [f_X9_takeSlot, e1, bP_some, if_neg (nI_ne0 (by omega) (by omega)), f_X9_takeSlot_36, if_neg (nI_nle (by omega) (by omega)), f_X9_takeSlot_55, lt'_eq]
theorem frm_brk {h0 h h1 : PH} (f : FrM h0 h) (t : tM h h1) (v : Int32) {p : Nat} (e : h1.1 66 20 = nI p) : (hU h1 66 35 v).1 66 20 = nI p ∧ FrM h0 (hU h1 66 35 v) := ⟨by rw [hU_s, upd_n _ _ (by decide)]; exact e, (f.tM t).u66 v rfl⟩
theorem SM.u35 {X : XD} {T : TD} {rd rk : Int32} {st : Nat → Int32} {q : Nat} {h0 h : PH} (s : SM X T rd rk st q h0 h) (v : Int32) : SM X T rd rk st q h0 (hU h 66 35 v) := ⟨s.1.k (hU_n _ _ _ (by decide)) (fun i h1 h2 => by rw [hU_s, upd_n _ _ (by omega)]), s.2.1.keep (by rw [hU_s, upd_n _ _ (by decide)]) (by rw [hU_s, upd_n _ _ (by decide)]) (fun c _ => by rw [hU_n _ _ _ (by decide), hU_n _ _ _ (by decide)]; exact ⟨rfl, rfl⟩) (fun j _ => by rw [hU_n _ _ _ (by decide)]) (fun f _ => by rw [hU_n _ _ _ (by decide), hU_n _ _ _ (by decide), hU_n _ _ _ (by decide)]; exact ⟨rfl, rfl, rfl⟩), by
  have d := s.2.2.1
  unfold IM at d ⊢
  rw [hU_n _ _ _ (by decide), hU_n _ _ _ (by decide), hU_n _ _ _ (by decide)]; exact d, s.2.2.2.u66 v rfl⟩
def setOK (m : Int32) (st : Nat → Int32) : Prop := bel m 16 ∧ (∀ s, s < 16 → bt m s = !decide (st s ≤ 0)) ∧ ∀ s, 0 ≤ (st s).toInt ∧ (st s).toInt ≤ 99
theorem pc_full {m : Int32} : ∀ k, pc m k = k → ∀ j, j < k → bt m j = true := by
  intro k
  induction k with
  | zero => intro _ j hj; exact absurd hj (Nat.not_lt_zero j)
  | succ k ih =>
    intro h j hj
    have hl := pc_le m k
    rw [pc] at h
    by_cases hb : bt m k = true
    · rw [if_pos hb] at h
      by_cases e : j = k
      · subst e; exact hb
      · exact ih (by omega) j (by omega)
    · rw [if_neg hb] at h; omega
theorem L_sets {X : XD} {T : TD} (hn : tn T < 24) {rd rk : Int32} : ∀ d k m st q, d + k = 16 → pc m 16 = k → setOK m st → ∃ o : (Nat × Nat) ⊕ (Int32 × (Nat → Int32) × Nat), (∀ h0 h n1, d < n1 → SC X T m rd rk st q h0 h → ResC h0 o (fun a h' => SC X T a.1 rd rk a.2.1 a.2.2 h0 h') (f_X7_readSettings_2 13 (nI (tn T)) n1 (nI k) h)) ∧ (∀ h0 h n2, d + 1 < n2 → SM X T rd rk st q h0 h → h.1 66 35 = m → ResM h0 o (fun a h' => SM X T rd rk a.2.1 a.2.2 h0 h') (f_X9_takeSets_7 (nI (tn T)) n2 1 h)) ∧ ∀ a, o = .inr a → setOK a.1 a.2.1 ∧ q ≤ a.2.2 := by
  intro d
  induction d with
  | zero =>
    intro k m st q hd hk hok
    have hk16 : k = 16 := by omega
    subst hk16
    have full := pc_full 16 hk
    by_cases f0 : ft X 2 q 0 15 = 0
    · have nvb := (ft_nv f0).2.2.1
      rw [show (15 : Int32).toInt = 15 from rfl] at nvb
      have hb := full (nv X q) (by omega)
      refine ⟨.inl (4, q), fun h0 h n1 hn1 s => ?_, fun h0 h n2 hn2 s e35 => ?_, fun a e => by cases e⟩
      · cases n1 with
        | zero => omega
        | succ n1 =>
          have a1 : ag h (13 + 1) 24 (nI (tn T)) = some m := by rw [ag_nI _ _ (by omega) (by omega)]; exact congrArg some s.2.2.1.1
          rcases c_needNew s.1 (by omega) (n := 15) (by omega) m with ⟨g0, g1, g2, -⟩ | ⟨g0, g1, g2, h', e', t', f'⟩ | ⟨g0, -⟩
          · rw [hb] at g2; cases g2
          · have e' : f_X3_needNew 0 15 m h = some (-1, h') := e'
            refine ⟨h', ?_, f', s.2.2.2.tC t'⟩
            rw [f_X7_readSettings_2, if_neg (by decide), a1, bO_some, e', bP_some, if_pos rfl]
          · exact absurd f0 g0
      · cases n2 with
        | zero => omega
        | succ n2 =>
          rcases m_takeSlot s.1 e35 with ⟨g0, g2, -⟩ | ⟨g0, g2, h1, v, e1, t1, f1⟩ | ⟨g0, -⟩
          · rw [hb] at g2; cases g2
          · obtain ⟨b1, b2⟩ := frm_brk s.2.2.2 t1 v f1
            refine ⟨show 0 < 4 by decide, show 4 ≤ 4 by decide, _, ?_, b1, b2⟩
            rw [f_X9_takeSets_7, if_neg (by decide), e1, bP_some, lt'_eq, if_neg (by decide), f_X9_takeSets_37, if_neg (by decide)]
            rfl
          · exact absurd f0 g0
    · have fl := ft_le X 2 q 0 15
      refine ⟨.inl (ft X 2 q 0 15, q), fun h0 h n1 hn1 s => ?_, fun h0 h n2 hn2 s e35 => ?_, fun a e => by cases e⟩
      · cases n1 with
        | zero => omega
        | succ n1 =>
          have a1 : ag h (13 + 1) 24 (nI (tn T)) = some m := by rw [ag_nI _ _ (by omega) (by omega)]; exact congrArg some s.2.2.1.1
          rcases c_needNew s.1 (by omega) (n := 15) (by omega) m with ⟨g0, -⟩ | ⟨g0, -⟩ | ⟨g0, h', e', t', f'⟩
          · exact absurd g0 f0
          · exact absurd g0 f0
          · have e' : f_X3_needNew 0 15 m h = some (-1, h') := e'
            refine ⟨h', ?_, f', s.2.2.2.tC t'⟩
            rw [f_X7_readSettings_2, if_neg (by decide), a1, bO_some, e', bP_some, if_pos rfl]
      · cases n2 with
        | zero => omega
        | succ n2 =>
          rcases m_takeSlot s.1 e35 with ⟨g0, -⟩ | ⟨g0, -⟩ | ⟨g0, h1, v, e1, t1, f1⟩
          · exact absurd g0 f0
          · exact absurd g0 f0
          · obtain ⟨b1, b2⟩ := frm_brk s.2.2.2 t1 v f1
            refine ⟨by show 0 < ft X 2 q 0 15; omega, by show ft X 2 q 0 15 ≤ 4; omega, _, ?_, b1, b2⟩
            rw [f_X9_takeSets_7, if_neg (by decide), e1, bP_some, lt'_eq, if_neg (nI_nle (by omega) (by omega)), f_X9_takeSets_37, if_neg (nI_nle (by omega) (by omega))]
  | succ d ih =>
    intro k m st q hd hk hok
    have fl := ft_le X 2 q 0 15
    have hk17 : ¬ (16 : Int32) < nI k := by rw [show (16 : Int32) = nI 16 from rfl, ltN (by omega) (by omega)]; omega
    by_cases f0 : ft X 2 q 0 15 = 0
    · have nvb := (ft_nv f0).2.2.1
      rw [show (15 : Int32).toInt = 15 from rfl] at nvb
      cases hb : bt m (nv X q)
      · -- a new slot: its value
        generalize hsv : nv X q = sv at hb nvb
        have fl2 := ft_le X 2 (nx X q) 1 99
        by_cases f1 : ft X 2 (nx X q) 1 99 = 0
        · have nvc := ft_nv f1
          rw [show (1 : Int32).toInt = 1 from rfl, show (99 : Int32).toInt = 99 from rfl] at nvc
          generalize hvv : nv X (nx X q) = vv at nvc
          generalize hm' : m ||| (1 <<< (nI sv &&& 31)) = m'
          have hok' : setOK m' (upd st sv (nI vv)) := by
            obtain ⟨o1, o2, o3⟩ := hok
            refine ⟨by rw [← hm']; exact bel_or o1 (bel_one (by omega) (by omega)), fun s hs => ?_, fun s => ?_⟩
            · rw [← hm', bt_or, bt_one sv (by omega) s (by omega), o2 s hs]
              by_cases e : s = sv
              · subst e
                rw [upd_s, decide_eq_true (show s = s from rfl), Bool.or_true, decide_eq_false (nI_nle (by omega) (by omega))]; rfl
              · rw [upd_n _ _ e, decide_eq_false e, Bool.or_false]
            · by_cases e : s = sv
              · subst e; rw [upd_s, nI_toInt (by omega)]; omega
              · rw [upd_n _ _ e]; exact o3 s
          have hpc' : pc m' 16 = k + 1 := by rw [← hm', pc_one (by omega) hb 16 (by omega), hk, if_pos (by omega)]
          -- both sides up to the comma
          have cside : ∀ h0 h, SC X T m rd rk st q h0 h → ∃ h', SC X T m' rd rk (upd st sv (nI vv)) (nx X (nx X q)) h0 h' ∧ ∀ n1, f_X7_readSettings_2 13 (nI (tn T)) (n1 + 1) (nI k) h = bP (f_X3_takeSign 44 h') (fun r78 h78 => if r78 = 0 then (some (1, h78)) else (f_X7_readSettings_2 13 (nI (tn T)) n1) (nI (k + 1)) h78) := fun h0 h s => by
            have a1 : ag h (13 + 1) 24 (nI (tn T)) = some m := by rw [ag_nI _ _ (by omega) (by omega)]; exact congrArg some s.2.2.1.1
            rcases c_needNew s.1 (by omega) (n := 15) (by omega) m with ⟨g0, g1, g2, h1, e1, t1, r1⟩ | ⟨g0, g1, g2, -⟩ | ⟨g0, -⟩
            · have e1 : f_X3_needNew 0 15 m h = some (nI sv, h1) := by rw [← hsv]; exact e1
              have s1 := s.t t1 r1
              rcases c_needNumber r1 (by omega) 1 99 with ⟨j0, h2, e2, t2, r2⟩ | ⟨j0, -⟩
              · rw [hvv] at e2
                have s2 := s1.t t2 r2
                obtain ⟨i1, i2, i3, i4⟩ := s2.2.2.1
                have a2 : ag h2 (13 + 1) 24 (nI (tn T)) = some m := by rw [ag_nI _ _ (by omega) (by omega)]; exact congrArg some i1
                have a3 : asg h2 (13 + 1) 24 (nI (tn T)) m' = some (hU h2 14 (tn T) m') := asg_nI h2 14 _ (by omega) (by omega)
                have a4 : asg (hU h2 14 (tn T) m') (13 + 4) 384 (nI (16 * tn T + sv)) (nI vv) = some (hU (hU h2 14 (tn T) m') 17 (16 * tn T + sv) (nI vv)) := asg_nI _ 17 _ (by omega) (by omega)
                refine ⟨hU (hU h2 14 (tn T) m') 17 (16 * tn T + sv) (nI vv), ⟨r2.k3 rfl rfl rfl, s2.2.1.keep rfl (fun c hc => ⟨?_, rfl, rfl⟩) (fun j hj => ?_) (fun _ _ => rfl) (fun _ _ => ⟨rfl, rfl, rfl⟩), ⟨?_, i2, i3, fun s' hs' => ?_⟩, (s2.2.2.2.u _ _ (by omega)).u _ _ (by omega)⟩, fun n1 => ?_⟩
                · show upd (h2.1 14) (tn T) m' c = _
                  rw [upd_n _ _ (by omega)]
                · show upd (h2.1 17) (16 * tn T + sv) (nI vv) j = _
                  rw [upd_n _ _ (by omega)]
                · show upd (h2.1 14) (tn T) m' (tn T) = _
                  rw [upd_s]
                · show upd (h2.1 17) (16 * tn T + sv) (nI vv) (16 * tn T + s') = upd st sv (nI vv) s'
                  by_cases e : s' = sv
                  · subst e; rw [upd_s, upd_s]
                  · rw [upd_n _ _ (by omega), upd_n _ _ e]; exact i4 s' hs'
                · rw [f_X7_readSettings_2, if_neg hk17, a1, bO_some, e1, bP_some, if_neg (nI_ne_m1 (by omega)), e2, bP_some, if_neg (nI_ne_m1 (by omega)), a2, bO_some, hm', a3, bO_some, ixC, a4, bO_some, nI1]
              · exact absurd f1 j0
            · rw [hsv, hb] at g2; cases g2
            · exact absurd f0 g0
          have mside : ∀ h0 h, SM X T rd rk st q h0 h → h.1 66 35 = m → ∃ h', SM X T rd rk (upd st sv (nI vv)) (nx X (nx X q)) h0 h' ∧ h'.1 66 35 = m' ∧ ∀ n2, f_X9_takeSets_7 (nI (tn T)) (n2 + 1) 1 h = bP (f_X9_isComma h') (fun r61 h61 => f_X9_takeSets_7 (nI (tn T)) n2 r61 h61) := fun h0 h s e35 => by
            rcases m_takeSlot s.1 e35 with ⟨g0, g2, h1, t1, r1, s25, e1⟩ | ⟨g0, g2, -⟩ | ⟨g0, -⟩
            · rw [hsv, hm'] at e1
              rw [hsv] at s25
              have s1 := (s.t t1 r1).u35 m'
              rcases m_takeNumber s1.1 (by omega) 1 99 with ⟨j0, h2, e2, t2, r2, s252, -⟩ | ⟨j0, -⟩
              · rw [hvv] at s252
                have s2 := s1.t t2 r2
                obtain ⟨i1, i2, i3⟩ := s2.2.2.1
                have e35' : h2.1 66 35 = m' := by rw [t2.2 35 rfl, hU_s, upd_s]
                have a4 : asg h2 82 384 (nI (16 * tn T + sv)) (nI vv) = some (hU h2 82 (16 * tn T + sv) (nI vv)) := asg_nI _ 82 _ (by omega) (by omega)
                refine ⟨hU h2 82 (16 * tn T + sv) (nI vv), ⟨r2.k rfl (fun _ _ _ => rfl), s2.2.1.keep rfl rfl (fun c hc => ⟨rfl, rfl⟩) (fun j hj => ?_) (fun _ _ => ⟨rfl, rfl, rfl⟩), ⟨i1, i2, fun s' hs' => ?_⟩, s2.2.2.2.u _ _ (by omega)⟩, e35', fun n2 => ?_⟩
                · show upd (h2.1 82) (16 * tn T + sv) (nI vv) j = _
                  rw [upd_n _ _ (by omega)]
                · show upd (h2.1 82) (16 * tn T + sv) (nI vv) (16 * tn T + s') = upd st sv (nI vv) s'
                  by_cases e : s' = sv
                  · subst e; rw [upd_s, upd_s]
                  · rw [upd_n _ _ (by omega), upd_n _ _ e]; exact i3 s' hs'
                · rw [f_X9_takeSets_7, if_neg (by decide), e1, bP_some, lt'_eq, hU_s, upd_n _ _ (show 25 ≠ 35 by decide), s25, if_pos (by decide), e2, bP_some, f_X9_takeSets_37, if_pos (by decide), ixM, s252, a4, bO_some]
              · exact absurd f1 j0
            · rw [hsv, hb] at g2; cases g2
            · exact absurd f0 g0
          cases hc : sgB X 44 (nx X (nx X q))
          · -- the list ends
            refine ⟨.inr (m', upd st sv (nI vv), nx X (nx X q)), fun h0 h n1 hn1 s => ?_, fun h0 h n2 hn2 s e35 => ?_, fun a e => ?_⟩
            · cases n1 with
              | zero => omega
              | succ n1 =>
                obtain ⟨h', s', e'⟩ := cside h0 h s
                rcases c_takeSign s'.1 44 with ⟨-, e2⟩ | ⟨g, -⟩
                · exact ⟨h', by rw [e' n1, e2, bP_some, if_pos rfl], s'⟩
                · rw [hc] at g; cases g
            · cases n2 with
              | zero => omega
              | succ n2 =>
                cases n2 with
                | zero => omega
                | succ n2 =>
                  obtain ⟨h', s', e35', e'⟩ := mside h0 h s e35
                  obtain ⟨h2, e2, t2, r2⟩ := m_isComma s'.1
                  rw [hc] at e2 r2
                  rw [if_neg (by decide)] at r2
                  exact ⟨h2, by rw [e' (n2 + 1), e2, bP_some, f_X9_takeSets_7, if_pos (show b01 false = 0 from rfl)], s'.t t2 r2⟩
            · cases e
              refine ⟨hok', ?_⟩
              have hqN : q ≤ X.1 := Nat.le_of_lt (kn_lt (by have := (ft_nv f0).1; omega))
              have n1 := nx_le hqN
              have n2 := nx_le n1.2.1
              exact Nat.le_trans n1.1 n2.1
          · -- it goes on
            obtain ⟨o, oC, oM, oI⟩ := ih (k + 1) m' (upd st sv (nI vv)) (nx X (nx X (nx X q))) (by omega) hpc' hok'
            refine ⟨o, fun h0 h n1 hn1 s => ?_, fun h0 h n2 hn2 s e35 => ?_, fun a e => ?_⟩
            · cases n1 with
              | zero => omega
              | succ n1 =>
                obtain ⟨h', s', e'⟩ := cside h0 h s
                rcases c_takeSign s'.1 44 with ⟨g, -⟩ | ⟨-, h2, e2, t2, r2⟩
                · rw [hc] at g; cases g
                · rw [e' n1, e2, bP_some, if_neg (by decide)]
                  exact oC h0 h2 n1 (by omega) (s'.t t2 r2)
            · cases n2 with
              | zero => omega
              | succ n2 =>
                obtain ⟨h', s', e35', e'⟩ := mside h0 h s e35
                obtain ⟨h2, e2, t2, r2⟩ := m_isComma s'.1
                rw [hc] at e2 r2
                rw [if_pos rfl] at r2
                rw [e' n2, e2, bP_some]
                exact oM h0 h2 n2 (by omega) (s'.t t2 r2) ((t2.2 35 rfl).trans e35')
            · obtain ⟨a1, a2⟩ := oI a e
              refine ⟨a1, ?_⟩
              have hqN : q ≤ X.1 := Nat.le_of_lt (kn_lt (by have := (ft_nv f0).1; omega))
              have n1 := nx_le hqN
              have n2 := nx_le n1.2.1
              have n3 := nx_le n2.2.1
              omega
        · -- a bad value
          refine ⟨.inl (ft X 2 (nx X q) 1 99, nx X q), fun h0 h n1 hn1 s => ?_, fun h0 h n2 hn2 s e35 => ?_, fun a e => by cases e⟩
          · cases n1 with
            | zero => omega
            | succ n1 =>
              have a1 : ag h (13 + 1) 24 (nI (tn T)) = some m := by rw [ag_nI _ _ (by omega) (by omega)]; exact congrArg some s.2.2.1.1
              rcases c_needNew s.1 (by omega) (n := 15) (by omega) m with ⟨g0, g1, g2, h1, e1, t1, r1⟩ | ⟨g0, g1, g2, -⟩ | ⟨g0, -⟩
              · have e1 : f_X3_needNew 0 15 m h = some (nI sv, h1) := by rw [← hsv]; exact e1
                rcases c_needNumber r1 (by omega) 1 99 with ⟨j0, -⟩ | ⟨j0, h2, e2, t2, f2⟩
                · exact absurd j0 f1
                · refine ⟨h2, ?_, f2, (s.2.2.2.tC t1).tC t2⟩
                  rw [f_X7_readSettings_2, if_neg hk17, a1, bO_some, e1, bP_some, if_neg (nI_ne_m1 (by omega)), e2, bP_some, if_pos rfl]
              · rw [hsv, hb] at g2; cases g2
              · exact absurd f0 g0
          · cases n2 with
            | zero => omega
            | succ n2 =>
              rcases m_takeSlot s.1 e35 with ⟨g0, g2, h1, t1, r1, s25, e1⟩ | ⟨g0, g2, -⟩ | ⟨g0, -⟩
              · have s1 := (s.t t1 r1).u35 (m ||| (1 <<< (nI (nv X q) &&& 31)))
                rcases m_takeNumber s1.1 (by omega) 1 99 with ⟨j0, -⟩ | ⟨j0, h2, e2, t2, f2⟩
                · exact absurd j0 f1
                · refine ⟨by show 0 < ft X 2 (nx X q) 1 99; omega, by show ft X 2 (nx X q) 1 99 ≤ 4; omega, h2, ?_, f2, s1.2.2.2.tM t2⟩
                  rw [f_X9_takeSets_7, if_neg (by decide), e1, bP_some, lt'_eq, if_pos (by decide), e2, bP_some, f_X9_takeSets_37, if_neg (nI_nle (by omega) (by omega))]
              · rw [hsv, hb] at g2; cases g2
              · exact absurd f0 g0
      · -- told again
        refine ⟨.inl (4, q), fun h0 h n1 hn1 s => ?_, fun h0 h n2 hn2 s e35 => ?_, fun a e => by cases e⟩
        · cases n1 with
          | zero => omega
          | succ n1 =>
            have a1 : ag h (13 + 1) 24 (nI (tn T)) = some m := by rw [ag_nI _ _ (by omega) (by omega)]; exact congrArg some s.2.2.1.1
            rcases c_needNew s.1 (by omega) (n := 15) (by omega) m with ⟨g0, g1, g2, -⟩ | ⟨g0, g1, g2, h', e', t', f'⟩ | ⟨g0, -⟩
            · rw [hb] at g2; cases g2
            · have e' : f_X3_needNew 0 15 m h = some (-1, h') := e'
              refine ⟨h', ?_, f', s.2.2.2.tC t'⟩
              rw [f_X7_readSettings_2, if_neg hk17, a1, bO_some, e', bP_some, if_pos rfl]
            · exact absurd f0 g0
        · cases n2 with
          | zero => omega
          | succ n2 =>
            rcases m_takeSlot s.1 e35 with ⟨g0, g2, -⟩ | ⟨g0, g2, h1, v, e1, t1, f1⟩ | ⟨g0, -⟩
            · rw [hb] at g2; cases g2
            · obtain ⟨b1, b2⟩ := frm_brk s.2.2.2 t1 v f1
              refine ⟨show 0 < 4 by decide, show 4 ≤ 4 by decide, _, ?_, b1, b2⟩
              rw [f_X9_takeSets_7, if_neg (by decide), e1, bP_some, lt'_eq, if_neg (by decide), f_X9_takeSets_37, if_neg (by decide)]
              rfl
            · exact absurd f0 g0
    · refine ⟨.inl (ft X 2 q 0 15, q), fun h0 h n1 hn1 s => ?_, fun h0 h n2 hn2 s e35 => ?_, fun a e => by cases e⟩
      · cases n1 with
        | zero => omega
        | succ n1 =>
          have a1 : ag h (13 + 1) 24 (nI (tn T)) = some m := by rw [ag_nI _ _ (by omega) (by omega)]; exact congrArg some s.2.2.1.1
          rcases c_needNew s.1 (by omega) (n := 15) (by omega) m with ⟨g0, -⟩ | ⟨g0, -⟩ | ⟨g0, h', e', t', f'⟩
          · exact absurd g0 f0
          · exact absurd g0 f0
          · have e' : f_X3_needNew 0 15 m h = some (-1, h') := e'
            refine ⟨h', ?_, f', s.2.2.2.tC t'⟩
            rw [f_X7_readSettings_2, if_neg hk17, a1, bO_some, e', bP_some, if_pos rfl]
      · cases n2 with
        | zero => omega
        | succ n2 =>
          rcases m_takeSlot s.1 e35 with ⟨g0, -⟩ | ⟨g0, -⟩ | ⟨g0, h1, v, e1, t1, f1⟩
          · exact absurd g0 f0
          · exact absurd g0 f0
          · obtain ⟨b1, b2⟩ := frm_brk s.2.2.2 t1 v f1
            refine ⟨by show 0 < ft X 2 q 0 15; omega, by show ft X 2 q 0 15 ≤ 4; omega, _, ?_, b1, b2⟩
            rw [f_X9_takeSets_7, if_neg (by decide), e1, bP_some, lt'_eq, if_neg (nI_nle (by omega) (by omega)), f_X9_takeSets_37, if_neg (nI_nle (by omega) (by omega))]
