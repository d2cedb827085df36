/-! ===== a trunk's text: a change ===== -/
theorem SC.row {X : XD} {T : TD} {m rd rk : Int32} {st : Nat → Int32} {q : Nat} {h0 h : PH} (s : SC X T m rd rk st q h0 h) (v : Int32) : SC X T m v rk st q h0 (hU h 15 (tn T) v) := ⟨s.1.k3 rfl rfl rfl, s.2.1.keep rfl (fun c hc => ⟨rfl, by rw [hU_s, upd_n _ _ (by omega)], rfl⟩) (fun _ _ => rfl) (fun _ _ => rfl) (fun _ _ => ⟨rfl, rfl, rfl⟩), ⟨s.2.2.1.1, by rw [hU_s, upd_s], s.2.2.1.2.2.1, s.2.2.1.2.2.2⟩, s.2.2.2.u _ _ (by omega)⟩
theorem SC.rsk {X : XD} {T : TD} {m rd rk : Int32} {st : Nat → Int32} {q : Nat} {h0 h : PH} (s : SC X T m rd rk st q h0 h) (v : Int32) : SC X T m rd v st q h0 (hU h 16 (tn T) v) := ⟨s.1.k3 rfl rfl rfl, s.2.1.keep rfl (fun c hc => ⟨rfl, rfl, by rw [hU_s, upd_n _ _ (by omega)]⟩) (fun _ _ => rfl) (fun _ _ => rfl) (fun _ _ => ⟨rfl, rfl, rfl⟩), ⟨s.2.2.1.1, s.2.2.1.2.1, by rw [hU_s, upd_s], s.2.2.1.2.2.2⟩, s.2.2.2.u _ _ (by omega)⟩
theorem SM.row {X : XD} {T : TD} {rd rk : Int32} {st : Nat → Int32} {q : Nat} {h0 h : PH} (s : SM X T rd rk st q h0 h) (v : Int32) : SM X T v rk st q h0 (hU h 83 (tn T) v) := ⟨s.1.k rfl (fun _ _ _ => rfl), s.2.1.keep rfl rfl (fun c hc => ⟨by rw [hU_s, upd_n _ _ (by omega)], rfl⟩) (fun _ _ => rfl) (fun _ _ => ⟨rfl, rfl, rfl⟩), ⟨by rw [hU_s, upd_s], s.2.2.1.2.1, s.2.2.1.2.2⟩, s.2.2.2.u _ _ (by omega)⟩
theorem SM.rsk {X : XD} {T : TD} {rd rk : Int32} {st : Nat → Int32} {q : Nat} {h0 h : PH} (s : SM X T rd rk st q h0 h) (v : Int32) : SM X T rd v st q h0 (hU h 84 (tn T) v) := ⟨s.1.k rfl (fun _ _ _ => rfl), s.2.1.keep rfl rfl (fun c hc => ⟨rfl, by rw [hU_s, upd_n _ _ (by omega)]⟩) (fun _ _ => rfl) (fun _ _ => ⟨rfl, rfl, rfl⟩), ⟨s.2.2.1.1, by rw [hU_s, upd_s], s.2.2.1.2.2⟩, s.2.2.2.u _ _ (by omega)⟩
/-- one number of a list of reads, then the rest by what is given of it -/
theorem L_reads_step {X : XD} {T : TD} (hn : tn T < 24) {sm rk rd0 : Int32} {st : Nat → Int32} {d : Nat} (ih : ∀ k m q, d + k = 17 → pc m 16 = k → bel m 16 → 0 < d ∧ ∃ o : (Nat × Nat) ⊕ (Int32 × Nat), (∀ h0 h n1, d ≤ n1 → SC X T sm m rk st q h0 h → ResC h0 o (fun a h' => SC X T sm a.1 rk st a.2 h0 h') (f_X7_readReads_2 13 (nI (tn T)) n1 (nI k) h)) ∧ (∀ h0 h n2, d < n2 → SM X T rd0 rk st q h0 h → h.1 66 35 = m → ResM h0 o (fun a h' => SM X T a.1 rk st a.2 h0 h') (f_X9_takeReads_7 (nI (tn T)) n2 1 h)) ∧ ∀ a, o = .inr a → bel a.1 16 ∧ q ≤ a.2) (k : Nat) (m : Int32) (q : Nat) (hd : d + k = 16) (hk : pc m 16 = k) (hok : bel m 16) : ∃ o : (Nat × Nat) ⊕ (Int32 × Nat), (∀ h0 h n1, d < n1 → SC X T sm m rk st q h0 h → ResC h0 o (fun a h' => SC X T sm a.1 rk st a.2 h0 h') (f_X7_readReads_2 13 (nI (tn T)) n1 (nI k) h)) ∧ (∀ h0 h n2, d + 1 < n2 → SM X T rd0 rk st q h0 h → h.1 66 35 = m → ResM h0 o (fun a h' => SM X T a.1 rk st a.2 h0 h') (f_X9_takeReads_7 (nI (tn T)) n2 1 h)) ∧ ∀ a, o = .inr a → bel a.1 16 ∧ q ≤ a.2 := by
  have fl := ft_le X 2 q 0 15
  have hk17 : ¬ (16 : Int32) < nI k := by rw [show (16 : Int32) = nI 16 from rfl, ltN (by omega) (by omega)]; omega
  have a15 : ∀ h0 h, SC X T sm m rk st q h0 h → ag h (13 + 2) 24 (nI (tn T)) = some m := fun h0 h s => by rw [ag_nI _ _ (by omega) (by omega)]; exact congrArg some s.2.2.1.2.1
  by_cases f0 : ft X 2 q 0 15 = 0
  · have nvb := (ft_nv f0).2.2.1
    rw [show (15 : Int32).toInt = 15 from rfl] at nvb
    have hqN : q ≤ X.1 := Nat.le_of_lt (kn_lt (by have := (ft_nv f0).1; omega))
    have hx1 := nx_le hqN
    have hx2 := nx_le hx1.2.1
    cases hb : bt m (nv X q)
    · generalize hsv : nv X q = sv at hb nvb
      generalize hm' : m ||| (1 <<< (nI sv &&& 31)) = m'
      have hok' : bel m' 16 := by rw [← hm']; exact bel_or hok (bel_one (by omega) (by omega))
      have hpc' : pc m' 16 = k + 1 := by rw [← hm', pc_one (by omega) hb 16 (by omega), hk, if_pos (by omega)]
      have cside : ∀ h0 h, SC X T sm m rk st q h0 h → ∃ h', SC X T sm m' rk st (nx X q) h0 h' ∧ ∀ n1, f_X7_readReads_2 13 (nI (tn T)) (n1 + 1) (nI k) h = bP (f_X3_takeSign 44 h') (fun r78 h78 => if r78 = 0 then (some (1, h78)) else (f_X7_readReads_2 13 (nI (tn T)) n1) (nI (k + 1)) h78) := fun h0 h s => by
        rcases c_needNew s.1 (by omega) (n := 15) (by omega) m with ⟨g0, g1, g2, h1, e1, t1, r1⟩ | ⟨g0, g1, g2, -⟩ | ⟨g0, -⟩
        · have e1 : f_X3_needNew 0 15 m h = some (nI sv, h1) := by rw [← hsv]; exact e1
          have s1 := s.t t1 r1
          have a2 : ag h1 (13 + 2) 24 (nI (tn T)) = some m := by rw [ag_nI _ _ (by omega) (by omega)]; exact congrArg some s1.2.2.1.2.1
          have a3 : asg h1 (13 + 2) 24 (nI (tn T)) m' = some (hU h1 15 (tn T) m') := asg_nI h1 15 _ (by omega) (by omega)
          refine ⟨hU h1 15 (tn T) m', s1.row m', fun n1 => ?_⟩
          rw [f_X7_readReads_2, if_neg hk17, a15 h0 h s, bO_some, e1, bP_some, if_neg (nI_ne_m1 (by omega)), a2, bO_some, hm', a3, bO_some, nI1]
        · rw [hsv, hb] at g2; cases g2
        · exact absurd f0 g0
      have mside : ∀ h0 h, SM X T rd0 rk st q h0 h → h.1 66 35 = m → ∃ h', SM X T rd0 rk st (nx X q) h0 h' ∧ h'.1 66 35 = m' ∧ ∀ n2, f_X9_takeReads_7 (nI (tn T)) (n2 + 1) 1 h = bP (f_X9_isComma h') (fun r23 h23 => f_X9_takeReads_7 (nI (tn T)) n2 r23 h23) := fun h0 h s e35 => by
        rcases m_takeSlot s.1 e35 with ⟨g0, g2, h1, t1, r1, s25, e1⟩ | ⟨g0, g2, -⟩ | ⟨g0, -⟩
        · rw [hsv, hm'] at e1
          refine ⟨hU h1 66 35 m', (s.t t1 r1).u35 m', by rw [hU_s, upd_s], fun n2 => ?_⟩
          rw [f_X9_takeReads_7, if_neg (by decide), e1, bP_some, if_pos (by decide)]
        · rw [hsv, hb] at g2; cases g2
        · exact absurd f0 g0
      cases hc : sgB X 44 (nx X q)
      · refine ⟨.inr (m', nx X q), fun h0 h n1 hn1 s => ?_, fun h0 h n2 hn2 s e35 => ?_, fun a e => ?_⟩
        · cases n1 with
          | zero => omega
          | succ n1 =>
            obtain ⟨h', s', e'⟩ := cside h0 h s
            rcases c_takeSign s'.1 44 with ⟨-, e2⟩ | ⟨g, -⟩
            · exact ⟨h', by rw [e' n1, e2, bP_some, if_pos rfl], s'⟩
            · rw [hc] at g; cases g
        · cases n2 with
          | zero => omega
          | succ n2 =>
            cases n2 with
            | zero => omega
            | succ n2 =>
              obtain ⟨h', s', e35', e'⟩ := mside h0 h s e35
              obtain ⟨h2, e2, t2, r2⟩ := m_isComma s'.1
              rw [hc] at e2 r2
              rw [if_neg (by decide)] at r2
              refine ⟨hU h2 83 (tn T) m', ?_, (s'.t t2 r2).row m'⟩
              rw [e' (n2 + 1), e2, bP_some, f_X9_takeReads_7, if_pos (show b01 false = 0 from rfl), t2.2 35 rfl, e35', asg_nI h2 83 _ (by omega) (by omega), bO_some]
        · cases e
          exact ⟨hok', hx1.1⟩
      · obtain ⟨hd0, o, oC, oM, oI⟩ := ih (k + 1) m' (nx X (nx X q)) (by omega) hpc' hok'
        refine ⟨o, fun h0 h n1 hn1 s => ?_, fun h0 h n2 hn2 s e35 => ?_, fun a e => ?_⟩
        · cases n1 with
          | zero => omega
          | succ n1 =>
            obtain ⟨h', s', e'⟩ := cside h0 h s
            rcases c_takeSign s'.1 44 with ⟨g, -⟩ | ⟨-, h2, e2, t2, r2⟩
            · rw [hc] at g; cases g
            · rw [e' n1, e2, bP_some, if_neg (by decide)]
              exact oC h0 h2 n1 (by omega) (s'.t t2 r2)
        · cases n2 with
          | zero => omega
          | succ n2 =>
            obtain ⟨h', s', e35', e'⟩ := mside h0 h s e35
            obtain ⟨h2, e2, t2, r2⟩ := m_isComma s'.1
            rw [hc] at e2 r2
            rw [if_pos rfl] at r2
            rw [e' n2, e2, bP_some]
            exact oM h0 h2 n2 (by omega) (s'.t t2 r2) ((t2.2 35 rfl).trans e35')
        · obtain ⟨a1, a2⟩ := oI a e
          exact ⟨a1, by omega⟩
    · refine ⟨.inl (4, q), fun h0 h n1 hn1 s => ?_, fun h0 h n2 hn2 s e35 => ?_, fun a e => by cases e⟩
      · cases n1 with
        | zero => omega
        | succ n1 =>
          rcases c_needNew s.1 (by omega) (n := 15) (by omega) m with ⟨g0, g1, g2, -⟩ | ⟨g0, g1, g2, h', e', t', f'⟩ | ⟨g0, -⟩
          · rw [hb] at g2; cases g2
          · have e' : f_X3_needNew 0 15 m h = some (-1, h') := e'
            refine ⟨h', ?_, f', s.2.2.2.tC t'⟩
            rw [f_X7_readReads_2, if_neg hk17, a15 h0 h s, bO_some, e', bP_some, if_pos rfl]
          · exact absurd f0 g0
      · cases n2 with
        | zero => omega
        | succ n2 =>
          rcases m_takeSlot s.1 e35 with ⟨g0, g2, -⟩ | ⟨g0, g2, h1, v, e1, t1, f1⟩ | ⟨g0, -⟩
          · rw [hb] at g2; cases g2
          · obtain ⟨b1, b2⟩ := frm_brk s.2.2.2 t1 v f1
            refine ⟨show 0 < 4 by decide, show 4 ≤ 4 by decide, _, ?_, b1, b2⟩
            rw [f_X9_takeReads_7, if_neg (by decide), e1, bP_some, if_neg (by decide)]
            rfl
          · exact absurd f0 g0
  · refine ⟨.inl (ft X 2 q 0 15, q), fun h0 h n1 hn1 s => ?_, fun h0 h n2 hn2 s e35 => ?_, fun a e => by cases e⟩
    · cases n1 with
      | zero => omega
      | succ n1 =>
        rcases c_needNew s.1 (by omega) (n := 15) (by omega) m with ⟨g0, -⟩ | ⟨g0, -⟩ | ⟨g0, h', e', t', f'⟩
        · exact absurd g0 f0
        · exact absurd g0 f0
        · have e' : f_X3_needNew 0 15 m h = some (-1, h') := e'
          refine ⟨h', ?_, f', s.2.2.2.tC t'⟩
          rw [f_X7_readReads_2, if_neg hk17, a15 h0 h s, bO_some, e', bP_some, if_pos rfl]
    · cases n2 with
      | zero => omega
      | succ n2 =>
        rcases m_takeSlot s.1 e35 with ⟨g0, -⟩ | ⟨g0, -⟩ | ⟨g0, h1, v, e1, t1, f1⟩
        · exact absurd g0 f0
        · exact absurd g0 f0
        · obtain ⟨b1, b2⟩ := frm_brk s.2.2.2 t1 v f1
          refine ⟨by show 0 < ft X 2 q 0 15; omega, by show ft X 2 q 0 15 ≤ 4; omega, _, ?_, b1, b2⟩
          rw [f_X9_takeReads_7, if_neg (by decide), e1, bP_some, if_neg (nI_nle (by omega) (by omega))]
theorem L_reads {X : XD} {T : TD} (hn : tn T < 24) {sm rk rd0 : Int32} {st : Nat → Int32} : ∀ d k m q, d + k = 16 → pc m 16 = k → bel m 16 → ∃ o : (Nat × Nat) ⊕ (Int32 × Nat), (∀ h0 h n1, d < n1 → SC X T sm m rk st q h0 h → ResC h0 o (fun a h' => SC X T sm a.1 rk st a.2 h0 h') (f_X7_readReads_2 13 (nI (tn T)) n1 (nI k) h)) ∧ (∀ h0 h n2, d + 1 < n2 → SM X T rd0 rk st q h0 h → h.1 66 35 = m → ResM h0 o (fun a h' => SM X T a.1 rk st a.2 h0 h') (f_X9_takeReads_7 (nI (tn T)) n2 1 h)) ∧ ∀ a, o = .inr a → bel a.1 16 ∧ q ≤ a.2 := by
  intro d
  induction d with
  | zero =>
    intro k m q hd hk hok
    exact L_reads_step hn (fun k' m' q' h1 h2 _ => by have := pc_le m' 16; omega) k m q hd hk hok
  | succ d ih =>
    intro k m q hd hk hok
    exact L_reads_step hn (fun k' m' q' h1 h2 h3 => by
      obtain ⟨o, oC, oM, oI⟩ := ih k' m' q' (by omega) h2 h3
      exact ⟨by omega, o, fun h0 h n1 hn1 => oC h0 h n1 (by omega), fun h0 h n2 hn2 => oM h0 h n2 (by omega), oI⟩) k m q hd hk hok
/-! what a change adds -/
def addC (T : TD) (st : Nat → Int32) (rd rk : Int32) : TD := (tn T + 1, tf T, (fun c s => if c = tn T then st s else tst T c s), upd (trd T) (tn T) rd, upd (trk T) (tn T) rk, twt T, tfr T, ttl T)
theorem addC_wf {T : TD} (w : wfT T) (hn : tn T < 24) {m : Int32} {st : Nat → Int32} {rd rk : Int32} (hs : setOK m st) (hr : bel rd 16) (hk : 0 ≤ rk.toInt ∧ rk.toInt ≤ 9) : wfT (addC T st rd rk) := by
  obtain ⟨w1, w2, w3, w4, w5, w6, w7, w8⟩ := w
  refine ⟨show tn T + 1 ≤ 24 by omega, w2, fun c s => ?_, fun c => ?_, fun c => ?_, w6, fun f hf => ?_, fun f hf => ?_⟩
  · show 0 ≤ (if c = tn T then st s else tst T c s).toInt ∧ (if c = tn T then st s else tst T c s).toInt ≤ 99
    by_cases e : c = tn T
    · rw [if_pos e]; exact hs.2.2 s
    · rw [if_neg e]; exact w3 c s
  · show bel (upd (trd T) (tn T) rd c) 16
    by_cases e : c = tn T
    · subst e; rw [upd_s]; exact hr
    · rw [upd_n _ _ e]; exact w4 c
  · show 0 ≤ (upd (trk T) (tn T) rk c).toInt ∧ (upd (trk T) (tn T) rk c).toInt ≤ 9
    by_cases e : c = tn T
    · subst e; rw [upd_s]; exact hk
    · rw [upd_n _ _ e]; exact w5 c
  · obtain ⟨k, hk1, e⟩ := w7 f hf
    exact ⟨k, show k < tn T + 1 by omega, e⟩
  · rcases w8 f hf with e | ⟨k, hk1, e⟩
    · exact Or.inl e
    · exact Or.inr ⟨k, show k < tn T + 1 by omega, e⟩
theorem addC_old {T : TD} {st : Nat → Int32} {rd rk : Int32} {c : Nat} (hc : c < tn T) (s : Nat) : tst (addC T st rd rk) c s = tst T c s := if_neg (by omega)
theorem addC_new {T : TD} {st : Nat → Int32} {rd rk : Int32} (s : Nat) : tst (addC T st rd rk) (tn T) s = st s := if_pos rfl
theorem addC_ahd {T : TD} {st : Nat → Int32} {rd rk : Int32} (s : Nat) : ∀ c, c ≤ tn T → ahd (addC T st rd rk) c s = ahd T c s := by
  intro c
  induction c with
  | zero => intro _; rfl
  | succ c ih =>
    intro hc
    rw [ahd, ahd, ih (by omega)]
    unfold sb
    rw [addC_old (by omega)]
theorem addC_sets {T : TD} {st : Nat → Int32} {rd rk : Int32} {m : Int32} (hs : setOK m st) : setsM (addC T st rd rk) (tn T) = m := by
  symm
  refine bt_eq_mkI m (by omega) (fun j hj => ?_)
  by_cases e : j < 16
  · rw [decide_eq_true e, Bool.true_and, hs.2.1 j e]
    unfold sb
    rw [addC_new]
  · rw [hs.1 j hj (by omega), decide_eq_false e]; rfl
theorem addC_setsO {T : TD} {st : Nat → Int32} {rd rk : Int32} {c : Nat} (hc : c < tn T) : setsM (addC T st rd rk) c = setsM T c := mkI_congr (fun s _ => by unfold sb; rw [addC_old hc])
theorem d_putOn {h : PH} {n r : Nat} {m : Int32} {st : Nat → Int32} (hn : n < 24) (hm : h.1 14 n = m) (hst : ∀ s, s < 16 → h.1 17 (16 * n + s) = st s) (hr : 16 * r + 16 ≤ 400) : f_X7_putOn 13 (13 + 5) 400 (nI n) (nI r) h = some (hC h 18 (segF (h.1 18) (16 * r) (fun s => if bt m s = true then st s else h.1 18 (16 * r + s)) 16)) := by
  have h0 : h = hC h 18 (segF (h.1 18) (16 * r) (fun s => if bt m s = true then st s else h.1 18 (16 * r + s)) 0) := by rw [segF_0, hC_self]
  rw [f_X7_putOn]
  conv => lhs; rw [h0]
  refine lp_up (fun k a i => f_X7_putOn_3 13 (13 + 5) 400 (nI n) (nI r) k (nI i) a) (fun i => hC h 18 (segF (h.1 18) (16 * r) (fun s => if bt m s = true then st s else h.1 18 (16 * r + s)) i)) 16 _ (fun k => ?_) (fun k i hi => ?_) FU 0 (Nat.zero_le _) (FU_gt (by omega))
  · show f_X7_putOn_3 13 _ 400 (nI n) (nI r) (k + 1) (nI 16) _ = _
    rw [f_X7_putOn_3, if_pos (p16 (by omega) (by omega))]
  · show f_X7_putOn_3 13 _ 400 (nI n) (nI r) (k + 1) (nI i) _ = f_X7_putOn_3 13 _ 400 (nI n) (nI r) k (nI (i + 1)) _
    generalize hG : segF (h.1 18) (16 * r) (fun s => if bt m s = true then st s else h.1 18 (16 * r + s)) i = G
    have e5 : ag (hC h 18 G) (13 + 1) 24 (nI n) = some m := by rw [ag_nI _ _ (by omega) (by decide)]; exact congrArg some hm
    have e8 : ag (hC h 18 G) (13 + 4) 384 (nI n * 16 + nI i) = some (st i) := by rw [ixC, ag_nI _ _ (by omega) (by decide)]; exact congrArg some (hst i hi)
    have a18 : ∀ x, asg (hC h 18 G) (13 + 5) 400 (nI r * 16 + nI i) x = some (hC h 18 (upd G (16 * r + i) x)) := fun x => by
      rw [ixC, ← hC_hU]; exact asg_nI _ 18 x (by omega) (by omega)
    rw [f_X7_putOn_3, if_neg (n16 hi), e5, bO_some, has8 _ (by omega), bO_some, ← nI1]
    by_cases hb : bt m i = true
    · rw [if_pos hb, if_neg (by decide), e8, bO_some, a18, bO_some, ← hG]
      have hs := segF_s (h.1 18) (16 * r) (fun s => if bt m s = true then st s else h.1 18 (16 * r + s)) i
      rw [if_pos hb] at hs
      rw [hs]
    · rw [if_neg hb, if_pos rfl, ← hG, segF_same (by show (if bt m i = true then st i else h.1 18 (16 * r + i)) = _; rw [if_neg hb])]
theorem c_layB {T : TD} (hn : tn T < 24) {h : PH} {m rd rk : Int32} {st : Nat → Int32} (d : DCt T h) (i : IC (tn T) m rd rk st h) (hs : setOK m st) : ∃ h', f_X7_layBehind 13 (nI (tn T)) h = some h' ∧ DCt (addC T st rd rk) (hU h' 13 0 (nI (tn T + 1))) ∧ (∀ k, k ≠ 18 → h'.1 k = h.1 k) ∧ ∀ s, s < 16 → h'.1 18 s = h.1 18 s := by
  obtain ⟨i1, i2, i3, i4⟩ := i
  obtain ⟨d0, d6, d1, d2, d3⟩ := d
  have e1 : cpy h (13 + 5) 400 (nI (16 * tn T)) (13 + 5) 400 (nI (16 * (tn T + 1))) 16 = some (hC h 18 (segF (h.1 18) (16 * (tn T + 1)) (fun s => h.1 18 (16 * tn T + s)) 16)) := cpy_nI h 18 18 (n := 400) (m := 400) (sp := 16 * tn T) (dp := 16 * (tn T + 1)) (len := 16) (by omega) (by omega) (by omega) (by omega)
  generalize hg : segF (h.1 18) (16 * (tn T + 1)) (fun s => h.1 18 (16 * tn T + s)) 16 = g at e1
  have e2 := d_putOn (h := hC h 18 g) (n := tn T) (r := tn T + 1) (m := m) (st := st) hn (by rw [hC_n _ _ (by decide)]; exact i1) (fun s hs => by rw [hC_n _ _ (by decide)]; exact i4 s hs) (by omega)
  rw [hC_s, hC_hC] at e2
  generalize hG : segF g (16 * (tn T + 1)) (fun s => if bt m s = true then st s else g (16 * (tn T + 1) + s)) 16 = G at e2
  have gO : ∀ j, ¬ (16 * (tn T + 1) ≤ j ∧ j < 16 * (tn T + 1) + 16) → G j = h.1 18 j := fun j hj => by rw [← hG, segF_out hj, ← hg, segF_out hj]
  have gN : ∀ s, s < 16 → G (16 * (tn T + 1) + s) = if bt m s = true then st s else ahd T (tn T) s := fun s hs2 => by
    rw [← hG, segF_in hs2, ← hg, segF_in hs2, d2 (tn T) (Nat.le_refl _) s hs2]
  refine ⟨hC h 18 G, ?_, ⟨?_, ?_, fun c hc => ?_, fun c hc s hs2 => ?_, d3⟩, fun k hk => hC_n _ _ hk, fun s hs2 => ?_⟩
  · rw [f_X7_layBehind, nI1, mul16, mul16, e1, bO_some, e2, bO_some]
  · rw [hU_s, upd_s]; rfl
  · rw [hU_s, upd_n _ _ (by decide), hC_n _ _ (by decide)]; exact d6
  · have hc : c < tn T + 1 := hc
    rw [hU_n _ _ _ (by decide), hU_n _ _ _ (by decide), hU_n _ _ _ (by decide), hU_n _ _ _ (by decide), hC_n _ _ (by decide), hC_n _ _ (by decide), hC_n _ _ (by decide), hC_n _ _ (by decide)]
    by_cases e : c = tn T
    · subst e
      rw [addC_sets hs]
      exact ⟨i1, i2.trans (upd_s _ _ _).symm, i3.trans (upd_s _ _ _).symm, fun s hs2 => (i4 s hs2).trans (addC_new s).symm⟩
    · obtain ⟨q1, q2, q3, q4⟩ := d1 c (by omega)
      rw [addC_setsO (by omega)]
      exact ⟨q1, q2.trans (upd_n _ _ e).symm, q3.trans (upd_n _ _ e).symm, fun s hs2 => (q4 s hs2).trans (addC_old (by omega) s).symm⟩
  · have hc : c ≤ tn T + 1 := hc
    rw [hU_n _ _ _ (by decide), hC_s]
    by_cases e : c = tn T + 1
    · subst e
      rw [gN s hs2, ahd, addC_ahd s (tn T) (Nat.le_refl _), hs.2.1 s hs2]
      unfold sb
      rw [addC_new]
    · rw [gO _ (by omega), d2 c (by omega) s hs2, addC_ahd s c (by omega)]
  · rw [hC_s, gO _ (by omega)]
/-! the words of a change -/
def wh (X : XD) (q : Nat) : Nat := if wdB X 2 q = true then 1 else if wdB X 3 q = true then 2 else if wdB X 4 q = true then 3 else 0
theorem wd_x {X : XD} {q w v : Nat} (hw : w < 10) (hv : v < 10) (hne : ¬ wc w (lenT.getD w 0) = wc v (lenT.getD v 0)) (h : wdB X w q = true) : wdB X v q = false := by
  cases hb : wdB X v q
  · rfl
  · rw [← cw_wd hw] at h
    rw [← cw_wd hv] at hb
    exact absurd (h.symm.trans hb) hne
theorem wh_le (X : XD) (q : Nat) : wh X q ≤ 3 := by unfold wh; split <;> (try split) <;> (try split) <;> omega
theorem wh_1 {X : XD} {q : Nat} : (wh X q = 1) = (wdB X 2 q = true) := by
  unfold wh
  cases wdB X 2 q <;> cases wdB X 3 q <;> cases wdB X 4 q <;> simp
theorem wh_2 {X : XD} {q : Nat} : (wh X q = 2) = (wdB X 3 q = true) := by
  have h := @wd_x X q 2 3 (by decide) (by decide) (by decide +kernel)
  unfold wh
  cases h2 : wdB X 2 q
  · cases wdB X 3 q <;> cases wdB X 4 q <;> simp
  · rw [h h2]; simp
theorem wh_3 {X : XD} {q : Nat} : (wh X q = 3) = (wdB X 4 q = true) := by
  have h := @wd_x X q 2 4 (by decide) (by decide) (by decide +kernel)
  have h' := @wd_x X q 3 4 (by decide) (by decide) (by decide +kernel)
  unfold wh
  cases h2 : wdB X 2 q
  · cases h3 : wdB X 3 q
    · cases wdB X 4 q <;> simp
    · rw [h' h3]; simp
  · rw [h h2]; simp
theorem wd_kn {X : XD} {q w : Nat} (h : wdB X w q = true) : kn X q = 1 := by
  unfold wdB at h
  rw [Bool.and_eq_true, decide_eq_true_eq] at h
  exact h.1
theorem we_en {X : XD} {q : Nat} (h : kn X q = 1) : we X q = en X q := if_pos h
theorem wh_kn {X : XD} {q : Nat} (h : 0 < wh X q) : kn X q = 1 := by
  have hl := wh_le X q
  rcases (show wh X q = 1 ∨ wh X q = 2 ∨ wh X q = 3 by omega) with e | e | e
  · rw [wh_1] at e; exact wd_kn e
  · rw [wh_2] at e; exact wd_kn e
  · rw [wh_3] at e; exact wd_kn e
/-- behind a word the model goes on at the next sign -/
theorem PM.word {X : XD} {fig q : Nat} {h : PH} (r : PM X fig q h) (hk : kn X q = 1) (e20 : h.1 66 20 = -1) : PM X fig (nx X q) (hU h 66 21 (nI (en X q))) := by
  have hq := r.2.2.1
  obtain ⟨n1, n2, n3⟩ := nx_le hq
  exact r.at' (tM.u _ rfl) (p := en X q) (q' := nx X q) (sk_spec X (en_le hq).2).1 n2 rfl n3 (by rw [hU_s, upd_s]) (by rw [hU_s, upd_n _ _ (by decide)]; exact e20)
theorem m_top {X : XD} {fig q : Nat} {h : PH} (r : PM X fig q h) : (sgB X 59 q = true ∧ ∃ h', tM h h' ∧ PM X fig q h' ∧ ∀ x2 last n, f_X9_takeChange_63 x2 (n + 1) last h = bP (f_X9_takeStop (hU h' 66 27 (h'.1 66 27 + 1))) (fun r258 h258 => some (r258, h258))) ∨ (sgB X 59 q = false ∧ ∃ h', tM h h' ∧ PM X fig q h' ∧ h'.1 66 21 = nI q ∧ h'.1 66 20 = -1 ∧ h'.1 66 24 = nI (we X q) ∧ ∀ x2 last n, f_X9_takeChange_63 x2 (n + 1) last h = f_X9_takeChange_151 x2 (f_X9_takeChange_63 x2 n) last (nI (wh X q) - 1) h') := by
  obtain ⟨h1, e1, t1, r1, a1, b1⟩ := m_here r
  have es : (hereV X q = 59) = (sgB X 59 q = true) := here_sg r.2.1 (s := 59) (by decide) (by omega)
  cases hb : sgB X 59 q
  · refine Or.inr ⟨rfl, ?_⟩
    obtain ⟨h2, e2, t2, r2, a2, b2, w2, c2⟩ := m_readWord r1
    have hwe : kn X q = 1 → q ≤ en X q := fun _ => (en_le r.2.2.1).1
    refine ⟨h2, t1.tr t2, r2, a2, b2, w2, fun x2 last n => ?_⟩
    rw [f_X9_takeChange_63, e1, bP_some, ite_c es, hb, if_neg (by decide), e2, bO_some, cd_sets, bO_some, ite_c (m_cmp c2 hwe (w := 2) (by decide)), cd_reads.1, bO_some, cd_reads.2, bO_some, ite_c (m_cmp c2 hwe (w := 3) (by decide)), cd_risk, bO_some, ite_c (m_cmp c2 hwe (w := 4) (by decide))]
    unfold wh
    cases wdB X 2 q
    · rw [if_neg (by decide), if_neg (show ¬ false = true by decide)]
      cases wdB X 3 q
      · rw [if_neg (by decide), if_neg (show ¬ false = true by decide)]
        cases wdB X 4 q <;> rfl
      · rw [if_pos rfl, if_pos rfl]; rfl
    · rw [if_pos rfl, if_pos rfl]; rfl
  · exact Or.inl ⟨rfl, h1, t1, r1, fun x2 last n => by rw [f_X9_takeChange_63, e1, bP_some, ite_c es, hb, if_pos rfl, lt'_eq]⟩
theorem lt_last {L w : Nat} (hL : L < 10) (hw : w < 10) : ((nI L - 1 : Int32) < nI w - 1) = (L < w) := by
  rw [ltI, nIm1_toInt (by omega), nIm1_toInt (by omega)]
  apply propext; omega
def PCo (X : XD) (h0 : PH) (a : TD × Nat) (h' : PH) : Prop := RD X 2 a.2 h' ∧ DCt a.1 h' ∧ FrC h0 h'
def PMo (X : XD) (h0 : PH) (a : TD × Nat) (h' : PH) : Prop := PM X 2 a.2 h' ∧ DMt a.1 h' ∧ FrM h0 h'
theorem addC_DM {X : XD} {T : TD} {rd rk : Int32} {st : Nat → Int32} {q : Nat} {h0 h : PH} (s : SM X T rd rk st q h0 h) : DMt (addC T st rd rk) (hU h 66 27 (nI (tn T + 1))) := by
  obtain ⟨-, ⟨d0, d6, d1, d3⟩, ⟨i1, i2, i3⟩, -⟩ := s
  refine ⟨by rw [hU_s, upd_s]; rfl, by rw [hU_s, upd_n _ _ (by decide)]; exact d6, fun c hc => ?_, d3⟩
  have hc : c < tn T + 1 := hc
  rw [hU_n _ _ _ (by decide), hU_n _ _ _ (by decide), hU_n _ _ _ (by decide)]
  by_cases e : c = tn T
  · subst e
    exact ⟨i1.trans (upd_s _ _ _).symm, i2.trans (upd_s _ _ _).symm, fun s hs => (i3 s hs).trans (addC_new s).symm⟩
  · obtain ⟨q1, q2, q3⟩ := d1 c (by omega)
    exact ⟨q1.trans (upd_n _ _ e).symm, q2.trans (upd_n _ _ e).symm, fun s hs => (q3 s hs).trans (addC_old (by omega) s).symm⟩
theorem L_D {X : XD} {T : TD} (w : wfT T) (hn : tn T < 24) {L : Nat} {m rd rk : Int32} {st : Nat → Int32} {q : Nat} (hw : wh X q ≤ L) (hL : L ≤ 3) (hs : setOK m st) (hr : bel rd 16) (hk : 0 ≤ rk.toInt ∧ rk.toInt ≤ 9) : ∃ o : (Nat × Nat) ⊕ (TD × Nat), (∀ h0 h, SC X T m rd rk st q h0 h → ResC h0 o (PCo X h0) (f_X7_readChange_97 13 (nI (tn T)) h)) ∧ (∀ h0 h n2, 0 < n2 → SM X T rd rk st q h0 h → ResM h0 o (PMo X h0) (f_X9_takeChange_63 (nI (tn T)) n2 (nI L - 1) h)) ∧ ∀ a, o = .inr a → wfT a.1 ∧ q ≤ a.2 := by
  cases hb : sgB X 59 q
  · refine ⟨.inl (1, q), fun h0 h s => ?_, fun h0 h n2 hn2 s => ?_, fun a e => by cases e⟩
    · rcases c_needSign s.1 59 with ⟨-, h', e', t', f'⟩ | ⟨g, -⟩
      · exact ⟨h', by rw [f_X7_readChange_97, e', bP_some, if_pos rfl], f', s.2.2.2.tC t'⟩
      · rw [hb] at g; cases g
    · cases n2 with
      | zero => omega
      | succ n2 =>
        rcases m_top s.1 with ⟨g, -⟩ | ⟨-, h1, t1, r1, a1, b1, w1, e1⟩
        · rw [hb] at g; cases g
        · obtain ⟨h2, e2, t2, f2⟩ := m_breaks 1 q h1
          have e2 : f_X9_breaks 1 (nI q) h1 = some (1, h2) := e2
          have hl := wh_le X q
          refine ⟨show 0 < 1 by decide, show 1 ≤ 4 by decide, h2, ?_, f2, (s.2.2.2.tM t1).tM t2⟩
          rw [e1 _ _ n2, f_X9_takeChange_151, if_neg (by rw [lt_last (by omega) (by omega)]; omega), a1, e2, bP_some]
          rfl
  · refine ⟨.inr (addC T st rd rk, nx X q), fun h0 h s => ?_, fun h0 h n2 hn2 s => ?_, fun a e => ?_⟩
    · rcases c_needSign s.1 59 with ⟨g, -⟩ | ⟨-, h1, e1, t1, r1⟩
      · rw [hb] at g; cases g
      · have s1 := s.t t1 r1
        obtain ⟨h2, e2, d2, o2, z2⟩ := c_layB hn s1.2.1 s1.2.2.1 hs
        refine ⟨hU h2 13 0 (nI (tn T + 1)), ?_, r1.k3 ((hU_n _ _ _ (by decide)).trans (o2 1 (by decide))) ((hU_n _ _ _ (by decide)).trans (o2 2 (by decide))) ((hU_n _ _ _ (by decide)).trans (o2 3 (by decide))), d2, ⟨fun k h1 h2 => ?_, fun s' hs' => ?_⟩⟩
        · rw [f_X7_readChange_97, e1, bP_some, if_neg (by decide), e2, bO_some, lt'_eq, nI1]
        · exact ((hU_n _ _ _ (by omega)).trans (o2 k (by omega))).trans (s1.2.2.2.1 k h1 h2)
        · rw [hU_n _ _ _ (by decide), z2 s' hs']; exact s1.2.2.2.2 s' hs'
    · cases n2 with
      | zero => omega
      | succ n2 =>
        rcases m_top s.1 with ⟨-, h1, t1, r1, e1⟩ | ⟨g, -⟩
        · have s1 := s.t t1 r1
          have e27 : h1.1 66 27 + 1 = nI (tn T + 1) := by rw [s1.2.1.1, nI1]
          have r1' : PM X 2 q (hU h1 66 27 (nI (tn T + 1))) := r1.k rfl (fun i h1 h2 => by rw [hU_s, upd_n _ _ (by omega)])
          rcases m_takeStop r1' with ⟨g, -⟩ | ⟨-, h2, e2, t2, r2⟩
          · rw [hb] at g; cases g
          · exact ⟨h2, by rw [e1 _ _ n2, e27, e2, bP_some], r2, (addC_DM s1).tM t2, (s1.2.2.2.u66 _ rfl).tM t2⟩
        · rw [hb] at g; cases g
    · cases e
      have hq := (sg_en hb).1
      exact ⟨addC_wf w hn hs hr hk, Nat.le_of_lt (nx_lt hq)⟩
theorem L_C {X : XD} {T : TD} (w : wfT T) (hn : tn T < 24) {L : Nat} {m rd : Int32} {st : Nat → Int32} {q : Nat} (hw : wh X q ≤ L ∨ wh X q = 3) (hL : L ≤ 2) (hs : setOK m st) (hr : bel rd 16) : ∃ o : (Nat × Nat) ⊕ (TD × Nat), (∀ h0 h, SC X T m rd 0 st q h0 h → ResC h0 o (PCo X h0) (f_X7_readChange_66 13 (nI (tn T)) h)) ∧ (∀ h0 h n2, 1 < n2 → SM X T rd 0 st q h0 h → ResM h0 o (PMo X h0) (f_X9_takeChange_63 (nI (tn T)) n2 (nI L - 1) h)) ∧ ∀ a, o = .inr a → wfT a.1 ∧ q ≤ a.2 := by
  cases hb : wdB X 4 q
  · have hw' : wh X q ≤ L := by
      rcases hw with e | e
      · exact e
      · rw [wh_3, hb] at e; cases e
    obtain ⟨o, oC, oM, oI⟩ := L_D w hn hw' (by omega) hs hr (rk := 0) (by decide)
    refine ⟨o, fun h0 h s => ?_, fun h0 h n2 hn2 s => oM h0 h n2 (by omega) s, oI⟩
    rcases c_takeWord s.1 (w := 4) (by decide) with ⟨-, e1⟩ | ⟨g, -⟩
    · rw [f_X7_readChange_66, e1, bP_some, if_pos rfl]
      exact oC h0 h s
    · rw [hb] at g; cases g
  · have h3 : wh X q = 3 := by rw [wh_3]; exact hb
    have hk1 := wd_kn hb
    have hqN : q < X.1 := kn_lt (by omega)
    have hx := nx_lt hqN
    have hx1 := nx_le (Nat.le_of_lt hqN)
    have hns : sgB X 59 q = false := by unfold sgB; rw [decide_eq_false (by omega)]; rfl
    have mside : ∀ h0 h, SM X T rd 0 st q h0 h → ∃ h', SM X T rd 0 st (nx X q) h0 h' ∧ ∀ n2, f_X9_takeChange_63 (nI (tn T)) (n2 + 1) (nI L - 1) h = bP (f_X9_takeNumber 0 9 h') (fun r211 h211 => f_X9_takeChange_214 (nI (tn T)) (f_X9_takeChange_63 (nI (tn T)) n2) 2 2 r211 h211) := fun h0 h s => by
      rcases m_top s.1 with ⟨g, -⟩ | ⟨-, h1, t1, r1, a1, b1, w1, e1⟩
      · rw [hns] at g; cases g
      · refine ⟨hU h1 66 21 (nI (en X q)), s.t (t1.tr (tM.u _ rfl)) (r1.word hk1 b1), fun n2 => ?_⟩
        have hlt : (nI L - 1 : Int32) < nI 3 - 1 := by rw [lt_last (by omega) (by omega)]; omega
        rw [e1 _ _ n2, h3, f_X9_takeChange_151, if_pos hlt, lt'_eq, w1, we_en hk1]
        rfl
    have fl := ft_le X 2 (nx X q) 0 9
    by_cases f0 : ft X 2 (nx X q) 0 9 = 0
    · have nvb := ft_nv f0
      rw [show (9 : Int32).toInt = 9 from rfl] at nvb
      have hx2 := nx_le hx1.2.1
      obtain ⟨o, oC, oM, oI⟩ := L_D (X := X) (T := T) w hn (L := 3) (q := nx X (nx X q)) (m := m) (rd := rd) (rk := nI (nv X (nx X q))) (st := st) (wh_le _ _) (by omega) hs hr (by rw [nI_toInt (by omega)]; omega)
      refine ⟨o, fun h0 h s => ?_, fun h0 h n2 hn2 s => ?_, fun a e => ?_⟩
      · rcases c_takeWord s.1 (w := 4) (by decide) with ⟨g, -⟩ | ⟨-, h1, e1, t1, r1⟩
        · rw [hb] at g; cases g
        · have s1 := s.t t1 r1
          rcases c_needNumber r1 (by omega) 0 9 with ⟨-, h2, e2, t2, r2⟩ | ⟨g, -⟩
          · have s2 := (s1.t t2 r2).rsk (nI (nv X (nx X q)))
            have a3 : asg h2 (13 + 3) 24 (nI (tn T)) (nI (nv X (nx X q))) = some (hU h2 16 (tn T) (nI (nv X (nx X q)))) := asg_nI h2 16 _ (by omega) (by omega)
            rw [f_X7_readChange_66, e1, bP_some, if_neg (by decide), e2, bP_some, if_neg (nI_ne_m1 (by omega)), a3, bO_some]
            exact oC h0 _ s2
          · exact absurd f0 g
      · cases n2 with
        | zero => omega
        | succ n2 =>
          obtain ⟨h1, s1, e1⟩ := mside h0 h s
          rcases m_takeNumber s1.1 (by omega) 0 9 with ⟨-, h2, e2, t2, r2, s25, -⟩ | ⟨g, -⟩
          · have s2 := (s1.t t2 r2).rsk (nI (nv X (nx X q)))
            rw [e1 n2, e2, bP_some, f_X9_takeChange_214, if_pos (by decide), if_pos rfl, f_X9_takeChange_243, s25, asg_nI h2 84 _ (by omega) (by omega), bO_some]
            exact oM h0 _ n2 (by omega) s2
          · exact absurd f0 g
      · obtain ⟨a1, a2⟩ := oI a e
        exact ⟨a1, by omega⟩
    · refine ⟨.inl (ft X 2 (nx X q) 0 9, nx X q), fun h0 h s => ?_, fun h0 h n2 hn2 s => ?_, fun a e => by cases e⟩
      · rcases c_takeWord s.1 (w := 4) (by decide) with ⟨g, -⟩ | ⟨-, h1, e1, t1, r1⟩
        · rw [hb] at g; cases g
        · rcases c_needNumber r1 (by omega) 0 9 with ⟨g, -⟩ | ⟨-, h2, e2, t2, f2⟩
          · exact absurd g f0
          · exact ⟨h2, by rw [f_X7_readChange_66, e1, bP_some, if_neg (by decide), e2, bP_some, if_pos rfl], f2, (s.2.2.2.tC t1).tC t2⟩
      · cases n2 with
        | zero => omega
        | succ n2 =>
          obtain ⟨h1, s1, e1⟩ := mside h0 h s
          rcases m_takeNumber s1.1 (by omega) 0 9 with ⟨g, -⟩ | ⟨-, h2, e2, t2, f2⟩
          · exact absurd g f0
          · refine ⟨by show 0 < ft X 2 (nx X q) 0 9; omega, by show ft X 2 (nx X q) 0 9 ≤ 4; omega, h2, ?_, f2, s1.2.2.2.tM t2⟩
            rw [e1 n2, e2, bP_some, f_X9_takeChange_214, if_neg (nI_nle (by omega) (by omega))]
theorem L_B {X : XD} {T : TD} (w : wfT T) (hn : tn T < 24) {L : Nat} {m : Int32} {st : Nat → Int32} {q : Nat} (hw : wh X q ≤ L ∨ 2 ≤ wh X q) (hL : L ≤ 1) (hs : setOK m st) : ∃ o : (Nat × Nat) ⊕ (TD × Nat), (∀ h0 h, SC X T m 0 0 st q h0 h → ResC h0 o (PCo X h0) (f_X7_readChange_46 13 (nI (tn T)) h)) ∧ (∀ h0 h n2, 2 < n2 → SM X T 0 0 st q h0 h → ResM h0 o (PMo X h0) (f_X9_takeChange_63 (nI (tn T)) n2 (nI L - 1) h)) ∧ ∀ a, o = .inr a → wfT a.1 ∧ q ≤ a.2 := by
  have hl3 := wh_le X q
  cases hb : wdB X 3 q
  · have hw' : wh X q ≤ L ∨ wh X q = 3 := by
      have : ¬ wh X q = 2 := by rw [wh_2, hb]; decide
      omega
    obtain ⟨o, oC, oM, oI⟩ := L_C w hn hw' (by omega) hs (rd := 0) (bel_zero _)
    refine ⟨o, fun h0 h s => ?_, fun h0 h n2 hn2 s => oM h0 h n2 (by omega) s, oI⟩
    rcases c_takeWord s.1 (w := 3) (by decide) with ⟨-, e1⟩ | ⟨g, -⟩
    · rw [f_X7_readChange_46, e1, bP_some, if_pos rfl]
      exact oC h0 h s
    · rw [hb] at g; cases g
  · have h3 : wh X q = 2 := by rw [wh_2]; exact hb
    have hk1 := wd_kn hb
    have hqN : q < X.1 := kn_lt (by omega)
    have hx := nx_lt hqN
    have hx1 := nx_le (Nat.le_of_lt hqN)
    have hns : sgB X 59 q = false := by unfold sgB; rw [decide_eq_false (by omega)]; rfl
    have mside : ∀ h0 h, SM X T 0 0 st q h0 h → ∃ h', SM X T 0 0 st (nx X q) h0 h' ∧ h'.1 66 35 = 0 ∧ ∀ n2, f_X9_takeChange_63 (nI (tn T)) (n2 + 1) (nI L - 1) h = bP (f_X9_takeReads_7 (nI (tn T)) FU 1 h') (fun r201 h201 => f_X9_takeChange_214 (nI (tn T)) (f_X9_takeChange_63 (nI (tn T)) n2) 1 1 r201 h201) := fun h0 h s => by
      rcases m_top s.1 with ⟨g, -⟩ | ⟨-, h1, t1, r1, a1, b1, w1, e1⟩
      · rw [hns] at g; cases g
      · refine ⟨hU (hU h1 66 21 (nI (en X q))) 66 35 0, (s.t (t1.tr (tM.u _ rfl)) (r1.word hk1 b1)).u35 0, by rw [hU_s, upd_s], fun n2 => ?_⟩
        have hlt : (nI L - 1 : Int32) < nI 2 - 1 := by rw [lt_last (by omega) (by omega)]; omega
        rw [e1 _ _ n2, h3, f_X9_takeChange_151, if_pos hlt, lt'_eq, w1, we_en hk1]
        rfl
    obtain ⟨o1, o1C, o1M, o1I⟩ := L_reads (X := X) (T := T) hn (sm := m) (rk := 0) (rd0 := 0) (st := st) 16 0 0 (nx X q) (by omega) (pc_zero 16) (bel_zero _)
    cases o1 with
    | inl bp =>
      refine ⟨.inl bp, fun h0 h s => ?_, fun h0 h n2 hn2 s => ?_, fun a e => by cases e⟩
      · rcases c_takeWord s.1 (w := 3) (by decide) with ⟨g, -⟩ | ⟨-, h1, e1, t1, r1⟩
        · rw [hb] at g; cases g
        · obtain ⟨h2, e2, f2, g2⟩ := o1C h0 h1 FU (by decide) (s.t t1 r1)
          exact ⟨h2, by rw [f_X7_readChange_46, e1, bP_some, if_neg (by decide), f_X7_readReads]; show bP (f_X7_readReads_2 13 (nI (tn T)) FU (nI 0) h1) _ = _; rw [e2, bP_some, if_pos rfl], f2, g2⟩
      · cases n2 with
        | zero => omega
        | succ n2 =>
          obtain ⟨h1, s1, e35, e1⟩ := mside h0 h s
          obtain ⟨z1, z2, h2, e2, f2, g2⟩ := o1M h0 h1 FU (by decide) s1 e35
          refine ⟨z1, z2, h2, ?_, f2, g2⟩
          rw [e1 n2, e2, bP_some, f_X9_takeChange_214, if_neg (nI_nle z1 (by omega))]
    | inr a1 =>
      obtain ⟨ar, aq⟩ := o1I a1 rfl
      obtain ⟨o, oC, oM, oI⟩ := L_C (X := X) (T := T) w hn (L := 2) (m := m) (rd := a1.1) (st := st) (q := a1.2) (by have := wh_le X a1.2; omega) (by omega) hs ar
      refine ⟨o, fun h0 h s => ?_, fun h0 h n2 hn2 s => ?_, fun a e => ?_⟩
      · rcases c_takeWord s.1 (w := 3) (by decide) with ⟨g, -⟩ | ⟨-, h1, e1, t1, r1⟩
        · rw [hb] at g; cases g
        · obtain ⟨h2, e2, s2⟩ := o1C h0 h1 FU (by decide) (s.t t1 r1)
          have e2 : f_X7_readReads 13 (nI (tn T)) h1 = some (1, h2) := e2
          rw [f_X7_readChange_46, e1, bP_some, if_neg (by decide), e2, bP_some, if_neg (by decide)]
          exact oC h0 h2 s2
      · cases n2 with
        | zero => omega
        | succ n2 =>
          obtain ⟨h1, s1, e35, e1⟩ := mside h0 h s
          obtain ⟨h2, e2, s2⟩ := o1M h0 h1 FU (by decide) s1 e35
          rw [e1 n2, e2, bP_some, f_X9_takeChange_214, if_pos (by decide), if_neg (by decide), f_X9_takeChange_243, asg_nI h2 84 _ (by omega) (by omega), bO_some]
          exact oM h0 _ n2 (by omega) (s2.rsk 0)
      · obtain ⟨b1, b2⟩ := oI a e
        exact ⟨b1, by omega⟩
theorem L_A {X : XD} {T : TD} (w : wfT T) (hn : tn T < 24) {q : Nat} : ∃ o : (Nat × Nat) ⊕ (TD × Nat), (∀ h0 h, SC X T 0 0 0 (fun _ => 0) q h0 h → ResC h0 o (PCo X h0) (bP (f_X3_takeWord 2 h) (fun r29 h29 => if r29 = 0 then (f_X7_readChange_46 13 (nI (tn T)) h29) else (bP (f_X7_readSettings 13 (nI (tn T)) h29) (fun r38 h38 => if r38 = 0 then (some (0, h38)) else (f_X7_readChange_46 13 (nI (tn T)) h38)))))) ∧ (∀ h0 h n2, 3 < n2 → SM X T 0 0 (fun _ => 0) q h0 h → ResM h0 o (PMo X h0) (f_X9_takeChange_63 (nI (tn T)) n2 (-1) h)) ∧ ∀ a, o = .inr a → wfT a.1 ∧ q ≤ a.2 := by
  have hl3 := wh_le X q
  have ok0 : setOK 0 (fun _ => 0) := ⟨bel_zero _, fun s _ => by rw [bt_zero]; rfl, fun s => show 0 ≤ (0 : Int32).toInt ∧ (0 : Int32).toInt ≤ 99 by decide⟩
  cases hb : wdB X 2 q
  · have hw' : wh X q ≤ 0 ∨ 2 ≤ wh X q := by
      have : ¬ wh X q = 1 := by rw [wh_1, hb]; decide
      omega
    obtain ⟨o, oC, oM, oI⟩ := L_B w hn hw' (by omega) ok0
    refine ⟨o, fun h0 h s => ?_, fun h0 h n2 hn2 s => oM h0 h n2 (by omega) s, oI⟩
    rcases c_takeWord s.1 (w := 2) (by decide) with ⟨-, e1⟩ | ⟨g, -⟩
    · rw [e1, bP_some, if_pos rfl]
      exact oC h0 h s
    · rw [hb] at g; cases g
  · have h3 : wh X q = 1 := by rw [wh_1]; exact hb
    have hk1 := wd_kn hb
    have hqN : q < X.1 := kn_lt (by omega)
    have hx := nx_lt hqN
    have hx1 := nx_le (Nat.le_of_lt hqN)
    have hns : sgB X 59 q = false := by unfold sgB; rw [decide_eq_false (by omega)]; rfl
    have mside : ∀ h0 h, SM X T 0 0 (fun _ => 0) q h0 h → ∃ h', SM X T 0 0 (fun _ => 0) (nx X q) h0 h' ∧ h'.1 66 35 = 0 ∧ ∀ n2, f_X9_takeChange_63 (nI (tn T)) (n2 + 1) (-1) h = bP (f_X9_takeSets_7 (nI (tn T)) FU 1 h') (fun r187 h187 => f_X9_takeChange_214 (nI (tn T)) (f_X9_takeChange_63 (nI (tn T)) n2) 0 0 r187 h187) := fun h0 h s => by
      rcases m_top s.1 with ⟨g, -⟩ | ⟨-, h1, t1, r1, a1, b1, w1, e1⟩
      · rw [hns] at g; cases g
      · refine ⟨hU (hU h1 66 21 (nI (en X q))) 66 35 0, (s.t (t1.tr (tM.u _ rfl)) (r1.word hk1 b1)).u35 0, by rw [hU_s, upd_s], fun n2 => ?_⟩
        rw [e1 _ _ n2, h3, f_X9_takeChange_151, if_pos (by decide), lt'_eq, w1, we_en hk1]
        rfl
    obtain ⟨o1, o1C, o1M, o1I⟩ := L_sets (X := X) (T := T) hn (rd := 0) (rk := 0) 16 0 0 (fun _ => 0) (nx X q) (by omega) (pc_zero 16) ok0
    cases o1 with
    | inl bp =>
      refine ⟨.inl bp, fun h0 h s => ?_, fun h0 h n2 hn2 s => ?_, fun a e => by cases e⟩
      · rcases c_takeWord s.1 (w := 2) (by decide) with ⟨g, -⟩ | ⟨-, h1, e1, t1, r1⟩
        · rw [hb] at g; cases g
        · obtain ⟨h2, e2, f2, g2⟩ := o1C h0 h1 FU (by decide) (s.t t1 r1)
          have e2 : f_X7_readSettings 13 (nI (tn T)) h1 = some (0, h2) := e2
          exact ⟨h2, by rw [e1, bP_some, if_neg (by decide), e2, bP_some, if_pos rfl], f2, g2⟩
      · cases n2 with
        | zero => omega
        | succ n2 =>
          obtain ⟨h1, s1, e35, e1⟩ := mside h0 h s
          obtain ⟨z1, z2, h2, e2, f2, g2⟩ := o1M h0 h1 FU (by decide) s1 e35
          refine ⟨z1, z2, h2, ?_, f2, g2⟩
          rw [e1 n2, e2, bP_some, f_X9_takeChange_214, if_neg (nI_nle z1 (by omega))]
    | inr a1 =>
      obtain ⟨ar, aq⟩ := o1I a1 rfl
      obtain ⟨o, oC, oM, oI⟩ := L_B (X := X) (T := T) w hn (L := 1) (m := a1.1) (st := a1.2.1) (q := a1.2.2) (by omega) (by omega) ar
      refine ⟨o, fun h0 h s => ?_, fun h0 h n2 hn2 s => ?_, fun a e => ?_⟩
      · rcases c_takeWord s.1 (w := 2) (by decide) with ⟨g, -⟩ | ⟨-, h1, e1, t1, r1⟩
        · rw [hb] at g; cases g
        · obtain ⟨h2, e2, s2⟩ := o1C h0 h1 FU (by decide) (s.t t1 r1)
          have e2 : f_X7_readSettings 13 (nI (tn T)) h1 = some (1, h2) := e2
          rw [e1, bP_some, if_neg (by decide), e2, bP_some, if_neg (by decide)]
          exact oC h0 h2 s2
      · cases n2 with
        | zero => omega
        | succ n2 =>
          obtain ⟨h1, s1, e35, e1⟩ := mside h0 h s
          obtain ⟨h2, e2, s2⟩ := o1M h0 h1 FU (by decide) s1 e35
          rw [e1 n2, e2, bP_some, f_X9_takeChange_214, if_pos (by decide), if_neg (by decide), f_X9_takeChange_243, asg_nI h2 84 _ (by omega) (by omega), bO_some]
          exact oM h0 _ n2 (by omega) (s2.rsk 0)
      · obtain ⟨b1, b2⟩ := oI a e
        exact ⟨b1, by omega⟩
