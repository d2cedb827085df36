/-! ===== a trunk's text: clauses ===== -/
theorem PCo.t {X : XD} {h0 : PH} {T : TD} {q q' : Nat} {h h' : PH} (s : PCo X h0 (T, q) h) (t : tC h h') (r : RD X 2 q' h') : PCo X h0 (T, q') h' := ⟨r, s.2.1.tC t, s.2.2.tC t⟩
theorem PMo.t {X : XD} {h0 : PH} {T : TD} {q q' : Nat} {h h' : PH} (s : PMo X h0 (T, q) h) (t : tM h h') (r : PM X 2 q' h') : PMo X h0 (T, q') h' := ⟨r, s.2.1.tM t, s.2.2.tM t⟩
theorem PMo.f {X : XD} {h0 : PH} {T : TD} {q : Nat} {h : PH} (s : PMo X h0 (T, q) h) {V : Nat} (hV : V = 85 ∨ V = 86 ∨ V = 87) (v : Int32) : PMo X h0 (T, q) (hU h V (tf T) v) := by
  refine ⟨s.1.k (hU_n _ _ _ (by omega)) (fun i _ _ => by rw [hU_n _ _ _ (by omega)]), (show DMt T h from s.2.1).keep (by rw [hU_n _ _ _ (by omega)]) (by rw [hU_n _ _ _ (by omega)]) (fun c _ => by rw [hU_n _ _ _ (by omega), hU_n _ _ _ (by omega)]; exact ⟨rfl, rfl⟩) (fun j _ => by rw [hU_n _ _ _ (by omega)]) (fun f hf => ?_), s.2.2.u _ _ (by omega)⟩
  have g : ∀ U, (hU h V (tf T) v).1 U f = h.1 U f := fun U => by
    by_cases e : U = V
    · subst e; rw [hU_s, upd_n _ _ (by omega)]
    · rw [hU_n _ _ _ e]
  exact ⟨g 85, g 86, g 87⟩
theorem c_clear {X : XD} {T : TD} (hn : tn T < 24) {q : Nat} {h0 h : PH} (s : PCo X h0 (T, q) h) : ∃ h', f_X7_clearChange 13 (nI (tn T)) h = some h' ∧ SC X T 0 0 0 (fun _ => 0) q h0 h' := by
  have a1 : asg h (13 + 1) 24 (nI (tn T)) 0 = some (hU h 14 (tn T) 0) := asg_nI h 14 _ hn (by omega)
  have a2 : asg (hU h 14 (tn T) 0) (13 + 2) 24 (nI (tn T)) 0 = some (hU (hU h 14 (tn T) 0) 15 (tn T) 0) := asg_nI _ 15 _ hn (by omega)
  have a3 : asg (hU (hU h 14 (tn T) 0) 15 (tn T) 0) (13 + 3) 24 (nI (tn T)) 0 = some (hU (hU (hU h 14 (tn T) 0) 15 (tn T) 0) 16 (tn T) 0) := asg_nI _ 16 _ hn (by omega)
  obtain ⟨h3, e3⟩ : ∃ h3, h3 = hU (hU (hU h 14 (tn T) 0) 15 (tn T) 0) 16 (tn T) 0 := ⟨_, rfl⟩
  have lp : f_X7_clearChange_23 13 (nI (tn T)) FU 0 h3 = some (hC h3 17 (segF (h3.1 17) (16 * tn T) (fun _ => 0) 16)) := by
    have h00 : h3 = hC h3 17 (segF (h3.1 17) (16 * tn T) (fun _ => 0) 0) := by rw [segF_0, hC_self]
    conv => lhs; rw [h00]
    refine lp_up (fun k a i => f_X7_clearChange_23 13 (nI (tn T)) k (nI i) a) (fun i => hC h3 17 (segF (h3.1 17) (16 * tn T) (fun _ => 0) i)) 16 _ (fun k => ?_) (fun k i hi => ?_) FU 0 (Nat.zero_le _) (FU_gt (by omega))
    · show f_X7_clearChange_23 13 _ (k + 1) (nI 16) _ = _
      rw [f_X7_clearChange_23, if_pos (p16 (by omega) (by omega))]
    · show f_X7_clearChange_23 13 _ (k + 1) (nI i) _ = f_X7_clearChange_23 13 _ k (nI (i + 1)) _
      have a4 : asg (hC h3 17 (segF (h3.1 17) (16 * tn T) (fun _ => 0) i)) (13 + 4) 384 (nI (16 * tn T + i)) 0 = some (hC h3 17 (upd (segF (h3.1 17) (16 * tn T) (fun _ => 0) i) (16 * tn T + i) 0)) := by
        rw [← hC_hU]; exact asg_nI _ 17 _ (by omega) (by omega)
      have hs := segF_s (h3.1 17) (16 * tn T) (fun _ => 0) i
      rw [f_X7_clearChange_23, if_neg (n16 hi), ixC, a4, bO_some, nI1, hs]
  refine ⟨hC h3 17 (segF (h3.1 17) (16 * tn T) (fun _ => 0) 16), ?_, s.1.k3 (by rw [e3]; rfl) (by rw [e3]; rfl) (by rw [e3]; rfl), (show DCt T h from s.2.1).keep (by rw [e3]; rfl) (fun c hc => ?_) (fun j hj => ?_) (fun j _ => by rw [e3]; rfl) (fun f _ => by rw [e3]; exact ⟨rfl, rfl, rfl⟩), ⟨?_, ?_, ?_, fun s' hs' => ?_⟩, ⟨fun k h1 h2 => ?_, fun s' hs' => ?_⟩⟩
  · rw [f_X7_clearChange, a1, bO_some, a2, bO_some, a3, bO_some, ← e3, lp]
  · rw [e3]
    show upd (h.1 14) (tn T) 0 c = _ ∧ upd (h.1 15) (tn T) 0 c = _ ∧ upd (h.1 16) (tn T) 0 c = _
    rw [upd_n _ _ (by omega), upd_n _ _ (by omega), upd_n _ _ (by omega)]
    exact ⟨rfl, rfl, rfl⟩
  · rw [hC_s, segF_out (by omega), e3]; rfl
  · rw [hC_n _ _ (by decide), e3]
    show upd (h.1 14) (tn T) 0 (tn T) = 0
    rw [upd_s]
  · rw [hC_n _ _ (by decide), e3]
    show upd (h.1 15) (tn T) 0 (tn T) = 0
    rw [upd_s]
  · rw [hC_n _ _ (by decide), e3]
    show upd (h.1 16) (tn T) 0 (tn T) = 0
    rw [upd_s]
  · rw [hC_s, segF_in hs']
  · rw [hC_n _ _ (by omega), e3, hU_n _ _ _ (by omega), hU_n _ _ _ (by omega), hU_n _ _ _ (by omega)]; exact s.2.2.1 k h1 h2
  · rw [hC_n _ _ (by decide), e3, hU_n _ _ _ (by decide), hU_n _ _ _ (by decide), hU_n _ _ _ (by decide)]; exact s.2.2.2 s' hs'
theorem m_clear {X : XD} {T : TD} (hn : tn T < 24) {q : Nat} {h0 h : PH} (s : PMo X h0 (T, q) h) : ∃ h', f_X9_takeChange_23 (nI (tn T)) FU 0 h = f_X9_takeChange_63 (nI (tn T)) FU (-1) h' ∧ SM X T 0 0 (fun _ => 0) q h0 h' := by
  obtain ⟨g, hg⟩ : ∃ g, g = segF (h.1 82) (16 * tn T) (fun _ => 0) 16 := ⟨_, rfl⟩
  have lp : f_X9_takeChange_23 (nI (tn T)) FU 0 h = f_X9_takeChange_63 (nI (tn T)) FU (-1) (hU (hU (hC h 82 g) 83 (tn T) 0) 84 (tn T) 0) := by
    have h00 : h = hC h 82 (segF (h.1 82) (16 * tn T) (fun _ => 0) 0) := by rw [segF_0, hC_self]
    conv => lhs; rw [h00]
    refine lp_up (fun k a i => f_X9_takeChange_23 (nI (tn T)) k (nI i) a) (fun i => hC h 82 (segF (h.1 82) (16 * tn T) (fun _ => 0) i)) 16 _ (fun k => ?_) (fun k i hi => ?_) FU 0 (Nat.zero_le _) (FU_gt (by omega))
    · show f_X9_takeChange_23 _ (k + 1) (nI 16) _ = _
      rw [f_X9_takeChange_23, if_pos (p16 (by omega) (by omega)), ← hg, asg_nI _ 83 _ hn (by omega), bO_some, asg_nI _ 84 _ hn (by omega), bO_some]
    · show f_X9_takeChange_23 _ (k + 1) (nI i) _ = f_X9_takeChange_23 _ k (nI (i + 1)) _
      have hs := segF_s (h.1 82) (16 * tn T) (fun _ => 0) i
      rw [f_X9_takeChange_23, if_neg (n16 hi), ixM, asg_nI _ 82 _ (by omega) (by omega), bO_some, hC_hU, hs, nI1]
  refine ⟨_, lp, s.1.k rfl (fun _ _ _ => rfl), (show DMt T h from s.2.1).keep rfl rfl (fun c hc => ?_) (fun j hj => ?_) (fun _ _ => ⟨rfl, rfl, rfl⟩), ⟨?_, ?_, fun s' hs' => ?_⟩, ⟨fun k h1 h2 => ?_, fun i hi => ?_⟩⟩
  · show upd (h.1 83) (tn T) 0 c = _ ∧ upd (h.1 84) (tn T) 0 c = _
    rw [upd_n _ _ (by omega), upd_n _ _ (by omega)]
    exact ⟨rfl, rfl⟩
  · show g j = _
    rw [hg, segF_out (by omega)]
  · show upd (h.1 83) (tn T) 0 (tn T) = 0
    rw [upd_s]
  · show upd (h.1 84) (tn T) 0 (tn T) = 0
    rw [upd_s]
  · show g (16 * tn T + s') = 0
    rw [hg, segF_in hs']
  · rw [hU_n _ _ _ (by omega), hU_n _ _ _ (by omega), hC_n _ _ (by omega)]; exact s.2.2.1 k h1 h2
  · rw [hU_n _ _ _ (by omega), hU_n _ _ _ (by omega), hC_n _ _ (by omega)]; exact s.2.2.2 i hi
theorem L_change {X : XD} {T : TD} (w : wfT T) {q : Nat} (hb : wdB X 0 q = true) : ∃ o : (Nat × Nat) ⊕ (TD × Nat), (∀ h0 h, PCo X h0 (T, q) h → ResC h0 o (PCo X h0) (f_X7_readChange 13 h)) ∧ (∀ h0 h, PMo X h0 (T, nx X q) h → ResM h0 o (PMo X h0) (f_X9_takeChange (nI q) h)) ∧ ∀ a, o = .inr a → wfT a.1 ∧ nx X q ≤ a.2 := by
  have n24 := w.1
  have hqN : q < X.1 := kn_lt (by have := wd_kn hb; omega)
  by_cases hn : tn T < 24
  · obtain ⟨o, oC, oM, oI⟩ := L_A (X := X) w hn (q := nx X q)
    refine ⟨o, fun h0 h s => ?_, fun h0 h s => ?_, oI⟩
    · obtain ⟨h1, e1, t1, r1, -⟩ := c_stepR s.1
      obtain ⟨h2, e2, s2⟩ := c_clear hn (s.t t1 r1)
      rw [f_X7_readChange, lt'_eq, s.2.1.1, if_pos (show nI (tn T) < 24 by rw [show (24 : Int32) = nI 24 from rfl, ltN (by omega) (by omega)]; exact hn), e1, bO_some, e2, bO_some]
      exact oC h0 h2 s2
    · obtain ⟨h2, e2, s2⟩ := m_clear hn s
      rw [f_X9_takeChange, s.2.1.1, if_neg (show ¬ nI (tn T) = 24 by rw [show (24 : Int32) = nI 24 from rfl, eqN (by omega) (by omega)]; omega), lt'_eq, e2]
      exact oM h0 h2 FU (by decide) s2
  · have e24 : tn T = 24 := by omega
    refine ⟨.inl (3, q), fun h0 h s => ?_, fun h0 h s => ?_, fun a e => by cases e⟩
    · obtain ⟨h1, e1, t1, f1⟩ := c_refuse s.1 3
      have e1 : f_X3_refuse 3 h = some (0, h1) := e1
      refine ⟨h1, ?_, f1, s.2.2.tC t1⟩
      rw [f_X7_readChange, lt'_eq, s.2.1.1, e24, if_neg (by decide), e1, bP_some]
      rfl
    · obtain ⟨h1, e1, t1, f1⟩ := m_breaks 3 q h
      have e1 : f_X9_breaks 3 (nI q) h = some (3, h1) := e1
      refine ⟨show 0 < 3 by decide, show 3 ≤ 4 by decide, h1, ?_, f1, s.2.2.tM t1⟩
      rw [f_X9_takeChange, s.2.1.1, e24, if_pos (by decide), e1, bP_some]
      rfl
/-! a fault -/
def addF (T : TD) (wt fr tl : Int32) : TD := (tn T, tf T + 1, tst T, trd T, trk T, upd (twt T) (tf T) wt, upd (tfr T) (tf T) fr, upd (ttl T) (tf T) tl)
theorem addF_wf {T : TD} (w : wfT T) (hf : tf T < 10) {wt fr tl : Int32} (h1 : 1 ≤ wt.toInt ∧ wt.toInt ≤ 99) (h2 : ∃ k, k < tn T ∧ fr = nI k) (h3 : tl = -1 ∨ ∃ k, k < tn T ∧ tl = nI k) : wfT (addF T wt fr tl) := by
  obtain ⟨w1, w2, w3, w4, w5, w6, w7, w8⟩ := w
  refine ⟨w1, show tf T + 1 ≤ 10 by omega, w3, w4, w5, fun f => ?_, fun f hf2 => ?_, fun f hf2 => ?_⟩
  · show 1 ≤ (upd (twt T) (tf T) wt f).toInt ∧ (upd (twt T) (tf T) wt f).toInt ≤ 99
    by_cases e : f = tf T
    · subst e; rw [upd_s]; exact h1
    · rw [upd_n _ _ e]; exact w6 f
  · have hf2 : f < tf T + 1 := hf2
    show ∃ k, k < tn T ∧ upd (tfr T) (tf T) fr f = nI k
    by_cases e : f = tf T
    · subst e; rw [upd_s]; exact h2
    · rw [upd_n _ _ e]; exact w7 f (by omega)
  · have hf2 : f < tf T + 1 := hf2
    show upd (ttl T) (tf T) tl f = -1 ∨ ∃ k, k < tn T ∧ upd (ttl T) (tf T) tl f = nI k
    by_cases e : f = tf T
    · subst e; rw [upd_s]; exact h3
    · rw [upd_n _ _ e]; exact w8 f (by omega)
theorem addF_ahd {T : TD} {wt fr tl : Int32} (s : Nat) : ∀ c, ahd (addF T wt fr tl) c s = ahd T c s := by
  intro c
  induction c with
  | zero => rfl
  | succ c ih => rw [ahd, ahd, ih]; rfl
theorem L_fend {X : XD} {T : TD} (w : wfT T) (hf : tf T < 10) {wt fr tl : Int32} (h1 : 1 ≤ wt.toInt ∧ wt.toInt ≤ 99) (h2 : ∃ k, k < tn T ∧ fr = nI k) (h3 : tl = -1 ∨ ∃ k, k < tn T ∧ tl = nI k) (q : Nat) : ∃ o : (Nat × Nat) ⊕ (TD × Nat), (∀ h0 h, PCo X h0 (T, q) h → ResC h0 o (PCo X h0) (f_X7_readFault_102 13 (nI (tf T)) wt fr tl h)) ∧ (∀ h0 h, PMo X h0 (T, q) h → h.1 85 (tf T) = wt → h.1 86 (tf T) = fr → h.1 87 (tf T) = tl → ResM h0 o (PMo X h0) (f_X9_takeFault_210 0 h)) ∧ ∀ a, o = .inr a → wfT a.1 ∧ q ≤ a.2 := by
  have mside : ∀ h0 h, PMo X h0 (T, q) h → PM X 2 q (hU h 66 31 (nI (tf T + 1))) ∧ f_X9_takeFault_210 0 h = bP (f_X9_takeStop (hU h 66 31 (nI (tf T + 1)))) (fun r229 h229 => some (r229, h229)) := fun h0 h s => ⟨s.1.k rfl (fun i _ _ => by rw [hU_s, upd_n _ _ (by omega)]), by rw [f_X9_takeFault_210, lt'_eq, s.2.1.2.1, nI1, if_pos (Int32.le_refl _)]⟩
  cases hb : sgB X 59 q
  · refine ⟨.inl (1, q), fun h0 h s => ?_, fun h0 h s _ _ _ => ?_, fun a e => by cases e⟩
    · rcases c_needSign s.1 59 with ⟨-, h', e', t', f'⟩ | ⟨g, -⟩
      · exact ⟨h', by rw [f_X7_readFault_102, e', bP_some, if_pos rfl], f', s.2.2.tC t'⟩
      · rw [hb] at g; cases g
    · obtain ⟨r1, e1⟩ := mside h0 h s
      rcases m_takeStop r1 with ⟨-, h2, e2, t2, f2⟩ | ⟨g, -⟩
      · exact ⟨show 0 < 1 by decide, show 1 ≤ 4 by decide, h2, by rw [e1, e2, bP_some]; rfl, f2, (s.2.2.u66 _ rfl).tM t2⟩
      · rw [hb] at g; cases g
  · refine ⟨.inr (addF T wt fr tl, nx X q), fun h0 h s => ?_, fun h0 h s m85 m86 m87 => ?_, fun a e => ?_⟩
    · rcases c_needSign s.1 59 with ⟨g, -⟩ | ⟨-, h1, e1, t1, r1⟩
      · rw [hb] at g; cases g
      · have s1 := s.t t1 r1
        have a1 : asg h1 (13 + 6) 10 (nI (tf T)) wt = some (hU h1 19 (tf T) wt) := asg_nI h1 19 _ hf (by omega)
        have a2 : asg (hU h1 19 (tf T) wt) (13 + 7) 10 (nI (tf T)) fr = some (hU (hU h1 19 (tf T) wt) 20 (tf T) fr) := asg_nI _ 20 _ hf (by omega)
        have a3 : asg (hU (hU h1 19 (tf T) wt) 20 (tf T) fr) (13 + 8) 10 (nI (tf T)) tl = some (hU (hU (hU h1 19 (tf T) wt) 20 (tf T) fr) 21 (tf T) tl) := asg_nI _ 21 _ hf (by omega)
        obtain ⟨d0, d6, d1, d2, d3⟩ := (show DCt T h1 from s1.2.1)
        refine ⟨hU (hU (hU (hU h1 19 (tf T) wt) 20 (tf T) fr) 21 (tf T) tl) 13 6 (nI (tf T + 1)), ?_, r1.k3 rfl rfl rfl, ⟨?_, ?_, d1, fun c hc s' hs' => ?_, fun f hf2 => ?_⟩, ⟨fun k k1 k2 => ?_, fun s' hs' => s1.2.2.2 s' hs'⟩⟩
        · rw [f_X7_readFault_102, e1, bP_some, if_neg (by decide), a1, bO_some, a2, bO_some, a3, bO_some, lt'_eq, nI1]
        · rw [hU_s, upd_n _ _ (by decide)]; exact d0
        · rw [hU_s, upd_s]; rfl
        · rw [addF_ahd]; exact d2 c hc s' hs'
        · have hf2 : f < tf T + 1 := hf2
          show upd (h1.1 19) (tf T) wt f = upd (twt T) (tf T) wt f ∧ upd (h1.1 20) (tf T) fr f = upd (tfr T) (tf T) fr f ∧ upd (h1.1 21) (tf T) tl f = upd (ttl T) (tf T) tl f
          by_cases e : f = tf T
          · subst e; rw [upd_s, upd_s, upd_s, upd_s, upd_s, upd_s]; exact ⟨rfl, rfl, rfl⟩
          · rw [upd_n _ _ e, upd_n _ _ e, upd_n _ _ e, upd_n _ _ e, upd_n _ _ e, upd_n _ _ e]; exact d3 f (by omega)
        · rw [hU_n _ _ _ (by omega), hU_n _ _ _ (by omega), hU_n _ _ _ (by omega), hU_n _ _ _ (by omega)]; exact s1.2.2.1 k k1 k2
    · obtain ⟨r1, e1⟩ := mside h0 h s
      rcases m_takeStop r1 with ⟨g, -⟩ | ⟨-, h2, e2, t2, r2⟩
      · rw [hb] at g; cases g
      · obtain ⟨d0, d6, d1, d3⟩ := (show DMt T h from s.2.1)
        have dm : DMt (addF T wt fr tl) (hU h 66 31 (nI (tf T + 1))) := by
          refine ⟨by rw [hU_s, upd_n _ _ (by decide)]; exact d0, by rw [hU_s, upd_s]; rfl, d1, fun f hf2 => ?_⟩
          have hf2 : f < tf T + 1 := hf2
          show h.1 85 f = upd (twt T) (tf T) wt f ∧ h.1 86 f = upd (tfr T) (tf T) fr f ∧ h.1 87 f = upd (ttl T) (tf T) tl f
          by_cases e : f = tf T
          · subst e; rw [upd_s, upd_s, upd_s]; exact ⟨m85, m86, m87⟩
          · rw [upd_n _ _ e, upd_n _ _ e, upd_n _ _ e]; exact d3 f (by omega)
        exact ⟨h2, by rw [e1, e2, bP_some], r2, dm.tM t2, (s.2.2.u66 _ rfl).tM t2⟩
    · cases e
      exact ⟨addF_wf w hf h1 h2 h3, Nat.le_of_lt (nx_lt (sg_en hb).1)⟩
