/-! ===== clash, needs, apart ===== -/
theorem rc_clash {S : SD} {h : PH} (w : wfS S) (c : RC S h) {k l : Nat} (hk : k < tn S.1) (hl : l < bl S.2.1) : f_X7_clashOf 4 32 64 (nI k) (nI l) h = some (clashM S.1 k (bval S.2.1 l), h) := by
  have := w.b4
  have e := c_clashOf w.1 c.1 hk (V := 32) (N := 64) (r := l) (by omega) (by omega)
  rw [clashM_congr (w := bval S.2.1 l) (fun s hs => (c.2.1.2.2.1 l hl).2.2.2 s hs)] at e
  exact e
def Has (v : Nat → Int32) (V : Nat) (h : PH) : Prop := ∀ s, s < 16 → h.1 V s = v s
theorem rm_try {S : SD} {h : PH} (w : wfS S) (c : RM S h) {l : Nat} (hl : l < bl S.2.1) : ∃ h', f_X9_tryLine (nI l) h = some h' ∧ keepM h h' ∧ Has (bval S.2.1 l) 89 h' ∧ h'.1 90 = h.1 90 := by
  have := w.b4
  refine ⟨_, m_tryLine (by omega), keepM.hC _ rfl (by decide), fun s hs => ?_, hC_n _ _ (by decide)⟩
  rw [hC_s, segF_in0 hs]
  exact (c.2.1.2.2.1 l hl).2.2.2 s hs
theorem rm_clash {S : SD} {h : PH} (w : wfS S) (c : RM S h) {k : Nat} (hk : k < tn S.1) {v : Nat → Int32} (hv : Has v 89 h) : f_X9_clashOf (nI k) h = some (clashM S.1 k v, h) := by
  rw [m_clashOf w.1 c.1 hk, clashM_congr hv]
theorem rm_goOn {S : SD} {h : PH} (w : wfS S) (c : RM S h) {k : Nat} (hk : k < tn S.1) {v : Nat → Int32} (hv : Has v 89 h) : ∃ h', f_X9_goOn (nI k) h = some h' ∧ keepM h h' ∧ Has (putM S.1 k v) 89 h' ∧ h'.1 90 = h.1 90 := by
  refine ⟨_, m_goOn w.1 c.1 hk, keepM.hC _ rfl (by decide), fun s hs => ?_, hC_n _ _ (by decide)⟩
  rw [hC_s, segF_in0 hs]
  exact putM_congr hv s hs
theorem c_lay2 {S : SD} {h : PH} (w : wfS S) (c : RC S h) {l V : Nat} (hl : l < bl S.2.1) (hV : scC V = true) : ∃ h', f_X2_lay V 16 (nI l) h = some h' ∧ keepC h h' ∧ Has (bval S.2.1 l) V h' ∧ ∀ U, U ≠ V → h'.1 U = h.1 U := by
  have := w.b4
  refine ⟨_, c_lay (by omega), keepC.hC _ hV, fun s hs => ?_, fun U hU => hC_n _ _ hU⟩
  rw [hC_s, segF_in0 hs]
  exact (c.2.1.2.2.1 l hl).2.2.2 s hs
theorem c_clash2 {S : SD} {h : PH} (w : wfS S) (c : RC S h) {k V : Nat} (hk : k < tn S.1) {v : Nat → Int32} (hv : Has v V h) : f_X7_clashOf 4 V 16 (nI k) 0 h = some (clashM S.1 k v, h) := by
  have e := c_clashOf w.1 c.1 hk (V := V) (N := 16) (r := 0) (by omega) (by omega)
  rw [row0, clashM_congr hv] at e
  exact e
theorem c_put2 {S : SD} {h : PH} (w : wfS S) (c : RC S h) {k V : Nat} (hk : k < tn S.1) (hV : scC V = true) (hV2 : CTc V = false) {v : Nat → Int32} (hv : Has v V h) : ∃ h', f_X7_putOn 4 V 16 (nI k) 0 h = some h' ∧ keepC h h' ∧ Has (putM S.1 k v) V h' ∧ ∀ U, U ≠ V → h'.1 U = h.1 U := by
  have e := c_putOn w.1 c.1 hk (V := V) (N := 16) (r := 0) hV2 (by omega) (by omega)
  rw [row0] at e
  refine ⟨_, e, keepC.hC _ hV, fun s hs => ?_, fun U hU => hC_n _ _ hU⟩
  rw [hC_s, Nat.mul_zero, segF_in0 hs]
  exact putM_congr hv s hs
theorem p_clash (x y : Int32) : Pair (f_X8_clash x y) (f_X9_clash x y) := Pair.two (fun S w => by
  refine two_line w (fun _ => rfl) (fun _ => rfl) (fun l hl e => ?_)
  subst e
  refine two_change w (fun _ => rfl) (fun _ => rfl) (fun k hk e => ?_)
  subst e
  have n24 := w.n24
  cases hb : bt (bin S.2.1 l) k
  · refine Two.of (clashM S.1 k (bval S.2.1 l)) (Q.pt fun h c => ?_) (fun h c => ?_)
    · rw [c.rin w hl, bO_some, has8 _ (by omega), bO_some, hb, if_pos (by decide), rc_clash w c hk hl, bP_some]
    · obtain ⟨h1, e1, k1, v1, -⟩ := rm_try w c hl
      exact ⟨h1, by rw [c.rin w hl, bO_some, has9 _ (by omega), bO_some, hb, if_pos (by decide), e1, bO_some, rm_clash w (c.keepM k1) hk v1, bP_some], k1⟩
  · exact (Two.ret (-1003)).eqv (fun h c => by rw [c.rin w hl, bO_some, has8 _ (by omega), bO_some, hb, if_neg (by decide)]) (fun h c => by rw [c.rin w hl, bO_some, has9 _ (by omega), bO_some, hb, if_neg (by decide)]))
def ndM (S : SD) (l k : Nat) : Option Int32 := needsM S.1 (bval S.2.1 l) (bin S.2.1 l) k
theorem q_needs {S : SD} (w : wfS S) {l k : Nat} (hl : l < bl S.2.1) (hk : k < tn S.1) {h : PH} (c : RC S h) : ∃ g, f_X2_needsOf (nI l) (nI k) h = some ((ndM S l k).getD (-1), hC h 56 g) := by
  have := w.b4
  obtain ⟨g, e⟩ := c_needsOf w.1 c.1 (l := l) (by omega) hk
  refine ⟨g, ?_⟩
  rw [e, needsM_congr (w := bval S.2.1 l) (fun s hs => (c.2.1.2.2.1 l hl).2.2.2 s hs), (c.2.1.2.2.1 l hl).2.1, ndM]
theorem p9_needs {S : SD} (w : wfS S) {l k : Nat} (hl : l < bl S.2.1) (hk : k < tn S.1) {h : PH} (c : RM S h) : ∃ g, f_X9_needsOf (nI l) (nI k) h = some ((ndM S l k).getD (-1), hC h 89 g) ∧ ∀ r, ndM S l k = some r → Has (goV S.1 (r ||| (1 <<< (nI k &&& 31))) (bval S.2.1 l) (tn S.1)) 89 (hC h 89 g) := by
  have := w.b4
  obtain ⟨g, e, hg⟩ := m_needsOf w.1 c.1 (l := l) (by omega) hk
  have ev : needsM S.1 (fun s => h.1 75 (16 * l + s)) (h.1 74 l) k = ndM S l k := by
    rw [needsM_congr (w := bval S.2.1 l) (fun s hs => (c.2.1.2.2.1 l hl).2.2.2 s hs), (c.2.1.2.2.1 l hl).2.1, ndM]
  rw [ev] at e hg
  refine ⟨g, e, fun r hr s hs => ?_⟩
  rw [hC_s, hg r hr s hs]
  exact goV_congr (fun s hs => (c.2.1.2.2.1 l hl).2.2.2 s hs) _ s hs
theorem qQ_needs {S : SD} (w : wfS S) {l k : Nat} (hl : l < bl S.2.1) (hk : k < tn S.1) : Q S (f_X2_needsOf (nI l) (nI k)) ((ndM S l k).getD (-1)) := fun h c => by
  obtain ⟨g, e⟩ := q_needs w hl hk c
  exact ⟨_, e, keepC.hC _ rfl⟩
theorem pP_needs {S : SD} (w : wfS S) {l k : Nat} (hl : l < bl S.2.1) (hk : k < tn S.1) : P9 S (f_X9_needsOf (nI l) (nI k)) ((ndM S l k).getD (-1)) := fun h c => by
  obtain ⟨g, e, -⟩ := p9_needs w hl hk c
  exact ⟨_, e, keepM.hC _ rfl (by decide)⟩
theorem p_needs (x y : Int32) : Pair (f_X8_needs x y) (f_X9_needs x y) := Pair.two (fun S w => by
  refine two_line w (fun _ => rfl) (fun _ => rfl) (fun l hl e => ?_)
  subst e
  refine two_change w (fun _ => rfl) (fun _ => rfl) (fun k hk e => ?_)
  subst e
  exact Two.of _ (Q_bP (qQ_needs w hl hk) (Q.pt fun h c => rfl)) (P9_bP (pP_needs w hl hk) (P9.pt fun h c => rfl)))
/-! apart -/
def eq16 (v u : Nat → Int32) : Nat → Bool
  | 0 => true
  | s + 1 => eq16 v u s && decide (v s = u s)
theorem eq16_down {v u : Nat → Int32} {i n : Nat} (h : i ≤ n) (hi : eq16 v u i = false) : eq16 v u n = false := by
  induction n with
  | zero => have : i = 0 := by omega
            subst this; exact hi
  | succ n ih =>
    by_cases e : i = n + 1
    · subst e; exact hi
    · rw [eq16, ih (by omega)]; rfl
theorem goesOn_t {S : SD} {h : PH} (w : wfS S) (c : RC S h) {k V : Nat} (hk : k < tn S.1) (hV : scC V = true) (hV2 : CTc V = false) {v : Nat → Int32} (hv : Has v V h) (hc : clashM S.1 k v = 0) : ∃ h', f_X2_goesOn V 16 (nI k) h = some (1, h') ∧ keepC h h' ∧ Has (putM S.1 k v) V h' ∧ ∀ U, U ≠ V → h'.1 U = h.1 U := by
  obtain ⟨h1, e1, k1, v1, u1⟩ := c_put2 w c hk hV hV2 hv
  refine ⟨h1, ?_, k1, v1, u1⟩
  rw [f_X2_goesOn, c_clash2 w c hk hv, bP_some, if_pos hc, e1, bO_some]
theorem goesOn_f {S : SD} {h : PH} (w : wfS S) (c : RC S h) {k V : Nat} (hk : k < tn S.1) {v : Nat → Int32} (hv : Has v V h) (hc : ¬ clashM S.1 k v = 0) : f_X2_goesOn V 16 (nI k) h = some (0, h) := by
  rw [f_X2_goesOn, c_clash2 w c hk hv, bP_some, if_neg hc]
theorem c_ap71 {h : PH} {v u : Nat → Int32} (hv : Has v 56 h) (hu : Has u 57 h) : f_X2_areApart_71 FU 0 h = some (b01 (eq16 v u 16), h) := by
  refine lp_P (fun n (_ : Unit) i => f_X2_areApart_71 n (nI i) h) (fun _ => ()) 16 (fun o => o = some (b01 (eq16 v u 16), h)) (fun i => eq16 v u i = true) (fun n hI => ?_) (fun n i hi hI => ?_) FU 0 (Nat.zero_le _) (FU_gt (by omega)) rfl
  · show f_X2_areApart_71 (n + 1) _ h = _
    rw [f_X2_areApart_71, if_pos (p16 (by omega) (by omega)), hI]
    rfl
  · show f_X2_areApart_71 (n + 1) (nI i) h = _ ∨ (_ ∧ f_X2_areApart_71 (n + 1) (nI i) h = f_X2_areApart_71 n (nI (i + 1)) h)
    rw [f_X2_areApart_71, if_neg (n16 hi), ag_nI h 56 hi (by omega), bO_some, ag_nI h 57 hi (by omega), bO_some, hv i hi, hu i hi, nI1]
    by_cases e : v i = u i
    · right
      exact ⟨by rw [eq16, hI, e]; simp, by rw [if_pos e]⟩
    · left
      rw [if_neg e, eq16_down (i := i + 1) (n := 16) (by omega) (by rw [eq16]; simp [e])]
      rfl
def apM (T : TD) (v : Nat → Int32) (k j : Nat) : Bool := decide (clashM T k v = 0) && decide (clashM T j (putM T k v) = 0)
def apV (T : TD) (v : Nat → Int32) (k j : Nat) : Nat → Int32 := putM T j (putM T k v)
theorem q_apart {S : SD} (w : wfS S) {l k j : Nat} (hl : l < bl S.2.1) (hk : k < tn S.1) (hj : j < tn S.1) : Q S (f_X2_areApart (nI l) (nI k) (nI j)) (b01 (apM S.1 (bval S.2.1 l) k j && apM S.1 (bval S.2.1 l) j k && eq16 (apV S.1 (bval S.2.1 l) k j) (apV S.1 (bval S.2.1 l) j k) 16)) := fun h c => by
  obtain ⟨v, hv⟩ : ∃ v, v = bval S.2.1 l := ⟨_, rfl⟩
  rw [← hv]
  obtain ⟨h1, e1, k1, v1, u1⟩ := c_lay2 w c hl (V := 56) rfl
  have c1 := c.keepC k1
  obtain ⟨h2, e2, k2, v2, u2⟩ := c_lay2 w c1 hl (V := 57) rfl
  have c2 := c1.keepC k2
  rw [← hv] at v1 v2
  have v12 : Has v 56 h2 := fun s hs => by rw [u2 56 (by decide)]; exact v1 s hs
  have kk2 := k1.tr k2
  rw [f_X2_areApart, e1, bO_some, e2, bO_some]
  by_cases a1 : clashM S.1 k v = 0
  · obtain ⟨h3, e3, k3, v3, u3⟩ := goesOn_t w c2 hk (V := 56) rfl rfl v12 a1
    have c3 := c2.keepC k3
    have v3b : Has v 57 h3 := fun s hs => by rw [u3 57 (by decide)]; exact v2 s hs
    rw [e3, bP_some, if_neg (by decide)]
    by_cases a2 : clashM S.1 j (putM S.1 k v) = 0
    · obtain ⟨h4, e4, k4, v4, u4⟩ := goesOn_t w c3 hj (V := 56) rfl rfl v3 a2
      have c4 := c3.keepC k4
      have v4b : Has v 57 h4 := fun s hs => by rw [u4 57 (by decide)]; exact v3b s hs
      rw [e4, bP_some, if_neg (by decide)]
      by_cases a3 : clashM S.1 j v = 0
      · obtain ⟨h5, e5, k5, v5, u5⟩ := goesOn_t w c4 hj (V := 57) rfl rfl v4b a3
        have c5 := c4.keepC k5
        have v5b : Has (putM S.1 j (putM S.1 k v)) 56 h5 := fun s hs => by rw [u5 56 (by decide)]; exact v4 s hs
        rw [e5, bP_some, if_neg (by decide)]
        by_cases a4 : clashM S.1 k (putM S.1 j v) = 0
        · obtain ⟨h6, e6, k6, v6, u6⟩ := goesOn_t w c5 hk (V := 57) rfl rfl v5 a4
          have v6b : Has (putM S.1 j (putM S.1 k v)) 56 h6 := fun s hs => by rw [u6 56 (by decide)]; exact v5b s hs
          rw [e6, bP_some, if_neg (by decide), c_ap71 v6b v6]
          refine ⟨h6, ?_, kk2.tr (k3.tr (k4.tr (k5.tr k6)))⟩
          rw [apM, apM, decide_eq_true a1, decide_eq_true a2, decide_eq_true a3, decide_eq_true a4]
          rfl
        · rw [goesOn_f w c5 hk v5 a4, bP_some, if_pos rfl]
          refine ⟨h5, ?_, kk2.tr (k3.tr (k4.tr k5))⟩
          rw [apM, apM, decide_eq_false a4]
          simp [b01]
      · rw [goesOn_f w c4 hj v4b a3, bP_some, if_pos rfl]
        refine ⟨h4, ?_, kk2.tr (k3.tr k4)⟩
        rw [apM, apM, decide_eq_false a3]
        simp [b01]
    · rw [goesOn_f w c3 hj v3 a2, bP_some, if_pos rfl]
      refine ⟨h3, ?_, kk2.tr k3⟩
      rw [apM, apM, decide_eq_false a2]
      simp [b01]
  · rw [goesOn_f w c2 hk v12 a1, bP_some, if_pos rfl]
    refine ⟨h2, ?_, kk2⟩
    rw [apM, apM, decide_eq_false a1]
    simp [b01]
theorem p9_both {S : SD} (w : wfS S) {l k j : Nat} (hl : l < bl S.2.1) (hk : k < tn S.1) (hj : j < tn S.1) {h : PH} (c : RM S h) : ∃ h', f_X9_goBoth (nI l) (nI k) (nI j) h = some (b01 (apM S.1 (bval S.2.1 l) k j), h') ∧ keepM h h' ∧ Has (apV S.1 (bval S.2.1 l) k j) 89 h' ∧ h'.1 90 = h.1 90 := by
  obtain ⟨h1, e1, k1, v1, u1⟩ := rm_try w c hl
  have c1 := c.keepM k1
  obtain ⟨h2, e2, k2, v2, u2⟩ := rm_goOn w c1 hk v1
  have c2 := c1.keepM k2
  obtain ⟨h3, e3, k3, v3, u3⟩ := rm_goOn w c2 hj v2
  refine ⟨h3, ?_, k1.tr (k2.tr k3), v3, by rw [u3, u2, u1]⟩
  rw [f_X9_goBoth, e1, bO_some, rm_clash w c1 hk v1, bP_some, apM]
  by_cases a1 : clashM S.1 k (bval S.2.1 l) = 0
  · rw [if_pos a1, f_X9_goBoth_18, e2, bO_some, if_neg (by decide), rm_clash w c2 hj v2, bP_some, decide_eq_true a1]
    by_cases a2 : clashM S.1 j (putM S.1 k (bval S.2.1 l)) = 0
    · rw [if_pos a2, f_X9_goBoth_43, e3, bO_some, zr_1, decide_eq_true a2]; rfl
    · rw [if_neg a2, f_X9_goBoth_42, f_X9_goBoth_43, e3, bO_some, zr_0, decide_eq_false a2]; rfl
  · rw [if_neg a1, f_X9_goBoth_18, e2, bO_some, if_pos rfl, f_X9_goBoth_42, f_X9_goBoth_43, e3, bO_some, zr_0, decide_eq_false a1]; rfl
theorem m_ap127 {h : PH} {v u : Nat → Int32} (hu : Has u 89 h) (hv : Has v 90 h) (b : Bool) : f_X9_apart_127 FU (b01 b) 0 h = some (b01 (b && eq16 v u 16), h) := by
  have e0 : b01 b = b01 (b && eq16 v u 0) := by rw [eq16, Bool.and_true]
  rw [e0]
  refine lp_up (fun n a i => f_X9_apart_127 n a (nI i) h) (fun i => b01 (b && eq16 v u i)) 16 _ (fun n => ?_) (fun n i hi => ?_) FU 0 (Nat.zero_le _) (FU_gt (by omega))
  · show f_X9_apart_127 (n + 1) (b01 (b && eq16 v u 16)) _ h = _
    rw [f_X9_apart_127, if_pos (p16 (by omega) (by omega))]
    cases b && eq16 v u 16 <;> rfl
  · show f_X9_apart_127 (n + 1) (b01 (b && eq16 v u i)) (nI i) h = f_X9_apart_127 n (b01 (b && eq16 v u (i + 1))) (nI (i + 1)) h
    rw [f_X9_apart_127, if_neg (n16 hi), ag_nI h 90 hi (by omega), bO_some, ag_nI h 89 hi (by omega), bO_some, hv i hi, hu i hi, nI1, eq16, ← Bool.and_assoc]
    cases b && eq16 v u i
    · rw [if_pos (by decide)]; rfl
    · rw [if_neg (by decide)]
      by_cases e : v i = u i
      · rw [if_pos e, decide_eq_true e]; rfl
      · rw [if_neg e, decide_eq_false e]; rfl
theorem p9_apart {S : SD} (w : wfS S) {l k j : Nat} (hl : l < bl S.2.1) (hk : k < tn S.1) (hj : j < tn S.1) : P9 S (fun h => bP (f_X9_goBoth (nI l) (nI k) (nI j) h) (fun r67 h67 => f_X9_apart_75 (nI l) (nI k) (nI j) r67 FU 0 h67)) (b01 (apM S.1 (bval S.2.1 l) k j && apM S.1 (bval S.2.1 l) j k && eq16 (apV S.1 (bval S.2.1 l) k j) (apV S.1 (bval S.2.1 l) j k) 16)) := fun h c => by
  obtain ⟨h1, e1, k1, v1, u1⟩ := p9_both w hl hk hj c
  have c1 := c.keepM k1
  have k2 : keepM h1 (hC h1 90 (segF (h1.1 90) 0 (h1.1 89) 16)) := keepM.hC _ rfl (by decide)
  have c2 := c1.keepM k2
  obtain ⟨h3, e3, k3, v3, u3⟩ := p9_both w hl hj hk c2
  have v90 : Has (apV S.1 (bval S.2.1 l) k j) 90 h3 := fun s hs => by rw [u3, hC_s, segF_in0 hs]; exact v1 s hs
  have eL : f_X9_apart_75 (nI l) (nI k) (nI j) (b01 (apM S.1 (bval S.2.1 l) k j)) FU 0 h1 = some (b01 (apM S.1 (bval S.2.1 l) k j && apM S.1 (bval S.2.1 l) j k && eq16 (apV S.1 (bval S.2.1 l) k j) (apV S.1 (bval S.2.1 l) j k) 16), h3) := by
    have h0 : h1 = hC h1 90 (segF (h1.1 90) 0 (h1.1 89) 0) := by rw [segF_0, hC_self]
    conv => lhs; rw [h0]
    refine lp_up (fun n a i => f_X9_apart_75 (nI l) (nI k) (nI j) (b01 (apM S.1 (bval S.2.1 l) k j)) n (nI i) a) (fun i => hC h1 90 (segF (h1.1 90) 0 (h1.1 89) i)) 16 _ (fun n => ?_) (fun n i hi => ?_) FU 0 (Nat.zero_le _) (FU_gt (by omega))
    · show f_X9_apart_75 _ _ _ _ (n + 1) (nI 16) _ = _
      rw [f_X9_apart_75, if_pos (p16 (by omega) (by omega)), e3, bP_some]
      cases hb1 : apM S.1 (bval S.2.1 l) j k
      · have e := m_ap127 v3 v90 false
        rw [if_pos (by decide)]
        rw [b01_f] at e
        rw [e, Bool.and_false, Bool.false_and]
      · rw [if_neg (by decide)]
        cases hb2 : apM S.1 (bval S.2.1 l) k j
        · have e := m_ap127 v3 v90 false
          rw [if_pos (by decide)]
          rw [b01_f] at e
          rw [e]; rfl
        · have e := m_ap127 v3 v90 true
          rw [if_neg (by decide)]
          rw [b01_t] at e
          rw [e, Bool.true_and, Bool.true_and, Bool.true_and]
    · show f_X9_apart_75 _ _ _ _ (n + 1) (nI i) _ = f_X9_apart_75 _ _ _ _ n (nI (i + 1)) _
      have hs := segF_s (h1.1 90) 0 (h1.1 89) i
      rw [Nat.zero_add] at hs
      rw [f_X9_apart_75, if_neg (n16 hi), ag_nI _ 89 hi (by omega), bO_some, hC_n _ _ (by decide), asg_nI _ _ _ hi (by omega), bO_some, hC_hU, hs, nI1]
  refine ⟨h3, ?_, k1.tr (k2.tr k3)⟩
  show bP (f_X9_goBoth (nI l) (nI k) (nI j) h) _ = _
  rw [e1, bP_some, eL]
theorem p_apart (x y z : Int32) : Pair (f_X8_apart x y z) (f_X9_apart x y z) := Pair.two (fun S w => by
  have n24 := w.n24
  refine two_line w (fun _ => rfl) (fun _ => rfl) (fun l hl e => ?_)
  subst e
  refine two_change w (fun _ => rfl) (fun _ => rfl) (fun k hk e => ?_)
  subst e
  refine two_change w (fun _ => rfl) (fun _ => rfl) (fun j hj e => ?_)
  subst e
  refine Two.ite (fun _ => Two.ret _) (fun _ => ?_)
  cases hb : bt (bin S.2.1 l) k
  · cases hb2 : bt (bin S.2.1 l) j
    · refine Two.of (b01 (apM S.1 (bval S.2.1 l) k j && apM S.1 (bval S.2.1 l) j k && eq16 (apV S.1 (bval S.2.1 l) k j) (apV S.1 (bval S.2.1 l) j k) 16)) (fun h c => ?_) (fun h c => ?_)
      · rw [c.rin w hl, bO_some, has8 _ (by omega), bO_some, hb, if_pos (by decide), bO_some, has8 _ (by omega), bO_some, hb2, if_pos (by decide)]
        obtain ⟨h', e, kk⟩ := q_apart w hl hk hj h c
        refine ⟨h', ?_, kk⟩
        rw [e, bP_some]
        cases (apM S.1 (bval S.2.1 l) k j && apM S.1 (bval S.2.1 l) j k && eq16 (apV S.1 (bval S.2.1 l) k j) (apV S.1 (bval S.2.1 l) j k) 16) <;> rfl
      · rw [c.rin w hl, bO_some, has9 _ (by omega), bO_some, hb, if_pos (by decide), bO_some, has9 _ (by omega), bO_some, hb2, if_pos (by decide)]
        exact p9_apart w hl hk hj h c
    · exact (Two.ret (-1003)).eqv (fun h c => by rw [c.rin w hl, bO_some, has8 _ (by omega), bO_some, hb, if_pos (by decide), bO_some, has8 _ (by omega), bO_some, hb2, if_neg (by decide)]) (fun h c => by rw [c.rin w hl, bO_some, has9 _ (by omega), bO_some, hb, if_pos (by decide), bO_some, has9 _ (by omega), bO_some, hb2, if_neg (by decide)])
  · exact (Two.ret (-1003)).eqv (fun h c => by rw [c.rin w hl, bO_some, has8 _ (by omega), bO_some, hb, if_neg (by decide)]) (fun h c => by rw [c.rin w hl, bO_some, has9 _ (by omega), bO_some, hb, if_neg (by decide)]))
