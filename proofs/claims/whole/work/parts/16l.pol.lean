/-! ===== policy, the call ===== -/
theorem RC.tp {S : SD} {X' : XD} {P' : PD} {v : Int32} {h h' : PH} (c : RC S h) (e : ∀ k, k ≠ 0 → k ≠ 1 → k ≠ 2 → k ≠ 18 → k < 66 → scC k = false → ¬ (22 ≤ k ∧ k ≤ 24) → h'.1 k = h.1 k) (e12 : h'.1 0 12 = h.1 0 12) (e13 : h'.1 0 13 = v) (hX : CX X' h') (hP : CP P' h') : RC (S.1, S.2.1, P', X', v, S.2.2.2.2.2) h' := by
  obtain ⟨h1, h2, h3, h4, h5, h6⟩ := c
  refine ⟨h1.keep (fun k q => ?_), h2.keep (fun k q => e _ (by omega) (by omega) (by omega) (by omega) (by omega) ?_ (by omega)), hP, hX, e13, ?_⟩
  · simp only [CTc, List.mem_cons, List.not_mem_nil, or_false, decide_eq_true_eq] at q
    refine e k (by omega) (by omega) (by omega) (by omega) (by omega) ?_ (by omega)
    rcases q with rfl | rfl | rfl | rfl | rfl | rfl | rfl | rfl | rfl <;> rfl
  · have : k = 0 ∨ k = 1 ∨ k = 2 ∨ k = 3 ∨ k = 4 ∨ k = 5 ∨ k = 6 ∨ k = 7 ∨ k = 8 := by omega
    rcases this with rfl | rfl | rfl | rfl | rfl | rfl | rfl | rfl | rfl <;> rfl
  · obtain ⟨k1, k2, k3, k4⟩ := h6
    refine ⟨by rw [e12]; exact k1, by rw [e12]; exact k2, fun B z => (k3 B z).keep (fun k q => e _ (by omega) (by omega) (by omega) (by omega) (by omega) ?_ (by omega)), fun B z => (k4 B z).keep (fun k q => e _ (by omega) (by omega) (by omega) (by omega) (by omega) ?_ (by omega))⟩
    · have : k = 0 ∨ k = 1 ∨ k = 2 ∨ k = 3 ∨ k = 4 ∨ k = 5 ∨ k = 6 ∨ k = 7 ∨ k = 8 := by omega
      rcases this with rfl | rfl | rfl | rfl | rfl | rfl | rfl | rfl | rfl <;> rfl
    · have : k = 0 ∨ k = 1 ∨ k = 2 ∨ k = 3 ∨ k = 4 ∨ k = 5 ∨ k = 6 ∨ k = 7 ∨ k = 8 := by omega
      rcases this with rfl | rfl | rfl | rfl | rfl | rfl | rfl | rfl | rfl <;> rfl
theorem RM.tp {S : SD} {X' : XD} {P' : PD} {v : Int32} {h h' : PH} (c : RM S h) (e : ∀ k, k ≠ 66 → k ≠ 81 → 67 ≤ k → scM k = false → k ≠ 92 → k ≠ 93 → h'.1 k = h.1 k) (e66 : ∀ i, i ≠ 19 → i ≠ 20 → scS i = false → i ≠ 41 → i ≠ 44 → i ≠ 45 → i ≠ 46 → h'.1 66 i = h.1 66 i) (e20 : h'.1 66 20 = v) (hX : MX X' h') (hP : MP P' h') : RM (S.1, S.2.1, P', X', v, S.2.2.2.2.2) h' := by
  obtain ⟨h1, h2, h3, h4, h5, h6⟩ := c
  have g : ∀ k, k ≠ 66 ∧ k ≠ 81 ∧ 67 ≤ k ∧ scM k = false ∧ k ≠ 92 ∧ k ≠ 93 → h'.1 k = h.1 k := fun k q => e k q.1 q.2.1 q.2.2.1 q.2.2.2.1 q.2.2.2.2.1 q.2.2.2.2.2
  refine ⟨h1.keep (fun k q => g k ?_) (e66 0 (by decide) (by decide) rfl (by decide) (by decide) (by decide) (by decide)) (e66 4 (by decide) (by decide) rfl (by decide) (by decide) (by decide) (by decide)), ?_, hP, hX, e20, ?_⟩
  · simp only [MTc, List.mem_cons, List.not_mem_nil, or_false, decide_eq_true_eq] at q
    rcases q with rfl | rfl | rfl | rfl | rfl | rfl | rfl <;> decide
  · unfold MB at h2 ⊢
    rw [e66 8 (by decide) (by decide) rfl (by decide) (by decide) (by decide) (by decide), e66 13 (by decide) (by decide) rfl (by decide) (by decide) (by decide) (by decide), g 73 (by decide), g 74 (by decide), g 75 (by decide), g 76 (by decide), g 77 (by decide), g 78 (by decide), g 79 (by decide), g 80 (by decide)]
    exact h2
  · unfold MK MI at h6 ⊢
    rw [g 96 (by decide), g 97 (by decide)]
    exact h6
def P0 : PD := (0, fun _ => 0, fun _ => 0, -1, -1, 0)
theorem P0_wf : wfP P0 := ⟨Nat.zero_le _, fun j hj => absurd hj (Nat.not_lt_zero j), Or.inl rfl, Or.inl rfl, bel_zero _⟩
theorem rP_of {i : Nat} (i20 : i ≠ 20) (is : scS i = false) : rP i = false := by
  have n21 : i ≠ 21 := fun e => by subst e; cases is
  have n24 : i ≠ 24 := fun e => by subst e; cases is
  have n25 : i ≠ 25 := fun e => by subst e; cases is
  have n26 : i ≠ 26 := fun e => by subst e; cases is
  have n35 : i ≠ 35 := fun e => by subst e; cases is
  have n47 : i ≠ 47 := fun e => by subst e; cases is
  have n50 : i ≠ 50 := fun e => by subst e; cases is
  have n51 : i ≠ 51 := fun e => by subst e; cases is
  have n52 : i ≠ 52 := fun e => by subst e; cases is
  simp [rP, tS]; omega
theorem p_policy : Pair f_X8_policy f_X9_policy := Pair.mut (fun S w => by
  have wX := w.2.2.2.1
  have hN := wX.1
  by_cases h120 : S.2.2.2.1.1 ≤ 120
  · have e120 : nI S.2.2.2.1.1 ≤ 120 := by rw [show (120 : Int32) = nI 120 from rfl, leN (by omega) (by omega)]; exact h120
    obtain ⟨s1, s2, s3, s4⟩ := sk_spec S.2.2.2.1 (Nat.zero_le S.2.2.2.1.1)
    obtain ⟨o, oC, oM, oI⟩ := L_ploop wX (S.2.2.2.1.1 - sk S.2.2.2.1 0) P0 (sk S.2.2.2.1 0) 0 P0_wf s2 (Nat.zero_le _) (Nat.le_refl _)
    have cside : ∀ h, RC S h → ∃ res, ResQ h o (QCe S.2.2.2.1 h) res ∧ f_X8_policy h = bP res (fun r32 h32 => lt' (hU h32 1 1 0) (fun h41 => lt' (hU h41 0 13 (h41.1 3 7)) (fun h52 => if r32 = 0 then (some (((-10) - (h52.1 3 6)), h52)) else (bO (f_X5_become 22 25 h52) (fun h78 => some ((h78.1 22 0), h78)))))) := fun h c => by
      obtain ⟨h1, e1, t1, r1⟩ := c_begin hN c.2.2.2.1 3
      have e1 : f_X3_begin 3 h = some h1 := e1
      have s : QC S.2.2.2.1 P0 0 (sk S.2.2.2.1 0) h (hU (hU (hU (hU (hU h1 25 0 0) 25 1 0) 25 4 (-1)) 25 5 (-1)) 25 6 0) := by
        refine ⟨r1.k3 rfl rfl rfl, ⟨?_, ?_, fun j hj => absurd hj (Nat.not_lt_zero j), ?_, ?_, ?_⟩, fun k k3 k25 => ?_⟩
        · rw [hU_s, upd_n _ _ (by decide), hU_s, upd_n _ _ (by decide), hU_s, upd_n _ _ (by decide), hU_s, upd_n _ _ (by decide), hU_s, upd_s]; rfl
        · rw [hU_s, upd_n _ _ (by decide), hU_s, upd_n _ _ (by decide), hU_s, upd_n _ _ (by decide), hU_s, upd_s]; rfl
        · rw [hU_s, upd_n _ _ (by decide), hU_s, upd_n _ _ (by decide), hU_s, upd_s]; rfl
        · rw [hU_s, upd_n _ _ (by decide), hU_s, upd_s]; rfl
        · rw [hU_s, upd_s]; rfl
        · rw [hU_n _ _ _ (by omega), hU_n _ _ _ (by omega), hU_n _ _ _ (by omega), hU_n _ _ _ (by omega), hU_n _ _ _ (by omega)]; exact t1.1 k k3
      refine ⟨_, oC h _ FU (Nat.lt_of_le_of_lt (Nat.sub_le _ _) (FU_gt (by omega))) s, ?_⟩
      rw [f_X8_policy, c.2.2.2.1.1, if_pos e120, e1, bO_some, f_X5_readFrom, lt'_eq, lt'_eq, lt'_eq, lt'_eq, lt'_eq]
      rfl
    have mside : ∀ h, RM S h → ∃ h0, (∀ k, k ≠ 66 → h0.1 k = h.1 k) ∧ (∀ i, i ≠ 20 → scS i = false → h0.1 66 i = h.1 66 i) ∧ LoopN h0 o (f_X9_policy h) := fun h c => by
      obtain ⟨g, hg⟩ : ∃ g, g = hU (hU (hU (hU (hU (hU (hU h 66 20 (-1)) 66 21 0) 66 22 3) 66 47 0) 66 50 (-1)) 66 51 (-1)) 66 52 0 := ⟨_, rfl⟩
      have gO : ∀ k, k ≠ 66 → g.1 k = h.1 k := fun k hk => by rw [hg, hU_n _ _ _ hk, hU_n _ _ _ hk, hU_n _ _ _ hk, hU_n _ _ _ hk, hU_n _ _ _ hk, hU_n _ _ _ hk, hU_n _ _ _ hk]
      have g66 : g.1 66 = upd (upd (upd (upd (upd (upd (upd (h.1 66) 20 (-1)) 21 0) 22 3) 47 0) 50 (-1)) 51 (-1)) 52 0 := by rw [hg]; rfl
      have gS : ∀ i, i ≠ 20 → scS i = false → g.1 66 i = h.1 66 i := fun i h1 h2 => by
        have n21 : i ≠ 21 := fun e => by subst e; cases h2
        have n22 : i ≠ 22 := fun e => by subst e; cases h2
        have n47 : i ≠ 47 := fun e => by subst e; cases h2
        have n50 : i ≠ 50 := fun e => by subst e; cases h2
        have n51 : i ≠ 51 := fun e => by subst e; cases h2
        have n52 : i ≠ 52 := fun e => by subst e; cases h2
        rw [g66, upd_n _ _ n52, upd_n _ _ n51, upd_n _ _ n50, upd_n _ _ n47, upd_n _ _ n22, upd_n _ _ n21, upd_n _ _ h1]
      have mx := c.2.2.2.1
      have s : QM S.2.2.2.1 P0 (sk S.2.2.2.1 0) g g := by
        refine ⟨⟨⟨?_, fun i hi => ?_⟩, wX, s2, sk_sk (Nat.zero_le _), ?_, ⟨0, Nat.zero_le _, ?_, rfl⟩, ?_⟩, ⟨?_, fun j hj => absurd hj (Nat.not_lt_zero j), ?_, ?_, ?_⟩, ⟨fun _ _ _ => rfl, fun _ _ => rfl⟩⟩
        · rw [gS 19 (by decide) rfl]; exact mx.1
        · rw [gO 81 (by decide)]; exact mx.2 i hi
        · rw [g66]; rfl
        · rw [g66]; rfl
        · rw [g66]; rfl
        · rw [g66]; rfl
        · rw [g66]; rfl
        · rw [g66]; rfl
        · rw [g66]; rfl
      refine ⟨g, gO, gS, ?_⟩
      have e : f_X9_policy h = f_X9_policy_52 FU (nI 0) 0 g := by rw [f_X9_policy, mx.1, if_pos e120, lt'_eq, lt'_eq, lt'_eq, lt'_eq, lt'_eq, lt'_eq, lt'_eq, hg]; rfl
      rw [e]
      exact oM g g FU (Nat.lt_of_le_of_lt (Nat.succ_le_succ (Nat.sub_le _ _)) (FU_gt (by omega))) s
    have hk94 : ∀ k, scM k = false → ¬ (94 ≤ k ∧ k ≤ 95) := fun k ks e => by
      have : k = 94 ∨ k = 95 := by omega
      rcases this with rfl | rfl <;> cases ks
    have hk25 : ∀ k, scC k = false → k ≠ 3 ∧ ¬ (25 ≤ k ∧ k ≤ 27) := fun k ks => by
      refine ⟨fun e => ?_, fun e => ?_⟩
      · subst e; cases ks
      · have : k = 25 ∨ k = 26 ∨ k = 27 := by omega
        rcases this with rfl | rfl | rfl <;> cases ks
    cases o with
    | inl bp =>
      obtain ⟨b, p⟩ := bp
      refine Mut.ofZ (S' := (S.1, S.2.1, S.2.2.1, (0, S.2.2.2.1.2), nI p, S.2.2.2.2.2)) ((-10) - nI b) ⟨w.1, w.2.1, w.2.2.1, ⟨Nat.zero_le _, fun i hi => absurd hi (Nat.not_lt_zero i)⟩, w.2.2.2.2⟩ (fun h c z => ?_) (fun h c => ?_)
      · obtain ⟨res, ⟨h1, e1, ⟨f6, f7⟩, fr⟩, e⟩ := cside h c
        obtain ⟨H, hH⟩ : ∃ H, H = hU (hU h1 1 1 0) 0 13 (nI p) := ⟨_, rfl⟩
        refine ⟨H, ?_, c.tb (fun k k0 k1 k2 e18 k66 ks => ?_) ?_ ?_ ⟨?_, fun i hi => absurd hi (Nat.not_lt_zero i)⟩, fun k hk => ?_, fun s hs => ?_⟩
        · have f6 : h1.1 3 6 = nI b := f6
          have f7 : h1.1 3 7 = nI p := f7
          rw [e, e1, bP_some, lt'_eq, lt'_eq, hU_n _ _ _ (show 3 ≠ 1 by decide), f7, if_pos rfl, hU_n _ _ _ (show 3 ≠ 0 by decide), hU_n _ _ _ (show 3 ≠ 1 by decide), f6, hH]
        · rw [hH, hU_n _ _ _ k0, hU_n _ _ _ k1, fr k (hk25 k ks).1 (hk25 k ks).2]
        · rw [hH, hU_s, upd_n _ _ (by decide), hU_n _ _ _ (by decide), fr 0 (by decide) (by decide)]
        · rw [hH, hU_s, upd_s]
        · rw [hH, hU_n _ _ _ (by decide), hU_s, upd_s]; rfl
        · rw [hH, hU_n _ _ _ (by omega), hU_n _ _ _ (by omega), fr k (by omega) (by omega)]
        · rw [hH, hU_n _ _ _ (by omega), hU_n _ _ _ (by omega), fr 18 (by decide) (by decide)]; exact z s hs
      · obtain ⟨h0, gO, gS, z1, z2, h1, n, e1, f1, fr⟩ := mside h c
        have f1 : h1.1 66 20 = nI p := f1
        refine ⟨hU h1 66 19 0, ?_, c.tb (fun k k66 k81 k67 ks => ?_) (fun i i19 i20 is => ?_) ?_ ⟨?_, fun i hi => absurd hi (Nat.not_lt_zero i)⟩, fun k hk => ?_⟩
        · have z1 : 0 < b := z1
          have z2 : b ≤ 4 := z2
          rw [e1, f_X9_policy_74, lt'_eq, if_neg (show ¬ nI b ≤ 0 from nI_nle (by omega) (by omega))]
        · rw [hU_n _ _ _ k66, fr.1 k k66 (hk94 k ks), gO k k66]
        · rw [hU_s, upd_n _ _ i19, fr.2 i (rP_of i20 is), gS i i20 is]
        · rw [hU_s, upd_n _ _ (by decide)]; exact f1
        · rw [hU_s, upd_s]; rfl
        · rw [hU_n _ _ _ (by omega), fr.1 k (by omega) (by omega), gO k (by omega)]
    | inr a =>
      obtain ⟨P, n⟩ := a
      have wP : wfP P := oI (P, n) rfl
      refine Mut.ofZ (S' := (S.1, S.2.1, P, (0, S.2.2.2.1.2), -1, S.2.2.2.2.2)) (nI n) ⟨w.1, w.2.1, wP, ⟨Nat.zero_le _, fun i hi => absurd hi (Nat.not_lt_zero i)⟩, w.2.2.2.2⟩ (fun h c z => ?_) (fun h c => ?_)
      · obtain ⟨res, ⟨h1, e1, ⟨q, r1⟩, d1, fr⟩, e⟩ := cside h c
        have d1 : DPc P n h1 := d1
        have r7 : h1.1 3 7 = -1 := r1.2.2.2.2.2.2.2.2.2
        obtain ⟨g, hg⟩ : ∃ g, g = hU (hU h1 1 1 0) 0 13 (-1) := ⟨_, rfl⟩
        have dg : DPc P n g := by
          unfold DPc at d1 ⊢
          rw [hg, hU_n _ _ _ (show 25 ≠ 0 by decide), hU_n _ _ _ (show 25 ≠ 1 by decide), hU_n _ _ _ (show 26 ≠ 0 by decide), hU_n _ _ _ (show 26 ≠ 1 by decide), hU_n _ _ _ (show 27 ≠ 0 by decide), hU_n _ _ _ (show 27 ≠ 1 by decide)]
          exact d1
        obtain ⟨H, e2, o2, c0, cp⟩ := c_becomeP g
        have gk : ∀ k, k ≠ 0 → k ≠ 1 → k ≠ 3 → ¬ (25 ≤ k ∧ k ≤ 27) → g.1 k = h.1 k := fun k k0 k1 k3 k25 => by rw [hg, hU_n _ _ _ k0, hU_n _ _ _ k1, fr k k3 k25]
        refine ⟨H, ?_, c.tp (fun k k0 k1 k2 e18 k66 ks k22 => ?_) ?_ ?_ ⟨?_, fun i hi => absurd hi (Nat.not_lt_zero i)⟩ (cp P n wP.1 dg), fun k hk => ?_, fun s hs => ?_⟩
        · rw [e, e1, bP_some, lt'_eq, lt'_eq, hU_n _ _ _ (show 3 ≠ 1 by decide), r7, if_neg (by decide), ← hg, e2, bO_some, c0, dg.1]
        · rw [o2 k k22, gk k k0 k1 (hk25 k ks).1 (hk25 k ks).2]
        · rw [o2 0 (by decide), hg, hU_s, upd_n _ _ (by decide), hU_n _ _ _ (by decide), fr 0 (by decide) (by decide)]
        · rw [o2 0 (by decide), hg, hU_s, upd_s]
        · rw [o2 1 (by decide), hg, hU_n _ _ _ (by decide), hU_s, upd_s]; rfl
        · rw [o2 k (by omega), gk k (by omega) (by omega) (by omega) (by omega)]
        · rw [o2 18 (by decide), gk 18 (by decide) (by decide) (by decide) (by decide)]; exact z s hs
      · obtain ⟨h0, gO, gS, h1, e1, f1, d1, fr⟩ := mside h c
        have d1 : DPm P h1 := d1
        have dk : DPm P (hU h1 66 19 0) := by
          unfold DPm at d1 ⊢
          rw [hU_s, upd_n _ _ (by decide), upd_n _ _ (by decide), upd_n _ _ (by decide), upd_n _ _ (by decide), hU_n _ _ _ (by decide), hU_n _ _ _ (by decide)]
          exact d1
        obtain ⟨H, e2, mp, kO, kS⟩ := m_keepP wP.1 dk (nI n)
        refine ⟨H, ?_, c.tp (fun k k66 k81 k67 ks k92 k93 => ?_) (fun i i19 i20 is i41 i44 i45 i46 => ?_) ?_ ⟨?_, fun i hi => absurd hi (Nat.not_lt_zero i)⟩ mp, fun k hk => ?_⟩
        · rw [e1, f_X9_policy_74, lt'_eq, if_pos (Int32.le_refl _), lt'_eq, dk.1, e2]
        · rw [kO k k66 k92 k93, hU_n _ _ _ k66, fr.1 k k66 (hk94 k ks), gO k k66]
        · rw [kS i i41 i44 i45 i46, hU_s, upd_n _ _ i19, fr.2 i (rP_of i20 is), gS i i20 is]
        · rw [kS 20 (by decide) (by decide) (by decide) (by decide), hU_s, upd_n _ _ (by decide)]; exact f1
        · rw [kS 19 (by decide) (by decide) (by decide) (by decide), hU_s, upd_s]; rfl
        · rw [kO k (by omega) (by omega) (by omega), hU_n _ _ _ (by omega), fr.1 k (by omega) (by omega), gO k (by omega)]
  · have e120 : ¬ nI S.2.2.2.1.1 ≤ 120 := by rw [show (120 : Int32) = nI 120 from rfl, leN (by omega) (by omega)]; exact h120
    exact Two.mut w (Two.of (-1003) (Q.pt fun h c => by rw [f_X8_policy, c.2.2.2.1.1, if_neg e120]) (P9.pt fun h c => by rw [f_X9_policy, c.2.2.2.1.1, if_neg e120])))
