/-! ===== keep, goBack ===== -/
theorem cpy0 (h : PH) (V U : Nat) {n : Nat} {L : Int32} (hL : L = nI n) (hn : n < 2 ^ 31) : ∃ H, cpy h V n 0 U n 0 L = some H ∧ (∀ j, j < n → H.1 U j = h.1 V j) ∧ ∀ j, j ≠ U → H.1 j = h.1 j := by
  subst hL
  refine ⟨_, cpy_nI h V U (n := n) (m := n) (sp := 0) (dp := 0) (len := n) (by omega) (by omega) hn hn, fun j hj => ?_, fun j hj => hC_n _ _ hj⟩
  rw [hC_s, segF_in0 hj, Nat.zero_add]
theorem c_become {a0 a1 : Nat} (hd : a1 + 8 < a0 ∨ a0 + 8 < a1) (h : PH) : ∃ H, f_X0_become a0 a1 h = some H ∧ (∀ j, ¬ (a0 ≤ j ∧ j ≤ a0 + 8) → H.1 j = h.1 j) ∧ ∀ B : BD, bl B ≤ 4 → br B ≤ 20 → CB B a1 h → CB B a0 H := by
  obtain ⟨H1, e1, s1, o1⟩ := cpy0 (hU h a0 0 (h.1 a1 0)) (a1 + 1) (a0 + 1) (n := 4) (L := 4) rfl (by omega)
  obtain ⟨H2, e2, s2, o2⟩ := cpy0 H1 (a1 + 2) (a0 + 2) (n := 4) (L := 4) rfl (by omega)
  obtain ⟨H3, e3, s3, o3⟩ := cpy0 H2 (a1 + 3) (a0 + 3) (n := 4) (L := 4) rfl (by omega)
  obtain ⟨H4, e4, s4, o4⟩ := cpy0 H3 (a1 + 4) (a0 + 4) (n := 64) (L := 64) rfl (by omega)
  obtain ⟨H5, e5, s5, o5⟩ := cpy0 (hU H4 a0 5 (H4.1 a1 5)) (a1 + 5) (a0 + 5) (n := 20) (L := 20) rfl (by omega)
  obtain ⟨H6, e6, s6, o6⟩ := cpy0 H5 (a1 + 6) (a0 + 6) (n := 20) (L := 20) rfl (by omega)
  obtain ⟨H7, e7, s7, o7⟩ := cpy0 H6 (a1 + 7) (a0 + 7) (n := 20) (L := 20) rfl (by omega)
  obtain ⟨H8, e8, s8, o8⟩ := cpy0 H7 (a1 + 8) (a0 + 8) (n := 320) (L := 320) rfl (by omega)
  have u0 : ∀ j, j ≠ a0 → (hU h a0 0 (h.1 a1 0)).1 j = h.1 j := fun j hj => hU_n _ _ _ hj
  have u5 : ∀ j, j ≠ a0 → (hU H4 a0 5 (H4.1 a1 5)).1 j = H4.1 j := fun j hj => hU_n _ _ _ hj
  have a4 : H4.1 a0 = upd (h.1 a0) 0 (h.1 a1 0) := by rw [o4 _ (by omega), o3 _ (by omega), o2 _ (by omega), o1 _ (by omega), hU_s]
  have b4 : H4.1 a1 = h.1 a1 := by rw [o4 _ (by omega), o3 _ (by omega), o2 _ (by omega), o1 _ (by omega), u0 _ (by omega)]
  have a8 : H8.1 a0 = upd (upd (h.1 a0) 0 (h.1 a1 0)) 5 (h.1 a1 5) := by rw [o8 _ (by omega), o7 _ (by omega), o6 _ (by omega), o5 _ (by omega), hU_s, a4, b4]
  refine ⟨H8, ?_, fun j hj => ?_, fun B hb hr hB => ?_⟩
  · rw [f_X0_become, lt'_eq, e1, bO_some, e2, bO_some, e3, bO_some, e4, bO_some, lt'_eq, e5, bO_some, e6, bO_some, e7, bO_some, e8, bO_some]
  · rw [o8 _ (by omega), o7 _ (by omega), o6 _ (by omega), o5 _ (by omega), u5 _ (by omega), o4 _ (by omega), o3 _ (by omega), o2 _ (by omega), o1 _ (by omega), u0 _ (by omega)]
  · obtain ⟨k0, k5, kl, kr⟩ := hB
    have c1 : ∀ j, j < 4 → H8.1 (a0 + 1) j = h.1 (a1 + 1) j := fun j hj => by rw [o8 _ (by omega), o7 _ (by omega), o6 _ (by omega), o5 _ (by omega), u5 _ (by omega), o4 _ (by omega), o3 _ (by omega), o2 _ (by omega), s1 j hj, u0 _ (by omega)]
    have c2 : ∀ j, j < 4 → H8.1 (a0 + 2) j = h.1 (a1 + 2) j := fun j hj => by rw [o8 _ (by omega), o7 _ (by omega), o6 _ (by omega), o5 _ (by omega), u5 _ (by omega), o4 _ (by omega), o3 _ (by omega), s2 j hj, o1 _ (by omega), u0 _ (by omega)]
    have c3 : ∀ j, j < 4 → H8.1 (a0 + 3) j = h.1 (a1 + 3) j := fun j hj => by rw [o8 _ (by omega), o7 _ (by omega), o6 _ (by omega), o5 _ (by omega), u5 _ (by omega), o4 _ (by omega), s3 j hj, o2 _ (by omega), o1 _ (by omega), u0 _ (by omega)]
    have c4 : ∀ j, j < 64 → H8.1 (a0 + 4) j = h.1 (a1 + 4) j := fun j hj => by rw [o8 _ (by omega), o7 _ (by omega), o6 _ (by omega), o5 _ (by omega), u5 _ (by omega), s4 j hj, o3 _ (by omega), o2 _ (by omega), o1 _ (by omega), u0 _ (by omega)]
    have c5 : ∀ j, j < 20 → H8.1 (a0 + 5) j = h.1 (a1 + 5) j := fun j hj => by rw [o8 _ (by omega), o7 _ (by omega), o6 _ (by omega), s5 j hj, u5 _ (by omega), o4 _ (by omega), o3 _ (by omega), o2 _ (by omega), o1 _ (by omega), u0 _ (by omega)]
    have c6 : ∀ j, j < 20 → H8.1 (a0 + 6) j = h.1 (a1 + 6) j := fun j hj => by rw [o8 _ (by omega), o7 _ (by omega), s6 j hj, o5 _ (by omega), u5 _ (by omega), o4 _ (by omega), o3 _ (by omega), o2 _ (by omega), o1 _ (by omega), u0 _ (by omega)]
    have c7 : ∀ j, j < 20 → H8.1 (a0 + 7) j = h.1 (a1 + 7) j := fun j hj => by rw [o8 _ (by omega), s7 j hj, o6 _ (by omega), o5 _ (by omega), u5 _ (by omega), o4 _ (by omega), o3 _ (by omega), o2 _ (by omega), o1 _ (by omega), u0 _ (by omega)]
    have c8 : ∀ j, j < 320 → H8.1 (a0 + 8) j = h.1 (a1 + 8) j := fun j hj => by rw [s8 j hj, o7 _ (by omega), o6 _ (by omega), o5 _ (by omega), u5 _ (by omega), o4 _ (by omega), o3 _ (by omega), o2 _ (by omega), o1 _ (by omega), u0 _ (by omega)]
    refine ⟨?_, ?_, fun l hl => ?_, fun r hr2 => ?_⟩
    · rw [a8, upd_n _ _ (show 0 ≠ 5 by decide), upd_s]; exact k0
    · rw [a8, upd_s]; exact k5
    · obtain ⟨q1, q2, q3, q4⟩ := kl l hl
      exact ⟨(c1 l (by omega)).trans q1, (c2 l (by omega)).trans q2, (c3 l (by omega)).trans q3, fun s hs => (c4 _ (by omega)).trans (q4 s hs)⟩
    · obtain ⟨q1, q2, q3, q4⟩ := kr r hr2
      exact ⟨(c5 r (by omega)).trans q1, (c6 r (by omega)).trans q2, (c7 r (by omega)).trans q3, fun s hs => (c8 _ (by omega)).trans (q4 s hs)⟩
def setK (K : KD) (i : Nat) (B : BD) : KD := if i = 0 then (some B, K.2) else (K.1, some B)
def getK (K : KD) (i : Nat) : Option BD := if i = 0 then K.1 else K.2
theorem RC.img {S : SD} {K' : KD} {h h' : PH} (c : RC S h) (e : ∀ k, k ≠ 0 → k < 66 → scC k = false → ¬ (37 ≤ k ∧ k ≤ 54) → h'.1 k = h.1 k) (e13 : h'.1 0 13 = h.1 0 13) (hK : CK K' h') : RC (S.1, S.2.1, S.2.2.1, S.2.2.2.1, S.2.2.2.2.1, K') h' := by
  obtain ⟨h1, h2, h3, h4, h5, h6⟩ := c
  refine ⟨h1.keep (fun k q => ?_), h2.keep (fun k q => e _ (by omega) (by omega) ?_ (by omega)), ?_, ?_, by rw [e13]; exact h5, hK⟩
  · simp only [CTc, List.mem_cons, List.not_mem_nil, or_false, decide_eq_true_eq] at q
    refine e k (by omega) (by omega) ?_ (by omega)
    rcases q with rfl | rfl | rfl | rfl | rfl | rfl | rfl | rfl | rfl <;> rfl
  · have : k = 0 ∨ k = 1 ∨ k = 2 ∨ k = 3 ∨ k = 4 ∨ k = 5 ∨ k = 6 ∨ k = 7 ∨ k = 8 := by omega
    rcases this with rfl | rfl | rfl | rfl | rfl | rfl | rfl | rfl | rfl <;> rfl
  · unfold CP at h3 ⊢; rw [e 22 (by omega) (by omega) rfl (by omega), e 23 (by omega) (by omega) rfl (by omega), e 24 (by omega) (by omega) rfl (by omega)]; exact h3
  · unfold CX at h4 ⊢; rw [e 1 (by omega) (by omega) rfl (by omega), e 2 (by omega) (by omega) rfl (by omega)]; exact h4
theorem RM.img {S : SD} {K' : KD} {h h' : PH} (c : RM S h) (e : ∀ k, k ≠ 96 → k ≠ 97 → h'.1 k = h.1 k) (hK : MK K' h') : RM (S.1, S.2.1, S.2.2.1, S.2.2.2.1, S.2.2.2.2.1, K') h' := by
  obtain ⟨h1, h2, h3, h4, h5, h6⟩ := c
  have g : ∀ k, k ≠ 96 ∧ k ≠ 97 → h'.1 k = h.1 k := fun k q => e k q.1 q.2
  refine ⟨h1.keep (fun k q => g k ?_) (by rw [g 66 (by decide)]) (by rw [g 66 (by decide)]), ?_, ?_, ?_, by rw [g 66 (by decide)]; exact h5, hK⟩
  · simp only [MTc, List.mem_cons, List.not_mem_nil, or_false, decide_eq_true_eq] at q
    rcases q with rfl | rfl | rfl | rfl | rfl | rfl | rfl <;> decide
  · unfold MB at h2 ⊢
    rw [g 66 (by decide), g 73 (by decide), g 74 (by decide), g 75 (by decide), g 76 (by decide), g 77 (by decide), g 78 (by decide), g 79 (by decide), g 80 (by decide)]
    exact h2
  · unfold MP at h3 ⊢
    rw [g 66 (by decide), g 92 (by decide), g 93 (by decide)]
    exact h3
  · unfold MX at h4 ⊢
    rw [g 66 (by decide), g 81 (by decide)]
    exact h4
theorem ix3 (b c i : Nat) (C : Int32) (hC : C = nI c) : nI b + C + nI i = nI (b + c + i) := by rw [hC, nI_add, nI_add]
/-- what an image is to hold -/
def tgI (h : PH) (j : Nat) : Int32 := if j = 0 then h.1 66 8 else if j = 1 then h.1 66 13 else if j < 6 then h.1 73 (j - 2) else if j < 10 then h.1 74 (j - 6) else if j < 14 then h.1 76 (j - 10) else if j < 78 then h.1 75 (j - 14) else if j < 98 then h.1 77 (j - 78) else if j < 118 then h.1 78 (j - 98) else if j < 138 then h.1 79 (j - 118) else h.1 80 (j - 138)
def KIm (h : PH) (b : Nat) (D : Nat → Prop) (h' : PH) : Prop := (∀ k, k ≠ 96 → h'.1 k = h.1 k) ∧ (∀ j, ¬ (b ≤ j ∧ j < b + 500) → h'.1 96 j = h.1 96 j) ∧ ∀ j, D j → h'.1 96 (b + j) = tgI h j
theorem KIm.put {h : PH} {b : Nat} {D D' : Nat → Prop} {h' : PH} (k : KIm h b D h') {j : Nat} {v : Int32} (hj : j < 500) (hv : v = tgI h j) (hD : ∀ i, D' i → D i ∨ i = j) : KIm h b D' (hU h' 96 (b + j) v) := by
  obtain ⟨k1, k2, k3⟩ := k
  refine ⟨fun i hi => (hU_n _ _ _ hi).trans (k1 i hi), fun i hi => ?_, fun i hi => ?_⟩
  · rw [hU_s, upd_n _ _ (by omega)]; exact k2 i hi
  · rw [hU_s]
    by_cases e : i = j
    · subst e; rw [upd_s]; exact hv
    · rw [upd_n _ _ (by omega)]
      rcases hD i hi with q | q
      · exact k3 i q
      · exact absurd q e
theorem KIm.sub {h : PH} {b : Nat} {D D' : Nat → Prop} {h' : PH} (k : KIm h b D h') (hD : ∀ i, D' i → D i) : KIm h b D' h' := ⟨k.1, k.2.1, fun i hi => k.2.2 i (hD i hi)⟩
theorem m_keep {i : Nat} (hi : i < 2) (h : PH) : ∃ h', bO (asg h 96 1000 (nI (500 * i)) (h.1 66 8)) (fun h29 => bO (asg h29 96 1000 (nI (500 * i) + 1) (h29.1 66 13)) (fun h41 => f_X9_keep_44 (nI i) (nI (500 * i)) FU 0 h41)) = some (1, hU h' 97 i 1) ∧ KIm h (500 * i) (fun j => j < 458) h' := by
  have st0 : KIm h (500 * i) (fun _ => False) h := ⟨fun _ _ => rfl, fun _ _ => rfl, fun _ z => z.elim⟩
  have st1 : KIm h (500 * i) (fun j => j = 0) (hU h 96 (500 * i) (h.1 66 8)) := st0.put (j := 0) (by omega) rfl (fun _ z => Or.inr z)
  have st2 : KIm h (500 * i) (fun j => j < 2) (hU (hU h 96 (500 * i) (h.1 66 8)) 96 (500 * i + 1) (h.1 66 13)) := st1.put (j := 1) (by omega) rfl (fun j z => by omega)
  rw [asg_nI h 96 _ (by omega : 500 * i < 1000) (by omega), bO_some, nI1, hU_n _ _ _ (show 66 ≠ 96 by decide), asg_nI _ 96 _ (by omega : 500 * i + 1 < 1000) (by omega), bO_some]
  refine glF (fun n (_ : Unit) k h => f_X9_keep_44 (nI i) (nI (500 * i)) n (nI k) h) (fun k _ h' => KIm h (500 * i) (fun j => j < 2 + k ∨ 6 ≤ j ∧ j < 6 + k ∨ 10 ≤ j ∧ j < 10 + k) h') 4 (fun o => ∃ h', o = some (1, hU h' 97 i 1) ∧ KIm h (500 * i) (fun j => j < 458) h') (by omega) (fun _ h1 hI n => ?_) (fun k _ h1 hk hI => Or.inr ?_) (i := 0) (b := ()) (Nat.zero_le _) (st2.sub (fun j z => by omega))
  · show ∃ h', f_X9_keep_44 _ _ (n + 1) (nI 4) h1 = _ ∧ _
    rw [f_X9_keep_44, if_pos (by decide)]
    refine glF (fun n (_ : Unit) k h => f_X9_keep_107 (nI i) (nI (500 * i)) n (nI k) h) (fun k _ h' => KIm h (500 * i) (fun j => j < 14 + k) h') 64 (fun o => ∃ h', o = some (1, hU h' 97 i 1) ∧ KIm h (500 * i) (fun j => j < 458) h') (by omega) (fun _ h2 hI n => ?_) (fun k _ h2 hk hI => Or.inr ?_) (i := 0) (b := ()) (Nat.zero_le _) (hI.sub (fun j z => by omega))
    · show ∃ h', f_X9_keep_107 _ _ (n + 1) (nI 64) h2 = _ ∧ _
      rw [f_X9_keep_107, if_pos (by decide)]
      refine glF (fun n (_ : Unit) k h => f_X9_keep_138 (nI i) (nI (500 * i)) n (nI k) h) (fun k _ h' => KIm h (500 * i) (fun j => j < 78 + k ∨ 98 ≤ j ∧ j < 98 + k ∨ 118 ≤ j ∧ j < 118 + k) h') 20 (fun o => ∃ h', o = some (1, hU h' 97 i 1) ∧ KIm h (500 * i) (fun j => j < 458) h') (by omega) (fun _ h3 hI n => ?_) (fun k _ h3 hk hI => Or.inr ?_) (i := 0) (b := ()) (Nat.zero_le _) (hI.sub (fun j z => by omega))
      · show ∃ h', f_X9_keep_138 _ _ (n + 1) (nI 20) h3 = _ ∧ _
        rw [f_X9_keep_138, if_pos (by decide)]
        refine glF (fun n (_ : Unit) k h => f_X9_keep_203 (nI i) (nI (500 * i)) n (nI k) h) (fun k _ h' => KIm h (500 * i) (fun j => j < 138 + k) h') 320 (fun o => ∃ h', o = some (1, hU h' 97 i 1) ∧ KIm h (500 * i) (fun j => j < 458) h') (by omega) (fun _ h4 hI n => ?_) (fun k _ h4 hk hI => Or.inr ?_) (i := 0) (b := ()) (Nat.zero_le _) (hI.sub (fun j z => by omega))
        · refine ⟨h4, ?_, hI⟩
          show f_X9_keep_203 _ _ (n + 1) (nI 320) h4 = _
          rw [f_X9_keep_203, if_pos (by decide), asg_nI _ 97 _ hi (by omega), bO_some]
          rfl
        · refine ⟨(), _, hI.put (j := 138 + k) (v := h4.1 80 k) (by omega) ?_ (fun j z => by omega), fun n => ?_⟩
          · rw [hI.1 80 (by decide)]
            unfold tgI
            rw [if_neg (by omega), if_neg (by omega), if_neg (by omega), if_neg (by omega), if_neg (by omega), if_neg (by omega), if_neg (by omega), if_neg (by omega), if_neg (by omega), show 138 + k - 138 = k by omega]
          · show f_X9_keep_203 _ _ (n + 1) (nI k) h4 = f_X9_keep_203 _ _ n (nI (k + 1)) _
            rw [f_X9_keep_203, if_neg (show ¬ (320 : Int32) ≤ nI k by rw [show (320 : Int32) = nI 320 from rfl, leN (by omega) (by omega)]; omega), ag_nI h4 80 hk (by omega), bO_some, ix3 _ 138 _ (138 : Int32) rfl, asg_nI _ 96 _ (by omega) (by omega), bO_some, nI1, Nat.add_assoc]
      · have k1 := hI.put (j := 78 + k) (v := h3.1 77 k) (D' := fun j => (j < 78 + k ∨ 98 ≤ j ∧ j < 98 + k ∨ 118 ≤ j ∧ j < 118 + k) ∨ j = 78 + k) (by omega) (by
          rw [hI.1 77 (by decide)]
          unfold tgI
          rw [if_neg (by omega), if_neg (by omega), if_neg (by omega), if_neg (by omega), if_neg (by omega), if_neg (by omega), if_pos (by omega), show 78 + k - 78 = k by omega]) (fun j z => z)
        have k2 := k1.put (j := 98 + k) (v := (hU h3 96 (500 * i + (78 + k)) (h3.1 77 k)).1 78 k) (D' := fun j => ((j < 78 + k ∨ 98 ≤ j ∧ j < 98 + k ∨ 118 ≤ j ∧ j < 118 + k) ∨ j = 78 + k) ∨ j = 98 + k) (by omega) (by
          rw [k1.1 78 (by decide)]
          unfold tgI
          rw [if_neg (by omega), if_neg (by omega), if_neg (by omega), if_neg (by omega), if_neg (by omega), if_neg (by omega), if_neg (by omega), if_pos (by omega), show 98 + k - 98 = k by omega]) (fun j z => z)
        have k3 := k2.put (j := 118 + k) (v := (hU (hU h3 96 (500 * i + (78 + k)) (h3.1 77 k)) 96 (500 * i + (98 + k)) ((hU h3 96 (500 * i + (78 + k)) (h3.1 77 k)).1 78 k)).1 79 k) (D' := fun j => j < 78 + (k + 1) ∨ 98 ≤ j ∧ j < 98 + (k + 1) ∨ 118 ≤ j ∧ j < 118 + (k + 1)) (by omega) (by
          rw [k2.1 79 (by decide)]
          unfold tgI
          rw [if_neg (by omega), if_neg (by omega), if_neg (by omega), if_neg (by omega), if_neg (by omega), if_neg (by omega), if_neg (by omega), if_neg (by omega), if_pos (by omega), show 118 + k - 118 = k by omega]) (fun j z => by omega)
        refine ⟨(), _, k3, fun n => ?_⟩
        show f_X9_keep_138 _ _ (n + 1) (nI k) h3 = f_X9_keep_138 _ _ n (nI (k + 1)) _
        rw [f_X9_keep_138, if_neg (show ¬ (20 : Int32) ≤ nI k by rw [show (20 : Int32) = nI 20 from rfl, leN (by omega) (by omega)]; omega), ag_nI h3 77 hk (by omega), bO_some, ix3 _ 78 _ (78 : Int32) rfl, asg_nI _ 96 _ (by omega) (by omega), bO_some, ag_nI _ 78 hk (by omega), bO_some, ix3 _ 98 _ (98 : Int32) rfl, asg_nI _ 96 _ (by omega) (by omega), bO_some, ag_nI _ 79 hk (by omega), bO_some, ix3 _ 118 _ (118 : Int32) rfl, asg_nI _ 96 _ (by omega) (by omega), bO_some, nI1, Nat.add_assoc, Nat.add_assoc, Nat.add_assoc]
    · refine ⟨(), _, hI.put (j := 14 + k) (v := h2.1 75 k) (by omega) ?_ (fun j z => by omega), fun n => ?_⟩
      · rw [hI.1 75 (by decide)]
        unfold tgI
        rw [if_neg (by omega), if_neg (by omega), if_neg (by omega), if_neg (by omega), if_neg (by omega), if_pos (by omega), show 14 + k - 14 = k by omega]
      · show f_X9_keep_107 _ _ (n + 1) (nI k) h2 = f_X9_keep_107 _ _ n (nI (k + 1)) _
        rw [f_X9_keep_107, if_neg (show ¬ (64 : Int32) ≤ nI k by rw [show (64 : Int32) = nI 64 from rfl, leN (by omega) (by omega)]; omega), ag_nI h2 75 hk (by omega), bO_some, ix3 _ 14 _ (14 : Int32) rfl, asg_nI _ 96 _ (by omega) (by omega), bO_some, nI1, Nat.add_assoc]
  · have k1 := hI.put (j := 2 + k) (v := h1.1 73 k) (D' := fun j => (j < 2 + k ∨ 6 ≤ j ∧ j < 6 + k ∨ 10 ≤ j ∧ j < 10 + k) ∨ j = 2 + k) (by omega) (by
      rw [hI.1 73 (by decide)]
      unfold tgI
      rw [if_neg (by omega), if_neg (by omega), if_pos (by omega), show 2 + k - 2 = k by omega]) (fun j z => z)
    have k2 := k1.put (j := 6 + k) (v := (hU h1 96 (500 * i + (2 + k)) (h1.1 73 k)).1 74 k) (D' := fun j => ((j < 2 + k ∨ 6 ≤ j ∧ j < 6 + k ∨ 10 ≤ j ∧ j < 10 + k) ∨ j = 2 + k) ∨ j = 6 + k) (by omega) (by
      rw [k1.1 74 (by decide)]
      unfold tgI
      rw [if_neg (by omega), if_neg (by omega), if_neg (by omega), if_pos (by omega), show 6 + k - 6 = k by omega]) (fun j z => z)
    have k3 := k2.put (j := 10 + k) (v := (hU (hU h1 96 (500 * i + (2 + k)) (h1.1 73 k)) 96 (500 * i + (6 + k)) ((hU h1 96 (500 * i + (2 + k)) (h1.1 73 k)).1 74 k)).1 76 k) (D' := fun j => j < 2 + (k + 1) ∨ 6 ≤ j ∧ j < 6 + (k + 1) ∨ 10 ≤ j ∧ j < 10 + (k + 1)) (by omega) (by
      rw [k2.1 76 (by decide)]
      unfold tgI
      rw [if_neg (by omega), if_neg (by omega), if_neg (by omega), if_neg (by omega), if_pos (by omega), show 10 + k - 10 = k by omega]) (fun j z => by omega)
    refine ⟨(), _, k3, fun n => ?_⟩
    show f_X9_keep_44 _ _ (n + 1) (nI k) h1 = f_X9_keep_44 _ _ n (nI (k + 1)) _
    rw [f_X9_keep_44, if_neg (show ¬ (4 : Int32) ≤ nI k by rw [show (4 : Int32) = nI 4 from rfl, leN (by omega) (by omega)]; omega), ag_nI h1 73 hk (by omega), bO_some, ix3 _ 2 _ (2 : Int32) rfl, asg_nI _ 96 _ (by omega) (by omega), bO_some, ag_nI _ 74 hk (by omega), bO_some, ix3 _ 6 _ (6 : Int32) rfl, asg_nI _ 96 _ (by omega) (by omega), bO_some, ag_nI _ 76 hk (by omega), bO_some, ix3 _ 10 _ (10 : Int32) rfl, asg_nI _ 96 _ (by omega) (by omega), bO_some, nI1, Nat.add_assoc, Nat.add_assoc, Nat.add_assoc]
theorem KIm.mi {h : PH} {i : Nat} {h' : PH} (k : KIm h (500 * i) (fun j => j < 458) h') {B : BD} (hb : bl B ≤ 4) (hr : br B ≤ 20) (hB : MB B h) : MI i B h' := by
  obtain ⟨k1, k2, k3⟩ := k
  obtain ⟨q0, q5, ql, qr⟩ := hB
  refine ⟨(k3 0 (by omega)).trans q0, (k3 1 (by omega)).trans q5, fun l hl => ?_, fun r hr2 => ?_⟩
  · obtain ⟨p1, p2, p3, p4⟩ := ql l hl
    refine ⟨?_, ?_, ?_, fun s hs => ?_⟩
    · rw [Nat.add_assoc, k3 (2 + l) (by omega), ← p1]
      unfold tgI
      rw [if_neg (by omega), if_neg (by omega), if_pos (by omega), show 2 + l - 2 = l by omega]
    · rw [Nat.add_assoc, k3 (6 + l) (by omega), ← p2]
      unfold tgI
      rw [if_neg (by omega), if_neg (by omega), if_neg (by omega), if_pos (by omega), show 6 + l - 6 = l by omega]
    · rw [Nat.add_assoc, k3 (10 + l) (by omega), ← p3]
      unfold tgI
      rw [if_neg (by omega), if_neg (by omega), if_neg (by omega), if_neg (by omega), if_pos (by omega), show 10 + l - 10 = l by omega]
    · rw [Nat.add_assoc, k3 (14 + (16 * l + s)) (by omega), ← p4 s hs]
      unfold tgI
      rw [if_neg (by omega), if_neg (by omega), if_neg (by omega), if_neg (by omega), if_neg (by omega), if_pos (by omega), show 14 + (16 * l + s) - 14 = 16 * l + s by omega]
  · obtain ⟨p1, p2, p3, p4⟩ := qr r hr2
    refine ⟨?_, ?_, ?_, fun s hs => ?_⟩
    · rw [Nat.add_assoc, k3 (78 + r) (by omega), ← p1]
      unfold tgI
      rw [if_neg (by omega), if_neg (by omega), if_neg (by omega), if_neg (by omega), if_neg (by omega), if_neg (by omega), if_pos (by omega), show 78 + r - 78 = r by omega]
    · rw [Nat.add_assoc, k3 (98 + r) (by omega), ← p2]
      unfold tgI
      rw [if_neg (by omega), if_neg (by omega), if_neg (by omega), if_neg (by omega), if_neg (by omega), if_neg (by omega), if_neg (by omega), if_pos (by omega), show 98 + r - 98 = r by omega]
    · rw [Nat.add_assoc, k3 (118 + r) (by omega), ← p3]
      unfold tgI
      rw [if_neg (by omega), if_neg (by omega), if_neg (by omega), if_neg (by omega), if_neg (by omega), if_neg (by omega), if_neg (by omega), if_neg (by omega), if_pos (by omega), show 118 + r - 118 = r by omega]
    · rw [Nat.add_assoc, k3 (138 + (16 * r + s)) (by omega), ← p4 s hs]
      unfold tgI
      rw [if_neg (by omega), if_neg (by omega), if_neg (by omega), if_neg (by omega), if_neg (by omega), if_neg (by omega), if_neg (by omega), if_neg (by omega), if_neg (by omega), show 138 + (16 * r + s) - 138 = 16 * r + s by omega]
theorem CB.far {B : BD} {a : Nat} {h h' : PH} (hB : CB B a h) (he : ∀ k, a ≤ k → k ≤ a + 8 → h'.1 k = h.1 k) : CB B a h' := hB.keep (fun k _ => he _ (by omega) (by omega))
theorem p_keep (x : Int32) : Pair (f_X8_keep x) (f_X9_keep x) := Pair.mut (fun S w => by
  have b4 := w.b4
  have b20 := w.b20
  refine mut_in w (a := 0) (n := 1) (by omega) (u := -1001) (KF := fun h => bP (f_X8_imageOf x h) (fun r15 h15 => bO (f_X0_become r15 28 h15) (fun h22 => lt' (hU h22 0 12 ((h22.1 0 12) ||| (1 <<< (x &&& 31)))) (fun h34 => some (1, h34))))) (fun h c => ?_) (e1 := 0) (e2 := 1) rfl (by omega) (KM := fun h => lt' ((500 * x)) (fun x2_19 => bO (asg h 96 1000 x2_19 (h.1 66 8)) (fun h29 => bO (asg h29 96 1000 (x2_19 + 1) (h29.1 66 13)) (fun h41 => f_X9_keep_44 x x2_19 FU 0 h41)))) (fun h c => rfl) rfl (fun i _ hi e => ?_)
  · rw [f_X8_keep]
    show (if x < 0 then _ else if x < 2 then _ else _) = if x < 0 then _ else if x ≤ 1 then _ else _
    have e2 : (x < 2) = (x ≤ 1) := by
      rw [ltI, leI, show (2 : Int32).toInt = 2 from rfl, show (1 : Int32).toInt = 1 from rfl]
      apply propext; omega
    rw [ite_c e2]
  · subst e
    have wK := w.2.2.2.2
    refine Mut.of (S' := (S.1, S.2.1, S.2.2.1, S.2.2.2.1, S.2.2.2.2.1, setK S.2.2.2.2.2 i S.2.1)) 1 ⟨w.1, w.2.1, w.2.2.1, w.2.2.2.1, ?_⟩ (fun h c => ?_) (fun h c => ?_)
    · show wfK (tn S.1) (setK S.2.2.2.2.2 i S.2.1)
      unfold setK
      by_cases e0 : i = 0
      · rw [if_pos e0]; exact ⟨fun B z => by cases z; exact w.2.1, wK.2⟩
      · rw [if_neg e0]; exact ⟨wK.1, fun B z => by cases z; exact w.2.1⟩
    · obtain ⟨c1, c2, c3, c4⟩ := c.2.2.2.2.2
      by_cases e0 : i = 0
      · subst e0
        obtain ⟨H, eH, oH, bH⟩ := c_become (a0 := 37) (a1 := 28) (by omega) h
        refine ⟨hU H 0 12 (h.1 0 12 ||| (1 <<< (nI 0 &&& 31))), ?_, c.img (fun k h1 h2 h3 h4 => ?_) ?_ ?_, fun k hk => ?_⟩
        · rw [f_X8_imageOf, if_pos (show nI 0 = 0 from rfl), bP_some, eH, bO_some, lt'_eq, oH 0 (by omega)]
        · rw [hU_n _ _ _ h1, oH k (by omega)]
        · rw [hU_s, upd_n _ _ (by decide), oH 0 (by omega)]
        · unfold setK
          rw [if_pos rfl]
          refine ⟨?_, ?_, fun B z => ?_, fun B z => ?_⟩
          · rw [hU_s, upd_s, bt_or, bt_one 0 (by omega) 0 (by omega)]; simp
          · rw [hU_s, upd_s, bt_or, bt_one 0 (by omega) 1 (by omega), c2]; simp
          · cases z
            exact (bH _ b4 b20 c.2.1).far (fun k h1 h2 => hU_n _ _ _ (by omega))
          · exact (c4 B z).far (fun k h1 h2 => (hU_n _ _ _ (by omega)).trans (oH k (by omega)))
        · rw [hU_n _ _ _ (by omega), oH k (by omega)]
      · have e1 : i = 1 := by omega
        subst e1
        obtain ⟨H, eH, oH, bH⟩ := c_become (a0 := 46) (a1 := 28) (by omega) h
        refine ⟨hU H 0 12 (h.1 0 12 ||| (1 <<< (nI 1 &&& 31))), ?_, c.img (fun k h1 h2 h3 h4 => ?_) ?_ ?_, fun k hk => ?_⟩
        · rw [f_X8_imageOf, if_neg (show ¬ nI 1 = 0 by decide), bP_some, eH, bO_some, lt'_eq, oH 0 (by omega)]
        · rw [hU_n _ _ _ h1, oH k (by omega)]
        · rw [hU_s, upd_n _ _ (by decide), oH 0 (by omega)]
        · unfold setK
          rw [if_neg (by omega)]
          refine ⟨?_, ?_, fun B z => ?_, fun B z => ?_⟩
          · rw [hU_s, upd_s, bt_or, bt_one 1 (by omega) 0 (by omega), c1]; simp
          · rw [hU_s, upd_s, bt_or, bt_one 1 (by omega) 1 (by omega)]; simp
          · exact (c3 B z).far (fun k h1 h2 => (hU_n _ _ _ (by omega)).trans (oH k (by omega)))
          · cases z
            exact (bH _ b4 b20 c.2.1).far (fun k h1 h2 => hU_n _ _ _ (by omega))
        · rw [hU_n _ _ _ (by omega), oH k (by omega)]
    · obtain ⟨c1, c2, c3, c4⟩ := c.2.2.2.2.2
      obtain ⟨H, eH, kH⟩ := m_keep (i := i) (by omega) h
      have mi := kH.mi b4 b20 c.2.1
      have mi' : MI i S.2.1 (hU H 97 i 1) := by unfold MI at mi ⊢; rw [hU_n _ _ _ (show 96 ≠ 97 by decide)]; exact mi
      refine ⟨hU H 97 i 1, ?_, c.img (fun k h1 h2 => (hU_n _ _ _ h2).trans (kH.1 k h1)) ?_, fun k hk => (hU_n _ _ _ (by omega)).trans (kH.1 k (by omega))⟩
      · rw [lt'_eq, show (500 : Int32) = nI 500 from rfl, pk_mul]
        exact eH
      · have far : ∀ j B, j < 2 → j ≠ i → bl B ≤ 4 → br B ≤ 20 → MI j B h → MI j B (hU H 97 i 1) := fun j B hj hne hb hr q => by
          obtain ⟨q0, q5, ql, qr⟩ := q
          have o : ∀ t, t < 500 → (hU H 97 i 1).1 96 (500 * j + t) = h.1 96 (500 * j + t) := fun t ht => by rw [hU_n _ _ _ (show 96 ≠ 97 by decide)]; exact kH.2.1 _ (by omega)
          refine ⟨(o 0 (by omega)).trans q0, (o 1 (by omega)).trans q5, fun l hl => ?_, fun r hr2 => ?_⟩
          · obtain ⟨p1, p2, p3, p4⟩ := ql l hl
            refine ⟨?_, ?_, ?_, fun s hs => ?_⟩
            · rw [Nat.add_assoc, o _ (by omega), ← Nat.add_assoc]; exact p1
            · rw [Nat.add_assoc, o _ (by omega), ← Nat.add_assoc]; exact p2
            · rw [Nat.add_assoc, o _ (by omega), ← Nat.add_assoc]; exact p3
            · rw [Nat.add_assoc, o _ (by omega), ← Nat.add_assoc]; exact p4 s hs
          · obtain ⟨p1, p2, p3, p4⟩ := qr r hr2
            refine ⟨?_, ?_, ?_, fun s hs => ?_⟩
            · rw [Nat.add_assoc, o _ (by omega), ← Nat.add_assoc]; exact p1
            · rw [Nat.add_assoc, o _ (by omega), ← Nat.add_assoc]; exact p2
            · rw [Nat.add_assoc, o _ (by omega), ← Nat.add_assoc]; exact p3
            · rw [Nat.add_assoc, o _ (by omega), ← Nat.add_assoc]; exact p4 s hs
        have o97 : ∀ j, j ≠ i → (hU H 97 i 1).1 97 j = h.1 97 j := fun j hj => by rw [hU_s, upd_n _ _ hj, kH.1 97 (by decide)]
        have s97 : (hU H 97 i 1).1 97 i = 1 := by rw [hU_s, upd_s]
        unfold setK
        by_cases e0 : i = 0
        · subst e0
          rw [if_pos rfl]
          refine ⟨s97, (o97 1 (by omega)).trans c2, fun B z => by cases z; exact mi', fun B z => ?_⟩
          exact far 1 B (by omega) (by omega) (wK.2 B z).1 (wK.2 B z).2.1 (c4 B z)
        · have e1 : i = 1 := by omega
          subst e1
          rw [if_neg (by omega)]
          refine ⟨(o97 0 (by omega)).trans c1, s97, fun B z => ?_, fun B z => by cases z; exact mi'⟩
          exact far 0 B (by omega) (by omega) (wK.1 B z).1 (wK.1 B z).2.1 (c3 B z))
