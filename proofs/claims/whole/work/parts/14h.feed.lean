/-! ===== feed ===== -/
theorem by_s : ∀ k, k < 8 → ((((8 * nI k : Int32).toInt64 &&& 63).toBitVec.smod 64).toNat = 8 * k) := by decide +kernel
theorem by_u : ∀ k, k < 8 → (((8 * nI k : Int32).toInt64.toUInt64 &&& Int64.toUInt64 63).toBitVec % 64).toNat = 8 * k := by decide +kernel
theorem bt_255 : ∀ j, j < 32 → bt 255 j = decide (j < 8) := by decide +kernel
theorem bt_255L : ∀ j, j < 32 → (255 : Int64).toBitVec.getLsbD j = decide (j < 8) := by decide +kernel
theorem bt_i32 (y : Int64) {j : Nat} (hj : j < 32) : bt y.toInt32 j = y.toBitVec.getLsbD j := by
  unfold bt
  rw [Int64.toBitVec_toInt32, BitVec.getLsbD_signExtend, decide_eq_true hj, Bool.true_and, if_pos (by omega)]
def byt (x : Int64) (k : Nat) : Int32 := (((x.toUInt64 >>> ((8 * nI k : Int32).toInt64.toUInt64 &&& Int64.toUInt64 63)).toInt64 : Int64).toInt32 &&& 255)
theorem byte_eq (x : Int64) {k : Nat} (hk : k < 8) : (((x >>> ((8 * nI k : Int32).toInt64 &&& 63)) &&& 255) : Int64).toInt32 = byt x k := by
  apply bt_ext
  intro j hj
  unfold byt
  rw [bt_and, bt_i32 _ hj, bt_i32 _ hj, bt_255 j hj, Int64.toBitVec_and, BitVec.getLsbD_and, bt_255L j hj, Int64.toBitVec_shiftRight, BitVec.sshiftRight_eq', by_s k hk, BitVec.getLsbD_sshiftRight]
  have e : (x.toUInt64 >>> ((8 * nI k : Int32).toInt64.toUInt64 &&& Int64.toUInt64 63)).toInt64.toBitVec.getLsbD j = x.toBitVec.getLsbD (8 * k + j) := by
    show (x.toUInt64 >>> ((8 * nI k : Int32).toInt64.toUInt64 &&& Int64.toUInt64 63)).toBitVec.getLsbD j = x.toUInt64.toBitVec.getLsbD (8 * k + j)
    rw [UInt64.toBitVec_shiftRight]
    show (x.toUInt64.toBitVec >>> (((8 * nI k : Int32).toInt64.toUInt64 &&& Int64.toUInt64 63).toBitVec % 64).toNat).getLsbD j = _
    rw [by_u k hk, BitVec.getLsbD_ushiftRight]
  rw [e]
  by_cases h8 : j < 8
  · rw [decide_eq_true h8, Bool.and_true, Bool.and_true, if_pos (by omega), decide_eq_false (by omega)]; rfl
  · rw [decide_eq_false h8, Bool.and_false, Bool.and_false]
theorem byt_bd (x : Int64) (k : Nat) : 0 ≤ (byt x k).toInt ∧ (byt x k).toInt ≤ 255 := by
  have hb : bel (byt x k) 8 := fun j hj h => by unfold byt; rw [bt_and, bt_255 j hj, decide_eq_false (by omega), Bool.and_false]
  have := (bel_iff (n := 8) (by omega)).mp hb
  omega
theorem RC.text {S : SD} {X' : XD} {h h' : PH} (c : RC S h) (e : ∀ k, k ≠ 1 → k ≠ 2 → k < 66 → scC k = false → h'.1 k = h.1 k) (hX : CX X' h') : RC (S.1, S.2.1, S.2.2.1, X', S.2.2.2.2) h' := by
  obtain ⟨h1, h2, h3, h4, h5, h6⟩ := c
  refine ⟨h1.keep (fun k q => ?_), h2.keep (fun k q => e _ (by omega) (by omega) (by omega) ?_), ?_, hX, by rw [e 0 (by omega) (by omega) (by omega) rfl]; exact h5, ?_⟩
  · simp only [CTc, List.mem_cons, List.not_mem_nil, or_false, decide_eq_true_eq] at q
    refine e k (by omega) (by omega) (by omega) ?_
    rcases q with rfl | rfl | rfl | rfl | rfl | rfl | rfl | rfl | rfl <;> rfl
  · have : k = 0 ∨ k = 1 ∨ k = 2 ∨ k = 3 ∨ k = 4 ∨ k = 5 ∨ k = 6 ∨ k = 7 ∨ k = 8 := by omega
    rcases this with rfl | rfl | rfl | rfl | rfl | rfl | rfl | rfl | rfl <;> rfl
  · unfold CP at h3 ⊢; rw [e 22 (by omega) (by omega) (by omega) rfl, e 23 (by omega) (by omega) (by omega) rfl, e 24 (by omega) (by omega) (by omega) rfl]; exact h3
  · obtain ⟨k1, k2, k3, k4⟩ := h6
    refine ⟨by rw [e 0 (by omega) (by omega) (by omega) rfl]; exact k1, by rw [e 0 (by omega) (by omega) (by omega) rfl]; exact k2, fun B z => (k3 B z).keep (fun k q => e _ (by omega) (by omega) (by omega) ?_), fun B z => (k4 B z).keep (fun k q => e _ (by omega) (by omega) (by omega) ?_)⟩
    · have : k = 0 ∨ k = 1 ∨ k = 2 ∨ k = 3 ∨ k = 4 ∨ k = 5 ∨ k = 6 ∨ k = 7 ∨ k = 8 := by omega
      rcases this with rfl | rfl | rfl | rfl | rfl | rfl | rfl | rfl | rfl <;> rfl
    · have : k = 0 ∨ k = 1 ∨ k = 2 ∨ k = 3 ∨ k = 4 ∨ k = 5 ∨ k = 6 ∨ k = 7 ∨ k = 8 := by omega
      rcases this with rfl | rfl | rfl | rfl | rfl | rfl | rfl | rfl | rfl <;> rfl
theorem RM.text {S : SD} {X' : XD} {h h' : PH} (c : RM S h) (e : ∀ k, k ≠ 66 → k ≠ 81 → 67 ≤ k → scM k = false → h'.1 k = h.1 k) (e66 : ∀ i, i ≠ 19 → scS i = false → h'.1 66 i = h.1 66 i) (hX : MX X' h') : RM (S.1, S.2.1, S.2.2.1, X', S.2.2.2.2) h' := by
  obtain ⟨h1, h2, h3, h4, h5, h6⟩ := c
  have g : ∀ k, k ≠ 66 ∧ k ≠ 81 ∧ 67 ≤ k ∧ scM k = false → h'.1 k = h.1 k := fun k q => e k q.1 q.2.1 q.2.2.1 q.2.2.2
  refine ⟨h1.keep (fun k q => g k ?_) (e66 0 (by decide) rfl) (e66 4 (by decide) rfl), ?_, ?_, hX, by rw [e66 20 (by decide) rfl]; exact h5, ?_⟩
  · simp only [MTc, List.mem_cons, List.not_mem_nil, or_false, decide_eq_true_eq] at q
    rcases q with rfl | rfl | rfl | rfl | rfl | rfl | rfl <;> decide
  · unfold MB at h2 ⊢
    rw [e66 8 (by decide) rfl, e66 13 (by decide) rfl, g 73 (by decide), g 74 (by decide), g 75 (by decide), g 76 (by decide), g 77 (by decide), g 78 (by decide), g 79 (by decide), g 80 (by decide)]
    exact h2
  · unfold MP at h3 ⊢
    rw [e66 41 (by decide) rfl, e66 44 (by decide) rfl, e66 45 (by decide) rfl, e66 46 (by decide) rfl, g 92 (by decide), g 93 (by decide)]
    exact h3
  · unfold MK MI at h6 ⊢
    rw [g 96 (by decide), g 97 (by decide)]
    exact h6
def fedX (X : XD) (n : Nat) (x : Int64) : XD := (X.1 + n, fun i => if i < X.1 then X.2 i else byt x (n - 1 - (i - X.1)))
theorem p_feed (x : Int32) (y : Int64) : Pair (f_X8_feed x y) (f_X9_feed x y) := Pair.mut (fun S w => by
  have wX := w.2.2.2.1
  refine mut_in w (a := 1) (n := 8) (by omega) (u := -1002) (KF := fun h => if ((h.1 1 1) + x) ≤ 500 then (bO (f_X6_append x y h) (fun h40 => some ((h40.1 1 1), h40))) else (some ((-1004), h))) (fun h c => rfl) (e1 := 1) (e2 := 8) rfl (by omega) (KM := fun h => if ((h.1 66 19) + x) ≤ 500 then (lt' ((x - 1)) (fun x4_35 => f_X9_feed_37 y FU x4_35 h)) else (some ((-1004), h))) (fun h c => rfl) rfl (fun n hn0 hn e => ?_)
  subst e
  by_cases hf : S.2.2.2.1.1 + n ≤ 500
  · have ef : nI S.2.2.2.1.1 + nI n ≤ 500 := by
      rw [nI_add, show (500 : Int32) = nI 500 from rfl, leN (by omega) (by omega)]; exact hf
    have hX : ∀ i, i < (fedX S.2.2.2.1 n y).1 → 0 ≤ ((fedX S.2.2.2.1 n y).2 i).toInt ∧ ((fedX S.2.2.2.1 n y).2 i).toInt ≤ 255 := fun i hi => by
      show 0 ≤ (if i < S.2.2.2.1.1 then S.2.2.2.1.2 i else byt y (n - 1 - (i - S.2.2.2.1.1))).toInt ∧ (if i < S.2.2.2.1.1 then S.2.2.2.1.2 i else byt y (n - 1 - (i - S.2.2.2.1.1))).toInt ≤ 255
      by_cases q : i < S.2.2.2.1.1
      · rw [if_pos q]; exact wX.2 i q
      · rw [if_neg q]; exact byt_bd _ _
    have e2n : ∀ t, t < n → (fedX S.2.2.2.1 n y).2 (S.2.2.2.1.1 + t) = byt y (n - t - 1) := fun t ht => by
      show (if S.2.2.2.1.1 + t < S.2.2.2.1.1 then S.2.2.2.1.2 (S.2.2.2.1.1 + t) else byt y (n - 1 - (S.2.2.2.1.1 + t - S.2.2.2.1.1))) = _
      rw [if_neg (by omega), show n - 1 - (S.2.2.2.1.1 + t - S.2.2.2.1.1) = n - t - 1 by omega]
    have e2o : ∀ i, i < S.2.2.2.1.1 → (fedX S.2.2.2.1 n y).2 i = S.2.2.2.1.2 i := fun i hi => if_pos hi
    refine Mut.of (S' := (S.1, S.2.1, S.2.2.1, fedX S.2.2.2.1 n y, S.2.2.2.2)) (nI (S.2.2.2.1.1 + n)) ⟨w.1, w.2.1, w.2.2.1, ⟨hf, hX⟩, w.2.2.2.2⟩ (fun h c => ?_) (fun h c => ?_)
    · rw [c.2.2.2.1.1, if_pos ef, f_X6_append, lt'_eq]
      have lp : ∃ H, f_X6_append_5 y FU (nI n - 1) h = some H ∧ (∀ k, k ≠ 1 → k ≠ 2 → H.1 k = h.1 k) ∧ H.1 1 = upd (h.1 1) 1 (nI (S.2.2.2.1.1 + n)) ∧ ∀ i, i < S.2.2.2.1.1 + n → H.1 2 i = (fedX S.2.2.2.1 n y).2 i := by
        refine glF (fun m (_ : Unit) t h => f_X6_append_5 y m (nI (n - t) - 1) h) (fun t _ H => (∀ k, k ≠ 1 → k ≠ 2 → H.1 k = h.1 k) ∧ H.1 1 = upd (h.1 1) 1 (nI (S.2.2.2.1.1 + t)) ∧ ∀ i, i < S.2.2.2.1.1 + t → H.1 2 i = (fedX S.2.2.2.1 n y).2 i) n (fun o => ∃ H, o = some H ∧ (∀ k, k ≠ 1 → k ≠ 2 → H.1 k = h.1 k) ∧ H.1 1 = upd (h.1 1) 1 (nI (S.2.2.2.1.1 + n)) ∧ ∀ i, i < S.2.2.2.1.1 + n → H.1 2 i = (fedX S.2.2.2.1 n y).2 i) (by omega) (fun _ H hI m => ?_) (fun t _ H ht hI => Or.inr ?_) (i := 0) (b := ()) (Nat.zero_le _) ⟨fun _ _ _ => rfl, ?_, fun i hi => ?_⟩
        · refine ⟨H, ?_, hI⟩
          show f_X6_append_5 y (m + 1) (nI (n - n) - 1) H = _
          rw [Nat.sub_self, f_X6_append_5, if_pos (by decide)]
        · obtain ⟨i1, i2, i3⟩ := hI
          have ex : nI (n - t) - 1 = nI (n - t - 1) := by
            rw [show n - t = (n - t - 1) + 1 by omega, nI_pred]; rfl
          refine ⟨(), hU (hU H 2 (S.2.2.2.1.1 + t) (byt y (n - t - 1))) 1 1 (nI (S.2.2.2.1.1 + t + 1)), ⟨fun k h1 h2 => by rw [hU_n _ _ _ h1, hU_n _ _ _ h2]; exact i1 k h1 h2, ?_, fun i hi => ?_⟩, fun m => ?_⟩
          · rw [hU_s, hU_n _ _ _ (show 1 ≠ 2 by decide), i2]
            funext j
            unfold upd
            by_cases e : j = 1 <;> simp [e, Nat.add_assoc]
          · rw [hU_n _ _ _ (show 2 ≠ 1 by decide), hU_s]
            by_cases e : i = S.2.2.2.1.1 + t
            · subst e; rw [upd_s, e2n t ht]
            · rw [upd_n _ _ e]; exact i3 i (by omega)
          · show f_X6_append_5 y (m + 1) (nI (n - t) - 1) H = f_X6_append_5 y m (nI (n - (t + 1)) - 1) _
            rw [ex, f_X6_append_5, if_neg (nI_pos (by omega)), i2, upd_s, if_neg (show ¬ (500 : Int32) ≤ nI (S.2.2.2.1.1 + t) by rw [show (500 : Int32) = nI 500 from rfl, leN (by omega) (by omega)]; omega), asg_nI H 2 _ (by omega : S.2.2.2.1.1 + t < 500) (by omega), bO_some, lt'_eq, hU_n _ _ _ (show 1 ≠ 2 by decide), i2, upd_s, nI1, nIm1', show n - (t + 1) = n - t - 1 by omega]
            rfl
        · rw [Nat.add_zero]
          funext j
          unfold upd
          by_cases e : j = 1
          · subst e; rw [if_pos rfl]; exact c.2.2.2.1.1
          · rw [if_neg e]
        · rw [e2o i hi]; exact c.2.2.2.1.2 i hi
      obtain ⟨H, eH, i1, i2, i3⟩ := lp
      refine ⟨H, by rw [eH, bO_some, i2, upd_s], c.text (fun k h1 h2 _ _ => i1 k h1 h2) ⟨by rw [i2, upd_s]; rfl, i3⟩, fun k hk => i1 k (by omega) (by omega)⟩
    · rw [c.2.2.2.1.1, if_pos ef, lt'_eq]
      have lp : ∃ H, f_X9_feed_37 y FU (nI n - 1) h = some (nI (S.2.2.2.1.1 + n), H) ∧ (∀ k, k ≠ 66 → k ≠ 81 → H.1 k = h.1 k) ∧ H.1 66 = upd (h.1 66) 19 (nI (S.2.2.2.1.1 + n)) ∧ ∀ i, i < S.2.2.2.1.1 + n → H.1 81 i = (fedX S.2.2.2.1 n y).2 i := by
        refine glF (fun m (_ : Unit) t h => f_X9_feed_37 y m (nI (n - t) - 1) h) (fun t _ H => (∀ k, k ≠ 66 → k ≠ 81 → H.1 k = h.1 k) ∧ H.1 66 = upd (h.1 66) 19 (nI (S.2.2.2.1.1 + t)) ∧ ∀ i, i < S.2.2.2.1.1 + t → H.1 81 i = (fedX S.2.2.2.1 n y).2 i) n (fun o => ∃ H, o = some (nI (S.2.2.2.1.1 + n), H) ∧ (∀ k, k ≠ 66 → k ≠ 81 → H.1 k = h.1 k) ∧ H.1 66 = upd (h.1 66) 19 (nI (S.2.2.2.1.1 + n)) ∧ ∀ i, i < S.2.2.2.1.1 + n → H.1 81 i = (fedX S.2.2.2.1 n y).2 i) (by omega) (fun _ H hI m => ?_) (fun t _ H ht hI => Or.inr ?_) (i := 0) (b := ()) (Nat.zero_le _) ⟨fun _ _ _ => rfl, ?_, fun i hi => ?_⟩
        · refine ⟨H, ?_, hI⟩
          show f_X9_feed_37 y (m + 1) (nI (n - n) - 1) H = _
          rw [Nat.sub_self, f_X9_feed_37, if_pos (by decide), hI.2.1, upd_s]
        · obtain ⟨i1, i2, i3⟩ := hI
          have ex : nI (n - t) - 1 = nI (n - t - 1) := by
            rw [show n - t = (n - t - 1) + 1 by omega, nI_pred]; rfl
          refine ⟨(), hU (hU H 81 (S.2.2.2.1.1 + t) (byt y (n - t - 1))) 66 19 (nI (S.2.2.2.1.1 + t + 1)), ⟨fun k h1 h2 => by rw [hU_n _ _ _ h1, hU_n _ _ _ h2]; exact i1 k h1 h2, ?_, fun i hi => ?_⟩, fun m => ?_⟩
          · rw [hU_s, hU_n _ _ _ (show 66 ≠ 81 by decide), i2]
            funext j
            unfold upd
            by_cases e : j = 19 <;> simp [e, Nat.add_assoc]
          · rw [hU_n _ _ _ (show 81 ≠ 66 by decide), hU_s]
            by_cases e : i = S.2.2.2.1.1 + t
            · subst e; rw [upd_s, e2n t ht]
            · rw [upd_n _ _ e]; exact i3 i (by omega)
          · show f_X9_feed_37 y (m + 1) (nI (n - t) - 1) H = f_X9_feed_37 y m (nI (n - (t + 1)) - 1) _
            rw [ex, f_X9_feed_37, if_neg (nI_pos (by omega)), i2, upd_s, byte_eq y (by omega), asg_nI H 81 _ (by omega : S.2.2.2.1.1 + t < 500) (by omega), bO_some, lt'_eq, hU_n _ _ _ (show 66 ≠ 81 by decide), i2, upd_s, nI1, nIm1', show n - (t + 1) = n - t - 1 by omega]
        · rw [Nat.add_zero]
          funext j
          unfold upd
          by_cases e : j = 19
          · subst e; rw [if_pos rfl]; exact c.2.2.2.1.1
          · rw [if_neg e]
        · rw [e2o i hi]; exact c.2.2.2.1.2 i hi
      obtain ⟨H, eH, i1, i2, i3⟩ := lp
      refine ⟨H, eH, c.text (fun k h1 h2 _ _ => i1 k h1 h2) (fun i h1 _ => by rw [i2, upd_n _ _ h1]) ⟨by rw [i2, upd_s]; rfl, i3⟩, fun k hk => i1 k (by omega) (by omega)⟩
  · have ef : ¬ nI S.2.2.2.1.1 + nI n ≤ 500 := by
      have := wX.1
      rw [nI_add, show (500 : Int32) = nI 500 from rfl, leN (by omega) (by omega)]; exact hf
    exact Two.mut w (Two.of (-1004) (Q.pt fun h c => by rw [c.2.2.2.1.1, if_neg ef]) (P9.pt fun h c => by rw [c.2.2.2.1.1, if_neg ef])))
