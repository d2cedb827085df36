/-! ===== the end: every call answers alike, from the start to the last ===== -/
def S00 : SD := (T0, B0, P0, (0, fun _ => 0), -1, (none, none))
theorem Inv_start : Inv h00 := by
  refine ⟨S00, ⟨T0_wf, B0_wf _, P0_wf, ⟨Nat.zero_le _, fun i hi => absurd hi (Nat.not_lt_zero i)⟩, (fun B z => by cases z), (fun B z => by cases z)⟩, ⟨⟨rfl, rfl, fun c hc => absurd hc (Nat.not_lt_zero c), fun c hc s _ => ?_, fun f hf => absurd hf (Nat.not_lt_zero f)⟩, ⟨rfl, rfl, fun l hl => absurd hl (Nat.not_lt_zero l), fun l hl => absurd hl (Nat.not_lt_zero l)⟩, ⟨rfl, fun l hl => absurd hl (Nat.not_lt_zero l), rfl, rfl, rfl⟩, ⟨rfl, fun l hl => absurd hl (Nat.not_lt_zero l)⟩, rfl, ⟨bt_zero _, bt_zero _, (fun B z => by cases z), (fun B z => by cases z)⟩⟩, ⟨⟨rfl, rfl, fun c hc => absurd hc (Nat.not_lt_zero c), fun c hc s _ => ?_, fun f hf => absurd hf (Nat.not_lt_zero f)⟩, ⟨rfl, rfl, fun l hl => absurd hl (Nat.not_lt_zero l), fun l hl => absurd hl (Nat.not_lt_zero l)⟩, ⟨rfl, fun l hl => absurd hl (Nat.not_lt_zero l), rfl, rfl, rfl⟩, ⟨rfl, fun l hl => absurd hl (Nat.not_lt_zero l)⟩, rfl, ⟨rfl, rfl, (fun B z => by cases z), (fun B z => by cases z)⟩⟩, fun s _ => rfl⟩
  · have : c = 0 := Nat.le_zero.mp hc
    subst this; rfl
  · have : c = 0 := Nat.le_zero.mp hc
    subst this; rfl
theorem law_p {F M : PH → Option (Int32 × PH)} (hp : Pair F M) {h : PH} (w : Inv h) {K : PH → Option Int32} (hk : ∀ h, Inv h → K h = some 1) : bP (F h) (fun r h1 => bP (M h1) (fun r2 h2 => if r = r2 then K h2 else some 0)) = some 1 := by
  obtain ⟨r, h1, h2, e1, e2, w2⟩ := hp h w
  rw [e1, bP_some, e2, bP_some, if_pos rfl]
  exact hk h2 w2
section
variable {L : Nat} {xs : Nat → Int32} {k18 : Int32 → PH → Option Int32} {x3 a1 a2 a3 a4 : Int32} {h : PH}
theorem law_208 (e1 : sg L xs (x3 + 1) = some a1) (e2 : sg L xs (x3 + 2) = some a2) (e3 : sg L xs (x3 + 3) = some a3) (hk : ∀ h, Inv h → k18 (x3 + 5) h = some 1) (w : Inv h) : f_L_law_208 L xs k18 x3 h = some 1 := by
  unfold f_L_law_208
  simp only [e1, e2, e3, bO_some]
  exact law_p (p_feed _ _) w (K := k18 (x3 + 5)) hk
theorem law_271  (hk : ∀ h, Inv h → k18 (x3 + 5) h = some 1) (w : Inv h) : f_L_law_271 L xs k18 x3 h = some 1 := by
  unfold f_L_law_271
  exact law_p (p_trunk) w (K := k18 (x3 + 5)) hk
theorem law_284  (hk : ∀ h, Inv h → k18 (x3 + 5) h = some 1) (w : Inv h) : f_L_law_284 L xs k18 x3 h = some 1 := by
  unfold f_L_law_284
  exact law_p (p_policy) w (K := k18 (x3 + 5)) hk
theorem law_297  (hk : ∀ h, Inv h → k18 (x3 + 5) h = some 1) (w : Inv h) : f_L_law_297 L xs k18 x3 h = some 1 := by
  unfold f_L_law_297
  exact law_p (p_breach) w (K := k18 (x3 + 5)) hk
theorem law_310 (e1 : sg L xs (x3 + 1) = some a1) (e2 : sg L xs (x3 + 2) = some a2) (hk : ∀ h, Inv h → k18 (x3 + 5) h = some 1) (w : Inv h) : f_L_law_310 L xs k18 x3 h = some 1 := by
  unfold f_L_law_310
  simp only [e1, e2, bO_some]
  exact law_p (p_change _ _) w (K := k18 (x3 + 5)) hk
theorem law_343 (e1 : sg L xs (x3 + 1) = some a1) (e2 : sg L xs (x3 + 2) = some a2) (hk : ∀ h, Inv h → k18 (x3 + 5) h = some 1) (w : Inv h) : f_L_law_343 L xs k18 x3 h = some 1 := by
  unfold f_L_law_343
  simp only [e1, e2, bO_some]
  exact law_p (p_sets _ _) w (K := k18 (x3 + 5)) hk
theorem law_376 (e1 : sg L xs (x3 + 1) = some a1) (e2 : sg L xs (x3 + 2) = some a2) (hk : ∀ h, Inv h → k18 (x3 + 5) h = some 1) (w : Inv h) : f_L_law_376 L xs k18 x3 h = some 1 := by
  unfold f_L_law_376
  simp only [e1, e2, bO_some]
  exact law_p (p_ahead _ _) w (K := k18 (x3 + 5)) hk
theorem law_409 (e1 : sg L xs (x3 + 1) = some a1) (e2 : sg L xs (x3 + 2) = some a2) (hk : ∀ h, Inv h → k18 (x3 + 5) h = some 1) (w : Inv h) : f_L_law_409 L xs k18 x3 h = some 1 := by
  unfold f_L_law_409
  simp only [e1, e2, bO_some]
  exact law_p (p_fault _ _) w (K := k18 (x3 + 5)) hk
theorem law_442 (e1 : sg L xs (x3 + 1) = some a1) (hk : ∀ h, Inv h → k18 (x3 + 5) h = some 1) (w : Inv h) : f_L_law_442 L xs k18 x3 h = some 1 := by
  unfold f_L_law_442
  simp only [e1, bO_some]
  exact law_p (p_count _) w (K := k18 (x3 + 5)) hk
theorem law_465 (e1 : sg L xs (x3 + 1) = some a1) (hk : ∀ h, Inv h → k18 (x3 + 5) h = some 1) (w : Inv h) : f_L_law_465 L xs k18 x3 h = some 1 := by
  unfold f_L_law_465
  simp only [e1, bO_some]
  exact law_p (p_cut _) w (K := k18 (x3 + 5)) hk
theorem law_488 (e1 : sg L xs (x3 + 1) = some a1) (e2 : sg L xs (x3 + 2) = some a2) (hk : ∀ h, Inv h → k18 (x3 + 5) h = some 1) (w : Inv h) : f_L_law_488 L xs k18 x3 h = some 1 := by
  unfold f_L_law_488
  simp only [e1, e2, bO_some]
  exact law_p (p_line _ _) w (K := k18 (x3 + 5)) hk
theorem law_521 (e1 : sg L xs (x3 + 1) = some a1) (e2 : sg L xs (x3 + 2) = some a2) (hk : ∀ h, Inv h → k18 (x3 + 5) h = some 1) (w : Inv h) : f_L_law_521 L xs k18 x3 h = some 1 := by
  unfold f_L_law_521
  simp only [e1, e2, bO_some]
  exact law_p (p_value _ _) w (K := k18 (x3 + 5)) hk
theorem law_554 (e1 : sg L xs (x3 + 1) = some a1) (e2 : sg L xs (x3 + 2) = some a2) (hk : ∀ h, Inv h → k18 (x3 + 5) h = some 1) (w : Inv h) : f_L_law_554 L xs k18 x3 h = some 1 := by
  unfold f_L_law_554
  simp only [e1, e2, bO_some]
  exact law_p (p_clash _ _) w (K := k18 (x3 + 5)) hk
theorem law_587 (e1 : sg L xs (x3 + 1) = some a1) (e2 : sg L xs (x3 + 2) = some a2) (hk : ∀ h, Inv h → k18 (x3 + 5) h = some 1) (w : Inv h) : f_L_law_587 L xs k18 x3 h = some 1 := by
  unfold f_L_law_587
  simp only [e1, e2, bO_some]
  exact law_p (p_pick _ _) w (K := k18 (x3 + 5)) hk
theorem law_620 (e1 : sg L xs (x3 + 1) = some a1) (e2 : sg L xs (x3 + 2) = some a2) (hk : ∀ h, Inv h → k18 (x3 + 5) h = some 1) (w : Inv h) : f_L_law_620 L xs k18 x3 h = some 1 := by
  unfold f_L_law_620
  simp only [e1, e2, bO_some]
  exact law_p (p_undo _ _) w (K := k18 (x3 + 5)) hk
theorem law_653 (e1 : sg L xs (x3 + 1) = some a1) (e2 : sg L xs (x3 + 2) = some a2) (hk : ∀ h, Inv h → k18 (x3 + 5) h = some 1) (w : Inv h) : f_L_law_653 L xs k18 x3 h = some 1 := by
  unfold f_L_law_653
  simp only [e1, e2, bO_some]
  exact law_p (p_needs _ _) w (K := k18 (x3 + 5)) hk
theorem law_686 (e1 : sg L xs (x3 + 1) = some a1) (e2 : sg L xs (x3 + 2) = some a2) (hk : ∀ h, Inv h → k18 (x3 + 5) h = some 1) (w : Inv h) : f_L_law_686 L xs k18 x3 h = some 1 := by
  unfold f_L_law_686
  simp only [e1, e2, bO_some]
  exact law_p (p_carry _ _) w (K := k18 (x3 + 5)) hk
theorem law_719 (e1 : sg L xs (x3 + 1) = some a1) (e2 : sg L xs (x3 + 2) = some a2) (e3 : sg L xs (x3 + 3) = some a3) (hk : ∀ h, Inv h → k18 (x3 + 5) h = some 1) (w : Inv h) : f_L_law_719 L xs k18 x3 h = some 1 := by
  unfold f_L_law_719
  simp only [e1, e2, e3, bO_some]
  exact law_p (p_apart _ _ _) w (K := k18 (x3 + 5)) hk
theorem law_762 (e1 : sg L xs (x3 + 1) = some a1) (e2 : sg L xs (x3 + 2) = some a2) (hk : ∀ h, Inv h → k18 (x3 + 5) h = some 1) (w : Inv h) : f_L_law_762 L xs k18 x3 h = some 1 := by
  unfold f_L_law_762
  simp only [e1, e2, bO_some]
  exact law_p (p_cost _ _) w (K := k18 (x3 + 5)) hk
theorem law_795 (e1 : sg L xs (x3 + 1) = some a1) (e2 : sg L xs (x3 + 2) = some a2) (e3 : sg L xs (x3 + 3) = some a3) (e4 : sg L xs (x3 + 4) = some a4) (hk : ∀ h, Inv h → k18 (x3 + 5) h = some 1) (w : Inv h) : f_L_law_795 L xs k18 x3 h = some 1 := by
  unfold f_L_law_795
  simp only [e1, e2, e3, e4, bO_some]
  exact law_p (p_best _ _ _ _) w (K := k18 (x3 + 5)) hk
theorem law_848 (e1 : sg L xs (x3 + 1) = some a1) (e2 : sg L xs (x3 + 2) = some a2) (hk : ∀ h, Inv h → k18 (x3 + 5) h = some 1) (w : Inv h) : f_L_law_848 L xs k18 x3 h = some 1 := by
  unfold f_L_law_848
  simp only [e1, e2, bO_some]
  exact law_p (p_later _ _) w (K := k18 (x3 + 5)) hk
theorem law_881 (e1 : sg L xs (x3 + 1) = some a1) (e2 : sg L xs (x3 + 2) = some a2) (hk : ∀ h, Inv h → k18 (x3 + 5) h = some 1) (w : Inv h) : f_L_law_881 L xs k18 x3 h = some 1 := by
  unfold f_L_law_881
  simp only [e1, e2, bO_some]
  exact law_p (p_release _ _) w (K := k18 (x3 + 5)) hk
theorem law_914 (e1 : sg L xs (x3 + 1) = some a1) (e2 : sg L xs (x3 + 2) = some a2) (hk : ∀ h, Inv h → k18 (x3 + 5) h = some 1) (w : Inv h) : f_L_law_914 L xs k18 x3 h = some 1 := by
  unfold f_L_law_914
  simp only [e1, e2, bO_some]
  exact law_p (p_released _ _) w (K := k18 (x3 + 5)) hk
theorem law_947 (e1 : sg L xs (x3 + 1) = some a1) (e2 : sg L xs (x3 + 2) = some a2) (e3 : sg L xs (x3 + 3) = some a3) (hk : ∀ h, Inv h → k18 (x3 + 5) h = some 1) (w : Inv h) : f_L_law_947 L xs k18 x3 h = some 1 := by
  unfold f_L_law_947
  simp only [e1, e2, e3, bO_some]
  exact law_p (p_notes _ _ _) w (K := k18 (x3 + 5)) hk
theorem law_990 (e1 : sg L xs (x3 + 1) = some a1) (e2 : sg L xs (x3 + 2) = some a2) (hk : ∀ h, Inv h → k18 (x3 + 5) h = some 1) (w : Inv h) : f_L_law_990 L xs k18 x3 h = some 1 := by
  unfold f_L_law_990
  simp only [e1, e2, bO_some]
  exact law_p (p_differs _ _) w (K := k18 (x3 + 5)) hk
theorem law_1023 (e1 : sg L xs (x3 + 1) = some a1) (e2 : sg L xs (x3 + 2) = some a2) (hk : ∀ h, Inv h → k18 (x3 + 5) h = some 1) (w : Inv h) : f_L_law_1023 L xs k18 x3 h = some 1 := by
  unfold f_L_law_1023
  simp only [e1, e2, bO_some]
  exact law_p (p_freed _ _) w (K := k18 (x3 + 5)) hk
theorem law_1056 (e1 : sg L xs (x3 + 1) = some a1) (e2 : sg L xs (x3 + 2) = some a2) (e3 : sg L xs (x3 + 3) = some a3) (hk : ∀ h, Inv h → k18 (x3 + 5) h = some 1) (w : Inv h) : f_L_law_1056 L xs k18 x3 h = some 1 := by
  unfold f_L_law_1056
  simp only [e1, e2, e3, bO_some]
  exact law_p (p_danger _ _ _) w (K := k18 (x3 + 5)) hk
theorem law_1099 (e1 : sg L xs (x3 + 1) = some a1) (e2 : sg L xs (x3 + 2) = some a2) (hk : ∀ h, Inv h → k18 (x3 + 5) h = some 1) (w : Inv h) : f_L_law_1099 L xs k18 x3 h = some 1 := by
  unfold f_L_law_1099
  simp only [e1, e2, bO_some]
  exact law_p (p_every _ _) w (K := k18 (x3 + 5)) hk
theorem law_1132 (e1 : sg L xs (x3 + 1) = some a1) (e2 : sg L xs (x3 + 2) = some a2) (hk : ∀ h, Inv h → k18 (x3 + 5) h = some 1) (w : Inv h) : f_L_law_1132 L xs k18 x3 h = some 1 := by
  unfold f_L_law_1132
  simp only [e1, e2, bO_some]
  exact law_p (p_soonest _ _) w (K := k18 (x3 + 5)) hk
theorem law_1165 (e1 : sg L xs (x3 + 1) = some a1) (e2 : sg L xs (x3 + 2) = some a2) (hk : ∀ h, Inv h → k18 (x3 + 5) h = some 1) (w : Inv h) : f_L_law_1165 L xs k18 x3 h = some 1 := by
  unfold f_L_law_1165
  simp only [e1, e2, bO_some]
  by_cases c : a2 = 0
  · simp only [c, if_true]; exact law_p (p_ready _ _) w (K := k18 (x3 + 5)) hk
  · simp only [c, if_false]; exact law_p (p_ready _ _) w (K := k18 (x3 + 5)) hk
theorem law_1214 (po : ∀ x y, Pair (f_X8_orders x y) (f_X9_orders x y)) (e1 : sg L xs (x3 + 1) = some a1) (e2 : sg L xs (x3 + 2) = some a2) (hk : ∀ h, Inv h → k18 (x3 + 5) h = some 1) (w : Inv h) : f_L_law_1214 L xs k18 x3 h = some 1 := by
  unfold f_L_law_1214
  simp only [e1, e2, bO_some]
  exact law_p (po _ _) w (K := k18 (x3 + 5)) hk
theorem law_1247 (po : ∀ x y z t, Pair (f_X8_order x y z t) (f_X9_order x y z t)) (e1 : sg L xs (x3 + 1) = some a1) (e2 : sg L xs (x3 + 2) = some a2) (e3 : sg L xs (x3 + 3) = some a3) (e4 : sg L xs (x3 + 4) = some a4) (hk : ∀ h, Inv h → k18 (x3 + 5) h = some 1) (w : Inv h) : f_L_law_1247 L xs k18 x3 h = some 1 := by
  unfold f_L_law_1247
  simp only [e1, e2, e3, e4, bO_some]
  exact law_p (po _ _ _ _) w (K := k18 (x3 + 5)) hk
theorem law_1300 (e1 : sg L xs (x3 + 1) = some a1) (e2 : sg L xs (x3 + 2) = some a2) (hk : ∀ h, Inv h → k18 (x3 + 5) h = some 1) (w : Inv h) : f_L_law_1300 L xs k18 x3 h = some 1 := by
  unfold f_L_law_1300
  simp only [e1, e2, bO_some]
  exact law_p (p_whence _ _) w (K := k18 (x3 + 5)) hk
theorem law_1333 (e1 : sg L xs (x3 + 1) = some a1) (hk : ∀ h, Inv h → k18 (x3 + 5) h = some 1) (w : Inv h) : f_L_law_1333 L xs k18 x3 h = some 1 := by
  unfold f_L_law_1333
  simp only [e1, bO_some]
  exact law_p (p_strayed _) w (K := k18 (x3 + 5)) hk
theorem law_1356 (e1 : sg L xs (x3 + 1) = some a1) (e2 : sg L xs (x3 + 2) = some a2) (e3 : sg L xs (x3 + 3) = some a3) (hk : ∀ h, Inv h → k18 (x3 + 5) h = some 1) (w : Inv h) : f_L_law_1356 L xs k18 x3 h = some 1 := by
  unfold f_L_law_1356
  simp only [e1, e2, e3, bO_some]
  exact law_p (p_bestCut _ _ _) w (K := k18 (x3 + 5)) hk
theorem law_1399 (e1 : sg L xs (x3 + 1) = some a1) (e2 : sg L xs (x3 + 2) = some a2) (e3 : sg L xs (x3 + 3) = some a3) (hk : ∀ h, Inv h → k18 (x3 + 5) h = some 1) (w : Inv h) : f_L_law_1399 L xs k18 x3 h = some 1 := by
  unfold f_L_law_1399
  simp only [e1, e2, e3, bO_some]
  exact law_p (p_up _ _ _) w (K := k18 (x3 + 5)) hk
theorem law_1442 (e1 : sg L xs (x3 + 1) = some a1) (e2 : sg L xs (x3 + 2) = some a2) (e3 : sg L xs (x3 + 3) = some a3) (e4 : sg L xs (x3 + 4) = some a4) (hk : ∀ h, Inv h → k18 (x3 + 5) h = some 1) (w : Inv h) : f_L_law_1442 L xs k18 x3 h = some 1 := by
  unfold f_L_law_1442
  simp only [e1, e2, e3, e4, bO_some]
  exact law_p (p_spans _ _ _ _) w (K := k18 (x3 + 5)) hk
theorem law_1495 (e1 : sg L xs (x3 + 1) = some a1) (e2 : sg L xs (x3 + 2) = some a2) (e3 : sg L xs (x3 + 3) = some a3) (hk : ∀ h, Inv h → k18 (x3 + 5) h = some 1) (w : Inv h) : f_L_law_1495 L xs k18 x3 h = some 1 := by
  unfold f_L_law_1495
  simp only [e1, e2, e3, bO_some]
  exact law_p (p_lets _ _ _) w (K := k18 (x3 + 5)) hk
theorem law_1538 (e1 : sg L xs (x3 + 1) = some a1) (hk : ∀ h, Inv h → k18 (x3 + 5) h = some 1) (w : Inv h) : f_L_law_1538 L xs k18 x3 h = some 1 := by
  unfold f_L_law_1538
  simp only [e1, bO_some]
  exact law_p (p_keep _) w (K := k18 (x3 + 5)) hk
theorem law_1561 (e1 : sg L xs (x3 + 1) = some a1) (hk : ∀ h, Inv h → k18 (x3 + 5) h = some 1) (w : Inv h) : f_L_law_1561 L xs k18 x3 h = some 1 := by
  unfold f_L_law_1561
  simp only [e1, bO_some]
  exact law_p (p_goBack _) w (K := k18 (x3 + 5)) hk
end
theorem ite_go {c : Prop} [Decidable c] {a b : Option Int32} (h1 : a = some 1) (h2 : b = some 1) : (if c then a else b) = some 1 := by
  split <;> assumption
theorem sg_nI (L : Nat) (xs : Nat → Int32) {i : Nat} (hi : i < L) (hL : L ≤ 2560) : sg L xs (nI i) = some (xs i) := by
  unfold sg; rw [if_pos (ib_nI hi (by omega)), cl (by omega)]
theorem law_all (p1 : ∀ x y, Pair (f_X8_orders x y) (f_X9_orders x y)) (p2 : ∀ x y z t, Pair (f_X8_order x y z t) (f_X9_order x y z t)) {L : Nat} {xs : Nat → Int32} (hL : L ≤ 2560) : ∀ n p h, p ≤ L → L < p + n → Inv h → f_L_law_18 L xs n (nI p) h = some 1 := by
  intro n
  induction n with
  | zero => intro p h hp hn w; omega
  | succ n ih =>
    intro p h hp hn w
    rw [f_L_law_18]
    have hlt : (Int32.ofNat L - 5 < nI p) = (L < p + 5) := by
      apply propext
      rw [Int32.lt_iff_toInt_lt, show Int32.ofNat L - 5 = nI L - nI 5 from rfl]
      have h1 : (nI L - nI 5).toInt = (L : Int) - 5 := by
        rw [Int32.toInt_sub, nI_toInt (by omega), nI_toInt (by omega)]
        apply Int.bmod_eq_of_le <;> omega
      rw [h1, nI_toInt (by omega)]
      omega
    by_cases c : L < p + 5
    · rw [if_pos (hlt.mpr c)]
    · rw [if_neg (fun q => c (hlt.mp q)), sg_nI L xs (by omega) hL, bO_some]
      have e1 : sg L xs (nI p + 1) = some (xs (p + 1)) := by rw [show nI p + 1 = nI (p + 1) from nI1 p]; exact sg_nI L xs (by omega) hL
      have e2 : sg L xs (nI p + 2) = some (xs (p + 2)) := by rw [show nI p + 2 = nI (p + 2) from nI_add p 2]; exact sg_nI L xs (by omega) hL
      have e3 : sg L xs (nI p + 3) = some (xs (p + 3)) := by rw [show nI p + 3 = nI (p + 3) from nI_add p 3]; exact sg_nI L xs (by omega) hL
      have e4 : sg L xs (nI p + 4) = some (xs (p + 4)) := by rw [show nI p + 4 = nI (p + 4) from nI_add p 4]; exact sg_nI L xs (by omega) hL
      have hk : ∀ h, Inv h → f_L_law_18 L xs n (nI p + 5) h = some 1 := fun h w => by
        rw [show nI p + 5 = nI (p + 5) from nI_add p 5]
        exact ih (p + 5) h (by omega) (by omega) w
      clear ih
      refine ite_go (law_208 e1 e2 e3 hk w) ?_
      refine ite_go (law_271 hk w) ?_
      refine ite_go (law_284 hk w) ?_
      refine ite_go (law_297 hk w) ?_
      refine ite_go (law_310 e1 e2 hk w) ?_
      refine ite_go (law_343 e1 e2 hk w) ?_
      refine ite_go (law_376 e1 e2 hk w) ?_
      refine ite_go (law_409 e1 e2 hk w) ?_
      refine ite_go (law_442 e1 hk w) ?_
      refine ite_go (law_465 e1 hk w) ?_
      refine ite_go (law_488 e1 e2 hk w) ?_
      refine ite_go (law_521 e1 e2 hk w) ?_
      refine ite_go (law_554 e1 e2 hk w) ?_
      refine ite_go (law_587 e1 e2 hk w) ?_
      refine ite_go (law_620 e1 e2 hk w) ?_
      refine ite_go (law_653 e1 e2 hk w) ?_
      refine ite_go (law_686 e1 e2 hk w) ?_
      refine ite_go (law_719 e1 e2 e3 hk w) ?_
      refine ite_go (law_762 e1 e2 hk w) ?_
      refine ite_go (law_795 e1 e2 e3 e4 hk w) ?_
      refine ite_go (law_848 e1 e2 hk w) ?_
      refine ite_go (law_881 e1 e2 hk w) ?_
      refine ite_go (law_914 e1 e2 hk w) ?_
      refine ite_go (law_947 e1 e2 e3 hk w) ?_
      refine ite_go (law_990 e1 e2 hk w) ?_
      refine ite_go (law_1023 e1 e2 hk w) ?_
      refine ite_go (law_1056 e1 e2 e3 hk w) ?_
      refine ite_go (law_1099 e1 e2 hk w) ?_
      refine ite_go (law_1132 e1 e2 hk w) ?_
      refine ite_go (law_1165 e1 e2 hk w) ?_
      refine ite_go (law_1214 p1 e1 e2 hk w) ?_
      refine ite_go (law_1247 p2 e1 e2 e3 e4 hk w) ?_
      refine ite_go (law_1300 e1 e2 hk w) ?_
      refine ite_go (law_1333 e1 hk w) ?_
      refine ite_go (law_1356 e1 e2 e3 hk w) ?_
      refine ite_go (law_1399 e1 e2 e3 hk w) ?_
      refine ite_go (law_1442 e1 e2 e3 e4 hk w) ?_
      refine ite_go (law_1495 e1 e2 e3 hk w) ?_
      refine ite_go (law_1538 e1 hk w) ?_
      refine ite_go (law_1561 e1 hk w) ?_
      exact hk h w
