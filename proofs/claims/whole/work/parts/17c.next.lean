/-! ===== orders: the model's next row ===== -/
theorem nI_subK (j n : Nat) : nI (j + n) - nI n = nI j := by rw [← nI_add]; exact Int32.add_sub_cancel _ _
theorem RW.set {g : PH} {k : Nat} {r : Nat → Nat} {h : PH} (H : RW g k r h) (i v : Nat) : RW g k (fun t => if t = i then v else r t) (hU h 91 i (nI v)) := by
  refine ⟨H.1.tr (keepM.hC (V := 91) _ rfl (by decide)), by rw [hU_n _ _ _ (by decide)]; exact H.2.1, fun t ht => ?_⟩
  show (hU h 91 i (nI v)).1 91 t = nI (if t = i then v else r t)
  rw [hU_s]
  by_cases e : t = i
  · rw [if_pos e, e, upd_s]
  · rw [if_neg e, upd_n _ _ e]; exact H.2.2 t ht
theorem m_swap {g : PH} {k : Nat} {r : Nat → Nat} {h : PH} (H : RW g k r h) (i j : Nat) : RW g k (fun t => if t = j then r i else if t = i then r j else r t) (hU (hU h 91 i (nI (r j))) 91 j (nI (r i))) := (H.set i (r j)).set j (r i)
theorem RW.ag {g : PH} {k : Nat} {r : Nat → Nat} {h : PH} (hk : k ≤ 8) (H : RW g k r h) {t : Nat} (ht : t < k) : ag h 91 8 (nI t) = some (nI (r t)) := by rw [ag_nI _ _ (by omega : t < 8) (by omega), H.2.2 t ht]
theorem m_dn1 {g : PH} {k : Nat} {r : Nat → Nat} {h : PH} (hk : k ≤ 8) (hr : ∀ t, t < k → r t < 24) (H : RW g k r h) {p : Nat} (hdn : ∀ t, p < t → t + 1 < k → r (t + 1) < r t) (n : Nat) : ∀ e, p + e + 1 < k → f_X9_nextRow_7 (n + e) (nI (p + e)) h = f_X9_nextRow_7 n (nI p) h := by
  intro e
  induction e with
  | zero => intro _; rfl
  | succ e ih =>
    intro he
    have h1 := hr (p + e + 1) (by omega)
    have h2 := hr (p + e + 1 + 1) (by omega)
    have h3 := hdn (p + e + 1) (by omega) (by omega)
    show f_X9_nextRow_7 (n + e + 1) (nI (p + e + 1)) h = _
    rw [f_X9_nextRow_7, if_neg (nI_pos (by omega)), H.ag hk (by omega), bO_some, nI1, H.ag hk (by omega), bO_some, if_neg (by rw [leN (by omega) (by omega)]; omega), nIm1]
    exact ih (by omega)
theorem m_dn2 {g : PH} {k : Nat} {r : Nat → Nat} {h : PH} (hk : k ≤ 8) (hr : ∀ t, t < k → r t < 24) (H : RW g k r h) {p b : Nat} (hp : p < k) (hdn : ∀ t, b < t → t < k → r t < r p) (n : Nat) : ∀ e, b + e < k → f_X9_nextRow_47 (nI p) (n + e) (nI (b + e)) h = f_X9_nextRow_47 (nI p) n (nI b) h := by
  intro e
  induction e with
  | zero => intro _; rfl
  | succ e ih =>
    intro he
    have h1 := hr (b + e + 1) (by omega)
    have h2 := hr p hp
    have h3 := hdn (b + e + 1) (by omega) (by omega)
    show f_X9_nextRow_47 (nI p) (n + e + 1) (nI (b + e + 1)) h = _
    rw [f_X9_nextRow_47, H.ag hk (by omega), bO_some, H.ag hk hp, bO_some, if_neg (by rw [leN (by omega) (by omega)]; omega), nIm1]
    exact ih (by omega)
theorem m_rev {g : PH} {k : Nat} {r : Nat → Nat} {h : PH} (hk : k ≤ 8) (H : RW g k r h) {p : Nat} (hp : p + 1 < k) : ∃ h', f_X9_nextRow_107 FU (nI (p + 1)) (nI (k - 1)) h = some (1, h') ∧ RW g k (fun t => if p < t then r (p + k - t) else r t) h' := by
  refine glF (fun n (_ : Unit) c h => f_X9_nextRow_107 n (nI (p + 1 + c)) (nI (k - 1 - c)) h) (fun c _ h => RW g k (fun t => if p < t ∧ (t < p + 1 + c ∨ k ≤ t + c) then r (p + k - t) else r t) h) ((k - 1 - p) / 2) (fun o => ∃ h', o = some (1, h') ∧ RW g k (fun t => if p < t then r (p + k - t) else r t) h') (by omega) (fun _ h I n => ?_) (fun c _ h hc I => Or.inr ?_) (i := 0) (b := ()) (Nat.zero_le _) (H.cg (fun t ht => ?_))
  · refine ⟨h, ?_, I.cg (fun t ht => ?_)⟩
    · show f_X9_nextRow_107 (n + 1) (nI (p + 1 + (k - 1 - p) / 2)) (nI (k - 1 - (k - 1 - p) / 2)) h = _
      rw [f_X9_nextRow_107, if_pos (by rw [leN (by omega) (by omega)]; omega)]
    · show (if p < t ∧ (t < p + 1 + (k - 1 - p) / 2 ∨ k ≤ t + (k - 1 - p) / 2) then r (p + k - t) else r t) = if p < t then r (p + k - t) else r t
      by_cases h1 : p < t
      · by_cases h2 : t < p + 1 + (k - 1 - p) / 2 ∨ k ≤ t + (k - 1 - p) / 2
        · rw [if_pos ⟨h1, h2⟩, if_pos h1]
        · rw [if_neg (fun x => h2 x.2), if_pos h1, show p + k - t = t by omega]
      · rw [if_neg (fun x => h1 x.1), if_neg h1]
  · obtain ⟨R, hR⟩ : ∃ R : Nat → Nat, R = fun t => if p < t ∧ (t < p + 1 + c ∨ k ≤ t + c) then r (p + k - t) else r t := ⟨_, rfl⟩
    have I' : RW g k R h := by rw [hR]; exact I
    have R1 : R (p + 1 + c) = r (p + 1 + c) := by rw [hR]; exact if_neg (by omega)
    have R2 : R (k - 1 - c) = r (k - 1 - c) := by rw [hR]; exact if_neg (by omega)
    refine ⟨(), _, (m_swap I' (p + 1 + c) (k - 1 - c)).cg (fun t ht => ?_), fun n => ?_⟩
    · show (if t = k - 1 - c then R (p + 1 + c) else if t = p + 1 + c then R (k - 1 - c) else R t) = if p < t ∧ (t < p + 1 + (c + 1) ∨ k ≤ t + (c + 1)) then r (p + k - t) else r t
      by_cases h1 : t = k - 1 - c
      · rw [if_pos h1, if_pos (by omega), R1]; exact congrArg r (by omega)
      · rw [if_neg h1]
        by_cases h2 : t = p + 1 + c
        · rw [if_pos h2, if_pos (by omega), R2]; exact congrArg r (by omega)
        · rw [if_neg h2, hR]
          by_cases h3 : p < t ∧ (t < p + 1 + c ∨ k ≤ t + c)
          · rw [if_pos (by omega)]; exact if_pos h3
          · rw [if_neg (by omega)]; exact if_neg h3
    · show f_X9_nextRow_107 (n + 1) (nI (p + 1 + c)) (nI (k - 1 - c)) h = f_X9_nextRow_107 n (nI (p + 1 + (c + 1))) (nI (k - 1 - (c + 1))) _
      rw [f_X9_nextRow_107, if_neg (by rw [leN (by omega) (by omega)]; omega), I'.ag hk (by omega), bO_some, I'.ag hk (by omega), bO_some, asg_nI _ _ _ (by omega : p + 1 + c < 8) (by omega), bO_some, asg_nI _ _ _ (by omega : k - 1 - c < 8) (by omega), bO_some, nI1, show k - 1 - c = k - 1 - (c + 1) + 1 by omega, nIm1]
      rfl
  · show r t = if p < t ∧ (t < p + 1 + 0 ∨ k ≤ t + 0) then r (p + k - t) else r t
    rw [if_neg (by omega)]
theorem m_next {g : PH} {k : Nat} {r : Nat → Nat} {h : PH} (hk : k ≤ 8) (hr : ∀ t, t < k → r t < 24) (H : RW g k r h) {p b : Nat} (hp : p + 1 < k) (hup : r p < r (p + 1)) (hdn : ∀ t, p < t → t + 1 < k → r (t + 1) < r t) (hb : p < b) (hbk : b < k) (hb1 : r p < r b) (hb2 : ∀ t, b < t → t < k → r t < r p) : ∃ h', f_X9_nextRow h = some (1, h') ∧ RW g k (fun t => if t < p then r t else if t = p then r b else if p + k - t = b then r p else r (p + k - t)) h' := by
  obtain ⟨h', e, R⟩ := m_rev hk (m_swap H p b) hp
  refine ⟨h', ?_, R.cg (fun t ht => ?_)⟩
  · have a1 := hr p (by omega)
    have a2 := hr (p + 1) (by omega)
    have a3 := hr b hbk
    rw [f_X9_nextRow, lt'_eq, H.2.1]
    have e1 : nI k - 2 = nI (p + (k - 2 - p)) := by
      rw [show nI k - 2 = nI (k - 2 + 2) - nI 2 by rw [show k - 2 + 2 = k by omega]; rfl, nI_subK]; congr 1; omega
    have e2 := m_dn1 hk hr H hdn (FU - (k - 2 - p)) (k - 2 - p) (by omega)
    have f1 : FU - (k - 2 - p) + (k - 2 - p) = FU := Nat.sub_add_cancel (Nat.le_of_lt (FU_gt (by omega)))
    rw [f1] at e2
    obtain ⟨f, hf⟩ : ∃ f, FU - (k - 2 - p) = f + 1 := ⟨FU - (k - 2 - p) - 1, by have := FU_gt (show k - 2 - p < 1000000 by omega); omega⟩
    rw [e1, e2, hf, f_X9_nextRow_7, if_neg (nI_pos (by omega)), H.ag hk (by omega), bO_some, nI1, H.ag hk hp, bO_some, if_pos (by rw [leN (by omega) (by omega)]; omega), f_X9_nextRow_34, if_pos (by rw [show (0 : Int32) = nI 0 from rfl, leN (by omega) (by omega)]; omega), lt'_eq, H.2.1]
    have e3 : nI k - 1 = nI (b + (k - 1 - b)) := by
      rw [show nI k - 1 = nI (k - 1 + 1) - nI 1 by rw [show k - 1 + 1 = k by omega]; rfl, nI_subK]; congr 1; omega
    have e4 := m_dn2 hk hr H (p := p) (by omega) hb2 (FU - (k - 1 - b)) (k - 1 - b) (by omega)
    have f2 : FU - (k - 1 - b) + (k - 1 - b) = FU := Nat.sub_add_cancel (Nat.le_of_lt (FU_gt (by omega)))
    rw [f2] at e4
    obtain ⟨f', hf'⟩ : ∃ f, FU - (k - 1 - b) = f + 1 := ⟨FU - (k - 1 - b) - 1, by have := FU_gt (show k - 1 - b < 1000000 by omega); omega⟩
    rw [e3, e4, hf', f_X9_nextRow_47, H.ag hk hbk, bO_some, H.ag hk (by omega), bO_some, if_pos (by rw [leN (by omega) (by omega)]; omega), bO_some, bO_some, asg_nI _ _ _ (by omega : p < 8) (by omega), bO_some, asg_nI _ _ _ (by omega : b < 8) (by omega), bO_some, lt'_eq, lt'_eq, hU_n _ _ _ (by decide), hU_n _ _ _ (by decide), H.2.1, nI1, show nI k - 1 = nI (k - 1) by rw [show nI k - 1 = nI (k - 1 + 1) - nI 1 by rw [show k - 1 + 1 = k by omega]; rfl, nI_subK]]
    exact e
  · show (if p < t then (if p + k - t = b then r p else if p + k - t = p then r b else r (p + k - t)) else if t = b then r p else if t = p then r b else r t) = if t < p then r t else if t = p then r b else if p + k - t = b then r p else r (p + k - t)
    by_cases c1 : p < t
    · rw [if_pos c1, if_neg (by omega : ¬ t < p), if_neg (by omega : ¬ t = p)]
      by_cases c2 : p + k - t = b
      · rw [if_pos c2, if_pos c2]
      · rw [if_neg c2, if_neg c2, if_neg (by omega)]
    · rw [if_neg c1, if_neg (by omega)]
      by_cases c2 : t = p
      · rw [if_pos c2, if_neg (by omega), if_pos c2]
      · rw [if_neg c2, if_pos (by omega)]
theorem m_last {g : PH} {k : Nat} {r : Nat → Nat} {h : PH} (hk : k ≤ 8) (hr : ∀ t, t < k → r t < 24) (H : RW g k r h) (hdn : ∀ t, t + 1 < k → r (t + 1) < r t) : f_X9_nextRow h = some (0, h) := by
  have m1 : ∀ n x, x < 0 → f_X9_nextRow_7 (n + 1) x h = some (0, h) := fun n x hx => by
    rw [f_X9_nextRow_7, if_pos hx, f_X9_nextRow_34, if_neg (by rw [Int32.le_iff_toInt_le]; rw [Int32.lt_iff_toInt_lt] at hx; omega)]
  rw [f_X9_nextRow, lt'_eq, H.2.1]
  by_cases h2 : 2 ≤ k
  · have e1 : nI k - 2 = nI (0 + (k - 2)) := by
      rw [show nI k - 2 = nI (k - 2 + 2) - nI 2 by rw [show k - 2 + 2 = k by omega]; rfl, nI_subK]; congr 1; omega
    have e2 := m_dn1 hk hr H (p := 0) (fun t _ ht => hdn t ht) (FU - (k - 2)) (k - 2) (by omega)
    have f1 : FU - (k - 2) + (k - 2) = FU := Nat.sub_add_cancel (Nat.le_of_lt (FU_gt (by omega)))
    rw [f1] at e2
    obtain ⟨f, hf⟩ : ∃ f, FU - (k - 2) = f + 1 + 1 := ⟨FU - (k - 2) - 2, by have := FU_gt (show k < 1000000 by omega); omega⟩
    have a1 := hr 0 (by omega)
    have a2 := hr 1 (by omega)
    have a3 := hdn 0 (by omega)
    rw [e1, e2, hf, f_X9_nextRow_7, if_neg (nI_pos (by omega)), H.ag hk (by omega), bO_some, nI1, H.ag hk (by omega), bO_some, if_neg (by rw [leN (by omega) (by omega)]; omega)]
    exact m1 f _ (by decide)
  · have hx : nI k - 2 < 0 := by
      rcases (show k = 0 ∨ k = 1 by omega) with rfl | rfl <;> decide
    exact m1 999999 _ hx
