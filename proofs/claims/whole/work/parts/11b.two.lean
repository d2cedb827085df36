/-! ===== questions: both sides answer alike ===== -/
def Q (S : SD) (F : PH → Option (Int32 × PH)) (r : Int32) : Prop := ∀ h, RC S h → ∃ h', F h = some (r, h') ∧ keepC h h'
def P9 (S : SD) (M : PH → Option (Int32 × PH)) (r : Int32) : Prop := ∀ h, RM S h → ∃ h', M h = some (r, h') ∧ keepM h h'
def Two (S : SD) (F M : PH → Option (Int32 × PH)) : Prop := ∃ r, Q S F r ∧ P9 S M r
theorem Pair.two {F M : PH → Option (Int32 × PH)} (hh : ∀ S, wfS S → Two S F M) : Pair F M := by
  rintro h ⟨S, w, c, m, z⟩
  obtain ⟨r, hF, hM⟩ := hh S w
  obtain ⟨h1, e1, k1⟩ := hF h c
  obtain ⟨h2, e2, k2⟩ := hM h1 (m.keepC k1)
  exact ⟨r, h1, h2, e1, e2, S, w, (c.keepC k1).keepM k2, (m.keepC k1).keepM k2, fun s hs => by rw [k2.1 18 (by decide) rfl, k1.1 18 rfl]; exact z s hs⟩
theorem Q.pt {S : SD} {F : PH → Option (Int32 × PH)} {r : Int32} (hF : ∀ h, RC S h → F h = some (r, h)) : Q S F r := fun h c => ⟨h, hF h c, keepC.rf h⟩
theorem P9.pt {S : SD} {F : PH → Option (Int32 × PH)} {r : Int32} (hF : ∀ h, RM S h → F h = some (r, h)) : P9 S F r := fun h c => ⟨h, hF h c, keepM.rf h⟩
theorem Q_bP {S : SD} {E : PH → Option (Int32 × PH)} {K : Int32 → PH → Option (Int32 × PH)} {v r : Int32} (hE : Q S E v) (hK : Q S (K v) r) : Q S (fun h => bP (E h) K) r := by
  intro h c
  obtain ⟨h1, e1, k1⟩ := hE h c
  obtain ⟨h2, e2, k2⟩ := hK h1 (c.keepC k1)
  exact ⟨h2, by show bP (E h) K = _; rw [e1, bP_some, e2], k1.tr k2⟩
theorem P9_bP {S : SD} {E : PH → Option (Int32 × PH)} {K : Int32 → PH → Option (Int32 × PH)} {v r : Int32} (hE : P9 S E v) (hK : P9 S (K v) r) : P9 S (fun h => bP (E h) K) r := by
  intro h c
  obtain ⟨h1, e1, k1⟩ := hE h c
  obtain ⟨h2, e2, k2⟩ := hK h1 (c.keepM k1)
  exact ⟨h2, by show bP (E h) K = _; rw [e1, bP_some, e2], k1.tr k2⟩
theorem Q_bO {S : SD} {E : PH → Option Int32} {K : Int32 → PH → Option (Int32 × PH)} {v r : Int32} (hE : ∀ h, RC S h → E h = some v) (hK : Q S (K v) r) : Q S (fun h => bO (E h) (fun v => K v h)) r := by
  intro h c
  obtain ⟨h2, e2, k2⟩ := hK h c
  exact ⟨h2, by show bO (E h) _ = _; rw [hE h c, bO_some, e2], k2⟩
theorem P9_bO {S : SD} {E : PH → Option Int32} {K : Int32 → PH → Option (Int32 × PH)} {v r : Int32} (hE : ∀ h, RM S h → E h = some v) (hK : P9 S (K v) r) : P9 S (fun h => bO (E h) (fun v => K v h)) r := by
  intro h c
  obtain ⟨h2, e2, k2⟩ := hK h c
  exact ⟨h2, by show bO (E h) _ = _; rw [hE h c, bO_some, e2], k2⟩
theorem Two.of {S : SD} {F M : PH → Option (Int32 × PH)} (r : Int32) (hF : Q S F r) (hM : P9 S M r) : Two S F M := ⟨r, hF, hM⟩
theorem Two.ret {S : SD} (r : Int32) : Two S (fun h => some (r, h)) (fun h => some (r, h)) := ⟨r, Q.pt (fun _ _ => rfl), P9.pt (fun _ _ => rfl)⟩
theorem Two.eqv {S : SD} {F M F' M' : PH → Option (Int32 × PH)} (hT : Two S F' M') (hF : ∀ h, RC S h → F h = F' h) (hM : ∀ h, RM S h → M h = M' h) : Two S F M := by
  obtain ⟨r, a, b⟩ := hT
  exact ⟨r, fun h c => by rw [hF h c]; exact a h c, fun h c => by rw [hM h c]; exact b h c⟩
theorem Two.ite {S : SD} {c : Prop} [Decidable c] {F1 F2 M1 M2 : PH → Option (Int32 × PH)} (h1 : c → Two S F1 M1) (h2 : ¬ c → Two S F2 M2) : Two S (fun h => if c then F1 h else F2 h) (fun h => if c then M1 h else M2 h) := by
  by_cases hc : c
  · simp only [hc, if_true]; exact h1 hc
  · simp only [hc, if_false]; exact h2 hc
theorem Two.bP {S : SD} {EF EM : PH → Option (Int32 × PH)} {KF KM : Int32 → PH → Option (Int32 × PH)} (hE : Two S EF EM) (hK : ∀ v, Two S (KF v) (KM v)) : Two S (fun h => bP (EF h) KF) (fun h => bP (EM h) KM) := by
  obtain ⟨v, a, b⟩ := hE
  obtain ⟨r, a2, b2⟩ := hK v
  exact ⟨r, Q_bP a a2, P9_bP b b2⟩
theorem Two.rd {S : SD} {EF EM : PH → Option Int32} {KF KM : Int32 → PH → Option (Int32 × PH)} (v : Int32) (hF : ∀ h, RC S h → EF h = some v) (hM : ∀ h, RM S h → EM h = some v) (hK : Two S (KF v) (KM v)) : Two S (fun h => bO (EF h) (fun v => KF v h)) (fun h => bO (EM h) (fun v => KM v h)) := by
  obtain ⟨r, a2, b2⟩ := hK
  exact ⟨r, Q_bO hF a2, P9_bO hM b2⟩
theorem Two.rdC {S : SD} {EF : PH → Option Int32} {KF : Int32 → PH → Option (Int32 × PH)} {M : PH → Option (Int32 × PH)} (v : Int32) (hF : ∀ h, RC S h → EF h = some v) (hK : Two S (KF v) M) : Two S (fun h => bO (EF h) (fun v => KF v h)) M := by
  obtain ⟨r, a2, b2⟩ := hK
  exact ⟨r, Q_bO hF a2, b2⟩
theorem Two.rdM {S : SD} {EM : PH → Option Int32} {KM : Int32 → PH → Option (Int32 × PH)} {F : PH → Option (Int32 × PH)} (v : Int32) (hM : ∀ h, RM S h → EM h = some v) (hK : Two S F (KM v)) : Two S F (fun h => bO (EM h) (fun v => KM v h)) := by
  obtain ⟨r, a2, b2⟩ := hK
  exact ⟨r, a2, P9_bO hM b2⟩
theorem b01_t : b01 true = 1 := rfl
theorem b01_f : b01 false = 0 := rfl
theorem b01_z (b : Bool) : (b01 b = 0) = (b = false) := by cases b <;> simp [b01]
theorem two_g {S : SD} {F M KF KM : PH → Option (Int32 × PH)} {b : Bool} {u : Int32} {EF EM : PH → Option (Int32 × PH)} (eF : ∀ h, RC S h → EF h = some (b01 b, h)) (eM : ∀ h, RM S h → EM h = some (b01 b, h)) (hF : ∀ h, F h = bP (EF h) (fun r h => if r = 0 then some (u, h) else KF h)) (hM : ∀ h, M h = bP (EM h) (fun r h => if r = 0 then some (u, h) else KM h)) (hk : b = true → Two S KF KM) : Two S F M := by
  cases b with
  | false => exact ⟨u, Q.pt (fun h c => by rw [hF, eF h c]; rfl), P9.pt (fun h c => by rw [hM, eM h c]; rfl)⟩
  | true => exact (hk rfl).eqv (fun h c => by rw [hF, eF h c]; rfl) (fun h c => by rw [hM, eM h c]; rfl)
theorem two_gO {S : SD} {F M KF KM : PH → Option (Int32 × PH)} {b : Bool} {u : Int32} {EF EM : Option Int32} (eF : EF = some (b01 b)) (eM : EM = some (b01 b)) (hF : ∀ h, F h = bO EF (fun r => if r = 0 then some (u, h) else KF h)) (hM : ∀ h, M h = bO EM (fun r => if r = 0 then some (u, h) else KM h)) (hk : b = true → Two S KF KM) : Two S F M := by
  cases b with
  | false => exact ⟨u, Q.pt (fun h c => by rw [hF, eF]; rfl), P9.pt (fun h c => by rw [hM, eM]; rfl)⟩
  | true => exact (hk rfl).eqv (fun h c => by rw [hF, eF]; rfl) (fun h c => by rw [hM, eM]; rfl)
def inb (x : Int32) (n : Nat) : Bool := decide (0 ≤ x.toInt ∧ x.toInt < (n : Int))
theorem inb_f {x : Int32} {n : Nat} (h : ¬ (0 ≤ x.toInt ∧ x.toInt < (n : Int))) : inb x n = false := decide_eq_false h
theorem inb_t {x : Int32} {n : Nat} (h : 0 ≤ x.toInt ∧ x.toInt < (n : Int)) : inb x n = true := decide_eq_true h
theorem in_n (x : Int32) {n : Nat} {c : Int64} (hc : c.toInt = (n : Int) - 1) : f_X9_in x.toInt64 0 c = some (b01 (inb x n)) := by
  rw [in9, hc, Int32.toInt_toInt64, show (0 : Int64).toInt = 0 from rfl]
  unfold b01
  congr 1
  by_cases h : 0 ≤ x.toInt ∧ x.toInt ≤ (n : Int) - 1
  · rw [if_pos h, if_pos (by simp [inb]; omega)]
  · rw [if_neg h, if_neg (by simp [inb]; omega)]
theorem nIm1_toInt {n : Nat} (hn : n < 2 ^ 31) : (nI n - 1 : Int32).toInt = (n : Int) - 1 := by
  cases n with
  | zero => decide
  | succ n => rw [nI_pred, nI_toInt (by omega)]; omega
theorem zr_b (b : Bool) {α : Type} (r : Int32 → α) : zr (b01 b) (r (b01 b)) = some (r (b01 b)) := by cases b <;> rfl
theorem has_n (x : Int32) {n : Nat} (hn : n < 2 ^ 31) (h : PH) : (if x < 0 then (some ((0 : Int32), h)) else (if nI n ≤ x then (some (0, h)) else (some (1, h)))) = some (b01 (inb x n), h) := by
  by_cases h1 : x < 0
  · rw [if_pos h1]
    rw [lt0] at h1
    rw [inb_f (x := x) (n := n) (by omega)]; rfl
  · rw [if_neg h1]
    rw [lt0] at h1
    by_cases h2 : nI n ≤ x
    · rw [if_pos h2]
      rw [leI, nI_toInt hn] at h2
      rw [inb_f (x := x) (n := n) (by omega)]; rfl
    · rw [if_neg h2]
      rw [leI, nI_toInt hn] at h2
      rw [inb_t (x := x) (n := n) (by omega)]; rfl
theorem wfS.b4 {S : SD} (w : wfS S) : bl S.2.1 ≤ 4 := w.2.1.1
theorem wfS.b20 {S : SD} (w : wfS S) : br S.2.1 ≤ 20 := w.2.1.2.1
theorem wfS.n24 {S : SD} (w : wfS S) : tn S.1 ≤ 24 := w.1.1
theorem wfS.f10 {S : SD} (w : wfS S) : tf S.1 ≤ 10 := w.1.2.1
theorem c_line {S : SD} (w : wfS S) (x : Int32) {h : PH} (c : RC S h) : f_X0_hasLine 28 x h = some (b01 (inb x (bl S.2.1)), h) := by
  rw [f_X0_hasLine, c.2.1.1, has_n x (by have := w.b4; omega)]
theorem c_rel {S : SD} (w : wfS S) (x : Int32) {h : PH} (c : RC S h) : f_X0_hasRelease 28 x h = some (b01 (inb x (br S.2.1)), h) := by
  rw [f_X0_hasRelease, c.2.1.2.1, has_n x (by have := w.b20; omega)]
theorem c_change {S : SD} (w : wfS S) (x : Int32) {h : PH} (c : RC S h) : f_X7_hasChange 4 x h = some (b01 (inb x (tn S.1)), h) := by
  rw [f_X7_hasChange, c.1.1, has_n x (by have := w.n24; omega)]
theorem c_fault {S : SD} (w : wfS S) (x : Int32) {h : PH} (c : RC S h) : f_X7_hasFault 4 x h = some (b01 (inb x (tf S.1)), h) := by
  rw [f_X7_hasFault, c.1.2.1, has_n x (by have := w.f10; omega)]
theorem m_line {S : SD} (w : wfS S) (x : Int32) {h : PH} (c : RM S h) : f_X9_isLine x h = some (b01 (inb x (bl S.2.1)), h) := by
  have := w.b4
  rw [f_X9_isLine, c.2.1.1, in_n x (n := bl S.2.1) (by rw [Int32.toInt_toInt64, nIm1_toInt (by omega)]), bO_some]
  exact zr_b _ (fun r => (r, h))
theorem m_rel {S : SD} (w : wfS S) (x : Int32) {h : PH} (c : RM S h) : f_X9_isRelease x h = some (b01 (inb x (br S.2.1)), h) := by
  have := w.b20
  rw [f_X9_isRelease, c.2.1.2.1, in_n x (n := br S.2.1) (by rw [Int32.toInt_toInt64, nIm1_toInt (by omega)]), bO_some]
  exact zr_b _ (fun r => (r, h))
theorem m_change {S : SD} (w : wfS S) (x : Int32) {h : PH} (c : RM S h) : f_X9_isChange x h = some (b01 (inb x (tn S.1)), h) := by
  have := w.n24
  rw [f_X9_isChange, c.1.1, in_n x (n := tn S.1) (by rw [Int32.toInt_toInt64, nIm1_toInt (by omega)]), bO_some]
  exact zr_b _ (fun r => (r, h))
theorem m_fault {S : SD} (w : wfS S) (x : Int32) {h : PH} (c : RM S h) : f_X9_isFault x h = some (b01 (inb x (tf S.1)), h) := by
  have := w.f10
  rw [f_X9_isFault, c.1.2.1, in_n x (n := tf S.1) (by rw [Int32.toInt_toInt64, nIm1_toInt (by omega)]), bO_some]
  exact zr_b _ (fun r => (r, h))
theorem c_slot (x : Int32) : f_X8_isSlot x = some (b01 (inb x 16)) := by
  rw [f_X8_isSlot]
  by_cases h1 : x < 0
  · rw [if_pos h1]
    rw [lt0] at h1
    rw [inb_f (x := x) (n := 16) (by omega)]; rfl
  · rw [if_neg h1]
    rw [lt0] at h1
    by_cases h2 : (16 : Int32) ≤ x
    · rw [if_pos h2]
      rw [leI, show (16 : Int32).toInt = 16 from rfl] at h2
      rw [inb_f (x := x) (n := 16) (by omega)]; rfl
    · rw [if_neg h2]
      rw [leI, show (16 : Int32).toInt = 16 from rfl] at h2
      rw [inb_t (x := x) (n := 16) (by omega)]; rfl
theorem c_day (x : Int32) : f_X8_isDay x = some (b01 (inb x 1000)) := by
  rw [f_X8_isDay]
  by_cases h1 : x < 0
  · rw [if_pos h1]
    rw [lt0] at h1
    rw [inb_f (x := x) (n := 1000) (by omega)]; rfl
  · rw [if_neg h1]
    rw [lt0] at h1
    by_cases h2 : (999 : Int32) < x
    · rw [if_pos h2]
      rw [ltI, show (999 : Int32).toInt = 999 from rfl] at h2
      rw [inb_f (x := x) (n := 1000) (by omega)]; rfl
    · rw [if_neg h2]
      rw [ltI, show (999 : Int32).toInt = 999 from rfl] at h2
      rw [inb_t (x := x) (n := 1000) (by omega)]; rfl
theorem m_slot (x : Int32) : f_X9_isSlot x = some (b01 (inb x 16)) := by
  rw [f_X9_isSlot, in_n x (n := 16) rfl, bO_some]
  exact zr_b _ (fun r => r)
theorem m_day (x : Int32) : f_X9_isDay x = some (b01 (inb x 1000)) := by
  rw [f_X9_isDay, in_n x (n := 1000) rfl, bO_some]
  exact zr_b _ (fun r => r)
theorem inD {x : Int32} {n : Nat} (hn : n < 2 ^ 31) (h : inb x n = true) : ∃ k, k < n ∧ x = nI k := (inN_iff hn).mp (of_decide_eq_true (p := 0 ≤ x.toInt ∧ x.toInt < (n : Int)) h)
theorem two_line {S : SD} (w : wfS S) {x u : Int32} {F M KF KM : PH → Option (Int32 × PH)} (hF : ∀ h, F h = bP (f_X0_hasLine 28 x h) (fun r h => if r = 0 then some (u, h) else KF h)) (hM : ∀ h, M h = bP (f_X9_isLine x h) (fun r h => if r = 0 then some (u, h) else KM h)) (hk : ∀ l, l < bl S.2.1 → x = nI l → Two S KF KM) : Two S F M :=
  two_g (fun _ c => c_line w x c) (fun _ c => m_line w x c) hF hM (fun e => by obtain ⟨k, hk1, rfl⟩ := inD (by have := w.b4; omega) e; exact hk k hk1 rfl)
theorem two_rel {S : SD} (w : wfS S) {x u : Int32} {F M KF KM : PH → Option (Int32 × PH)} (hF : ∀ h, F h = bP (f_X0_hasRelease 28 x h) (fun r h => if r = 0 then some (u, h) else KF h)) (hM : ∀ h, M h = bP (f_X9_isRelease x h) (fun r h => if r = 0 then some (u, h) else KM h)) (hk : ∀ l, l < br S.2.1 → x = nI l → Two S KF KM) : Two S F M :=
  two_g (fun _ c => c_rel w x c) (fun _ c => m_rel w x c) hF hM (fun e => by obtain ⟨k, hk1, rfl⟩ := inD (by have := w.b20; omega) e; exact hk k hk1 rfl)
theorem two_change {S : SD} (w : wfS S) {x u : Int32} {F M KF KM : PH → Option (Int32 × PH)} (hF : ∀ h, F h = bP (f_X7_hasChange 4 x h) (fun r h => if r = 0 then some (u, h) else KF h)) (hM : ∀ h, M h = bP (f_X9_isChange x h) (fun r h => if r = 0 then some (u, h) else KM h)) (hk : ∀ l, l < tn S.1 → x = nI l → Two S KF KM) : Two S F M :=
  two_g (fun _ c => c_change w x c) (fun _ c => m_change w x c) hF hM (fun e => by obtain ⟨k, hk1, rfl⟩ := inD (by have := w.n24; omega) e; exact hk k hk1 rfl)
theorem two_fault {S : SD} (w : wfS S) {x u : Int32} {F M KF KM : PH → Option (Int32 × PH)} (hF : ∀ h, F h = bP (f_X7_hasFault 4 x h) (fun r h => if r = 0 then some (u, h) else KF h)) (hM : ∀ h, M h = bP (f_X9_isFault x h) (fun r h => if r = 0 then some (u, h) else KM h)) (hk : ∀ l, l < tf S.1 → x = nI l → Two S KF KM) : Two S F M :=
  two_g (fun _ c => c_fault w x c) (fun _ c => m_fault w x c) hF hM (fun e => by obtain ⟨k, hk1, rfl⟩ := inD (by have := w.f10; omega) e; exact hk k hk1 rfl)
theorem two_slot {S : SD} {x u : Int32} {F M KF KM : PH → Option (Int32 × PH)} (hF : ∀ h, F h = bO (f_X8_isSlot x) (fun r => if r = 0 then some (u, h) else KF h)) (hM : ∀ h, M h = bO (f_X9_isSlot x) (fun r => if r = 0 then some (u, h) else KM h)) (hk : ∀ l, l < 16 → x = nI l → Two S KF KM) : Two S F M :=
  two_gO (c_slot x) (m_slot x) hF hM (fun e => by obtain ⟨k, hk1, rfl⟩ := inD (by omega) e; exact hk k hk1 rfl)
theorem two_day {S : SD} {x u : Int32} {F M KF KM : PH → Option (Int32 × PH)} (hF : ∀ h, F h = bO (f_X8_isDay x) (fun r => if r = 0 then some (u, h) else KF h)) (hM : ∀ h, M h = bO (f_X9_isDay x) (fun r => if r = 0 then some (u, h) else KM h)) (hk : ∀ l, l < 1000 → x = nI l → Two S KF KM) : Two S F M :=
  two_gO (c_day x) (m_day x) hF hM (fun e => by obtain ⟨k, hk1, rfl⟩ := inD (by omega) e; exact hk k hk1 rfl)
/-! what the two sides hold, read -/
theorem RC.rcut {S : SD} {h : PH} (w : wfS S) (c : RC S h) {l : Nat} (hl : l < bl S.2.1) : ag h 29 4 (nI l) = some (bcut S.2.1 l) := by
  have := w.b4; rw [ag_nI h _ (by omega) (by omega)]; exact congrArg some (c.2.1.2.2.1 l hl).1
theorem RC.rin {S : SD} {h : PH} (w : wfS S) (c : RC S h) {l : Nat} (hl : l < bl S.2.1) : ag h 30 4 (nI l) = some (bin S.2.1 l) := by
  have := w.b4; rw [ag_nI h _ (by omega) (by omega)]; exact congrArg some (c.2.1.2.2.1 l hl).2.1
theorem RC.rev {S : SD} {h : PH} (w : wfS S) (c : RC S h) {l : Nat} (hl : l < bl S.2.1) : ag h 31 4 (nI l) = some (bev S.2.1 l) := by
  have := w.b4; rw [ag_nI h _ (by omega) (by omega)]; exact congrArg some (c.2.1.2.2.1 l hl).2.2.1
theorem RC.rval {S : SD} {h : PH} (w : wfS S) (c : RC S h) {l s : Nat} (hl : l < bl S.2.1) (hs : s < 16) : ag h 32 64 (nI l * 16 + nI s) = some (bval S.2.1 l s) := by
  have := w.b4; rw [ixC, ag_nI h _ (by omega) (by omega)]; exact congrArg some ((c.2.1.2.2.1 l hl).2.2.2 s hs)
theorem RM.rcut {S : SD} {h : PH} (w : wfS S) (c : RM S h) {l : Nat} (hl : l < bl S.2.1) : ag h 73 4 (nI l) = some (bcut S.2.1 l) := by
  have := w.b4; rw [ag_nI h _ (by omega) (by omega)]; exact congrArg some (c.2.1.2.2.1 l hl).1
theorem RM.rin {S : SD} {h : PH} (w : wfS S) (c : RM S h) {l : Nat} (hl : l < bl S.2.1) : ag h 74 4 (nI l) = some (bin S.2.1 l) := by
  have := w.b4; rw [ag_nI h _ (by omega) (by omega)]; exact congrArg some (c.2.1.2.2.1 l hl).2.1
theorem RM.rev {S : SD} {h : PH} (w : wfS S) (c : RM S h) {l : Nat} (hl : l < bl S.2.1) : ag h 76 4 (nI l) = some (bev S.2.1 l) := by
  have := w.b4; rw [ag_nI h _ (by omega) (by omega)]; exact congrArg some (c.2.1.2.2.1 l hl).2.2.1
theorem RM.rval {S : SD} {h : PH} (w : wfS S) (c : RM S h) {l s : Nat} (hl : l < bl S.2.1) (hs : s < 16) : ag h 75 64 (16 * nI l + nI s) = some (bval S.2.1 l s) := by
  have := w.b4; rw [ixM, ag_nI h _ (by omega) (by omega)]; exact congrArg some ((c.2.1.2.2.1 l hl).2.2.2 s hs)
theorem RC.rof {S : SD} {h : PH} (w : wfS S) (c : RC S h) {l : Nat} (hl : l < br S.2.1) : ag h 33 20 (nI l) = some (bof S.2.1 l) := by
  have := w.b20; rw [ag_nI h _ (by omega) (by omega)]; exact congrArg some (c.2.1.2.2.2 l hl).1
theorem RC.rday {S : SD} {h : PH} (w : wfS S) (c : RC S h) {l : Nat} (hl : l < br S.2.1) : ag h 34 20 (nI l) = some (bday S.2.1 l) := by
  have := w.b20; rw [ag_nI h _ (by omega) (by omega)]; exact congrArg some (c.2.1.2.2.2 l hl).2.1
theorem RC.rrin {S : SD} {h : PH} (w : wfS S) (c : RC S h) {l : Nat} (hl : l < br S.2.1) : ag h 35 20 (nI l) = some (brin S.2.1 l) := by
  have := w.b20; rw [ag_nI h _ (by omega) (by omega)]; exact congrArg some (c.2.1.2.2.2 l hl).2.2.1
theorem RC.rrv {S : SD} {h : PH} (w : wfS S) (c : RC S h) {l s : Nat} (hl : l < br S.2.1) (hs : s < 16) : ag h 36 320 (nI l * 16 + nI s) = some (brv S.2.1 l s) := by
  have := w.b20; rw [ixC, ag_nI h _ (by omega) (by omega)]; exact congrArg some ((c.2.1.2.2.2 l hl).2.2.2 s hs)
theorem RM.rof {S : SD} {h : PH} (w : wfS S) (c : RM S h) {l : Nat} (hl : l < br S.2.1) : ag h 77 20 (nI l) = some (bof S.2.1 l) := by
  have := w.b20; rw [ag_nI h _ (by omega) (by omega)]; exact congrArg some (c.2.1.2.2.2 l hl).1
theorem RM.rday {S : SD} {h : PH} (w : wfS S) (c : RM S h) {l : Nat} (hl : l < br S.2.1) : ag h 78 20 (nI l) = some (bday S.2.1 l) := by
  have := w.b20; rw [ag_nI h _ (by omega) (by omega)]; exact congrArg some (c.2.1.2.2.2 l hl).2.1
theorem RM.rrin {S : SD} {h : PH} (w : wfS S) (c : RM S h) {l : Nat} (hl : l < br S.2.1) : ag h 79 20 (nI l) = some (brin S.2.1 l) := by
  have := w.b20; rw [ag_nI h _ (by omega) (by omega)]; exact congrArg some (c.2.1.2.2.2 l hl).2.2.1
theorem RM.rrv {S : SD} {h : PH} (w : wfS S) (c : RM S h) {l s : Nat} (hl : l < br S.2.1) (hs : s < 16) : ag h 80 320 (16 * nI l + nI s) = some (brv S.2.1 l s) := by
  have := w.b20; rw [ixM, ag_nI h _ (by omega) (by omega)]; exact congrArg some ((c.2.1.2.2.2 l hl).2.2.2 s hs)
theorem RC.rset {S : SD} {h : PH} (w : wfS S) (c : RC S h) {k : Nat} (hk : k < tn S.1) : ag h 5 24 (nI k) = some (setsM S.1 k) := by
  have := w.n24; rw [ag_nI h _ (by omega) (by omega)]; exact congrArg some (c.1.2.2.1 k hk).1
theorem RC.rread {S : SD} {h : PH} (w : wfS S) (c : RC S h) {k : Nat} (hk : k < tn S.1) : ag h 6 24 (nI k) = some (trd S.1 k) := by
  have := w.n24; rw [ag_nI h _ (by omega) (by omega)]; exact congrArg some (c.1.2.2.1 k hk).2.1
theorem RC.rrisk {S : SD} {h : PH} (w : wfS S) (c : RC S h) {k : Nat} (hk : k < tn S.1) : ag h 7 24 (nI k) = some (trk S.1 k) := by
  have := w.n24; rw [ag_nI h _ (by omega) (by omega)]; exact congrArg some (c.1.2.2.1 k hk).2.2.1
theorem RC.rst {S : SD} {h : PH} (w : wfS S) (c : RC S h) {k s : Nat} (hk : k < tn S.1) (hs : s < 16) : ag h 8 384 (nI k * 16 + nI s) = some (tst S.1 k s) := by
  have := w.n24; rw [ixC, ag_nI h _ (by omega) (by omega)]; exact congrArg some ((c.1.2.2.1 k hk).2.2.2 s hs)
theorem RC.rah {S : SD} {h : PH} (w : wfS S) (c : RC S h) {k s : Nat} (hk : k ≤ tn S.1) (hs : s < 16) : ag h 9 400 (nI k * 16 + nI s) = some (ahd S.1 k s) := by
  have := w.n24; rw [ixC, ag_nI h _ (by omega) (by omega)]; exact congrArg some (c.1.2.2.2.1 k hk s hs)
theorem RC.rwt {S : SD} {h : PH} (w : wfS S) (c : RC S h) {k : Nat} (hk : k < tf S.1) : ag h 10 10 (nI k) = some (twt S.1 k) := by
  have := w.f10; rw [ag_nI h _ (by omega) (by omega)]; exact congrArg some (c.1.2.2.2.2 k hk).1
theorem RC.rfr {S : SD} {h : PH} (w : wfS S) (c : RC S h) {k : Nat} (hk : k < tf S.1) : ag h 11 10 (nI k) = some (tfr S.1 k) := by
  have := w.f10; rw [ag_nI h _ (by omega) (by omega)]; exact congrArg some (c.1.2.2.2.2 k hk).2.1
theorem RC.rtl {S : SD} {h : PH} (w : wfS S) (c : RC S h) {k : Nat} (hk : k < tf S.1) : ag h 12 10 (nI k) = some (ttl S.1 k) := by
  have := w.f10; rw [ag_nI h _ (by omega) (by omega)]; exact congrArg some (c.1.2.2.2.2 k hk).2.2
theorem RM.rread {S : SD} {h : PH} (w : wfS S) (c : RM S h) {k : Nat} (hk : k < tn S.1) : ag h 68 24 (nI k) = some (trd S.1 k) := by
  have := w.n24; rw [ag_nI h _ (by omega) (by omega)]; exact congrArg some (c.1.2.2.1 k hk).1
theorem RM.rrisk {S : SD} {h : PH} (w : wfS S) (c : RM S h) {k : Nat} (hk : k < tn S.1) : ag h 69 24 (nI k) = some (trk S.1 k) := by
  have := w.n24; rw [ag_nI h _ (by omega) (by omega)]; exact congrArg some (c.1.2.2.1 k hk).2.1
theorem RM.rst {S : SD} {h : PH} (w : wfS S) (c : RM S h) {k s : Nat} (hk : k < tn S.1) (hs : s < 16) : ag h 67 384 (16 * nI k + nI s) = some (tst S.1 k s) := by
  have := w.n24; rw [ixM, ag_nI h _ (by omega) (by omega)]; exact congrArg some ((c.1.2.2.1 k hk).2.2 s hs)
theorem RM.rah {S : SD} {h : PH} (w : wfS S) (c : RM S h) {k s : Nat} (hk : k ≤ tn S.1) (hs : s < 16) : f_X9_aheadOf (nI k) (nI s) h = some (ahd S.1 k s, h) := by
  have := w.n24; rw [f_X9_aheadOf, ixM, ag_nI h _ (by omega) (by omega), bO_some, c.1.2.2.2.1 k hk s hs]
theorem RM.rwt {S : SD} {h : PH} (w : wfS S) (c : RM S h) {k : Nat} (hk : k < tf S.1) : ag h 70 10 (nI k) = some (twt S.1 k) := by
  have := w.f10; rw [ag_nI h _ (by omega) (by omega)]; exact congrArg some (c.1.2.2.2.2 k hk).1
theorem RM.rfr {S : SD} {h : PH} (w : wfS S) (c : RM S h) {k : Nat} (hk : k < tf S.1) : ag h 71 10 (nI k) = some (tfr S.1 k) := by
  have := w.f10; rw [ag_nI h _ (by omega) (by omega)]; exact congrArg some (c.1.2.2.2.2 k hk).2.1
theorem RM.rtl {S : SD} {h : PH} (w : wfS S) (c : RM S h) {k : Nat} (hk : k < tf S.1) : ag h 72 10 (nI k) = some (ttl S.1 k) := by
  have := w.f10; rw [ag_nI h _ (by omega) (by omega)]; exact congrArg some (c.1.2.2.2.2 k hk).2.2
