/-! ===== the state: trunk, book (lines, releases), policy, text, breach, images; how class and model hold it ===== -/
abbrev BD : Type := Nat × (Nat → Int32) × (Nat → Int32) × (Nat → Int32) × (Nat → Nat → Int32) × Nat × (Nat → Int32) × (Nat → Int32) × (Nat → Int32) × (Nat → Nat → Int32)
abbrev bl (B : BD) : Nat := B.1
abbrev bcut (B : BD) : Nat → Int32 := B.2.1
abbrev bin (B : BD) : Nat → Int32 := B.2.2.1
abbrev bev (B : BD) : Nat → Int32 := B.2.2.2.1
abbrev bval (B : BD) : Nat → Nat → Int32 := B.2.2.2.2.1
abbrev br (B : BD) : Nat := B.2.2.2.2.2.1
abbrev bof (B : BD) : Nat → Int32 := B.2.2.2.2.2.2.1
abbrev bday (B : BD) : Nat → Int32 := B.2.2.2.2.2.2.2.1
abbrev brin (B : BD) : Nat → Int32 := B.2.2.2.2.2.2.2.2.1
abbrev brv (B : BD) : Nat → Nat → Int32 := B.2.2.2.2.2.2.2.2.2
def wfB (n : Nat) (B : BD) : Prop := bl B ≤ 4 ∧ br B ≤ 20 ∧ (∀ l, l < bl B → (∃ k, k ≤ n ∧ bcut B l = nI k) ∧ bel (bin B l) n ∧ ∃ k, k ≤ 99 ∧ bev B l = nI k) ∧ (∀ r, r < br B → (∃ l, l < bl B ∧ bof B r = nI l) ∧ (∃ d, d ≤ 999 ∧ bday B r = nI d) ∧ bel (brin B r) n) ∧ ∀ r q, r ≤ q → q < br B → (bday B r).toInt ≤ (bday B q).toInt
def CB (B : BD) (a : Nat) (h : PH) : Prop := h.1 a 0 = nI (bl B) ∧ h.1 a 5 = nI (br B) ∧ (∀ l, l < bl B → h.1 (a + 1) l = bcut B l ∧ h.1 (a + 2) l = bin B l ∧ h.1 (a + 3) l = bev B l ∧ ∀ s, s < 16 → h.1 (a + 4) (16 * l + s) = bval B l s) ∧ ∀ r, r < br B → h.1 (a + 5) r = bof B r ∧ h.1 (a + 6) r = bday B r ∧ h.1 (a + 7) r = brin B r ∧ ∀ s, s < 16 → h.1 (a + 8) (16 * r + s) = brv B r s
def MB (B : BD) (h : PH) : Prop := h.1 66 8 = nI (bl B) ∧ h.1 66 13 = nI (br B) ∧ (∀ l, l < bl B → h.1 73 l = bcut B l ∧ h.1 74 l = bin B l ∧ h.1 76 l = bev B l ∧ ∀ s, s < 16 → h.1 75 (16 * l + s) = bval B l s) ∧ ∀ r, r < br B → h.1 77 r = bof B r ∧ h.1 78 r = bday B r ∧ h.1 79 r = brin B r ∧ ∀ s, s < 16 → h.1 80 (16 * r + s) = brv B r s
def MI (i : Nat) (B : BD) (h : PH) : Prop := h.1 96 (500 * i) = nI (bl B) ∧ h.1 96 (500 * i + 1) = nI (br B) ∧ (∀ l, l < bl B → h.1 96 (500 * i + 2 + l) = bcut B l ∧ h.1 96 (500 * i + 6 + l) = bin B l ∧ h.1 96 (500 * i + 10 + l) = bev B l ∧ ∀ s, s < 16 → h.1 96 (500 * i + 14 + (16 * l + s)) = bval B l s) ∧ ∀ r, r < br B → h.1 96 (500 * i + 78 + r) = bof B r ∧ h.1 96 (500 * i + 98 + r) = bday B r ∧ h.1 96 (500 * i + 118 + r) = brin B r ∧ ∀ s, s < 16 → h.1 96 (500 * i + 138 + (16 * r + s)) = brv B r s
/-- a policy: freezes, from, to, risk, weight, lines -/
abbrev PD : Type := Nat × (Nat → Int32) × (Nat → Int32) × Int32 × Int32 × Int32
def wfP (P : PD) : Prop := P.1 ≤ 8 ∧ (∀ k, k < P.1 → 0 ≤ (P.2.1 k).toInt ∧ (P.2.1 k).toInt ≤ 999 ∧ 0 ≤ (P.2.2.1 k).toInt ∧ (P.2.2.1 k).toInt ≤ 999) ∧ (P.2.2.2.1 = -1 ∨ 0 ≤ P.2.2.2.1.toInt ∧ P.2.2.2.1.toInt ≤ 99) ∧ (P.2.2.2.2.1 = -1 ∨ 0 ≤ P.2.2.2.2.1.toInt ∧ P.2.2.2.2.1.toInt ≤ 99) ∧ bel P.2.2.2.2.2 4
def CP (P : PD) (h : PH) : Prop := h.1 22 1 = nI P.1 ∧ (∀ k, k < P.1 → h.1 23 k = P.2.1 k ∧ h.1 24 k = P.2.2.1 k) ∧ h.1 22 4 = P.2.2.2.1 ∧ h.1 22 5 = P.2.2.2.2.1 ∧ h.1 22 6 = P.2.2.2.2.2
def MP (P : PD) (h : PH) : Prop := h.1 66 41 = nI P.1 ∧ (∀ k, k < P.1 → h.1 92 k = P.2.1 k ∧ h.1 93 k = P.2.2.1 k) ∧ h.1 66 44 = P.2.2.2.1 ∧ h.1 66 45 = P.2.2.2.2.1 ∧ h.1 66 46 = P.2.2.2.2.2
/-- a text: how long, its bytes -/
abbrev XD : Type := Nat × (Nat → Int32)
def wfX (X : XD) : Prop := X.1 ≤ 500 ∧ ∀ i, i < X.1 → 0 ≤ (X.2 i).toInt ∧ (X.2 i).toInt ≤ 255
def CX (X : XD) (h : PH) : Prop := h.1 1 1 = nI X.1 ∧ ∀ i, i < X.1 → h.1 2 i = X.2 i
def MX (X : XD) (h : PH) : Prop := h.1 66 19 = nI X.1 ∧ ∀ i, i < X.1 → h.1 81 i = X.2 i
/-- images: kept or not -/
abbrev KD : Type := Option BD × Option BD
def wfK (n : Nat) (K : KD) : Prop := (∀ B, K.1 = some B → wfB n B) ∧ ∀ B, K.2 = some B → wfB n B
def CK (K : KD) (h : PH) : Prop := (bt (h.1 0 12) 0 = K.1.isSome) ∧ (bt (h.1 0 12) 1 = K.2.isSome) ∧ (∀ B, K.1 = some B → CB B 37 h) ∧ ∀ B, K.2 = some B → CB B 46 h
def MK (K : KD) (h : PH) : Prop := h.1 97 0 = b01 K.1.isSome ∧ h.1 97 1 = b01 K.2.isSome ∧ (∀ B, K.1 = some B → MI 0 B h) ∧ ∀ B, K.2 = some B → MI 1 B h
abbrev SD : Type := TD × BD × PD × XD × Int32 × KD
def wfS (S : SD) : Prop := wfT S.1 ∧ wfB (tn S.1) S.2.1 ∧ wfP S.2.2.1 ∧ wfX S.2.2.2.1 ∧ wfK (tn S.1) S.2.2.2.2.2
def RC (S : SD) (h : PH) : Prop := CT S.1 h ∧ CB S.2.1 28 h ∧ CP S.2.2.1 h ∧ CX S.2.2.2.1 h ∧ h.1 0 13 = S.2.2.2.2.1 ∧ CK S.2.2.2.2.2 h
def RM (S : SD) (h : PH) : Prop := MT S.1 h ∧ MB S.2.1 h ∧ MP S.2.2.1 h ∧ MX S.2.2.2.1 h ∧ h.1 66 20 = S.2.2.2.2.1 ∧ MK S.2.2.2.2.2 h
/-- the draft's first row of values ahead is never written -/
def Zr (h : PH) : Prop := ∀ s, s < 16 → h.1 18 s = 0
def Inv (h : PH) : Prop := ∃ S : SD, wfS S ∧ RC S h ∧ RM S h ∧ Zr h
/-- the class's scratch cells; the model's, and its object's scratch slots -/
def scC (k : Nat) : Bool := k == 3 || (13 ≤ k && k ≤ 17) || (19 ≤ k && k ≤ 21) || (25 ≤ k && k ≤ 27) || (56 ≤ k && k ≤ 65 && k != 58) || k == 58
def scM (k : Nat) : Bool := (82 ≤ k && k ≤ 87) || (89 ≤ k && k ≤ 91) || k == 94 || k == 95
def scS (i : Nat) : Bool := (21 ≤ i && i ≤ 27) || i == 31 || i == 35 || i == 40 || i == 47 || (50 ≤ i && i ≤ 52)
def keepC (h h' : PH) : Prop := (∀ k, scC k = false → h'.1 k = h.1 k) ∧ h'.2 = h.2
def keepM (h h' : PH) : Prop := (∀ k, k ≠ 66 → scM k = false → h'.1 k = h.1 k) ∧ ∀ i, scS i = false → h'.1 66 i = h.1 66 i
theorem keepC.rf (h : PH) : keepC h h := ⟨fun _ _ => rfl, rfl⟩
theorem keepM.rf (h : PH) : keepM h h := ⟨fun _ _ _ => rfl, fun _ _ => rfl⟩
theorem keepC.tr {a b c : PH} (h1 : keepC a b) (h2 : keepC b c) : keepC a c := ⟨fun k hk => (h2.1 k hk).trans (h1.1 k hk), h2.2.trans h1.2⟩
theorem keepM.tr {a b c : PH} (h1 : keepM a b) (h2 : keepM b c) : keepM a c := ⟨fun k h66 hk => (h2.1 k h66 hk).trans (h1.1 k h66 hk), fun i hi => (h2.2 i hi).trans (h1.2 i hi)⟩
theorem keepC.hC {h : PH} {V : Nat} (f : Nat → Int32) (hV : scC V = true) : keepC h (hC h V f) := ⟨fun k hk => hC_n h f (fun e => by rw [e, hV] at hk; cases hk), rfl⟩
theorem keepM.hC {h : PH} {V : Nat} (f : Nat → Int32) (hV : scM V = true) (h66 : V ≠ 66) : keepM h (hC h V f) := ⟨fun k _ hk => hC_n h f (fun e => by rw [e, hV] at hk; cases hk), fun i _ => by rw [hC_n h f (Ne.symm h66)]⟩
theorem keepM.hU {h : PH} {k : Nat} (v : Int32) (hk : scS k = true) : keepM h (hU h 66 k v) := ⟨fun j hj _ => hU_n h k v hj, fun i hi => by
  rw [hU_s]; unfold upd; rw [if_neg (fun e => by rw [e, hk] at hi; cases hi)]⟩
theorem keepM.hL {h : PH} (v : Int64) : keepM h (hL h v) := ⟨fun _ _ _ => rfl, fun _ _ => rfl⟩
theorem CB.keep {B : BD} {a : Nat} {h h' : PH} (hB : CB B a h) (he : ∀ k, k ≤ 8 → h'.1 (a + k) = h.1 (a + k)) : CB B a h' := by
  unfold CB at hB ⊢
  rw [show h'.1 a = h.1 a from he 0 (by omega), he 1 (by omega), he 2 (by omega), he 3 (by omega), he 4 (by omega), he 5 (by omega), he 6 (by omega), he 7 (by omega), he 8 (by omega)]
  exact hB
theorem RC.keepC {S : SD} {h h' : PH} (hR : RC S h) (hk : keepC h h') : RC S h' := by
  obtain ⟨h1, h2, h3, h4, h5, h6⟩ := hR
  have hk := hk.1
  refine ⟨h1.keep (fun k q => hk k ?_), h2.keep (fun k q => hk _ ?_), ?_, ?_, by rw [hk 0 rfl]; exact h5, ?_⟩
  · simp only [CTc, List.mem_cons, List.not_mem_nil, or_false, decide_eq_true_eq] at q
    rcases q with rfl | rfl | rfl | rfl | rfl | rfl | rfl | rfl | rfl <;> rfl
  · simp only [scC]
    have : k = 0 ∨ k = 1 ∨ k = 2 ∨ k = 3 ∨ k = 4 ∨ k = 5 ∨ k = 6 ∨ k = 7 ∨ k = 8 := by omega
    rcases this with rfl | rfl | rfl | rfl | rfl | rfl | rfl | rfl | rfl <;> rfl
  · unfold CP at h3 ⊢; rw [hk 22 rfl, hk 23 rfl, hk 24 rfl]; exact h3
  · unfold CX at h4 ⊢; rw [hk 1 rfl, hk 2 rfl]; exact h4
  · obtain ⟨k1, k2, k3, k4⟩ := h6
    refine ⟨by rw [hk 0 rfl]; exact k1, by rw [hk 0 rfl]; exact k2, fun B e => (k3 B e).keep (fun k q => hk _ ?_), fun B e => (k4 B e).keep (fun k q => hk _ ?_)⟩
    · have : k = 0 ∨ k = 1 ∨ k = 2 ∨ k = 3 ∨ k = 4 ∨ k = 5 ∨ k = 6 ∨ k = 7 ∨ k = 8 := by omega
      rcases this with rfl | rfl | rfl | rfl | rfl | rfl | rfl | rfl | rfl <;> rfl
    · have : k = 0 ∨ k = 1 ∨ k = 2 ∨ k = 3 ∨ k = 4 ∨ k = 5 ∨ k = 6 ∨ k = 7 ∨ k = 8 := by omega
      rcases this with rfl | rfl | rfl | rfl | rfl | rfl | rfl | rfl | rfl <;> rfl
/-- the model's state rests on its own cells alone -/
theorem RM.keep {S : SD} {h h' : PH} (hR : RM S h) (he : ∀ k, k ≠ 66 → 67 ≤ k → scM k = false → h'.1 k = h.1 k) (h66 : ∀ i, scS i = false → h'.1 66 i = h.1 66 i) : RM S h' := by
  obtain ⟨h1, h2, h3, h4, h5, h6⟩ := hR
  have g : ∀ k, k ≠ 66 ∧ 67 ≤ k ∧ scM k = false → h'.1 k = h.1 k := fun k q => he k q.1 q.2.1 q.2.2
  refine ⟨h1.keep (fun k q => g k ?_) (h66 0 rfl) (h66 4 rfl), ?_, ?_, ?_, by rw [h66 20 rfl]; exact h5, ?_⟩
  · simp only [MTc, List.mem_cons, List.not_mem_nil, or_false, decide_eq_true_eq] at q
    rcases q with rfl | rfl | rfl | rfl | rfl | rfl | rfl <;> decide
  · unfold MB at h2 ⊢
    rw [h66 8 rfl, h66 13 rfl, g 73 (by decide), g 74 (by decide), g 75 (by decide), g 76 (by decide), g 77 (by decide), g 78 (by decide), g 79 (by decide), g 80 (by decide)]
    exact h2
  · unfold MP at h3 ⊢
    rw [h66 41 rfl, h66 44 rfl, h66 45 rfl, h66 46 rfl, g 92 (by decide), g 93 (by decide)]
    exact h3
  · unfold MX at h4 ⊢
    rw [h66 19 rfl, g 81 (by decide)]
    exact h4
  · unfold MK MI at h6 ⊢
    rw [g 96 (by decide), g 97 (by decide)]
    exact h6
theorem RM.keepM {S : SD} {h h' : PH} (hR : RM S h) (hk : keepM h h') : RM S h' := hR.keep (fun k q _ s => hk.1 k q s) hk.2
theorem RM.keepC {S : SD} {h h' : PH} (hR : RM S h) (hk : keepC h h') : RM S h' := by
  have g : ∀ k, 66 ≤ k → h'.1 k = h.1 k := fun k q => hk.1 k (by simp [scC]; omega)
  exact hR.keep (fun k _ q _ => g k (by omega)) (fun i _ => by rw [g 66 (by omega)])
theorem RC.keepM {S : SD} {h h' : PH} (hR : RC S h) (hk : keepM h h') : RC S h' := by
  have hk2 : ∀ k, k < 66 → h'.1 k = h.1 k := fun k q => hk.1 k (by omega) (by simp [scM]; omega)
  obtain ⟨h1, h2, h3, h4, h5, h6⟩ := hR
  refine ⟨h1.keep (fun k q => hk2 k ?_), h2.keep (fun k q => hk2 _ (by omega)), ?_, ?_, by rw [hk2 0 (by omega)]; exact h5, ?_⟩
  · simp only [CTc, List.mem_cons, List.not_mem_nil, or_false, decide_eq_true_eq] at q
    omega
  · unfold CP at h3 ⊢; rw [hk2 22 (by omega), hk2 23 (by omega), hk2 24 (by omega)]; exact h3
  · unfold CX at h4 ⊢; rw [hk2 1 (by omega), hk2 2 (by omega)]; exact h4
  · obtain ⟨k1, k2, k3, k4⟩ := h6
    exact ⟨by rw [hk2 0 (by omega)]; exact k1, by rw [hk2 0 (by omega)]; exact k2, fun B e => (k3 B e).keep (fun k q => hk2 _ (by omega)), fun B e => (k4 B e).keep (fun k q => hk2 _ (by omega))⟩
/-- a pair of methods that answer alike and keep the state -/
def Pair (F : PH → Option (Int32 × PH)) (M : PH → Option (Int32 × PH)) : Prop := ∀ h, Inv h → ∃ r h1 h2, F h = some (r, h1) ∧ M h1 = some (r, h2) ∧ Inv h2
/-- of a question: the answer depends on the state alone -/
theorem Pair.ask {F M : PH → Option (Int32 × PH)} (A : SD → Int32) (hF : ∀ S h, wfS S → RC S h → ∃ h', F h = some (A S, h') ∧ keepC h h') (hM : ∀ S h, wfS S → RM S h → ∃ h', M h = some (A S, h') ∧ keepM h h') : Pair F M := by
  rintro h ⟨S, w, c, m, z⟩
  obtain ⟨h1, e1, k1⟩ := hF S h w c
  obtain ⟨h2, e2, k2⟩ := hM S h1 w (m.keepC k1)
  exact ⟨A S, h1, h2, e1, e2, S, w, (c.keepC k1).keepM k2, (m.keepC k1).keepM k2, fun s hs => by rw [k2.1 18 (by decide) rfl, k1.1 18 rfl]; exact z s hs⟩
