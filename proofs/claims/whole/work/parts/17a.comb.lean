/-! ===== orders: the trail of clean steps; counting clean rows ===== -/
def trt (T : TD) (c s : Nat) (x : Int32) : Int := if sb T c s = true then (if tst T c s = x then (1 : Int) else 0) - (if ahd T c s = x then (1 : Int) else 0) else 0
def trl (T : TD) (m : Nat → Nat) (a : Nat) : Nat → Nat → Int32 → Int
  | 0, _, _ => 0
  | k + 1, s, x => trl T m a k s x + if a.testBit k = true then trt T (m k) s x else 0
/-- v is what a clean run over the members of a makes of v0 -/
def Vl (T : TD) (m : Nat → Nat) (k : Nat) (v0 : Nat → Int32) (a : Nat) (v : Nat → Int32) : Prop := ∀ s, s < 16 → ∀ x, (if v s = x then (1 : Int) else 0) = (if v0 s = x then (1 : Int) else 0) + trl T m a k s x
theorem Vl_u {T : TD} {m : Nat → Nat} {k : Nat} {v0 : Nat → Int32} {a : Nat} {v w : Nat → Int32} (hv : Vl T m k v0 a v) (hw : Vl T m k v0 a w) : ∀ s, s < 16 → v s = w s := fun s hs => by
  have e := (hv s hs (w s)).trans (hw s hs (w s)).symm
  rw [if_pos rfl] at e
  by_cases c : v s = w s
  · exact c
  · rw [if_neg c] at e; omega
theorem trl_0 (T : TD) (m : Nat → Nat) (s : Nat) (x : Int32) : ∀ k, trl T m 0 k s x = 0 := by
  intro k
  induction k with
  | zero => rfl
  | succ k ih => rw [trl, ih, Nat.zero_testBit]; rfl
theorem Vl_0 (T : TD) (m : Nat → Nat) (k : Nat) (v0 : Nat → Int32) : Vl T m k v0 0 v0 := fun s _ x => by rw [trl_0]; omega
theorem Vl_cg {T : TD} {m : Nat → Nat} {k : Nat} {v0 : Nat → Int32} {a : Nat} {v w : Nat → Int32} (h : ∀ s, s < 16 → v s = w s) (hv : Vl T m k v0 a v) : Vl T m k v0 a w := fun s hs x => by rw [← h s hs]; exact hv s hs x
theorem tb_or {a i j : Nat} : (a ||| 2 ^ i).testBit j = (a.testBit j || decide (i = j)) := by rw [Nat.testBit_or, Nat.testBit_two_pow]
theorem trl_s (T : TD) (m : Nat → Nat) {a i : Nat} (ha : a.testBit i = false) (s : Nat) (x : Int32) : ∀ k, trl T m (a ||| 2 ^ i) k s x = trl T m a k s x + if i < k then trt T (m i) s x else 0 := by
  intro k
  induction k with
  | zero => rfl
  | succ k ih =>
    rw [trl, trl, ih, tb_or]
    by_cases e : i = k
    · subst e
      rw [ha, if_neg (Nat.lt_irrefl i), if_pos (Nat.lt_succ_self i)]
      simp
    · by_cases h2 : i < k
      · rw [if_pos h2, if_pos (by omega : i < k + 1)]
        simp only [e, decide_false, Bool.or_false]; omega
      · rw [if_neg h2, if_neg (by omega : ¬ i < k + 1)]
        simp only [e, decide_false, Bool.or_false]; omega
theorem Vl_s {T : TD} {m : Nat → Nat} {k : Nat} {v0 : Nat → Int32} {a i : Nat} {v : Nat → Int32} (hi : i < k) (ha : a.testBit i = false) (hc : clashM T (m i) v = 0) (hv : Vl T m k v0 a v) : Vl T m k v0 (a ||| 2 ^ i) (putM T (m i) v) := fun s hs x => by
  rw [trl_s T m ha, if_pos hi]
  have e := hv s hs x
  unfold putM trt
  by_cases c : sb T (m i) s = true
  · rw [if_pos c, if_pos c]
    have q : v s = ahd T (m i) s := by
      have z : bt (clashM T (m i) v) s = false := by rw [hc]; exact bt_zero s
      rw [clashM, bt_mkI _ 16 (by omega) s (by omega)] at z
      unfold clashP at z
      simpa [hs, c, bt_or, bt_sets hs] using z
    rw [q] at e
    omega
  · rw [if_neg c, if_neg c]; omega
theorem ok_ex (T : TD) (m : Nat → Nat) (k : Nat) (v0 : Nat → Int32) : ∃ ok : Nat → Nat → Bool, ∀ a v, Vl T m k v0 a v → ∀ i, (clashM T (m i) v = 0) = (ok a i = true) := by
  refine ⟨fun a i => @decide (∃ v, Vl T m k v0 a v ∧ clashM T (m i) v = 0) (Classical.propDecidable _), fun a v hv i => ?_⟩
  apply propext
  rw [@decide_eq_true_iff _ (Classical.propDecidable _)]
  refine ⟨fun h => ⟨v, hv, h⟩, fun ⟨w, hw, h⟩ => ?_⟩
  rw [clashM_congr (Vl_u hv hw)]; exact h
/-! counting -/
def Gs (g : Nat → Nat) : Nat → Nat
  | 0 => 0
  | i + 1 => Gs g i + g i
theorem Gs_cg {g f : Nat → Nat} : ∀ {n}, (∀ i, i < n → g i = f i) → Gs g n = Gs f n := by
  intro n
  induction n with
  | zero => intro _; rfl
  | succ n ih => intro h; rw [Gs, Gs, ih (fun i hi => h i (by omega)), h n (by omega)]
theorem Gs_z {g : Nat → Nat} {b : Nat} : ∀ {c}, b ≤ c → (∀ i, b ≤ i → i < c → g i = 0) → Gs g c = Gs g b := by
  intro c
  induction c with
  | zero => intro h _; have : b = 0 := by omega
            subst this; rfl
  | succ c ih =>
    intro h hz
    by_cases e : b = c + 1
    · subst e; rfl
    · rw [Gs, ih (by omega) (fun i h1 h2 => hz i h1 (by omega)), hz c (by omega) (by omega)]; rfl
theorem Gs_le {g : Nat → Nat} {B : Nat} : ∀ {n}, (∀ i, i < n → g i ≤ B) → Gs g n ≤ n * B := by
  intro n
  induction n with
  | zero => intro _; exact Nat.zero_le _
  | succ n ih =>
    intro h
    have h1 := ih (fun i hi => h i (by omega))
    have h2 := h n (by omega)
    rw [Gs, Nat.succ_mul]; omega
theorem Gs_mono {g : Nat → Nat} {b : Nat} : ∀ {c}, b ≤ c → Gs g b ≤ Gs g c := by
  intro c
  induction c with
  | zero => intro h; have : b = 0 := by omega
            subst this; exact Nat.le_refl _
  | succ c ih =>
    intro h
    by_cases e : b = c + 1
    · subst e; exact Nat.le_refl _
    · exact Nat.le_trans (ih (by omega)) (by rw [Gs]; omega)
def wn (k : Nat) (ok : Nat → Nat → Bool) : Nat → Nat → Nat
  | 0, _ => 1
  | f + 1, a => if a = 2 ^ k - 1 then 1 else Gs (fun i => if (!a.testBit i && ok a i) = true then wn k ok f (a ||| 2 ^ i) else 0) k
def wa (k : Nat) (ok : Nat → Nat → Bool) (a : Nat) : Nat := wn k ok 256 a
def wb (k : Nat) (ok : Nat → Nat → Bool) (a i : Nat) : Nat := if (!a.testBit i && ok a i) = true then wa k ok (a ||| 2 ^ i) else 0
theorem orp : ∀ a, a < 256 → ∀ i, i < 8 → a.testBit i = false → a < a ||| 2 ^ i := by decide +kernel
theorem p28 {k : Nat} (hk : k ≤ 8) : 2 ^ k ≤ 256 := Nat.le_trans (Nat.pow_le_pow_right (by decide) hk) (by decide)
theorem or_lt {k a i : Nat} (ha : a < 2 ^ k) (hi : i < k) : a ||| 2 ^ i < 2 ^ k := Nat.or_lt_two_pow ha (Nat.pow_lt_pow_right (by decide) hi)
theorem wn_s {k : Nat} (hk : k ≤ 8) (ok : Nat → Nat → Bool) : ∀ f a, a < 2 ^ k → 2 ^ k ≤ a + f + 1 → wn k ok (f + 1) a = wn k ok f a := by
  intro f
  induction f with
  | zero =>
    intro a ha hf
    show (if a = 2 ^ k - 1 then 1 else Gs _ k) = 1
    rw [if_pos (by omega)]
  | succ f ih =>
    intro a ha hf
    rw [wn, wn]
    by_cases e : a = 2 ^ k - 1
    · rw [if_pos e, if_pos e]
    · rw [if_neg e, if_neg e]
      refine Gs_cg (fun i hi => ?_)
      by_cases c : (!a.testBit i && ok a i) = true
      · have c1 : a.testBit i = false := by
          rw [Bool.and_eq_true] at c
          simpa using c.1
        have h1 := orp a (by have := p28 hk; omega) i (by omega) c1
        rw [if_pos c, if_pos c, ih _ (or_lt ha hi) (by omega)]
      · rw [if_neg c, if_neg c]
theorem wa_eq {k : Nat} (hk : k ≤ 8) (ok : Nat → Nat → Bool) {a : Nat} (ha : a < 2 ^ k) : wa k ok a = if a = 2 ^ k - 1 then 1 else Gs (wb k ok a) k := by
  unfold wa
  rw [show (256 : Nat) = 255 + 1 from rfl, wn]
  by_cases e : a = 2 ^ k - 1
  · rw [if_pos e, if_pos e]
  · rw [if_neg e, if_neg e]
    refine Gs_cg (fun i hi => ?_)
    unfold wb wa
    by_cases c : (!a.testBit i && ok a i) = true
    · rw [if_pos c, if_pos c]
      have c1 : a.testBit i = false := by
        rw [Bool.and_eq_true] at c
        simpa using c.1
      have h1 := orp a (by have := p28 hk; omega) i (by omega) c1
      refine (wn_s hk ok 255 _ (or_lt ha hi) ?_).symm
      have := p28 hk
      omega
    · rw [if_neg c, if_neg c]
/-- S counts up what a lacks: n places -/
def Cm (k n : Nat) (S : Nat → Nat) (a : Nat) : Prop := (∀ t u, t < u → u < n → S t < S u) ∧ (∀ t, t < n → S t < k ∧ a.testBit (S t) = false) ∧ ∀ i, i < k → a.testBit i = false → ∃ t, t < n ∧ S t = i
def del (S : Nat → Nat) (j : Nat) : Nat → Nat := fun t => if t < j then S t else S (t + 1)
theorem Cm_0 (k : Nat) : Cm k k (fun t => t) 0 := ⟨fun _ _ h _ => h, fun t h => ⟨h, Nat.zero_testBit t⟩, fun i hi _ => ⟨i, hi, rfl⟩⟩
theorem Cm_cg {k n : Nat} {S U : Nat → Nat} {a : Nat} (h : ∀ t, t < n → S t = U t) (c : Cm k n S a) : Cm k n U a := ⟨fun t u h1 h2 => by rw [← h t (by omega), ← h u h2]; exact c.1 t u h1 h2, fun t ht => by rw [← h t ht]; exact c.2.1 t ht, fun i h1 h2 => by
  obtain ⟨t, h3, h4⟩ := c.2.2 i h1 h2
  exact ⟨t, h3, by rw [← h t h3]; exact h4⟩⟩
theorem Cm_inj {k n : Nat} {S : Nat → Nat} {a : Nat} (c : Cm k n S a) {t u : Nat} (ht : t < n) (hu : u < n) : (S t < S u) = (t < u) := by
  apply propext
  rcases Nat.lt_trichotomy t u with h | h | h
  · exact ⟨fun _ => h, fun _ => c.1 t u h hu⟩
  · subst h; exact ⟨fun h => absurd h (Nat.lt_irrefl _), fun h => absurd h (Nat.lt_irrefl _)⟩
  · have := c.1 u t h ht
    exact ⟨fun h => by omega, fun h => by omega⟩
theorem Cm_del {k n : Nat} {S : Nat → Nat} {a : Nat} (c : Cm k (n + 1) S a) {j : Nat} (hj : j ≤ n) : Cm k n (del S j) (a ||| 2 ^ S j) := by
  refine ⟨fun t u h1 h2 => ?_, fun t ht => ?_, fun i h1 h2 => ?_⟩
  · unfold del
    by_cases c1 : t < j
    · rw [if_pos c1]
      by_cases c2 : u < j
      · rw [if_pos c2]; exact c.1 t u h1 (by omega)
      · rw [if_neg c2]; exact c.1 t (u + 1) (by omega) (by omega)
    · rw [if_neg c1, if_neg (by omega)]; exact c.1 (t + 1) (u + 1) (by omega) (by omega)
  · have key : ∀ u, u < n + 1 → u ≠ j → S u < k ∧ (a ||| 2 ^ S j).testBit (S u) = false := fun u hu hne => by
      refine ⟨(c.2.1 u hu).1, ?_⟩
      rw [tb_or, (c.2.1 u hu).2, Bool.false_or, decide_eq_false_iff_not]
      intro e
      rcases Nat.lt_or_gt_of_ne hne with h | h
      · have := c.1 u j h (by omega); omega
      · have := c.1 j u h hu; omega
    unfold del
    by_cases c1 : t < j
    · rw [if_pos c1]; exact key t (by omega) (by omega)
    · rw [if_neg c1]; exact key (t + 1) (by omega) (by omega)
  · rw [tb_or, Bool.or_eq_false_iff, decide_eq_false_iff_not] at h2
    obtain ⟨t, h3, h4⟩ := c.2.2 i h1 h2.1
    have hne : t ≠ j := fun e => h2.2 (by rw [← e, h4])
    unfold del
    by_cases c1 : t < j
    · exact ⟨t, by omega, by rw [if_pos c1]; exact h4⟩
    · exact ⟨t - 1, by omega, by rw [if_neg (by omega), show t - 1 + 1 = t by omega]; exact h4⟩
theorem Cm_full {k : Nat} {S : Nat → Nat} {a : Nat} (ha : a < 2 ^ k) (c : Cm k 0 S a) : a = 2 ^ k - 1 := by
  apply Nat.eq_of_testBit_eq
  intro i
  rw [Nat.testBit_two_pow_sub_one]
  by_cases hi : i < k
  · rw [decide_eq_true hi]
    cases e : a.testBit i with
    | true => rfl
    | false =>
      obtain ⟨t, ht, _⟩ := c.2.2 i hi e
      omega
  · rw [decide_eq_false hi]
    exact Nat.testBit_lt_two_pow (Nat.lt_of_lt_of_le ha (Nat.pow_le_pow_right (by decide) (by omega)))
theorem Cm_nfull {k n : Nat} {S : Nat → Nat} {a : Nat} (c : Cm k (n + 1) S a) : a ≠ 2 ^ k - 1 := fun e => by
  have h := c.2.1 0 (by omega)
  rw [e, Nat.testBit_two_pow_sub_one, decide_eq_true h.1] at h
  exact absurd h.2 (by decide)
theorem Gs_Cm {k n : Nat} {S : Nat → Nat} {a : Nat} (c : Cm k n S a) {g : Nat → Nat} (hg : ∀ i, a.testBit i = true → g i = 0) : (∀ t, t < n → Gs g (S t) = Gs (fun t => g (S t)) t) ∧ Gs g k = Gs (fun t => g (S t)) n := by
  have z : ∀ i, i < k → (∀ t, t < n → S t ≠ i) → g i = 0 := fun i hi hne => by
    cases e : a.testBit i with
    | true => exact hg i e
    | false =>
      obtain ⟨t, h1, h2⟩ := c.2.2 i hi e
      exact absurd h2 (hne t h1)
  have p : ∀ t, t < n → Gs g (S t) = Gs (fun t => g (S t)) t := by
    intro t
    induction t with
    | zero =>
      intro ht
      rw [Gs_z (b := 0) (Nat.zero_le _) (fun i _ h2 => z i (by have := (c.2.1 0 ht).1; omega) (fun u hu e => ?_))]
      · rfl
      · rcases Nat.eq_zero_or_pos u with h | h
        · subst h; omega
        · have := c.1 0 u h hu; omega
    | succ t ih =>
      intro ht
      have h1 := c.1 t (t + 1) (by omega) ht
      rw [Gs_z (b := S t + 1) (by omega) (fun i h2 h3 => z i (by have := (c.2.1 (t + 1) ht).1; omega) (fun u hu e => ?_)), Gs, Gs, ih (by omega)]
      subst e
      have e1 := Cm_inj c (t := t) (u := u) (by omega) hu
      have e2 := Cm_inj c (t := u) (u := t + 1) hu ht
      have : t < u := e1 ▸ (by omega : S t < S u)
      have : u < t + 1 := e2 ▸ h3
      omega
  refine ⟨p, ?_⟩
  cases n with
  | zero => exact Gs_z (b := 0) (Nat.zero_le _) (fun i _ hi => z i hi (fun t ht => absurd ht (Nat.not_lt_zero t)))
  | succ n =>
    have h1 := (c.2.1 n (by omega)).1
    rw [Gs_z (b := S n + 1) (by omega) (fun i h2 h3 => z i h3 (fun u hu e => ?_)), Gs, Gs, p n (by omega)]
    subst e
    have e1 := Cm_inj c (t := n) (u := u) (by omega) hu
    have : n < u := e1 ▸ (by omega : S n < S u)
    omega
theorem wb_z (k : Nat) (ok : Nat → Nat → Bool) {a i : Nat} (h : a.testBit i = true) : wb k ok a i = 0 := by unfold wb; rw [h]; rfl
def fc : Nat → Nat
  | 0 => 1
  | n + 1 => (n + 1) * fc n
theorem fc8 : ∀ n, n < 9 → fc n ≤ 40320 := by decide
theorem wa_le {k : Nat} (hk : k ≤ 8) (ok : Nat → Nat → Bool) : ∀ n S a, a < 2 ^ k → Cm k n S a → wa k ok a ≤ fc n := by
  intro n
  induction n with
  | zero => intro S a ha c; rw [wa_eq hk ok ha, if_pos (Cm_full ha c)]; exact Nat.le_refl _
  | succ n ih =>
    intro S a ha c
    rw [wa_eq hk ok ha, if_neg (Cm_nfull c), (Gs_Cm c (fun i h => wb_z k ok h)).2]
    refine Gs_le (fun t ht => ?_)
    unfold wb
    have h1 := (c.2.1 t ht).1
    split
    · exact ih (del S t) _ (or_lt ha h1) (Cm_del c (by omega))
    · exact Nat.zero_le _
