/-! ===== pure: numbers, bits, loops ===== -/
def bt (x : Int32) (k : Nat) : Bool := x.toBitVec.getLsbD k
theorem bt_ext {x y : Int32} (h : ∀ j, j < 32 → bt x j = bt y j) : x = y := by
  apply Int32.toBitVec_inj.mp
  apply BitVec.eq_of_getLsbD_eq
  intro i hi
  exact h i hi
theorem bt_out (x : Int32) {j : Nat} (h : 32 ≤ j) : bt x j = false := by
  unfold bt
  exact BitVec.getLsbD_of_ge _ _ h
theorem bt_or (x y : Int32) (j : Nat) : bt (x ||| y) j = (bt x j || bt y j) := by
  unfold bt; rw [Int32.toBitVec_or, BitVec.getLsbD_or]
theorem bt_and (x y : Int32) (j : Nat) : bt (x &&& y) j = (bt x j && bt y j) := by
  unfold bt; rw [Int32.toBitVec_and, BitVec.getLsbD_and]
theorem bt_xor (x y : Int32) (j : Nat) : bt (x ^^^ y) j = (bt x j ^^ bt y j) := by
  unfold bt; rw [Int32.toBitVec_xor, BitVec.getLsbD_xor]
theorem bt_m1 : ∀ j, j < 32 → bt (-1) j = true := by decide +kernel
theorem bt_not (x : Int32) {j : Nat} (hj : j < 32) : bt (x ^^^ (-1)) j = !bt x j := by rw [bt_xor, bt_m1 j hj, Bool.xor_true]
theorem bt_zero (j : Nat) : bt 0 j = false := by
  unfold bt
  simp
theorem bt_one : ∀ k, k < 32 → ∀ j, j < 32 → bt ((1:Int32) <<< (nI k &&& 31)) j = decide (j = k) := by decide +kernel
theorem bt_1 : ∀ j, j < 32 → bt (1:Int32) j = decide (j = 0) := by decide +kernel
theorem bt_ones : ∀ k, k < 31 → ∀ j, j < 32 → bt (((1:Int32) <<< (nI k &&& 31)) - 1) j = decide (j < k) := by decide +kernel
theorem sh_k : ∀ k, k < 32 → ((nI k &&& 31).toBitVec.smod 32).toNat = k := by decide +kernel
theorem bt_shr0 (x : Int32) {k : Nat} (hk : k < 32) : bt (x >>> (nI k &&& 31)) 0 = bt x k := by
  unfold bt
  rw [Int32.toBitVec_shiftRight, BitVec.sshiftRight_eq', sh_k k hk, BitVec.getLsbD_sshiftRight]
  simp [hk]
theorem shr_and1 (x : Int32) {k : Nat} (hk : k < 32) : ((x >>> (nI k &&& 31)) &&& 1) = if bt x k = true then 1 else 0 := by
  apply bt_ext
  intro j hj
  rw [bt_and, bt_1 j hj]
  by_cases h0 : j = 0
  · subst h0
    rw [bt_shr0 x hk]
    by_cases hb : bt x k = true
    · rw [hb, if_pos rfl]; decide
    · simp only [Bool.not_eq_true] at hb
      rw [hb, if_neg (by decide)]; decide
  · simp only [h0, decide_false, Bool.and_false]
    split
    · rw [bt_1 j hj]; simp [h0]
    · rw [bt_zero]
/-- the set of the numbers below n with P -/
def mkI (P : Nat → Bool) : Nat → Int32
  | 0 => 0
  | k + 1 => if P k = true then mkI P k ||| (1 <<< (nI k &&& 31)) else mkI P k
theorem bt_mkI (P : Nat → Bool) : ∀ n, n ≤ 32 → ∀ j, j < 32 → bt (mkI P n) j = (decide (j < n) && P j) := by
  intro n
  induction n with
  | zero => intro _ j hj; simp [mkI, bt_zero]
  | succ n ih =>
    intro hn j hj
    rw [mkI]
    by_cases hp : P n = true
    · rw [if_pos hp, bt_or, ih (by omega) j hj, bt_one n (by omega) j hj]
      by_cases hjn : j = n
      · subst hjn; simp [hp]
      · have : (decide (j < n)) = decide (j < n + 1) := by
          rw [decide_eq_decide]; omega
        simp [hjn, this]
    · rw [if_neg hp, ih (by omega) j hj]
      by_cases hjn : j = n
      · subst hjn
        simp only [Bool.not_eq_true] at hp
        simp [hp]
      · have : (decide (j < n)) = decide (j < n + 1) := by
          rw [decide_eq_decide]; omega
        rw [this]
theorem mkI_congr {P Q : Nat → Bool} {n : Nat} (h : ∀ k, k < n → P k = Q k) : mkI P n = mkI Q n := by
  induction n with
  | zero => rfl
  | succ n ih =>
    rw [mkI, mkI, ih (fun k hk => h k (by omega)), h n (by omega)]
theorem bt_eq_mkI (x : Int32) {P : Nat → Bool} {n : Nat} (hn : n ≤ 32) (h : ∀ j, j < 32 → bt x j = (decide (j < n) && P j)) : x = mkI P n := bt_ext (fun j hj => by rw [h j hj, bt_mkI P n hn j hj])
/-- bits below n alone -/
def bel (x : Int32) (n : Nat) : Prop := ∀ j, j < 32 → n ≤ j → bt x j = false
theorem bel_mkI (P : Nat → Bool) {n : Nat} (hn : n ≤ 32) : bel (mkI P n) n := fun j hj h => by
  rw [bt_mkI P n hn j hj]; simp; omega
theorem bel_or {x y : Int32} {n : Nat} (hx : bel x n) (hy : bel y n) : bel (x ||| y) n := fun j hj h => by rw [bt_or, hx j hj h, hy j hj h]; rfl
theorem bel_and {x y : Int32} {n : Nat} (hx : bel x n) : bel (x &&& y) n := fun j hj h => by rw [bt_and, hx j hj h]; rfl
theorem bel_one {k n : Nat} (hk : k < n) (hn : n ≤ 32) : bel ((1:Int32) <<< (nI k &&& 31)) n := fun j hj h => by
  rw [bt_one k (by omega) j hj]; simp; omega
theorem bel_zero (n : Nat) : bel 0 n := fun j _ _ => bt_zero j
/-! indices -/
theorem nI1 (s : Nat) : nI s + 1 = nI (s + 1) := nI_1 s
theorem nIm1 (s : Nat) : nI (s + 1) + (-1) = nI s := pk_m1 s
theorem ixC (c s : Nat) : nI c * 16 + nI s = nI (16 * c + s) := by rw [show (16 : Int32) = nI 16 from rfl, pk_mul, nI_add, Nat.mul_comm]
theorem ixM (c s : Nat) : 16 * nI c + nI s = nI (16 * c + s) := by rw [show (16 : Int32) = nI 16 from rfl, pk_mul, nI_add]
theorem leN {a b : Nat} (ha : a < 2 ^ 31) (hb : b < 2 ^ 31) : (nI a ≤ nI b) = (a ≤ b) := propext (nI_leI ha hb)
theorem ltN {a b : Nat} (ha : a < 2 ^ 31) (hb : b < 2 ^ 31) : (nI a < nI b) = (a < b) := propext (nI_ltI ha hb)
theorem eqN {a b : Nat} (ha : a < 2 ^ 31) (hb : b < 2 ^ 31) : (nI a = nI b) = (a = b) := propext (nI_eq ha hb)
theorem cl {n : Nat} (h : n < 2 ^ 31) : (nI n).toNatClampNeg = n := nI_clamp h
theorem le16 {s : Nat} (h : s < 2 ^ 31) : ((16 : Int32) ≤ nI s) = (16 ≤ s) := leN (a := 16) (by decide) h
theorem le24 {s : Nat} (h : s < 2 ^ 31) : ((24 : Int32) ≤ nI s) = (24 ≤ s) := leN (a := 24) (by decide) h
theorem FU_gt {n : Nat} (h : n < 1000000) : n < FU := h
theorem ib_nI {i n : Nat} (hi : i < n) (hn : n < 2 ^ 31) : ib (nI i) n = true := by
  have h1 : ¬ nI i < 0 := nI_pos (by omega)
  have h2 : ¬ n ≤ (nI i).toNatClampNeg := by rw [cl (by omega)]; omega
  unfold ib
  simp [h1, h2]
theorem ag_nI (h : PH) (V : Nat) {i n : Nat} (hi : i < n) (hn : n < 2 ^ 31) : ag h V n (nI i) = some (h.1 V i) := by
  unfold ag; rw [if_pos (ib_nI hi hn), cl (by omega)]
theorem asg_nI (h : PH) (V : Nat) {i n : Nat} (x : Int32) (hi : i < n) (hn : n < 2 ^ 31) : asg h V n (nI i) x = some (hU h V i x) := by
  unfold asg; rw [if_pos (ib_nI hi hn), cl (by omega)]
theorem bO_some {α β : Type} (r : α) (f : α → Option β) : bO (some r) f = f r := rfl
theorem bP_some {α β : Type} (r : α) (h : PH) (f : α → PH → Option β) : bP (some (r, h)) f = f r h := rfl
theorem lt'_eq {α β : Type} (e : α) (f : α → β) : lt' e f = f e := rfl
theorem zr_0 {α : Type} (r : α) : zr 0 r = some r := rfl
theorem zr_1 {α : Type} (r : α) : zr 1 r = some r := rfl
theorem zr_if {α : Type} (c : Prop) [Decidable c] (r : Int32 → α) : zr (if c then (1 : Int32) else 0) (r (if c then 1 else 0)) = some (r (if c then 1 else 0)) := by by_cases h : c <;> simp [h, zr_0, zr_1]
theorem or0 (x : Int32) : x ||| 0 = x := by apply bt_ext; intro j hj; rw [bt_or, bt_zero, Bool.or_false]
theorem has8 (x : Int32) {k : Nat} (hk : k < 32) : f_X8_has x (nI k) = some (if bt x k = true then 1 else 0) := by
  unfold f_X8_has
  rw [shr_and1 x hk]
  by_cases h : bt x k = true <;> simp [h]
theorem has9 (x : Int32) {k : Nat} (hk : k < 32) : f_X9_has x (nI k) = some (if bt x k = true then 1 else 0) := by
  unfold f_X9_has
  rw [shr_and1 x hk]
  by_cases h : bt x k = true <;> simp [h]
/-! loops -/
theorem lp_up {α β : Type} (F : Nat → α → Nat → Option β) (st : Nat → α) (N : Nat) (r : Option β) (hx : ∀ n, F (n + 1) (st N) N = r) (hs : ∀ n i, i < N → F (n + 1) (st i) i = F n (st (i + 1)) (i + 1)) : ∀ n i, i ≤ N → N - i < n → F n (st i) i = r := by
  intro n
  induction n with
  | zero => intro i hi hn; omega
  | succ n ih =>
    intro i hi hn
    by_cases h : i = N
    · subst h; exact hx n
    · rw [hs n i (by omega)]
      exact ih (i + 1) (by omega) (by omega)
/-- with a way out -/
theorem lp_ex {α β : Type} (F : Nat → α → Nat → Option β) (st : Nat → α) (N : Nat) (r : Option β) (hx : ∀ n, F (n + 1) (st N) N = r) (hs : ∀ n i, i < N → F (n + 1) (st i) i = r ∨ F (n + 1) (st i) i = F n (st (i + 1)) (i + 1)) : ∀ n i, i ≤ N → N - i < n → F n (st i) i = r := by
  intro n
  induction n with
  | zero => intro i hi hn; omega
  | succ n ih =>
    intro i hi hn
    by_cases h : i = N
    · subst h; exact hx n
    · rcases hs n i (by omega) with e | e
      · exact e
      · rw [e]
        exact ih (i + 1) (by omega) (by omega)
theorem lp_down {α β : Type} (F : Nat → α → Nat → Option β) (st : Nat → α) (r : Option β) (N : Nat) (hx : ∀ n, F (n + 1) (st 0) 0 = r) (hs : ∀ n i, i < N → F (n + 1) (st (i + 1)) (i + 1) = F n (st i) i) : ∀ n i, i ≤ N → i < n → F n (st i) i = r := by
  intro n
  induction n with
  | zero => intro i hi hn; omega
  | succ n ih =>
    intro i hi hn
    cases i with
    | zero => exact hx n
    | succ i =>
      rw [hs n i (by omega)]
      exact ih i (by omega) (by omega)
/-! numbers within bounds -/
def inN (x : Int32) (n : Nat) : Prop := 0 ≤ x.toInt ∧ x.toInt < n
theorem inN_iff {x : Int32} {n : Nat} (hn : n < 2 ^ 31) : inN x n ↔ ∃ k, k < n ∧ x = nI k := by
  constructor
  · rintro ⟨h1, h2⟩
    refine ⟨x.toInt.toNat, by omega, ?_⟩
    apply Int32.toInt_inj.mp
    rw [nI_toInt (by omega)]
    omega
  · rintro ⟨k, hk, rfl⟩
    unfold inN
    rw [nI_toInt (by omega)]
    omega
theorem lt0 (x : Int32) : (x < 0) = (x.toInt < 0) := propext (by rw [Int32.lt_iff_toInt_lt, Int32.toInt_zero])
theorem leI (x y : Int32) : (x ≤ y) = (x.toInt ≤ y.toInt) := propext Int32.le_iff_toInt_le
theorem ltI (x y : Int32) : (x < y) = (x.toInt < y.toInt) := propext Int32.lt_iff_toInt_lt
theorem in9 (a b c : Int64) : f_X9_in a b c = some (if b.toInt ≤ a.toInt ∧ a.toInt ≤ c.toInt then 1 else 0) := by
  unfold f_X9_in
  by_cases h1 : lg_cmp a b < 0
  · rw [if_pos h1]
    have h2 := (lg_cmp_lt a b).mp h1
    rw [Int64.lt_iff_toInt_lt] at h2
    rw [if_neg (by omega)]
  · rw [if_neg h1]
    have h2 : ¬ a < b := fun z => h1 ((lg_cmp_lt a b).mpr z)
    rw [Int64.lt_iff_toInt_lt] at h2
    by_cases h3 : 0 < lg_cmp a c
    · rw [if_pos h3]
      have h4 := (lg_cmp_gt a c).mp h3
      rw [Int64.lt_iff_toInt_lt] at h4
      rw [if_neg (by omega)]
    · rw [if_neg h3]
      have h4 : ¬ c < a := fun z => h3 ((lg_cmp_gt a c).mpr z)
      rw [Int64.lt_iff_toInt_lt] at h4
      rw [if_pos (by omega)]
