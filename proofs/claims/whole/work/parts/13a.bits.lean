/-! ===== how many bits; loops with a changing heap ===== -/
theorem gl {β γ : Type} (G : Nat → β → Nat → PH → Option γ) (I : Nat → β → PH → Prop) (N : Nat) (Pr : Option γ → Prop) (hx : ∀ b h, I N b h → ∀ n, Pr (G (n + 1) b N h)) (hs : ∀ i b h, i < N → I i b h → (∀ n, Pr (G (n + 1) b i h)) ∨ ∃ b' h', I (i + 1) b' h' ∧ ∀ n, G (n + 1) b i h = G n b' (i + 1) h') : ∀ d i b h n, i ≤ N → N - i = d → d < n → I i b h → Pr (G n b i h) := by
  intro d
  induction d with
  | zero =>
    intro i b h n hi hd hn hI
    have e : i = N := by omega
    subst e
    cases n with
    | zero => omega
    | succ n => exact hx b h hI n
  | succ d ih =>
    intro i b h n hi hd hn hI
    cases n with
    | zero => omega
    | succ n =>
      rcases hs i b h (by omega) hI with e | ⟨b', h', hI', e⟩
      · exact e n
      · rw [e n]
        exact ih (i + 1) b' h' n (by omega) (by omega) (by omega) hI'
theorem glF {β γ : Type} (G : Nat → β → Nat → PH → Option γ) (I : Nat → β → PH → Prop) (N : Nat) (Pr : Option γ → Prop) (hN : N < 1000000) (hx : ∀ b h, I N b h → ∀ n, Pr (G (n + 1) b N h)) (hs : ∀ i b h, i < N → I i b h → (∀ n, Pr (G (n + 1) b i h)) ∨ ∃ b' h', I (i + 1) b' h' ∧ ∀ n, G (n + 1) b i h = G n b' (i + 1) h') {i : Nat} {b : β} {h : PH} (hi : i ≤ N) (hI : I i b h) : Pr (G FU b i h) := gl G I N Pr hx hs (N - i) i b h FU hi rfl (FU_gt (by omega)) hI
/-- bits of x below k -/
def pc (x : Int32) : Nat → Nat
  | 0 => 0
  | k + 1 => pc x k + if bt x k = true then 1 else 0
def pcN (n : Nat) : Nat → Nat
  | 0 => 0
  | k + 1 => pcN n k + n / 2 ^ k % 2
theorem nI_and (a b : Nat) : nI a &&& nI b = nI (a &&& b) := by
  apply Int32.toBitVec_inj.1
  show BitVec.ofNat 32 a &&& BitVec.ofNat 32 b = BitVec.ofNat 32 (a &&& b)
  apply BitVec.eq_of_getLsbD_eq
  intro i hi
  simp [hi]
theorem nI_self (x : Int32) : nI x.toBitVec.toNat = x := by
  apply Int32.toBitVec_inj.1
  show BitVec.ofNat 32 x.toBitVec.toNat = x.toBitVec
  simp
theorem bt_tb (x : Int32) (k : Nat) : bt x k = x.toBitVec.toNat.testBit k := rfl
theorem bel_nat {x : Int32} {n : Nat} (h : bel x n) : x.toBitVec.toNat < 2 ^ n := by
  apply Nat.lt_pow_two_of_testBit
  intro i hi
  by_cases h2 : i < 32
  · exact h i h2 hi
  · exact bt_out x (by omega)
theorem pc_pcN (x : Int32) : ∀ k, pc x k = pcN x.toBitVec.toNat k := by
  intro k
  induction k with
  | zero => rfl
  | succ k ih =>
    rw [pc, pcN, ih, bt_tb, Nat.testBit_eq_decide_div_mod_eq]
    have h2 : x.toBitVec.toNat / 2 ^ k % 2 < 2 := Nat.mod_lt _ (by decide)
    by_cases h : x.toBitVec.toNat / 2 ^ k % 2 = 1
    · rw [h]; rfl
    · rw [if_neg (by simp [h])]; omega
theorem pcN_split (n m : Nat) : ∀ k, pcN n (m + k) = pcN n m + pcN (n / 2 ^ m) k := by
  intro k
  induction k with
  | zero => rfl
  | succ k ih =>
    rw [show m + (k + 1) = (m + k) + 1 from rfl, pcN, pcN, ih, Nat.div_div_eq_div_mul, ← Nat.pow_add, Nat.add_assoc]
theorem pcN_low (n : Nat) : pcN n 8 = pcN (n % 256) 8 := by
  simp only [pcN, Nat.reducePow]
  omega
theorem andB (n M : Nat) : n &&& M = (n % 256 &&& M % 256) + 256 * (n / 256 &&& M / 256) := by
  have h1 := Nat.and_mod_two_pow (a := n) (b := M) (n := 8)
  have h2 := Nat.and_div_two_pow (a := n) (b := M) (n := 8)
  have h3 := Nat.mod_add_div (n &&& M) 256
  rw [show (2 : Nat) ^ 8 = 256 from rfl] at h1 h2
  rw [← h1, ← h2, h3]
theorem and3 (n : Nat) {M m c : Nat} (h1 : M % 256 = m) (h2 : M / 256 % 256 = m) (h3 : M / 256 / 256 = c) : n &&& M = (n % 256 &&& m) + 256 * ((n / 256 % 256 &&& m) + 256 * (n / 256 / 256 &&& c)) := by
  rw [andB n M, andB (n / 256) (M / 256), h1, h2, h3]
def bt1 (a : Nat) : Nat := a - (a / 2 &&& 85)
def bt2 (a : Nat) : Nat := (a &&& 51) + (a / 4 &&& 51)
def bt3 (a : Nat) : Nat := (a + a / 16) &&& 15
theorem bd1 : ∀ a, a < 256 → ∀ t, t < 2 → (a / 2 + 128 * t) &&& 85 = a / 2 &&& 85 := by decide +kernel
theorem bd1c : ∀ a, a < 256 → a / 2 &&& 21845 = a / 2 &&& 85 := by decide +kernel
theorem bd2 : ∀ a, a < 256 → ∀ t, t < 4 → (a / 4 + 64 * t) &&& 51 = a / 4 &&& 51 := by decide +kernel
theorem bd2c : ∀ a, a < 256 → a &&& 13107 = a &&& 51 ∧ a / 4 &&& 13107 = a / 4 &&& 51 := by decide +kernel
theorem bd3 : ∀ a, a < 256 → a % 16 ≤ 4 → a / 16 ≤ 4 → ∀ t, t < 5 → (a + a / 16 + 16 * t) &&& 15 = (a + a / 16) &&& 15 := by decide +kernel
theorem bd3c : ∀ a, a < 256 → a % 16 ≤ 4 → a / 16 ≤ 4 → (a + a / 16) &&& 3855 = (a + a / 16) &&& 15 := by decide +kernel
theorem bdA : ∀ a, a < 256 → bt1 a < 256 ∧ bt2 (bt1 a) < 256 ∧ bt2 (bt1 a) % 16 ≤ 4 ∧ bt2 (bt1 a) / 16 ≤ 4 ∧ bt3 (bt2 (bt1 a)) = pcN a 8 ∧ pcN a 8 ≤ 8 := by decide +kernel
theorem sw1 {a b c : Nat} (ha : a < 256) (hb : b < 256) (hc : c < 256) : (a + 256 * (b + 256 * c)) - ((a + 256 * (b + 256 * c)) / 2 &&& 1431655765) = bt1 a + 256 * (bt1 b + 256 * bt1 c) := by
  have e1 : (a + 256 * (b + 256 * c)) / 2 % 256 = a / 2 + 128 * (b % 2) := by omega
  have e2 : (a + 256 * (b + 256 * c)) / 2 / 256 % 256 = b / 2 + 128 * (c % 2) := by omega
  have e3 : (a + 256 * (b + 256 * c)) / 2 / 256 / 256 = c / 2 := by omega
  rw [and3 _ (m := 85) (c := 21845) (by decide) (by decide) (by decide), e1, e2, e3, bd1 a ha _ (by omega), bd1 b hb _ (by omega), bd1c c hc]
  have l1 : a / 2 &&& 85 ≤ a / 2 := Nat.and_le_left
  have l2 : b / 2 &&& 85 ≤ b / 2 := Nat.and_le_left
  have l3 : c / 2 &&& 85 ≤ c / 2 := Nat.and_le_left
  unfold bt1
  omega
theorem sw2 {a b c : Nat} (ha : a < 256) (hb : b < 256) (hc : c < 256) : ((a + 256 * (b + 256 * c)) &&& 858993459) + ((a + 256 * (b + 256 * c)) / 4 &&& 858993459) = bt2 a + 256 * (bt2 b + 256 * bt2 c) := by
  have e1 : (a + 256 * (b + 256 * c)) / 4 % 256 = a / 4 + 64 * (b % 4) := by omega
  have e2 : (a + 256 * (b + 256 * c)) / 4 / 256 % 256 = b / 4 + 64 * (c % 4) := by omega
  have e3 : (a + 256 * (b + 256 * c)) / 4 / 256 / 256 = c / 4 := by omega
  have f1 : (a + 256 * (b + 256 * c)) % 256 = a := by omega
  have f2 : (a + 256 * (b + 256 * c)) / 256 % 256 = b := by omega
  have f3 : (a + 256 * (b + 256 * c)) / 256 / 256 = c := by omega
  rw [and3 (a + 256 * (b + 256 * c)) (m := 51) (c := 13107) (by decide) (by decide) (by decide), and3 ((a + 256 * (b + 256 * c)) / 4) (m := 51) (c := 13107) (by decide) (by decide) (by decide), e1, e2, e3, f1, f2, f3, bd2 a ha _ (by omega), bd2 b hb _ (by omega), (bd2c c hc).1, (bd2c c hc).2]
  unfold bt2
  omega
theorem sw3 {a b c : Nat} (ha : a < 256) (hb : b < 256) (hc : c < 256) (ha1 : a % 16 ≤ 4) (ha2 : a / 16 ≤ 4) (hb1 : b % 16 ≤ 4) (hb2 : b / 16 ≤ 4) (hc1 : c % 16 ≤ 4) (hc2 : c / 16 ≤ 4) : ((a + 256 * (b + 256 * c)) + (a + 256 * (b + 256 * c)) / 16) &&& 252645135 = bt3 a + 256 * (bt3 b + 256 * bt3 c) := by
  have e1 : ((a + 256 * (b + 256 * c)) + (a + 256 * (b + 256 * c)) / 16) % 256 = a + a / 16 + 16 * (b % 16) := by omega
  have e2 : ((a + 256 * (b + 256 * c)) + (a + 256 * (b + 256 * c)) / 16) / 256 % 256 = b + b / 16 + 16 * (c % 16) := by omega
  have e3 : ((a + 256 * (b + 256 * c)) + (a + 256 * (b + 256 * c)) / 16) / 256 / 256 = c + c / 16 := by omega
  rw [and3 _ (m := 15) (c := 3855) (by decide) (by decide) (by decide), e1, e2, e3, bd3 a ha ha1 ha2 _ (by omega), bd3 b hb hb1 hb2 _ (by omega), bd3c c hc hc1 hc2]
  rfl
theorem bc_nat {n : Nat} (hn : n < 2 ^ 24) : f_J6_bitCount_0f7a4 (nI n) = some (nI (pcN n 24)) := by
  obtain ⟨a, b, c, ha, hb, hc, rfl⟩ : ∃ a b c, a < 256 ∧ b < 256 ∧ c < 256 ∧ n = a + 256 * (b + 256 * c) := ⟨n % 256, n / 256 % 256, n / 256 / 256, by omega, by omega, by omega, by omega⟩
  obtain ⟨a1, a2, a3, a4, a5, a6⟩ := bdA a ha
  obtain ⟨b1, b2, b3, b4, b5, b6⟩ := bdA b hb
  obtain ⟨c1, c2, c3, c4, c5, c6⟩ := bdA c hc
  have hs := sw1 ha hb hc
  have hpc : pcN (a + 256 * (b + 256 * c)) 24 = pcN a 8 + pcN b 8 + pcN c 8 := by
    rw [show (24 : Nat) = 8 + (8 + 8) from rfl, pcN_split, pcN_split, pcN_low, pcN_low ((a + 256 * (b + 256 * c)) / 2 ^ 8), pcN_low ((a + 256 * (b + 256 * c)) / 2 ^ 8 / 2 ^ 8)]
    rw [show (a + 256 * (b + 256 * c)) % 256 = a by omega, show (a + 256 * (b + 256 * c)) / 2 ^ 8 % 256 = b by omega, show (a + 256 * (b + 256 * c)) / 2 ^ 8 / 2 ^ 8 % 256 = c by omega]
    omega
  rw [hpc, f_J6_bitCount_0f7a4]
  simp only [lt'_eq]
  rw [show (1431655765 : Int32) = nI 1431655765 from rfl, show (858993459 : Int32) = nI 858993459 from rfl, show (252645135 : Int32) = nI 252645135 from rfl, pk_ushrN (n := a + 256 * (b + 256 * c)) (by omega) 1 1 (by decide), nI_and, pk_sub (Nat.le_trans Nat.and_le_left (by omega)), Nat.pow_one, hs]
  rw [pk_ushrN (n := bt1 a + 256 * (bt1 b + 256 * bt1 c)) (by omega) 2 2 (by decide), nI_and, nI_and, nI_add, show (2 : Nat) ^ 2 = 4 from rfl, sw2 a1 b1 c1]
  rw [pk_ushrN (n := bt2 (bt1 a) + 256 * (bt2 (bt1 b) + 256 * bt2 (bt1 c))) (by omega) 4 4 (by decide), nI_add, nI_and, show (2 : Nat) ^ 4 = 16 from rfl, sw3 a2 b2 c2 a3 a4 b3 b4 c3 c4, a5, b5, c5]
  rw [pk_ushrN (n := pcN a 8 + 256 * (pcN b 8 + 256 * pcN c 8)) (by omega) 8 8 (by decide), nI_add, pk_ushrN (n := pcN a 8 + 256 * (pcN b 8 + 256 * pcN c 8) + (pcN a 8 + 256 * (pcN b 8 + 256 * pcN c 8)) / 2 ^ 8) (by omega) 16 16 (by decide), nI_add, pk_andN (by omega) 6 (by decide)]
  generalize pcN a 8 = P at *
  generalize pcN b 8 = Q at *
  generalize pcN c 8 = R at *
  have z1 : (P + 256 * (Q + 256 * R)) / 2 ^ 8 = Q + 256 * R := by omega
  rw [z1]
  have z2 : (P + 256 * (Q + 256 * R) + (Q + 256 * R)) / 2 ^ 16 = R := by omega
  rw [z2]
  have z3 : (P + 256 * (Q + 256 * R) + (Q + 256 * R) + R) % 2 ^ 6 = P + Q + R := by omega
  rw [z3]
theorem c_bits {x : Int32} (h : bel x 24) : f_J6_bitCount_0f7a4 x = some (nI (pc x 24)) := by
  have e := bc_nat (bel_nat h)
  rw [nI_self] at e
  rw [e, pc_pcN]
theorem pc_le (x : Int32) : ∀ k, pc x k ≤ k := by
  intro k
  induction k with
  | zero => exact Nat.le_refl _
  | succ k ih =>
    rw [pc]
    split <;> omega
theorem m_bits (x : Int32) : f_X9_bits x = some (nI (pc x 24)) := by
  refine lp_up (fun n a i => f_X9_bits_4 x n a (nI i)) (fun i => nI (pc x i)) 24 _ (fun n => ?_) (fun n i hi => ?_) FU 0 (Nat.zero_le _) (FU_gt (by omega))
  · show f_X9_bits_4 x (n + 1) _ _ = _
    rw [f_X9_bits_4, if_pos (by decide)]
  · show f_X9_bits_4 x (n + 1) _ _ = f_X9_bits_4 x n _ _
    rw [f_X9_bits_4, if_neg (by rw [le24 (by omega)]; omega), lt'_eq, shr_and1 x (by omega), nI1, pc]
    by_cases hb : bt x i = true
    · rw [if_pos hb, if_pos hb, nI1]
    · rw [if_neg hb, if_neg hb, add0]; rfl
theorem pc_out {x y : Int32} {k : Nat} (h : ∀ j, j < k → bt x j = bt y j) : pc x k = pc y k := by
  induction k with
  | zero => rfl
  | succ k ih => rw [pc, pc, ih (fun j hj => h j (by omega)), h k (by omega)]
theorem pc_one {x : Int32} {c : Nat} (hc : c < 32) (hx : bt x c = false) : ∀ k, k ≤ 32 → pc (x ||| (1 <<< (nI c &&& 31))) k = pc x k + if c < k then 1 else 0 := by
  intro k
  induction k with
  | zero => intro _; rfl
  | succ k ih =>
    intro hk
    rw [pc, pc, ih (by omega), bt_or, bt_one c hc k (by omega)]
    by_cases e : k = c
    · subst e
      rw [hx, if_neg (Nat.lt_irrefl k), if_pos (Nat.lt_succ_self k)]
      simp
    · simp only [e, decide_false, Bool.or_false]
      by_cases h2 : c < k
      · rw [if_pos h2, if_pos (show c < k + 1 by omega)]; omega
      · rw [if_neg h2, if_neg (show ¬ c < k + 1 by omega)]; omega
theorem pc_zero : ∀ k, pc 0 k = 0 := by
  intro k
  induction k with
  | zero => rfl
  | succ k ih => rw [pc, ih, bt_zero]; rfl
theorem pc_bel {x : Int32} {n : Nat} (h : bel x n) : ∀ k, n ≤ k → k ≤ 32 → pc x k = pc x n := by
  intro k
  induction k with
  | zero => intro h1 _; have : n = 0 := by omega
            subst this; rfl
  | succ k ih =>
    intro h1 h2
    by_cases e : n = k + 1
    · subst e; rfl
    · rw [pc, h k (by omega) (by omega), ih (by omega) (by omega)]; rfl
