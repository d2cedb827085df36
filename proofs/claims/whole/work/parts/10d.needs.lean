/-! ===== all go on; needs ===== -/
def goV (T : TD) (x : Int32) (v : Nat → Int32) : Nat → (Nat → Int32)
  | 0 => v
  | c + 1 => if bt x c = true then segF (goV T x v c) 0 (putM T c (goV T x v c)) 16 else goV T x v c
def goOK (T : TD) (x : Int32) (v : Nat → Int32) : Nat → Bool
  | 0 => true
  | c + 1 => goOK T x v c && (!bt x c || decide (clashM T c (goV T x v c) = 0))
theorem putM_congr {T : TD} {c : Nat} {v w : Nat → Int32} (h : ∀ s, s < 16 → v s = w s) : ∀ s, s < 16 → putM T c v s = putM T c w s := fun s hs => by unfold putM; rw [h s hs]
theorem goV_congr {T : TD} {x : Int32} {v w : Nat → Int32} (h : ∀ s, s < 16 → v s = w s) : ∀ c, ∀ s, s < 16 → goV T x v c s = goV T x w c s := by
  intro c
  induction c with
  | zero => exact h
  | succ c ih =>
    intro s hs
    rw [goV, goV]
    by_cases hb : bt x c = true
    · rw [if_pos hb, if_pos hb, segF_in0 hs, segF_in0 hs]
      exact putM_congr ih s hs
    · rw [if_neg hb, if_neg hb]; exact ih s hs
theorem goOK_congr {T : TD} {x : Int32} {v w : Nat → Int32} (h : ∀ s, s < 16 → v s = w s) : ∀ c, goOK T x v c = goOK T x w c := by
  intro c
  induction c with
  | zero => rfl
  | succ c ih => rw [goOK, goOK, ih, clashM_congr (goV_congr h c)]
theorem goOK_down {T : TD} {x : Int32} {v : Nat → Int32} {i n : Nat} (h : i ≤ n) (hi : goOK T x v i = false) : goOK T x v n = false := by
  induction n with
  | zero => have : i = 0 := by omega
            subst this; exact hi
  | succ n ih =>
    by_cases e : i = n + 1
    · subst e; exact hi
    · rw [goOK, ih (by omega)]; rfl
theorem hC_hC (h : PH) (V : Nat) (f g : Nat → Int32) : hC (hC h V f) V g = hC h V g := by
  unfold hC
  refine Prod.ext ?_ rfl
  funext b
  by_cases hb : b = V <;> simp [hb]
theorem row0 (f : Nat → Int32) : (fun s => f (16 * 0 + s)) = f := by funext s; rw [Nat.mul_zero, Nat.zero_add]
def b01 (b : Bool) : Int32 := if b = true then 1 else 0
theorem c_goLoop {T : TD} {h : PH} (hT : wfT T) (hC' : CT T h) (x : Int32) (g0 : Nat → Int32) : ∃ g, f_X2_allGoOn_11 x FU 0 (hC h 56 g0) = some (b01 (goOK T x g0 (tn T)), hC h 56 g) := by
  have w1 := hT.1
  refine lp_P (fun n a i => f_X2_allGoOn_11 x n (nI i) a) (fun i => hC h 56 (goV T x g0 i)) (tn T) (fun o => ∃ g, o = some (b01 (goOK T x g0 (tn T)), hC h 56 g)) (fun i => goOK T x g0 i = true) (fun n hI => ?_) (fun n i hi hI => ?_) FU 0 (Nat.zero_le _) (FU_gt (by omega)) rfl
  · refine ⟨goV T x g0 (tn T), ?_⟩
    show f_X2_allGoOn_11 x (n + 1) _ _ = _
    rw [f_X2_allGoOn_11, (hC_keepC hC' (goV T x g0 (tn T)) (V := 56) rfl).1, if_pos (Int32.le_refl _), hI]
    rfl
  · have hk := hC_keepC hC' (goV T x g0 i) (V := 56) rfl
    have ecl : f_X7_clashOf 4 56 16 (nI i) 0 (hC h 56 (goV T x g0 i)) = some (clashM T i (goV T x g0 i), hC h 56 (goV T x g0 i)) := by
      have e := c_clashOf hT hk (c := i) hi (V := 56) (N := 16) (r := 0) (by omega) (by omega)
      rw [hC_s, row0] at e
      exact e
    have epu : f_X7_putOn 4 56 16 (nI i) 0 (hC h 56 (goV T x g0 i)) = some (hC h 56 (segF (goV T x g0 i) 0 (putM T i (goV T x g0 i)) 16)) := by
      have e := c_putOn hT hk (c := i) hi (V := 56) (N := 16) (r := 0) rfl (by omega) (by omega)
      rw [hC_s, row0, hC_hC] at e
      exact e
    show (∃ g, f_X2_allGoOn_11 x (n + 1) (nI i) (hC h 56 (goV T x g0 i)) = _) ∨ (_ ∧ f_X2_allGoOn_11 x (n + 1) (nI i) (hC h 56 (goV T x g0 i)) = f_X2_allGoOn_11 x n (nI (i + 1)) (hC h 56 (goV T x g0 (i + 1))))
    rw [f_X2_allGoOn_11, hk.1, if_neg (by rw [leN (by omega) (by omega)]; omega), has8 x (by omega), bO_some, nI1]
    by_cases hb : bt x i = true
    · rw [if_pos hb, if_neg (by decide), ecl, bP_some]
      by_cases hc : clashM T i (goV T x g0 i) = 0
      · right
        refine ⟨by rw [goOK, hI, hc]; simp, ?_⟩
        rw [if_pos hc, epu, bO_some, goV, if_pos hb]
      · left
        refine ⟨goV T x g0 i, ?_⟩
        have hf : goOK T x g0 (i + 1) = false := by rw [goOK, hb]; simp [hc]
        rw [if_neg hc, goOK_down (n := tn T) (by omega) hf]
        rfl
    · right
      refine ⟨by rw [goOK, hI]; simp [hb], ?_⟩
      rw [if_neg hb, if_pos rfl, goV, if_neg hb]
theorem c_allGoOn {T : TD} {h : PH} (hT : wfT T) (hC' : CT T h) (x : Int32) {l : Nat} (hl : l < 4) : ∃ g, f_X2_allGoOn (nI l) x h = some (b01 (goOK T x (fun s => h.1 32 (16 * l + s)) (tn T)), hC h 56 g) := by
  obtain ⟨g, e⟩ := c_goLoop hT hC' x (segF (h.1 56) 0 (fun s => h.1 32 (16 * l + s)) 16)
  refine ⟨g, ?_⟩
  rw [f_X2_allGoOn, c_lay hl, bO_some, e, goOK_congr (v := segF (h.1 56) 0 (fun s => h.1 32 (16 * l + s)) 16) (w := fun s => h.1 32 (16 * l + s)) (fun s hs => segF_in0 hs)]
/-- the model's: behind a clean run what it tried are goV's values -/
theorem lp_Pn {α β : Type} (F : Nat → α → Nat → Option β) (st : Nat → α) (N : Nat) (Pr : Option β → Prop) (I : Nat → Prop) (hx : ∀ n, I N → Pr (F (n + 1) (st N) N)) (hs : ∀ n i, i < N → N - i ≤ n → I i → Pr (F (n + 1) (st i) i) ∨ (I (i + 1) ∧ F (n + 1) (st i) i = F n (st (i + 1)) (i + 1))) : ∀ n i, i ≤ N → N - i < n → I i → Pr (F n (st i) i) := by
  intro n
  induction n with
  | zero => intro i hi hn; omega
  | succ n ih =>
    intro i hi hn hI
    by_cases h : i = N
    · subst h; exact hx n hI
    · rcases hs n i (by omega) (by omega) hI with e | ⟨hI2, e⟩
      · exact e
      · rw [e]
        exact ih (i + 1) (by omega) (by omega) hI2
theorem m_goAll {T : TD} {h : PH} (hT : wfT T) (hM : MT T h) (x : Int32) : ∃ g, f_X9_goAll x h = some (b01 (goOK T x (h.1 89) (tn T)), hC h 89 g) ∧ (goOK T x (h.1 89) (tn T) = true → g = goV T x (h.1 89) (tn T)) := by
  have w1 := hT.1
  have h0 : h = hC h 89 (goV T x (h.1 89) 0) := by rw [goV, hC_self]
  rw [f_X9_goAll]
  conv => enter [1, g, 1]; lhs; rw [h0]
  refine lp_Pn (fun n a i => f_X9_goAll_4 x n 1 (nI i) a) (fun i => hC h 89 (goV T x (h.1 89) i)) (tn T) (fun o => ∃ g, o = some (b01 (goOK T x (h.1 89) (tn T)), hC h 89 g) ∧ (goOK T x (h.1 89) (tn T) = true → g = goV T x (h.1 89) (tn T))) (fun i => goOK T x (h.1 89) i = true) (fun n hI => ?_) (fun n i hi hn1 hI => ?_) FU 0 (Nat.zero_le _) (FU_gt (by omega)) rfl
  · refine ⟨goV T x (h.1 89) (tn T), ?_, fun _ => rfl⟩
    show f_X9_goAll_4 x (n + 1) _ _ _ = _
    rw [f_X9_goAll_4, (hC_keepM hM (goV T x (h.1 89) (tn T)) (V := 89) rfl (by decide)).1, if_pos (Int32.le_refl _), hI]
    rfl
  · have hk := hC_keepM hM (goV T x (h.1 89) i) (V := 89) rfl (by decide)
    have ecl := m_clashOf hT hk (c := i) hi
    rw [hC_s] at ecl
    have epu := m_goOn hT hk (c := i) hi
    rw [hC_s, hC_hC] at epu
    show (∃ g, f_X9_goAll_4 x (n + 1) 1 (nI i) (hC h 89 (goV T x (h.1 89) i)) = _ ∧ _) ∨ (_ ∧ f_X9_goAll_4 x (n + 1) 1 (nI i) (hC h 89 (goV T x (h.1 89) i)) = f_X9_goAll_4 x n 1 (nI (i + 1)) (hC h 89 (goV T x (h.1 89) (i + 1))))
    rw [f_X9_goAll_4, hk.1, if_neg (by rw [leN (by omega) (by omega)]; omega), if_neg (by decide), has9 x (by omega), bO_some, nI1]
    by_cases hb : bt x i = true
    · rw [if_pos hb, if_neg (by decide), ecl, bP_some]
      by_cases hc : clashM T i (goV T x (h.1 89) i) = 0
      · right
        refine ⟨by rw [goOK, hI, hc]; simp, ?_⟩
        rw [if_pos hc, f_X9_goAll_37, epu, bO_some, nI1, goV, if_pos hb]
      · left
        have hf : goOK T x (h.1 89) (i + 1) = false := by rw [goOK, hb]; simp [hc]
        have hn := goOK_down (n := tn T) (by omega) hf
        refine ⟨segF (goV T x (h.1 89) i) 0 (putM T i (goV T x (h.1 89) i)) 16, ?_, fun z => by rw [hn] at z; cases z⟩
        rw [if_neg hc, f_X9_goAll_37, epu, bO_some, nI1, hn]
        cases n with
        | zero => omega
        | succ n =>
          rw [f_X9_goAll_4]
          split
          · rfl
          · rw [if_pos rfl]; rfl
    · right
      refine ⟨by rw [goOK, hI]; simp [hb], ?_⟩
      rw [if_neg hb, if_pos rfl, goV, if_neg hb]
