/-! ===== orders: the model's search; the class's table of parts ===== -/
theorem rnk_lt {k : Nat} (hk : k ≤ 8) {ok : Nat → Nat → Bool} {q : Nat → Nat} (P : Pp k k q) (hok : okp ok q k = true) : ∀ n p, p + n = k → (∃ U, Cm k n U (pre q p)) ∧ rnk k ok q n p < wa k ok (pre q p) := by
  have hC : ∀ p, p ≤ k → ∃ U, Cm k (k - p) U (pre q p) := by
    intro p
    induction p with
    | zero => intro _; exact ⟨_, Cm_0 k⟩
    | succ p ih =>
      intro hp
      obtain ⟨U, hU⟩ := ih (by omega)
      have hf : (pre q p).testBit (q p) = false := pre_f (fun t ht => P.2 t p ht (by omega))
      obtain ⟨t, ht, e⟩ := hU.2.2 (q p) (P.1 p (by omega)) hf
      have hU' : Cm k (k - (p + 1) + 1) U (pre q p) := by rw [show k - (p + 1) + 1 = k - p by omega]; exact hU
      have := Cm_del hU' (j := t) (by omega)
      rw [e] at this
      exact ⟨_, this⟩
  intro n
  induction n with
  | zero =>
    intro p hp
    obtain ⟨U, hU⟩ := hC p (by omega)
    rw [show k - p = 0 by omega] at hU
    have hlt : pre q p < 2 ^ k := pre_lt (fun t ht => P.1 t (by omega))
    exact ⟨⟨U, hU⟩, by rw [wa_eq hk ok hlt, if_pos (Cm_full hlt hU)]; exact Nat.zero_lt_one⟩
  | succ n ih =>
    intro p hp
    obtain ⟨U, hU⟩ := hC p (by omega)
    rw [show k - p = n + 1 by omega] at hU
    have hlt : pre q p < 2 ^ k := pre_lt (fun t ht => P.1 t (by omega))
    refine ⟨⟨U, hU⟩, ?_⟩
    have h1 := (ih (p + 1) (by omega)).2
    have hf : (pre q p).testBit (q p) = false := pre_f (fun t ht => P.2 t p ht (by omega))
    have ho : ok (pre q p) (q p) = true := by
      cases e : ok (pre q p) (q p) with
      | true => rfl
      | false =>
        have : okp ok q (p + 1) = false := by rw [okp, e, Bool.and_false]
        rw [okp_mono (by omega) this] at hok; cases hok
    have hw : wb k ok (pre q p) (q p) = wa k ok (pre q (p + 1)) := by rw [wb, hf, ho]; rfl
    rw [rnk, wa_eq hk ok hlt, if_neg (Cm_nfull hU)]
    have := Gs_mono (g := wb k ok (pre q p)) (b := q p + 1) (c := k) (P.1 p (by omega))
    rw [Gs, hw] at this
    omega
theorem m_seek {S : SD} (w : wfS S) {x x3 : Int32} {m : Nat → Nat} (hm : Mb x (tn S.1) m) (h8 : pc x (tn S.1) ≤ 8) {l : Nat} (hl : l < bl S.2.1) {ok : Nat → Nat → Bool} (ho : OK S.1 m (pc x (tn S.1)) (bval S.2.1 l) ok) {g : PH} (cg : RM S g) :
    (∃ (q : Nat → Nat) (h' : PH), Pp (pc x (tn S.1)) (pc x (tn S.1)) q ∧ okp ok q (pc x (tn S.1)) = true ∧ x3 = nI (rnk (pc x (tn S.1)) ok q (pc x (tn S.1)) 0) ∧ RW g (pc x (tn S.1)) (fun t => m (q t)) h' ∧ f_X9_seek (nI l) x x3 g = some (x3, h'))
    ∨ ((∀ e, e < wa (pc x (tn S.1)) ok 0 → x3 ≠ nI e) ∧ ∃ h', f_X9_seek (nI l) x x3 g = some (nI (wa (pc x (tn S.1)) ok 0), h') ∧ keepM g h') := by
  obtain ⟨k, hk⟩ : ∃ k, k = pc x (tn S.1) := ⟨_, rfl⟩
  obtain ⟨h1, e1, R1⟩ := m_fill w hm h8 cg
  rw [← hk] at h8 ho R1 ⊢
  have hm1 : ∀ i, i < k → m i < tn S.1 := fun i hi => (hm i (hk ▸ hi)).1
  have hm2 : ∀ i j, i < j → j < k → m i < m j := fun i j h h' => hm.lt (hk ▸ h') h
  have hF : fc k ≤ 40320 := fc8 k (by omega)
  have hFU : FU - fc k + fc k = FU := Nat.sub_add_cancel (Nat.le_of_lt (FU_gt (by omega)))
  have hs : ∀ h, f_X9_seek_11 (nI l) x3 (FU - fc k + fc k) (nI 0) 1 h = f_X9_seek_11 (nI l) x3 FU 0 1 h := fun h => by rw [hFU]; rfl
  rcases m_block (x3 := x3) w h8 hm1 hm2 hl ho cg k (fun t => t) 0 (fun t => t) 0 h1 (Nat.zero_add k) ⟨fun t ht => absurd ht (Nat.not_lt_zero t), fun t u _ hu => absurd hu (Nat.not_lt_zero u)⟩ (Cm_0 k) (fun t _ => Nat.zero_add t) R1 with ⟨q, h', z1, z2, z3, z4, z5, z6⟩ | ⟨y, q, h', z2, z3, z5, z6⟩
  · refine Or.inl ⟨q, h', z1, z3, by rw [Nat.zero_add] at z4; exact z4, z5, ?_⟩
    rw [f_X9_seek, e1, bO_some, ← hs]; exact z6 _
  · refine Or.inr ⟨fun e he => by have := y e he; rwa [Nat.zero_add] at this, h', ?_, z5.1⟩
    have hq : ∀ t, t < k → q t = k - 1 - t := fun t ht => by have := z3 t ht; rwa [Nat.zero_add] at this
    rw [f_X9_seek, e1, bO_some, ← hs]
    refine (z6 (FU - fc k)).trans ?_
    rw [f_X9_seek_36, m_last h8 (fun t ht => Nat.lt_of_lt_of_le (hm1 _ (by rw [hq t ht]; omega)) w.n24) z5 (fun t ht => by
      show m (q (t + 1)) < m (q t)
      rw [hq t (by omega), hq (t + 1) ht]
      exact hm2 _ _ (by omega) (by omega)), bP_some]
    obtain ⟨f, hf⟩ : ∃ f, FU - fc k = f + 1 := ⟨FU - fc k - 1, by have := FU_gt (show fc k < 1000000 by omega); omega⟩
    rw [hf, f_X9_seek_11, if_pos rfl, Nat.zero_add]; rfl
/-! parts as numbers -/
theorem orI : ∀ a, a < 256 → ∀ i, i < 8 → nI a ||| (1 <<< (nI i &&& 31)) = nI (a ||| 2 ^ i) := by decide +kernel
theorem btI : ∀ a, a < 256 → ∀ i, i < 8 → bt (nI a) i = a.testBit i := by decide +kernel
theorem fullI : ∀ k, k < 9 → ((1 : Int32) <<< (nI k &&& 31)) - 1 = nI (2 ^ k - 1) := by decide +kernel
theorem row16 (a : Nat) : nI a * 16 = nI (16 * a) := by rw [show (16 : Int32) = nI 16 from rfl, pk_mul, Nat.mul_comm]
/-- the class's members are set -/
def BS (g : PH) (k : Nat) (m : Nat → Nat) (h : PH) : Prop := keepC g h ∧ h.1 60 2 = nI k ∧ ∀ i, i < k → h.1 61 i = nI (m i)
theorem BS.hU {g : PH} {k : Nat} {m : Nat → Nat} {h : PH} (b : BS g k m h) {V : Nat} (i : Nat) (v : Int32) (hV : scC V = true) (h0 : V ≠ 60) (h1 : V ≠ 61) : BS g k m (hU h V i v) := ⟨b.1.tr (keepC.hU _ _ hV), by rw [hU_n _ _ _ (Ne.symm h0)]; exact b.2.1, fun i hi => by rw [hU_n _ _ _ (Ne.symm h1)]; exact b.2.2 i hi⟩
theorem BS.hC {g : PH} {k : Nat} {m : Nat → Nat} {h : PH} (b : BS g k m h) {V : Nat} (f : Nat → Int32) (hV : scC V = true) (h0 : V ≠ 60) (h1 : V ≠ 61) : BS g k m (hC h V f) := ⟨b.1.tr (keepC.hC _ hV), by rw [hC_n _ _ (Ne.symm h0)]; exact b.2.1, fun i hi => by rw [hC_n _ _ (Ne.symm h1)]; exact b.2.2 i hi⟩
theorem c_members {S : SD} (w : wfS S) {x : Int32} {m : Nat → Nat} (hm : Mb x (tn S.1) m) (h8 : pc x (tn S.1) ≤ 8) (y : Int32) {g : PH} (c : RC S g) : ∃ h1, f_X4_build 32 64 x y g = f_X4_build_65 32 64 y h1 ∧ BS g (pc x (tn S.1)) m h1 := by
  have n24 := w.n24
  rw [f_X4_build, lt'_eq]
  have fin : ∀ i h, i ≤ tn S.1 → pc x i = pc x (tn S.1) → keepC g h → h.1 60 2 = nI (pc x i) → (∀ j, j < i → bt x j = true → h.1 61 (pc x j) = nI j) → BS g (pc x (tn S.1)) m h := fun i h hi hp k1 k2 k3 => by
    refine ⟨k1, by rw [k2, hp], fun t ht => ?_⟩
    have q := hm t ht
    have : m t < i := by
      rcases Nat.lt_or_ge (m t) i with r | r
      · exact r
      · have := pc_mono x r
        rw [q.2.2, hp] at this; omega
    have := k3 (m t) this q.2.1
    rw [q.2.2] at this; exact this
  refine glF (fun n (_ : Unit) i h => f_X4_build_8 32 64 x y n (nI i) h) (fun i _ h => keepC g h ∧ h.1 60 2 = nI (pc x i) ∧ ∀ j, j < i → bt x j = true → h.1 61 (pc x j) = nI j) (tn S.1) (fun o => ∃ h1, o = f_X4_build_65 32 64 y h1 ∧ BS g (pc x (tn S.1)) m h1) (by omega) (fun _ h I n => ?_) (fun i _ h hi I => ?_) (i := 0) (b := ()) (Nat.zero_le _) ⟨keepC.hU _ _ rfl, by rw [hU_s, upd_s]; rfl, fun j hj => absurd hj (Nat.not_lt_zero j)⟩
  · refine ⟨h, ?_, fin _ _ (Nat.le_refl _) rfl I.1 I.2.1 I.2.2⟩
    show f_X4_build_8 32 64 x y (n + 1) (nI (tn S.1)) h = _
    rw [f_X4_build_8, (c.keepC I.1).1.1, if_pos (by rw [leN (by omega) (by omega)]; exact Nat.le_refl _)]
  · obtain ⟨I1, I2, I3⟩ := I
    have hpi := pc_mono x (Nat.le_of_lt hi)
    have e0 : ∀ n, f_X4_build_8 32 64 x y (n + 1) (nI i) h = if (8 : Int32) ≤ nI (pc x i) then f_X4_build_65 32 64 y h else bO (f_X8_has x (nI i)) (fun r32 => if r32 = 0 then ((f_X4_build_8 32 64 x y n) (nI i + 1) h) else (bO (asg h 61 8 (nI (pc x i)) (nI i)) (fun h48 => lt' (hU h48 60 2 ((h48.1 60 2) + 1)) (fun h56 => (f_X4_build_8 32 64 x y n) (nI i + 1) h56)))) := fun n => by
      rw [f_X4_build_8, (c.keepC I1).1.1, if_neg (by rw [leN (by omega) (by omega)]; omega), I2]
    have e8 : ((8 : Int32) ≤ nI (pc x i)) = (8 ≤ pc x i) := leN (a := 8) (by omega) (by omega)
    by_cases h9 : 8 ≤ pc x i
    · refine Or.inl (fun n => ⟨h, ?_, fin i h (by omega) (by omega) I1 I2 I3⟩)
      show f_X4_build_8 32 64 x y (n + 1) (nI i) h = _
      rw [e0 n, if_pos (by rw [e8]; exact h9)]
    refine Or.inr ?_
    by_cases b : bt x i = true
    · refine ⟨(), hU (hU h 61 (pc x i) (nI i)) 60 2 (nI (pc x i + 1)), ⟨?_, ?_, fun j hj bj => ?_⟩, fun n => ?_⟩
      · exact (I1.tr (keepC.hU _ _ rfl)).tr (keepC.hU _ _ rfl)
      · rw [hU_s, upd_s, pc, if_pos b]
      · rw [hU_n _ _ _ (by decide), hU_s]
        by_cases e : j = i
        · subst e; rw [upd_s]
        · have hj2 : j < i := by omega
          have := pc_mono x (show j + 1 ≤ i by omega)
          rw [pc, if_pos bj] at this
          rw [upd_n _ _ (by omega)]; exact I3 j hj2 bj
      · show f_X4_build_8 32 64 x y (n + 1) (nI i) h = f_X4_build_8 32 64 x y n (nI (i + 1)) _
        rw [e0 n, if_neg (by rw [e8]; exact h9), has8 _ (by omega), bO_some, if_pos b, if_neg (by decide), asg_nI _ _ _ (by omega : pc x i < 8) (by omega), bO_some, lt'_eq, hU_n _ _ _ (by decide : (60 : Nat) ≠ 61), I2, nI1, nI1]
    · refine ⟨(), h, ⟨I1, by rw [pc, if_neg b]; exact I2, fun j hj bj => ?_⟩, fun n => ?_⟩
      · by_cases e : j = i
        · subst e; exact absurd bj b
        · exact I3 j (by omega) bj
      · show f_X4_build_8 32 64 x y (n + 1) (nI i) h = f_X4_build_8 32 64 x y n (nI (i + 1)) h
        rw [e0 n, if_neg (by rw [e8]; exact h9), has8 _ (by omega), bO_some, if_neg b, if_pos rfl, nI1]
/-- the table of parts, all before (A, i) done -/
def RS (T : TD) (m : Nat → Nat) (k : Nat) (v0 : Nat → Int32) (ok : Nat → Nat → Bool) (A i : Nat) (h : PH) : Prop :=
  h.1 62 0 = 1 ∧ (∀ a, a < 2 ^ k → h.1 64 a = 0) ∧ (∀ a, a < 2 ^ k → h.1 62 a = 0 ∨ h.1 62 a = 1) ∧
  (∀ a, a < 2 ^ k → h.1 62 a = 1 → Vl T m k v0 a (fun s => h.1 65 (16 * a + s)) ∧ ∃ n U, n ≤ 8 ∧ Cm k n U a) ∧
  (∀ a, A < a → a < 2 ^ k → h.1 63 a = 0) ∧
  (∀ a j, a < 2 ^ k → j < k → h.1 62 a = 1 → (a < A ∨ a = A ∧ j < i) → bt (h.1 63 a) j = (!a.testBit j && ok a j)) ∧
  (∀ j, i ≤ j → j < k → A < 2 ^ k → bt (h.1 63 A) j = false) ∧
  ∀ a j, a < 2 ^ k → j < k → h.1 62 a = 1 → (a < A ∨ a = A ∧ j < i) → (!a.testBit j && ok a j) = true → h.1 62 (a ||| 2 ^ j) = 1
theorem RS_skip {T : TD} {m : Nat → Nat} {k : Nat} {v0 : Nat → Int32} {ok : Nat → Nat → Bool} {A i : Nat} {h : PH} (r : RS T m k v0 ok A i h) (hA : A < 2 ^ k) (hf : (!A.testBit i && ok A i) = false) : RS T m k v0 ok A (i + 1) h := by
  obtain ⟨r1, r2, r3, r4, r5, r6, r7, r8⟩ := r
  refine ⟨r1, r2, r3, r4, r5, fun a j h1 h2 h3 h4 => ?_, fun j h1 h2 h3 => r7 j (by omega) h2 h3, fun a j h1 h2 h3 h4 h5 => ?_⟩
  · by_cases e : a = A ∧ j = i
    · obtain ⟨rfl, rfl⟩ := e
      rw [hf]; exact r7 j (Nat.le_refl _) h2 hA
    · exact r6 a j h1 h2 h3 (by omega)
  · by_cases e : a = A ∧ j = i
    · obtain ⟨rfl, rfl⟩ := e
      rw [hf] at h5; cases h5
    · exact r8 a j h1 h2 h3 (by omega) h5
theorem RS_step {T : TD} {m : Nat → Nat} {k : Nat} {v0 : Nat → Int32} {ok : Nat → Nat → Bool} {A i : Nat} {h H : PH} (hk : k ≤ 8) (r : RS T m k v0 ok A i h) (hA : A < 2 ^ k) (hi : i < k) (hR : h.1 62 A = 1) (hf : A.testBit i = false) (hok : ok A i = true) (hc : clashM T (m i) (fun s => h.1 65 (16 * A + s)) = 0)
    (H64 : H.1 64 = h.1 64) (H63 : H.1 63 = upd (h.1 63) A (h.1 63 A ||| (1 <<< (nI i &&& 31)))) (H62 : ∀ a, H.1 62 a = if a = A ||| 2 ^ i then 1 else h.1 62 a) (H65 : ∀ a s, s < 16 → (a ≠ A ||| 2 ^ i ∨ h.1 62 (A ||| 2 ^ i) = 1) → H.1 65 (16 * a + s) = h.1 65 (16 * a + s)) (H65b : h.1 62 (A ||| 2 ^ i) ≠ 1 → ∀ s, s < 16 → H.1 65 (16 * (A ||| 2 ^ i) + s) = putM T (m i) (fun s => h.1 65 (16 * A + s)) s) : RS T m k v0 ok A (i + 1) H := by
  obtain ⟨r1, r2, r3, r4, r5, r6, r7, r8⟩ := r
  have p2 := p28 hk
  have hAb := orp A (by omega) i (by omega) hf
  have hb := or_lt hA hi
  have up : ∀ a, h.1 62 a = 1 → H.1 62 a = 1 := fun a e => by rw [H62]; split; rfl; exact e
  refine ⟨up 0 r1, fun a ha => by rw [H64]; exact r2 a ha, fun a ha => ?_, fun a ha e => ?_, fun a h1 h2 => by rw [H63, upd_n _ _ (by omega)]; exact r5 a h1 h2, fun a j h1 h2 h3 h4 => ?_, fun j h1 h2 h3 => ?_, fun a j h1 h2 h3 h4 h5 => ?_⟩
  · rw [H62]; split
    · exact Or.inr rfl
    · exact r3 a ha
  · by_cases eb : a = A ||| 2 ^ i
    · by_cases e1 : h.1 62 (A ||| 2 ^ i) = 1
      · rw [eb]
        obtain ⟨g1, g2⟩ := r4 _ hb e1
        exact ⟨Vl_cg (fun s hs => (H65 _ s hs (Or.inr e1)).symm) g1, g2⟩
      · rw [eb]
        obtain ⟨g1, n, U, g2, g3⟩ := r4 A hA hR
        refine ⟨Vl_cg (fun s hs => (H65b e1 s hs).symm) (Vl_s hi hf hc g1), ?_⟩
        obtain ⟨t, ht, et⟩ := g3.2.2 i hi hf
        obtain ⟨n', rfl⟩ : ∃ n', n = n' + 1 := ⟨n - 1, by omega⟩
        have := Cm_del g3 (j := t) (by omega)
        rw [et] at this
        exact ⟨n', _, by omega, this⟩
    · rw [H62, if_neg eb] at e
      obtain ⟨g1, g2⟩ := r4 a ha e
      exact ⟨Vl_cg (fun s hs => (H65 _ s hs (Or.inl eb)).symm) g1, g2⟩
  · by_cases eA : a = A
    · subst eA
      rw [H63, upd_s, bt_or, bt_one i (by omega) j (by omega)]
      by_cases ej : j = i
      · subst ej; rw [decide_eq_true rfl, Bool.or_true, hf, hok]; rfl
      · rw [decide_eq_false ej, Bool.or_false]; exact r6 a j h1 h2 hR (by omega)
    · rw [H63, upd_n _ _ eA]
      by_cases eb : a = A ||| 2 ^ i
      · omega
      · rw [H62, if_neg eb] at h3
        exact r6 a j h1 h2 h3 (by omega)
  · rw [H63, upd_s, bt_or, bt_one i (by omega) j (by omega), decide_eq_false (by omega), Bool.or_false]
    exact r7 j (by omega) h2 h3
  · by_cases eA : a = A ∧ j = i
    · obtain ⟨rfl, rfl⟩ := eA
      rw [H62, if_pos rfl]
    · by_cases eb : a = A ||| 2 ^ i
      · omega
      · rw [H62, if_neg eb] at h3
        exact up _ (r8 a j h1 h2 h3 (by omega) h5)
