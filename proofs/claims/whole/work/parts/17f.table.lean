/-! ===== orders: the class builds its table ===== -/
section
variable {S : SD} {m : Nat → Nat} {k l : Nat} {ok : Nat → Nat → Bool} {g : PH}
theorem c_further (w : wfS S) (hk : k ≤ 8) (hm : ∀ i, i < k → m i < tn S.1) (ho : OK S.1 m k (bval S.2.1 l) ok) (c : RC S g) {A : Nat} (hA : A < 2 ^ k) {h : PH} (b : BS g k m h) (r : RS S.1 m k (bval S.2.1 l) ok A 0 h) (hR : h.1 62 A = 1) : ∃ h', f_X4_goFurther (nI A) h = some h' ∧ BS g k m h' ∧ RS S.1 m k (bval S.2.1 l) ok A k h' ∧ h'.1 62 A = 1 := by
  have p2 := p28 hk
  rw [f_X4_goFurther]
  refine glF (fun n (_ : Unit) i h => f_X4_goFurther_2 (nI A) n (nI i) h) (fun i _ h => BS g k m h ∧ RS S.1 m k (bval S.2.1 l) ok A i h ∧ h.1 62 A = 1) k (fun o => ∃ h', o = some h' ∧ BS g k m h' ∧ RS S.1 m k (bval S.2.1 l) ok A k h' ∧ h'.1 62 A = 1) (by omega) (fun _ h I n => ?_) (fun i _ h hi I => Or.inr ?_) (i := 0) (b := ()) (Nat.zero_le _) ⟨b, r, hR⟩
  · refine ⟨h, ?_, I⟩
    show f_X4_goFurther_2 (nI A) (n + 1) (nI k) h = _
    rw [f_X4_goFurther_2, I.1.2.1, if_pos (by rw [leN (by omega) (by omega)]; exact Nat.le_refl _)]
  · obtain ⟨I1, I2, I3⟩ := I
    have st : ∀ n, f_X4_goFurther_2 (nI A) (n + 1) (nI i) h = (bO (f_X8_has (nI A) (nI i)) (fun r12 => if r12 = 0 then (bO (ag h 61 8 (nI i)) (fun v27 => bP (f_X7_clashOf 4 65 4096 v27 (nI A) h) (fun r33 h33 => if r33 = 0 then (lt' ((nI A ||| (1 <<< (nI i &&& 31)))) (fun x3_44 => bO (ag h33 63 256 (nI A)) (fun v51 => bO (asg h33 63 256 (nI A) (v51 ||| (1 <<< (nI i &&& 31)))) (fun h56 => bO (ag h56 62 256 x3_44) (fun v62 => if v62 = 0 then (bO (asg h56 62 256 x3_44 (vp_nar .boolean 1)) (fun h72 => bO (cpy h72 65 4096 (nI A * 16) 65 4096 (x3_44 * 16) 16) (fun h91 => bO (ag h91 61 8 (nI i)) (fun v103 => bO (f_X7_putOn 4 65 4096 v103 x3_44 h91) (fun h109 => (f_X4_goFurther_2 (nI A) n) (nI i + 1) h109))))) else ((f_X4_goFurther_2 (nI A) n) (nI i + 1) h56)))))) else ((f_X4_goFurther_2 (nI A) n) (nI i + 1) h33)))) else ((f_X4_goFurther_2 (nI A) n) (nI i + 1) h))) := fun n => by
      rw [f_X4_goFurther_2, I1.2.1, if_neg (by rw [leN (by omega) (by omega)]; omega)]
    have cc := c.keepC I1.1
    by_cases hf : A.testBit i = true
    · refine ⟨(), h, ⟨I1, RS_skip I2 hA (by rw [hf]; rfl), I3⟩, fun n => ?_⟩
      show f_X4_goFurther_2 (nI A) (n + 1) (nI i) h = f_X4_goFurther_2 (nI A) n (nI (i + 1)) h
      rw [st n, has8 _ (by omega), bO_some, btI A (by omega) i (by omega), if_pos hf, if_neg (by decide), nI1]
    · have hf' : A.testBit i = false := by simpa using hf
      have hcl := c_clashOf w.1 cc.1 (hm i hi) (V := 65) (N := 4096) (r := A) (by omega) (by omega)
      have hoi := ho A _ (I2.2.2.2.1 A hA I3).1 i
      by_cases hok : ok A i = true
      · have hc0 := hoi.mpr hok
        have hb := or_lt hA hi
        have hAb := orp A (by omega) i (by omega) hf'
        obtain ⟨B, hB⟩ : ∃ B, B = A ||| 2 ^ i := ⟨_, rfl⟩
        rw [← hB] at hb hAb
        obtain ⟨h1, hh1⟩ : ∃ h1, h1 = hU h 63 A (h.1 63 A ||| (1 <<< (nI i &&& 31))) := ⟨_, rfl⟩
        have b1 : BS g k m h1 := by rw [hh1]; exact I1.hU _ _ rfl (by decide) (by decide)
        have s1 : ∀ V, V ≠ 63 → h1.1 V = h.1 V := fun V hV => by rw [hh1, hU_n _ _ _ hV]
        have s63 : h1.1 63 = upd (h.1 63) A (h.1 63 A ||| (1 <<< (nI i &&& 31))) := by rw [hh1, hU_s]
        have st1 : ∀ n, f_X4_goFurther_2 (nI A) (n + 1) (nI i) h = if h.1 62 B = 0 then (bO (asg h1 62 256 (nI B) (vp_nar .boolean 1)) (fun h72 => bO (cpy h72 65 4096 (nI A * 16) 65 4096 (nI B * 16) 16) (fun h91 => bO (ag h91 61 8 (nI i)) (fun v103 => bO (f_X7_putOn 4 65 4096 v103 (nI B) h91) (fun h109 => (f_X4_goFurther_2 (nI A) n) (nI i + 1) h109))))) else ((f_X4_goFurther_2 (nI A) n) (nI i + 1) h1) := fun n => by
          rw [st n, has8 _ (by omega), bO_some, btI A (by omega) i (by omega), if_neg hf, if_pos rfl, ag_nI _ _ (by omega : i < 8) (by omega), bO_some, I1.2.2 i hi, hcl, bP_some, if_pos hc0, lt'_eq, ag_nI _ _ (by omega : A < 256) (by omega), bO_some, asg_nI _ _ _ (by omega : A < 256) (by omega), bO_some, orI A (by omega) i (by omega), ← hB, ← hh1, ag_nI _ _ (by omega : B < 256) (by omega), bO_some, s1 62 (by decide)]
        by_cases hz : h.1 62 B = 0
        · obtain ⟨h2, hh2⟩ : ∃ h2, h2 = hU h1 62 B 1 := ⟨_, rfl⟩
          have b2 : BS g k m h2 := by rw [hh2]; exact b1.hU _ _ rfl (by decide) (by decide)
          have a2 : asg h1 62 256 (nI B) (vp_nar .boolean 1) = some h2 := by rw [hh2]; exact asg_nI h1 62 1 (by omega : B < 256) (by omega)
          obtain ⟨h3, hh3⟩ : ∃ h3, h3 = hC h2 65 (segF (h2.1 65) (16 * B) (fun s => h2.1 65 (16 * A + s)) 16) := ⟨_, rfl⟩
          have b3 : BS g k m h3 := by rw [hh3]; exact b2.hC _ rfl (by decide) (by decide)
          have a3 : cpy h2 65 4096 (nI A * 16) 65 4096 (nI B * 16) 16 = some h3 := by
            rw [row16, row16, hh3]
            exact cpy_nI h2 65 65 (n := 4096) (m := 4096) (sp := 16 * A) (dp := 16 * B) (len := 16) (by omega) (by omega) (by omega) (by omega)
          have cc3 := c.keepC b3.1
          have a4 := c_putOn w.1 cc3.1 (hm i hi) (V := 65) (N := 4096) (r := B) rfl (by omega) (by omega)
          obtain ⟨H, hH⟩ : ∃ H, H = hC h3 65 (segF (h3.1 65) (16 * B) (putM S.1 (m i) (fun s => h3.1 65 (16 * B + s))) 16) := ⟨_, rfl⟩
          rw [← hH] at a4
          have e62 : H.1 62 = upd (h.1 62) B 1 := by
            rw [hH, hC_n _ _ (by decide), hh3, hC_n _ _ (by decide), hh2, hU_s, s1 62 (by decide)]
          have e63 : H.1 63 = upd (h.1 63) A (h.1 63 A ||| (1 <<< (nI i &&& 31))) := by
            rw [hH, hC_n _ _ (by decide), hh3, hC_n _ _ (by decide), hh2, hU_n _ _ _ (by decide), s63]
          have e64 : H.1 64 = h.1 64 := by
            rw [hH, hC_n _ _ (by decide), hh3, hC_n _ _ (by decide), hh2, hU_n _ _ _ (by decide), s1 64 (by decide)]
          have e2 : h2.1 65 = h.1 65 := by rw [hh2, hU_n _ _ _ (by decide), s1 65 (by decide)]
          have e3 : ∀ s, s < 16 → h3.1 65 (16 * B + s) = h.1 65 (16 * A + s) := fun s hs => by
            rw [hh3, hC_s, segF_in hs, e2]
          have e62B : ∀ a, H.1 62 a = if a = A ||| 2 ^ i then 1 else h.1 62 a := fun a => by
            rw [e62, ← hB]
            by_cases e : a = B
            · rw [if_pos e, e, upd_s]
            · rw [if_neg e, upd_n _ _ e]
          refine ⟨(), H, ⟨by rw [hH]; exact b3.hC _ rfl (by decide) (by decide), RS_step hk I2 hA hi I3 hf' hok hc0 e64 e63 e62B (fun a s hs ha => ?_) (fun _ s hs => ?_), ?_⟩, fun n => ?_⟩
          · have ha : a ≠ B := by
              rcases ha with ha | ha
              · rw [hB]; exact ha
              · rw [← hB, hz] at ha; exact absurd ha (by decide)
            rw [hH, hC_s, segF_out (by omega), hh3, hC_s, segF_out (by omega), e2]
          · rw [← hB, hH, hC_s, segF_in hs]
            exact putM_congr e3 s hs
          · rw [e62B, ← hB, if_neg (by omega)]; exact I3
          · show f_X4_goFurther_2 (nI A) (n + 1) (nI i) h = f_X4_goFurther_2 (nI A) n (nI (i + 1)) H
            rw [st1 n, if_pos hz, a2, bO_some, a3, bO_some, ag_nI _ _ (by omega : i < 8) (by omega), bO_some, b3.2.2 i hi, a4, bO_some, nI1]
        · have hz1 : h.1 62 B = 1 := (I2.2.2.1 B hb).resolve_left hz
          refine ⟨(), h1, ⟨b1, RS_step hk I2 hA hi I3 hf' hok hc0 (s1 64 (by decide)) s63 (fun a => ?_) (fun a s hs _ => by rw [s1 65 (by decide)]) (fun e => absurd (hB ▸ hz1) e), by rw [s1 62 (by decide)]; exact I3⟩, fun n => ?_⟩
          · rw [s1 62 (by decide), ← hB]
            split
            · next e => rw [e, hz1]
            · rfl
          · show f_X4_goFurther_2 (nI A) (n + 1) (nI i) h = f_X4_goFurther_2 (nI A) n (nI (i + 1)) h1
            rw [st1 n, if_neg hz, nI1]
      · have hok' : ok A i = false := by simpa using hok
        refine ⟨(), h, ⟨I1, RS_skip I2 hA (by rw [hok', Bool.and_false]), I3⟩, fun n => ?_⟩
        show f_X4_goFurther_2 (nI A) (n + 1) (nI i) h = f_X4_goFurther_2 (nI A) n (nI (i + 1)) h
        rw [st n, has8 _ (by omega), bO_some, btI A (by omega) i (by omega), if_neg hf, if_pos rfl, ag_nI _ _ (by omega : i < 8) (by omega), bO_some, I1.2.2 i hi, hcl, bP_some, if_neg (fun e => hok (hoi.mp e)), nI1]
theorem RS_next {T : TD} {v0 : Nat → Int32} {A : Nat} {h : PH} (hA : A < 2 ^ k) (r : RS T m k v0 ok A k h ∨ RS T m k v0 ok A 0 h ∧ h.1 62 A = 0) : RS T m k v0 ok (A + 1) 0 h := by
  rcases r with ⟨r1, r2, r3, r4, r5, r6, r7, r8⟩ | ⟨⟨r1, r2, r3, r4, r5, r6, r7, r8⟩, hz⟩
  · refine ⟨r1, r2, r3, r4, fun a h1 h2 => r5 a (by omega) h2, fun a j h1 h2 h3 h4 => r6 a j h1 h2 h3 (by omega), fun j h1 h2 h3 => ?_, fun a j h1 h2 h3 h4 => r8 a j h1 h2 h3 (by omega)⟩
    rw [r5 (A + 1) (by omega) h3, bt_zero]
  · have nA : ∀ a, h.1 62 a = 1 → a ≠ A := fun a e e2 => by rw [e2, hz] at e; exact absurd e (by decide)
    refine ⟨r1, r2, r3, r4, fun a h1 h2 => r5 a (by omega) h2, fun a j h1 h2 h3 h4 => r6 a j h1 h2 h3 (by have := nA a h3; omega), fun j h1 h2 h3 => ?_, fun a j h1 h2 h3 h4 => r8 a j h1 h2 h3 (by have := nA a h3; omega)⟩
    rw [r5 (A + 1) (by omega) h3, bt_zero]
/-- the table with its ways -/
def WS (g : PH) (k : Nat) (m : Nat → Nat) (ok : Nat → Nat → Bool) (h : PH) : Prop := BS g k m h ∧ h.1 62 0 = 1 ∧
  (∀ a j, a < 2 ^ k → j < k → h.1 62 a = 1 → bt (h.1 63 a) j = (!a.testBit j && ok a j)) ∧
  (∀ a j, a < 2 ^ k → j < k → h.1 62 a = 1 → (!a.testBit j && ok a j) = true → h.1 62 (a ||| 2 ^ j) = 1) ∧
  (∀ a, a < 2 ^ k → h.1 62 a = 1 → ∃ n U, n ≤ 8 ∧ Cm k n U a)
theorem WS.w64 {h h' : PH} (r : WS g k m ok h) (b : BS g k m h') (e : ∀ V, V ≠ 64 → h'.1 V = h.1 V) : WS g k m ok h' := by
  obtain ⟨r1, r2, r3, r4, r5⟩ := r
  refine ⟨b, ?_, ?_, ?_, ?_⟩ <;> rw [e 62 (by decide)] <;> first | assumption | (rw [e 63 (by decide)]; assumption)
theorem c_ways (hk : k ≤ 8) {h : PH} (r : WS g k m ok h) (h0 : ∀ a, a < 2 ^ k → h.1 64 a = 0) : ∃ h', f_X4_countWays (nI (2 ^ k - 1)) h = some h' ∧ WS g k m ok h' ∧ ∀ a, a < 2 ^ k → h'.1 62 a = 1 → h'.1 64 a = nI (wa k ok a) := by
  have p2 := p28 hk
  have p1 := Nat.two_pow_pos k
  have inner : ∀ A, A + 1 < 2 ^ k → ∀ k11 : Int32 → PH → Option PH, ∀ h, WS g k m ok h → h.1 64 A = 0 → (∀ a, A < a → a < 2 ^ k → h.1 62 a = 1 → h.1 64 a = nI (wa k ok a)) → ∃ h', f_X4_countWays_17 (nI A) k11 FU 0 h = k11 (nI A + (-1)) h' ∧ WS g k m ok h' ∧ (∀ a, a ≠ A → h'.1 64 a = h.1 64 a) ∧ h'.1 62 = h.1 62 ∧ (h'.1 62 A = 1 → h'.1 64 A = nI (wa k ok A)) := by
    intro A hA k11 h r hz hd
    refine glF (fun n (_ : Unit) i h => f_X4_countWays_17 (nI A) k11 n (nI i) h) (fun i _ h' => WS g k m ok h' ∧ (∀ a, a ≠ A → h'.1 64 a = h.1 64 a) ∧ h'.1 62 = h.1 62 ∧ (h'.1 62 A = 1 → h'.1 64 A = nI (Gs (wb k ok A) i))) k (fun o => ∃ h', o = k11 (nI A + (-1)) h' ∧ WS g k m ok h' ∧ (∀ a, a ≠ A → h'.1 64 a = h.1 64 a) ∧ h'.1 62 = h.1 62 ∧ (h'.1 62 A = 1 → h'.1 64 A = nI (wa k ok A))) (by omega) (fun _ h' I n => ?_) (fun i _ h' hi I => Or.inr ?_) (i := 0) (b := ()) (Nat.zero_le _) ⟨r, fun _ _ => rfl, rfl, fun _ => hz⟩
    · refine ⟨h', ?_, I.1, I.2.1, I.2.2.1, fun e => ?_⟩
      · show f_X4_countWays_17 (nI A) k11 (n + 1) (nI k) h' = _
        rw [f_X4_countWays_17, I.1.1.2.1, if_pos (by rw [leN (by omega) (by omega)]; exact Nat.le_refl _)]
      · rw [I.2.2.2 e, wa_eq hk ok (by omega), if_neg (by omega)]
    · obtain ⟨I1, I2, I3, I4⟩ := I
      have st : ∀ n, f_X4_countWays_17 (nI A) k11 (n + 1) (nI i) h' = if bt (h'.1 63 A) i = true then f_X4_countWays_17 (nI A) k11 n (nI (i + 1)) (hU h' 64 A (h'.1 64 A + h'.1 64 (A ||| 2 ^ i))) else f_X4_countWays_17 (nI A) k11 n (nI (i + 1)) h' := fun n => by
        have hb := or_lt (a := A) (by omega) hi
        rw [f_X4_countWays_17, I1.1.2.1, if_neg (by rw [leN (by omega) (by omega)]; omega), ag_nI _ _ (by omega : A < 256) (by omega), bO_some, has8 _ (by omega), bO_some]
        by_cases e : bt (h'.1 63 A) i = true
        · rw [if_pos e, if_pos e, if_neg (by decide), ag_nI _ _ (by omega : A < 256) (by omega), bO_some, orI A (by omega) i (by omega), ag_nI _ _ (by omega : A ||| 2 ^ i < 256) (by omega), bO_some, asg_nI _ _ _ (by omega : A < 256) (by omega), bO_some, nI1]
        · rw [if_neg e, if_neg e, if_pos rfl, nI1]
      by_cases e : bt (h'.1 63 A) i = true
      · refine ⟨(), hU h' 64 A (h'.1 64 A + h'.1 64 (A ||| 2 ^ i)), ⟨I1.w64 (I1.1.hU _ _ rfl (by decide) (by decide)) (fun V hV => hU_n _ _ _ hV), fun a ha => by rw [hU_s, upd_n _ _ ha]; exact I2 a ha, by rw [hU_n _ _ _ (by decide)]; exact I3, fun e1 => ?_⟩, fun n => ?_⟩
        · rw [hU_n _ _ _ (by decide)] at e1
          have q := I1.2.2.1 A i (by omega) hi e1
          rw [e] at q
          have q1 : A.testBit i = false := by
            have := q.symm
            rw [Bool.and_eq_true] at this
            simpa using this.1
          have hAb := orp A (by omega) i (by omega) q1
          have hR := I1.2.2.2.1 A i (by omega) hi e1 q.symm
          rw [hU_s, upd_s, I4 e1, I2 _ (by omega), hd _ hAb (or_lt (by omega) hi) (by rw [← I3]; exact hR), nI_add, Gs, wb, if_pos q.symm]
        · show f_X4_countWays_17 (nI A) k11 (n + 1) (nI i) h' = _
          rw [st n, if_pos e]
      · refine ⟨(), h', ⟨I1, I2, I3, fun e1 => ?_⟩, fun n => ?_⟩
        · have q := I1.2.2.1 A i (by omega) hi e1
          rw [I4 e1, Gs, wb, if_neg (by rw [← q]; exact e), Nat.add_zero]
        · show f_X4_countWays_17 (nI A) k11 (n + 1) (nI i) h' = _
          rw [st n, if_neg e]
  have outer : ∀ A n h, A < n → A < 2 ^ k → WS g k m ok h → (∀ a, a < A → h.1 64 a = 0) → (∀ a, A ≤ a → a < 2 ^ k → h.1 62 a = 1 → h.1 64 a = nI (wa k ok a)) → ∃ h', f_X4_countWays_11 n (nI A + (-1)) h = some h' ∧ WS g k m ok h' ∧ ∀ a, a < 2 ^ k → h'.1 62 a = 1 → h'.1 64 a = nI (wa k ok a) := by
    intro A
    induction A with
    | zero =>
      intro n h hn _ r _ hd
      obtain ⟨n, rfl⟩ : ∃ n', n = n' + 1 := ⟨n - 1, by omega⟩
      exact ⟨h, by rw [f_X4_countWays_11, if_pos (by decide)], r, fun a ha => hd a (Nat.zero_le _) ha⟩
    | succ A ih =>
      intro n h hn hA r hz hd
      obtain ⟨n, rfl⟩ : ∃ n', n = n' + 1 := ⟨n - 1, by omega⟩
      obtain ⟨h', e1, r', z1, z0, z2⟩ := inner A (by omega) (f_X4_countWays_11 n) h r (hz A (by omega)) (fun a h1 h2 => hd a (by omega) h2)
      rw [nIm1, f_X4_countWays_11, if_neg (nI_pos (by omega)), e1]
      refine ih n h' (by omega) (by omega) r' (fun a ha => by rw [z1 a (by omega)]; exact hz a (by omega)) (fun a h1 h2 h3 => ?_)
      by_cases ea : a = A
      · subst ea; exact z2 h3
      · rw [z1 a ea]
        refine hd a (by omega) h2 ?_
        rw [← z0]; exact h3
  rw [f_X4_countWays, asg_nI _ _ _ (by omega : 2 ^ k - 1 < 256) (by omega), bO_some, lt'_eq]
  have e := outer (2 ^ k - 1) FU (hU h 64 (2 ^ k - 1) 1) (FU_gt (by omega)) (by omega) (r.w64 (r.1.hU _ _ rfl (by decide) (by decide)) (fun V hV => hU_n _ _ _ hV)) (fun a ha => by rw [hU_s, upd_n _ _ (by omega)]; exact h0 a (by omega)) (fun a h1 h2 _ => by
    have : a = 2 ^ k - 1 := by omega
    subst this
    rw [hU_s, upd_s, wa_eq hk ok h2, if_pos rfl]; rfl)
  rw [show nI (2 ^ k - 1) - 1 = nI (2 ^ k - 1) + (-1) by rw [Int32.sub_eq_add_neg]]
  exact e
end
