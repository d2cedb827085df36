/-! ===== orders: the class's answers ===== -/
section
variable {S : SD} {m : Nat → Nat} {l : Nat} {ok : Nat → Nat → Bool} {g : PH} {x : Int32}
theorem c_table (w : wfS S) (hm : Mb x (tn S.1) m) (h8 : pc x (tn S.1) ≤ 8) (hl : l < bl S.2.1) (ho : OK S.1 m (pc x (tn S.1)) (bval S.2.1 l) ok) (c : RC S g) : ∃ h', f_X4_build 32 64 x (nI l) g = some h' ∧ WS g (pc x (tn S.1)) m ok h' ∧ ∀ a, a < 2 ^ pc x (tn S.1) → h'.1 62 a = 1 → h'.1 64 a = nI (wa (pc x (tn S.1)) ok a) := by
  obtain ⟨h1, e1, b1⟩ := c_members w hm h8 (nI l) c
  obtain ⟨k, hk⟩ : ∃ k, k = pc x (tn S.1) := ⟨_, rfl⟩
  have hm1 : ∀ i, i < k → m i < tn S.1 := fun i hi => (hm i (hk ▸ hi)).1
  rw [← hk] at h8 ho b1 ⊢
  have p2 := p28 h8
  have p1 := Nat.two_pow_pos k
  have b4 := w.b4
  rw [e1, f_X4_build_65, b1.2.1, f_X8_firstOnes, bO_some, fullI k (by omega)]
  refine glF (fun n (_ : Unit) a h => f_X4_build_77 32 64 (nI l) (nI (2 ^ k - 1)) n (nI a) h) (fun A _ h => BS g k m h ∧ ∀ a, a < A → h.1 62 a = 0 ∧ h.1 63 a = 0 ∧ h.1 64 a = 0) (2 ^ k) (fun o => ∃ h', o = some h' ∧ WS g k m ok h' ∧ ∀ a, a < 2 ^ k → h'.1 62 a = 1 → h'.1 64 a = nI (wa k ok a)) (by omega) (fun _ h I n => ?_) (fun A _ h hA I => Or.inr ?_) (i := 0) (b := ()) (Nat.zero_le _) ⟨b1, fun a ha => absurd ha (Nat.not_lt_zero a)⟩
  · obtain ⟨I1, I2⟩ := I
    obtain ⟨h2, hh2⟩ : ∃ h2, h2 = hU h 62 0 1 := ⟨_, rfl⟩
    have a2 : asg h 62 256 0 (vp_nar .boolean 1) = some h2 := by rw [hh2]; exact asg_nI (i := 0) h 62 1 (by omega) (by omega)
    have b2 : BS g k m h2 := by rw [hh2]; exact I1.hU _ _ rfl (by decide) (by decide)
    obtain ⟨h3, hh3⟩ : ∃ h3, h3 = hC h2 65 (segF (h2.1 65) 0 (fun s => h2.1 32 (16 * l + s)) 16) := ⟨_, rfl⟩
    have a3 : cpy h2 32 64 (nI l * 16) 65 4096 0 16 = some h3 := by
      rw [row16, hh3]
      exact cpy_nI h2 32 65 (n := 64) (m := 4096) (sp := 16 * l) (dp := 0) (len := 16) (by omega) (by omega) (by omega) (by omega)
    have b3 : BS g k m h3 := by rw [hh3]; exact b2.hC _ rfl (by decide) (by decide)
    have c3 := c.keepC b3.1
    have f62 : h3.1 62 = upd (h.1 62) 0 1 := by rw [hh3, hC_n _ _ (by decide), hh2, hU_s]
    have f63 : h3.1 63 = h.1 63 := by rw [hh3, hC_n _ _ (by decide), hh2, hU_n _ _ _ (by decide)]
    have f64 : h3.1 64 = h.1 64 := by rw [hh3, hC_n _ _ (by decide), hh2, hU_n _ _ _ (by decide)]
    have f65 : ∀ s, s < 16 → h3.1 65 (16 * 0 + s) = bval S.2.1 l s := fun s hs => by
      rw [Nat.mul_zero, Nat.zero_add, hh3, hC_s, segF_in0 hs]
      exact ((c.keepC b2.1).2.1.2.2.1 l hl).2.2.2 s hs
    have only0 : ∀ a, a < 2 ^ k → h3.1 62 a = 1 → a = 0 := fun a ha e => by
      by_cases ea : a = 0
      · exact ea
      · rw [f62, upd_n _ _ ea, (I2 a ha).1] at e; exact absurd e (by decide)
    have r0 : RS S.1 m k (bval S.2.1 l) ok 0 0 h3 := by
      refine ⟨by rw [f62, upd_s], fun a ha => by rw [f64]; exact (I2 a ha).2.2, fun a ha => ?_, fun a ha e => ?_, fun a _ ha => by rw [f63]; exact (I2 a ha).2.1, fun a j _ _ _ h4 => by omega, fun j _ _ h3 => by rw [f63, (I2 0 h3).2.1, bt_zero], fun a j _ _ _ h4 => by omega⟩
      · by_cases ea : a = 0
        · subst ea; rw [f62, upd_s]; exact Or.inr rfl
        · rw [f62, upd_n _ _ ea]; exact Or.inl (I2 a ha).1
      · have := only0 a ha e
        subst this
        exact ⟨Vl_cg (fun s hs => (f65 s hs).symm) (Vl_0 _ _ _ _), k, _, h8, Cm_0 k⟩
    have go : ∃ h', f_X4_build_139 32 64 (nI (2 ^ k - 1)) FU 0 h3 = some h' ∧ WS g k m ok h' ∧ ∀ a, a < 2 ^ k → h'.1 62 a = 1 → h'.1 64 a = nI (wa k ok a) := by
      refine glF (fun n (_ : Unit) a h => f_X4_build_139 32 64 (nI (2 ^ k - 1)) n (nI a) h) (fun A _ h => BS g k m h ∧ RS S.1 m k (bval S.2.1 l) ok A 0 h) (2 ^ k) (fun o => ∃ h', o = some h' ∧ WS g k m ok h' ∧ ∀ a, a < 2 ^ k → h'.1 62 a = 1 → h'.1 64 a = nI (wa k ok a)) (by omega) (fun _ h I n => ?_) (fun A _ h hA I => Or.inr ?_) (i := 0) (b := ()) (Nat.zero_le _) ⟨b3, r0⟩
      · obtain ⟨I1, r1, r2, r3, r4, r5, r6, r7, r8⟩ := I
        obtain ⟨h', e', z1, z2⟩ := c_ways h8 (ok := ok) (h := h) ⟨I1, r1, fun a j h1 h2 h3 => r6 a j h1 h2 h3 (Or.inl h1), fun a j h1 h2 h3 => r8 a j h1 h2 h3 (Or.inl h1), fun a h1 h2 => (r4 a h1 h2).2⟩ r2
        refine ⟨h', ?_, z1, z2⟩
        show f_X4_build_139 32 64 (nI (2 ^ k - 1)) (n + 1) (nI (2 ^ k)) h = _
        rw [f_X4_build_139, if_pos (by rw [ltN (by omega) (by omega)]; omega), e', bO_some]
      · obtain ⟨I1, I2⟩ := I
        have st : ∀ n, f_X4_build_139 32 64 (nI (2 ^ k - 1)) (n + 1) (nI A) h = if h.1 62 A = 0 then f_X4_build_139 32 64 (nI (2 ^ k - 1)) n (nI (A + 1)) h else bO (f_X4_goFurther (nI A) h) (fun h159 => f_X4_build_139 32 64 (nI (2 ^ k - 1)) n (nI (A + 1)) h159) := fun n => by
          rw [f_X4_build_139, if_neg (by rw [ltN (by omega) (by omega)]; omega), ag_nI _ _ (by omega : A < 256) (by omega), bO_some, nI1]
        rcases I2.2.2.1 A hA with hz | hz
        · refine ⟨(), h, ⟨I1, RS_next hA (Or.inr ⟨I2, hz⟩)⟩, fun n => ?_⟩
          show f_X4_build_139 32 64 (nI (2 ^ k - 1)) (n + 1) (nI A) h = _
          rw [st n, if_pos hz]
        · obtain ⟨h', e', z1, z2, z3⟩ := c_further w h8 hm1 ho c hA I1 I2 hz
          refine ⟨(), h', ⟨z1, RS_next hA (Or.inl z2)⟩, fun n => ?_⟩
          show f_X4_build_139 32 64 (nI (2 ^ k - 1)) (n + 1) (nI A) h = _
          rw [st n, if_neg (by rw [hz]; decide), e', bO_some]
    obtain ⟨h', e', z⟩ := go
    refine ⟨h', ?_, z⟩
    show f_X4_build_77 32 64 (nI l) (nI (2 ^ k - 1)) (n + 1) (nI (2 ^ k)) h = _
    rw [f_X4_build_77, if_pos (by rw [ltN (by omega) (by omega)]; omega), a2, bO_some, a3, bO_some, e']
  · obtain ⟨I1, I2⟩ := I
    refine ⟨(), hU (hU (hU h 62 A 0) 63 A 0) 64 A 0, ⟨((I1.hU _ _ rfl (by decide) (by decide)).hU _ _ rfl (by decide) (by decide)).hU _ _ rfl (by decide) (by decide), fun a ha => ?_⟩, fun n => ?_⟩
    · rw [hU_s, hU_n _ _ _ (by decide : (62 : Nat) ≠ 64), hU_n _ _ _ (by decide : (62 : Nat) ≠ 63), hU_s, hU_n _ _ _ (by decide : (63 : Nat) ≠ 64), hU_s, hU_n _ _ _ (by decide : (63 : Nat) ≠ 62), hU_n _ _ _ (by decide : (64 : Nat) ≠ 63), hU_n _ _ _ (by decide : (64 : Nat) ≠ 62)]
      by_cases e : a = A
      · subst e; rw [upd_s, upd_s, upd_s]; exact ⟨rfl, rfl, rfl⟩
      · rw [upd_n _ _ e, upd_n _ _ e, upd_n _ _ e]; exact I2 a (by omega)
    · show f_X4_build_77 32 64 (nI l) (nI (2 ^ k - 1)) (n + 1) (nI A) h = f_X4_build_77 32 64 (nI l) (nI (2 ^ k - 1)) n (nI (A + 1)) _
      have a1 : asg h 62 256 (nI A) (vp_nar .boolean 0) = some (hU h 62 A 0) := asg_nI h 62 0 (by omega : A < 256) (by omega)
      rw [f_X4_build_77, if_neg (by rw [ltN (by omega) (by omega)]; omega), a1, bO_some, asg_nI _ _ _ (by omega : A < 256) (by omega), bO_some, asg_nI _ _ _ (by omega : A < 256) (by omega), bO_some, nI1]
/-- the class picks the row of a rank -/
theorem c_member {k : Nat} (hk : k ≤ 8) {h : PH} (W : WS g k m ok h) (hW : ∀ a, a < 2 ^ k → h.1 62 a = 1 → h.1 64 a = nI (wa k ok a)) {q : Nat → Nat} (P : Pp k k q) (hok : okp ok q k = true) {j : Nat} (hj : j < k) : f_X4_memberOf (nI (rnk k ok q k 0)) (nI j) h = some (nI (m (q j)), h) := by
  have p2 := p28 hk
  have hR : ∀ t, t ≤ k → h.1 62 (pre q t) = 1 ∧ pre q t < 2 ^ k := by
    intro t
    induction t with
    | zero => intro _; exact ⟨W.2.1, Nat.two_pow_pos k⟩
    | succ t ih =>
      intro ht
      obtain ⟨i1, i2⟩ := ih (by omega)
      have hf : (pre q t).testBit (q t) = false := pre_f (fun u hu => P.2 u t hu (by omega))
      have ho : ok (pre q t) (q t) = true := by
        cases e : ok (pre q t) (q t) with
        | true => rfl
        | false =>
          have : okp ok q (t + 1) = false := by rw [okp, e, Bool.and_false]
          rw [okp_mono (by omega) this] at hok; cases hok
      exact ⟨W.2.2.2.1 _ _ i2 (P.1 t (by omega)) i1 (by rw [hf, ho]; rfl), or_lt i2 (P.1 t (by omega))⟩
  have hB : ∀ a, a < 2 ^ k → h.1 62 a = 1 → wa k ok a ≤ 40320 := fun a ha e => by
    obtain ⟨n, U, h1, h2⟩ := W.2.2.2.2 a ha e
    exact Nat.le_trans (wa_le hk ok n U a ha h2) (fc8 n (by omega))
  have hwb : ∀ a i, a < 2 ^ k → i < k → h.1 62 a = 1 → f_X4_waysBy (nI a) (nI i) h = some (nI (wb k ok a i), h) ∧ wb k ok a i ≤ 40320 := fun a i ha hi e => by
    have hb := or_lt ha hi
    rw [f_X4_waysBy, ag_nI _ _ (by omega : a < 256) (by omega), bO_some, has8 _ (by omega), bO_some, W.2.2.1 a i ha hi e, wb]
    by_cases c : (!a.testBit i && ok a i) = true
    · have h1 := W.2.2.2.1 a i ha hi e c
      rw [if_pos c, if_pos c, if_neg (by decide), orI a (by omega) i (by omega), ag_nI _ _ (by omega : a ||| 2 ^ i < 256) (by omega), bO_some, hW _ hb h1]
      exact ⟨rfl, hB _ hb h1⟩
    · rw [if_neg c, if_neg c, if_pos rfl]
      exact ⟨rfl, Nat.zero_le _⟩
  have key : ∀ d t n x4, t + d = j + 1 → (t = j + 1 → x4 = nI (q j)) → d < n → f_X4_memberOf_35 (nI j) n (nI (pre q t)) x4 (nI (rnk k ok q (k - t) t)) (nI t) h = some (nI (m (q j)), h) := by
    intro d
    induction d with
    | zero =>
      intro t n x4 ht hx hn
      obtain ⟨n, rfl⟩ : ∃ n', n = n' + 1 := ⟨n - 1, by omega⟩
      have hq := P.1 j hj
      rw [f_X4_memberOf_35, if_pos (by rw [ltN (by omega) (by omega)]; omega), hx (by omega), ag_nI _ _ (by omega : q j < 8) (by omega), bO_some, W.1.2.2 _ hq]
    | succ d ih =>
      intro t n x4 ht hx hn
      obtain ⟨n, rfl⟩ : ∃ n', n = n' + 1 := ⟨n - 1, by omega⟩
      obtain ⟨hR1, hR2⟩ := hR t (by omega)
      obtain ⟨r, hr⟩ : ∃ r, k - t = r + 1 := ⟨k - t - 1, by omega⟩
      have hq := P.1 t (by omega)
      have hl1 := (rnk_lt hk P hok (k - t) t (by omega)).2
      have hl2 := (rnk_lt hk P hok r (t + 1) (by omega)).2
      have hBt := hB _ hR2 hR1
      have hf : (pre q t).testBit (q t) = false := pre_f (fun u hu => P.2 u t hu (by omega))
      have ho : ok (pre q t) (q t) = true := by
        cases e : ok (pre q t) (q t) with
        | true => rfl
        | false =>
          have : okp ok q (t + 1) = false := by rw [okp, e, Bool.and_false]
          rw [okp_mono (by omega) this] at hok; cases hok
      have hw : wb k ok (pre q t) (q t) = wa k ok (pre q (t + 1)) := by rw [wb, hf, ho]; rfl
      rw [hr] at hl1 ⊢
      rw [rnk] at hl1 ⊢
      rw [f_X4_memberOf_35, if_neg (by rw [ltN (by omega) (by omega)]; omega)]
      have loop : ∀ e i f, i + e = q t → e < f → f_X4_memberOf_44 (nI j) (nI (pre q t)) (nI t) (f_X4_memberOf_35 (nI j) n) f (nI i) (nI (Gs (wb k ok (pre q t)) (q t) - Gs (wb k ok (pre q t)) i + rnk k ok q r (t + 1))) h = some (nI (m (q j)), h) := by
        intro e
        induction e with
        | zero =>
          intro i f hi hf
          obtain ⟨f, rfl⟩ : ∃ f', f = f' + 1 := ⟨f - 1, by omega⟩
          have hi : i = q t := by omega
          subst hi
          have hwq := hwb _ _ hR2 hq hR1
          rw [f_X4_memberOf_44, W.1.2.1, if_neg (by rw [leN (by omega) (by omega)]; omega), hwq.1, bP_some, if_pos (by rw [ltN (by omega) (by omega), hw]; omega), f_X4_memberOf_83, W.1.2.1, if_pos (by rw [ltN (by omega) (by omega)]; omega), lt'_eq, orI _ (by omega) _ (by omega), nI1, Nat.sub_self, Nat.zero_add]
          have := ih (t + 1) n (nI (q t)) (by omega) (fun e => by rw [show t = j by omega]) (by omega)
          rw [show k - (t + 1) = r by omega] at this
          exact this
        | succ e ihe =>
          intro i f hi hf
          obtain ⟨f, rfl⟩ : ∃ f', f = f' + 1 := ⟨f - 1, by omega⟩
          have hwq := hwb _ i hR2 (by omega) hR1
          have hm := Gs_mono (g := wb k ok (pre q t)) (b := i + 1) (c := q t) (by omega)
          have hm2 : Gs (wb k ok (pre q t)) (i + 1) = Gs (wb k ok (pre q t)) i + wb k ok (pre q t) i := rfl
          rw [f_X4_memberOf_44, W.1.2.1, if_neg (by rw [leN (by omega) (by omega)]; omega), hwq.1, bP_some, if_neg (by rw [ltN (by omega) (by omega)]; omega), hwq.1, bP_some, lt'_eq, nI1]
          have := ihe (i + 1) f (by omega) (by omega)
          rw [show Gs (wb k ok (pre q t)) (q t) - Gs (wb k ok (pre q t)) i + rnk k ok q r (t + 1) = Gs (wb k ok (pre q t)) (q t) - Gs (wb k ok (pre q t)) (i + 1) + rnk k ok q r (t + 1) + wb k ok (pre q t) i by omega, nI_subK]
          exact this
      have := loop (q t) 0 FU (Nat.zero_add _) (FU_gt (by omega))
      exact this
  have hl0 := (rnk_lt hk P hok k 0 (by omega)).2
  have hB0 := hB 0 (Nat.two_pow_pos k) W.2.1
  have hp0 : pre q 0 = 0 := rfl
  rw [hp0] at hl0
  rw [f_X4_memberOf]
  have a0 : ag h 64 256 0 = some (nI (wa k ok 0)) := by rw [← hW 0 (Nat.two_pow_pos k) W.2.1]; exact ag_nI (i := 0) h 64 (by omega) (by omega)
  rw [a0, bO_some, if_neg (by rw [leN (by omega) (by omega)]; omega), if_neg (nI_pos (by omega)), W.1.2.1, if_pos (by rw [ltN (by omega) (by omega)]; exact hj)]
  exact key (j + 1) 0 FU 0 (by omega) (fun e => by omega) (FU_gt (by omega))
end
