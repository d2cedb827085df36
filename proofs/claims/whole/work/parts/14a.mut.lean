/-! ===== calls that change the state ===== -/
def up66 (h h' : PH) : Prop := ∀ k, 66 ≤ k ∨ k = 18 → h'.1 k = h.1 k
def lo66 (h h' : PH) : Prop := ∀ k, k < 66 → h'.1 k = h.1 k
theorem up66.rf (h : PH) : up66 h h := fun _ _ => rfl
theorem lo66.rf (h : PH) : lo66 h h := fun _ _ => rfl
theorem up66.tr {a b c : PH} (h1 : up66 a b) (h2 : up66 b c) : up66 a c := fun k hk => (h2 k hk).trans (h1 k hk)
theorem lo66.tr {a b c : PH} (h1 : lo66 a b) (h2 : lo66 b c) : lo66 a c := fun k hk => (h2 k hk).trans (h1 k hk)
theorem keepC.up {h h' : PH} (k : keepC h h') : up66 h h' := fun i hi => k.1 i (by simp [scC]; omega)
theorem keepM.lo {h h' : PH} (k : keepM h h') : lo66 h h' := fun i hi => k.1 i (by omega) (by simp [scM]; omega)
theorem up66.hC {h : PH} {V : Nat} (f : Nat → Int32) (hV : V < 66 ∧ V ≠ 18) : up66 h (hC h V f) := fun k hk => hC_n h f (by omega)
theorem up66.hU {h : PH} {V : Nat} (k : Nat) (v : Int32) (hV : V < 66 ∧ V ≠ 18) : up66 h (hU h V k v) := fun j hj => hU_n h k v (by omega)
theorem lo66.hC {h : PH} {V : Nat} (f : Nat → Int32) (hV : 66 ≤ V) : lo66 h (hC h V f) := fun k hk => hC_n h f (by omega)
theorem lo66.hU {h : PH} {V : Nat} (k : Nat) (v : Int32) (hV : 66 ≤ V) : lo66 h (hU h V k v) := fun j hj => hU_n h k v (by omega)
theorem lo66.hL {h : PH} (v : Int64) : lo66 h (hL h v) := fun _ _ => rfl
theorem RM.up {S : SD} {h h' : PH} (c : RM S h) (e : ∀ k, 66 ≤ k → h'.1 k = h.1 k) : RM S h' := c.keep (fun k _ q _ => e k (by omega)) (fun i _ => by rw [e 66 (by omega)])
theorem RC.cong {S : SD} {h h' : PH} (c : RC S h) (e : ∀ k, k < 66 → scC k = false → h'.1 k = h.1 k) : RC S h' := by
  obtain ⟨h1, h2, h3, h4, h5, h6⟩ := c
  refine ⟨h1.keep (fun k q => e k ?_ ?_), h2.keep (fun k q => e _ (by omega) ?_), ?_, ?_, by rw [e 0 (by omega) rfl]; exact h5, ?_⟩
  · simp only [CTc, List.mem_cons, List.not_mem_nil, or_false, decide_eq_true_eq] at q
    omega
  · simp only [CTc, List.mem_cons, List.not_mem_nil, or_false, decide_eq_true_eq] at q
    rcases q with rfl | rfl | rfl | rfl | rfl | rfl | rfl | rfl | rfl <;> rfl
  · have : k = 0 ∨ k = 1 ∨ k = 2 ∨ k = 3 ∨ k = 4 ∨ k = 5 ∨ k = 6 ∨ k = 7 ∨ k = 8 := by omega
    rcases this with rfl | rfl | rfl | rfl | rfl | rfl | rfl | rfl | rfl <;> rfl
  · unfold CP at h3 ⊢; rw [e 22 (by omega) rfl, e 23 (by omega) rfl, e 24 (by omega) rfl]; exact h3
  · unfold CX at h4 ⊢; rw [e 1 (by omega) rfl, e 2 (by omega) rfl]; exact h4
  · obtain ⟨k1, k2, k3, k4⟩ := h6
    refine ⟨by rw [e 0 (by omega) rfl]; exact k1, by rw [e 0 (by omega) rfl]; exact k2, fun B z => (k3 B z).keep (fun k q => e _ (by omega) ?_), fun B z => (k4 B z).keep (fun k q => e _ (by omega) ?_)⟩
    · have : k = 0 ∨ k = 1 ∨ k = 2 ∨ k = 3 ∨ k = 4 ∨ k = 5 ∨ k = 6 ∨ k = 7 ∨ k = 8 := by omega
      rcases this with rfl | rfl | rfl | rfl | rfl | rfl | rfl | rfl | rfl <;> rfl
    · have : k = 0 ∨ k = 1 ∨ k = 2 ∨ k = 3 ∨ k = 4 ∨ k = 5 ∨ k = 6 ∨ k = 7 ∨ k = 8 := by omega
      rcases this with rfl | rfl | rfl | rfl | rfl | rfl | rfl | rfl | rfl <;> rfl
theorem RC.lo {S : SD} {h h' : PH} (c : RC S h) (e : lo66 h h') : RC S h' := c.cong (fun k hk _ => e k hk)
def hi66 (h h' : PH) : Prop := ∀ k, 66 ≤ k → h'.1 k = h.1 k
def XC (S S' : SD) (F : PH → Option (Int32 × PH)) (r : Int32) : Prop := ∀ h, RC S h → Zr h → ∃ h', F h = some (r, h') ∧ RC S' h' ∧ hi66 h h' ∧ Zr h'
def XM (S S' : SD) (M : PH → Option (Int32 × PH)) (r : Int32) : Prop := ∀ h, RM S h → ∃ h', M h = some (r, h') ∧ RM S' h' ∧ lo66 h h'
def Mut (S : SD) (F M : PH → Option (Int32 × PH)) : Prop := ∃ r S', wfS S' ∧ XC S S' F r ∧ XM S S' M r
theorem Mut.ofZ {S S' : SD} {F M : PH → Option (Int32 × PH)} (r : Int32) (w' : wfS S') (hF : ∀ h, RC S h → Zr h → ∃ h', F h = some (r, h') ∧ RC S' h' ∧ hi66 h h' ∧ Zr h') (hM : ∀ h, RM S h → ∃ h', M h = some (r, h') ∧ RM S' h' ∧ lo66 h h') : Mut S F M := ⟨r, S', w', hF, hM⟩
theorem Mut.of {S S' : SD} {F M : PH → Option (Int32 × PH)} (r : Int32) (w' : wfS S') (hF : ∀ h, RC S h → ∃ h', F h = some (r, h') ∧ RC S' h' ∧ up66 h h') (hM : ∀ h, RM S h → ∃ h', M h = some (r, h') ∧ RM S' h' ∧ lo66 h h') : Mut S F M := ⟨r, S', w', fun h c z => by
  obtain ⟨h', e, c', u⟩ := hF h c
  exact ⟨h', e, c', fun k hk => u k (Or.inl hk), fun s hs => by rw [u 18 (Or.inr rfl)]; exact z s hs⟩, hM⟩
theorem Pair.mut {F M : PH → Option (Int32 × PH)} (hh : ∀ S, wfS S → Mut S F M) : Pair F M := by
  rintro h ⟨S, w, c, m, z⟩
  obtain ⟨r, S', w', hF, hM⟩ := hh S w
  obtain ⟨h1, e1, c1, u1, z1⟩ := hF h c z
  obtain ⟨h2, e2, m2, l2⟩ := hM h1 (m.up u1)
  exact ⟨r, h1, h2, e1, e2, S', w', c1.lo l2, m2, fun s hs => by rw [l2 18 (by omega)]; exact z1 s hs⟩
theorem Two.mut {S : SD} (w : wfS S) {F M : PH → Option (Int32 × PH)} (t : Two S F M) : Mut S F M := by
  obtain ⟨r, a, b⟩ := t
  refine Mut.of r w (fun h c => ?_) (fun h c => ?_)
  · obtain ⟨h', e, k⟩ := a h c
    exact ⟨h', e, c.keepC k, k.up⟩
  · obtain ⟨h', e, k⟩ := b h c
    exact ⟨h', e, c.keepM k, k.lo⟩
theorem Mut.eqv {S : SD} {F M F' M' : PH → Option (Int32 × PH)} (hT : Mut S F' M') (hF : ∀ h, RC S h → F h = F' h) (hM : ∀ h, RM S h → M h = M' h) : Mut S F M := by
  obtain ⟨r, S', w', a, b⟩ := hT
  exact ⟨r, S', w', fun h c z => by rw [hF h c]; exact a h c z, fun h c => by rw [hM h c]; exact b h c⟩
theorem mut_g {S : SD} (w : wfS S) {F M KF KM : PH → Option (Int32 × PH)} {b : Bool} {u : Int32} {EF EM : PH → Option (Int32 × PH)} (eF : ∀ h, RC S h → EF h = some (b01 b, h)) (eM : ∀ h, RM S h → EM h = some (b01 b, h)) (hF : ∀ h, F h = bP (EF h) (fun r h => if r = 0 then some (u, h) else KF h)) (hM : ∀ h, M h = bP (EM h) (fun r h => if r = 0 then some (u, h) else KM h)) (hk : b = true → Mut S KF KM) : Mut S F M := by
  cases b with
  | false => exact Two.mut w (two_g (b := false) eF eM hF hM (fun z => by cases z))
  | true => exact (hk rfl).eqv (fun h c => by rw [hF, eF h c]; rfl) (fun h c => by rw [hM, eM h c]; rfl)
theorem mut_gO {S : SD} (w : wfS S) {F M KF KM : PH → Option (Int32 × PH)} {b : Bool} {u : Int32} {EF EM : Option Int32} (eF : EF = some (b01 b)) (eM : EM = some (b01 b)) (hF : ∀ h, F h = bO EF (fun r => if r = 0 then some (u, h) else KF h)) (hM : ∀ h, M h = bO EM (fun r => if r = 0 then some (u, h) else KM h)) (hk : b = true → Mut S KF KM) : Mut S F M := by
  cases b with
  | false => exact Two.mut w (two_gO (b := false) eF eM hF hM (fun z => by cases z))
  | true => exact (hk rfl).eqv (fun h c => by rw [hF, eF]; rfl) (fun h c => by rw [hM, eM]; rfl)
theorem mut_line {S : SD} (w : wfS S) {x u : Int32} {F M KF KM : PH → Option (Int32 × PH)} (hF : ∀ h, F h = bP (f_X0_hasLine 28 x h) (fun r h => if r = 0 then some (u, h) else KF h)) (hM : ∀ h, M h = bP (f_X9_isLine x h) (fun r h => if r = 0 then some (u, h) else KM h)) (hk : ∀ l, l < bl S.2.1 → x = nI l → Mut S KF KM) : Mut S F M :=
  mut_g w (fun _ c => c_line w x c) (fun _ c => m_line w x c) hF hM (fun e => by obtain ⟨k, hk1, rfl⟩ := inD (by have := w.b4; omega) e; exact hk k hk1 rfl)
theorem mut_change {S : SD} (w : wfS S) {x u : Int32} {F M KF KM : PH → Option (Int32 × PH)} (hF : ∀ h, F h = bP (f_X7_hasChange 4 x h) (fun r h => if r = 0 then some (u, h) else KF h)) (hM : ∀ h, M h = bP (f_X9_isChange x h) (fun r h => if r = 0 then some (u, h) else KM h)) (hk : ∀ l, l < tn S.1 → x = nI l → Mut S KF KM) : Mut S F M :=
  mut_g w (fun _ c => c_change w x c) (fun _ c => m_change w x c) hF hM (fun e => by obtain ⟨k, hk1, rfl⟩ := inD (by have := w.n24; omega) e; exact hk k hk1 rfl)
theorem mut_day {S : SD} (w : wfS S) {x u : Int32} {F M KF KM : PH → Option (Int32 × PH)} (hF : ∀ h, F h = bO (f_X8_isDay x) (fun r => if r = 0 then some (u, h) else KF h)) (hM : ∀ h, M h = bO (f_X9_isDay x) (fun r => if r = 0 then some (u, h) else KM h)) (hk : ∀ l, l < 1000 → x = nI l → Mut S KF KM) : Mut S F M :=
  mut_gO w (c_day x) (m_day x) hF hM (fun e => by obtain ⟨k, hk1, rfl⟩ := inD (by omega) e; exact hk k hk1 rfl)
/-- both sides within bounds a .. n, or refused -/
theorem mut_in {S : SD} (w : wfS S) {x u : Int32} {a n : Nat} (hn : n < 2 ^ 30) {F M KF KM : PH → Option (Int32 × PH)} (hF : ∀ h, RC S h → F h = if x < nI a then some (u, h) else if x ≤ nI n then KF h else some (u, h)) {e1 e2 : Int64} (he1 : e1.toInt = (a : Int)) (ha : a < 2 ^ 30) (hM : ∀ h, RM S h → M h = bO (f_X9_in x.toInt64 e1 e2) (fun r => if r = 0 then some (u, h) else KM h)) (he2 : e2.toInt = (n : Int)) (hk : ∀ k, a ≤ k → k ≤ n → x = nI k → Mut S KF KM) : Mut S F M := by
  by_cases hb : (a : Int) ≤ x.toInt ∧ x.toInt ≤ (n : Int)
  · obtain ⟨k, hk1, e⟩ := (inN_iff (x := x) (n := n + 1) (by omega)).mp ⟨by omega, by omega⟩
    have ek : x.toInt = (k : Int) := by rw [e, nI_toInt (by omega)]
    refine (hk k (by omega) (by omega) e).eqv (fun h c => ?_) (fun h c => ?_)
    · rw [hF h c, if_neg (by rw [ltI, nI_toInt (by omega)]; omega), if_pos (by rw [leI, nI_toInt (by omega)]; omega)]
    · rw [hM h c, in9, he1, he2, Int32.toInt_toInt64, if_pos hb]; rfl
  · refine Two.mut w (Two.of u (Q.pt fun h c => ?_) (P9.pt fun h c => ?_))
    · rw [hF h c]
      by_cases h1 : x < nI a
      · rw [if_pos h1]
      · rw [if_neg h1]
        rw [ltI, nI_toInt (by omega)] at h1
        rw [if_neg (by rw [leI, nI_toInt (by omega)]; omega)]
    · rw [hM h c, in9, he1, he2, Int32.toInt_toInt64, if_neg hb]; rfl
/-! the book's cells -/
def BK (B : BD) (n0 n5 : Int32) (c1 c2 c3 c4 c5 c6 c7 c8 : Nat → Int32) : Prop := n0 = nI (bl B) ∧ n5 = nI (br B) ∧ (∀ l, l < bl B → c1 l = bcut B l ∧ c2 l = bin B l ∧ c3 l = bev B l ∧ ∀ s, s < 16 → c4 (16 * l + s) = bval B l s) ∧ ∀ r, r < br B → c5 r = bof B r ∧ c6 r = bday B r ∧ c7 r = brin B r ∧ ∀ s, s < 16 → c8 (16 * r + s) = brv B r s
def lnB (B : BD) (l L : Nat) (x1 x2 x3 : Int32) (v : Nat → Int32) : BD := (L, upd (bcut B) l x1, upd (bin B) l x2, upd (bev B) l x3, (fun j s => if j = l then v s else bval B j s), br B, bof B, bday B, brin B, brv B)
def rlB (B : BD) (x5 x6 x7 : Int32) (v : Nat → Int32) : BD := (bl B, bcut B, bin B, bev B, bval B, br B + 1, upd (bof B) (br B) x5, upd (bday B) (br B) x6, upd (brin B) (br B) x7, (fun j s => if j = br B then v s else brv B j s))
theorem upd_s (f : Nat → Int32) (k : Nat) (x : Int32) : upd f k x k = x := pk_us
theorem upd_n (f : Nat → Int32) {k j : Nat} (x : Int32) (h : j ≠ k) : upd f k x j = f j := pk_un h
theorem BK.line {B : BD} {n0 n5 : Int32} {c1 c2 c3 c4 c5 c6 c7 c8 : Nat → Int32} (k : BK B n0 n5 c1 c2 c3 c4 c5 c6 c7 c8) {l L : Nat} {x1 x2 x3 : Int32} {v : Nat → Int32} (hL : ∀ j, j < L → j ≠ l → j < bl B) {n0' : Int32} {d1 d2 d3 d4 : Nat → Int32} (e0 : n0' = nI L) (e1 : d1 l = x1 ∧ ∀ j, j ≠ l → d1 j = c1 j) (e2 : d2 l = x2 ∧ ∀ j, j ≠ l → d2 j = c2 j) (e3 : d3 l = x3 ∧ ∀ j, j ≠ l → d3 j = c3 j) (e4 : (∀ s, s < 16 → d4 (16 * l + s) = v s) ∧ ∀ j, j ≠ l → ∀ s, s < 16 → d4 (16 * j + s) = c4 (16 * j + s)) : BK (lnB B l L x1 x2 x3 v) n0' n5 d1 d2 d3 d4 c5 c6 c7 c8 := by
  obtain ⟨k0, k5, kl, kr⟩ := k
  refine ⟨e0, k5, fun j hj => ?_, kr⟩
  by_cases e : j = l
  · subst e
    exact ⟨e1.1.trans (upd_s _ _ _).symm, e2.1.trans (upd_s _ _ _).symm, e3.1.trans (upd_s _ _ _).symm, fun s hs => (e4.1 s hs).trans (if_pos rfl).symm⟩
  · obtain ⟨q1, q2, q3, q4⟩ := kl j (hL j hj e)
    exact ⟨(e1.2 j e).trans (q1.trans (upd_n _ _ e).symm), (e2.2 j e).trans (q2.trans (upd_n _ _ e).symm), (e3.2 j e).trans (q3.trans (upd_n _ _ e).symm), fun s hs => (e4.2 j e s hs).trans ((q4 s hs).trans (if_neg e).symm)⟩
theorem BK.rel {B : BD} {n0 n5 : Int32} {c1 c2 c3 c4 c5 c6 c7 c8 : Nat → Int32} (k : BK B n0 n5 c1 c2 c3 c4 c5 c6 c7 c8) {x5 x6 x7 : Int32} {v : Nat → Int32} {n5' : Int32} {d5 d6 d7 d8 : Nat → Int32} (e0 : n5' = nI (br B + 1)) (e5 : d5 (br B) = x5 ∧ ∀ j, j ≠ br B → d5 j = c5 j) (e6 : d6 (br B) = x6 ∧ ∀ j, j ≠ br B → d6 j = c6 j) (e7 : d7 (br B) = x7 ∧ ∀ j, j ≠ br B → d7 j = c7 j) (e8 : (∀ s, s < 16 → d8 (16 * br B + s) = v s) ∧ ∀ j, j ≠ br B → ∀ s, s < 16 → d8 (16 * j + s) = c8 (16 * j + s)) : BK (rlB B x5 x6 x7 v) n0 n5' c1 c2 c3 c4 d5 d6 d7 d8 := by
  obtain ⟨k0, k5, kl, kr⟩ := k
  refine ⟨k0, e0, kl, fun j hj => ?_⟩
  have hj : j < br B + 1 := hj
  by_cases e : j = br B
  · subst e
    exact ⟨e5.1.trans (upd_s _ _ _).symm, e6.1.trans (upd_s _ _ _).symm, e7.1.trans (upd_s _ _ _).symm, fun s hs => (e8.1 s hs).trans (if_pos rfl).symm⟩
  · obtain ⟨q1, q2, q3, q4⟩ := kr j (by omega)
    exact ⟨(e5.2 j e).trans (q1.trans (upd_n _ _ e).symm), (e6.2 j e).trans (q2.trans (upd_n _ _ e).symm), (e7.2 j e).trans (q3.trans (upd_n _ _ e).symm), fun s hs => (e8.2 j e s hs).trans ((q4 s hs).trans (if_neg e).symm)⟩
theorem BK.same {f : Nat → Int32} {l : Nat} : f l = f l ∧ ∀ j, j ≠ l → f j = f j := ⟨rfl, fun _ _ => rfl⟩
theorem up_at (f : Nat → Int32) (l : Nat) (x : Int32) : upd f l x l = x ∧ ∀ j, j ≠ l → upd f l x j = f j := ⟨upd_s _ _ _, fun _ e => upd_n _ _ e⟩
theorem seg_at (f v : Nat → Int32) (l : Nat) : (∀ s, s < 16 → segF f (16 * l) v 16 (16 * l + s) = v s) ∧ ∀ j, j ≠ l → ∀ s, s < 16 → segF f (16 * l) v 16 (16 * j + s) = f (16 * j + s) := ⟨fun s hs => segF_in hs, fun j e s hs => segF_out (by omega)⟩
theorem wf_line {n : Nat} {B : BD} (w : wfB n B) {l L : Nat} {x1 x2 x3 : Int32} {v : Nat → Int32} (hL4 : L ≤ 4) (hLb : bl B ≤ L) (hL : ∀ j, j < L → j ≠ l → j < bl B) (h1 : ∃ k, k ≤ n ∧ x1 = nI k) (h2 : bel x2 n) (h3 : ∃ k, k ≤ 99 ∧ x3 = nI k) : wfB n (lnB B l L x1 x2 x3 v) := by
  obtain ⟨w1, w2, w3, w4, w5⟩ := w
  refine ⟨hL4, w2, fun j hj => ?_, fun r hr => ?_, w5⟩
  · show (∃ k, k ≤ n ∧ upd (bcut B) l x1 j = nI k) ∧ bel (upd (bin B) l x2 j) n ∧ ∃ k, k ≤ 99 ∧ upd (bev B) l x3 j = nI k
    by_cases e : j = l
    · subst e; rw [upd_s, upd_s, upd_s]; exact ⟨h1, h2, h3⟩
    · rw [upd_n _ _ e, upd_n _ _ e, upd_n _ _ e]; exact w3 j (hL j hj e)
  · obtain ⟨⟨l', q1, q2⟩, q3, q4⟩ := w4 r hr
    exact ⟨⟨l', show l' < L by omega, q2⟩, q3, q4⟩
theorem RC.book {S : SD} {B' : BD} {h h' : PH} (c : RC S h) (e : ∀ k, k < 66 → scC k = false → ¬ (28 ≤ k ∧ k ≤ 36) → h'.1 k = h.1 k) (hB : CB B' 28 h') : RC (S.1, B', S.2.2) h' := by
  obtain ⟨h1, h2, h3, h4, h5, h6⟩ := c
  refine ⟨h1.keep (fun k q => e k ?_ ?_ ?_), hB, ?_, ?_, by rw [e 0 (by omega) rfl (by omega)]; exact h5, ?_⟩
  · simp only [CTc, List.mem_cons, List.not_mem_nil, or_false, decide_eq_true_eq] at q
    omega
  · simp only [CTc, List.mem_cons, List.not_mem_nil, or_false, decide_eq_true_eq] at q
    rcases q with rfl | rfl | rfl | rfl | rfl | rfl | rfl | rfl | rfl <;> rfl
  · simp only [CTc, List.mem_cons, List.not_mem_nil, or_false, decide_eq_true_eq] at q
    omega
  · unfold CP at h3 ⊢; rw [e 22 (by omega) rfl (by omega), e 23 (by omega) rfl (by omega), e 24 (by omega) rfl (by omega)]; exact h3
  · unfold CX at h4 ⊢; rw [e 1 (by omega) rfl (by omega), e 2 (by omega) rfl (by omega)]; exact h4
  · obtain ⟨k1, k2, k3, k4⟩ := h6
    refine ⟨by rw [e 0 (by omega) rfl (by omega)]; exact k1, by rw [e 0 (by omega) rfl (by omega)]; exact k2, fun B z => (k3 B z).keep (fun k q => e _ (by omega) ?_ (by omega)), fun B z => (k4 B z).keep (fun k q => e _ (by omega) ?_ (by omega))⟩
    · have : k = 0 ∨ k = 1 ∨ k = 2 ∨ k = 3 ∨ k = 4 ∨ k = 5 ∨ k = 6 ∨ k = 7 ∨ k = 8 := by omega
      rcases this with rfl | rfl | rfl | rfl | rfl | rfl | rfl | rfl | rfl <;> rfl
    · have : k = 0 ∨ k = 1 ∨ k = 2 ∨ k = 3 ∨ k = 4 ∨ k = 5 ∨ k = 6 ∨ k = 7 ∨ k = 8 := by omega
      rcases this with rfl | rfl | rfl | rfl | rfl | rfl | rfl | rfl | rfl <;> rfl
theorem RM.book {S : SD} {B' : BD} {h h' : PH} (c : RM S h) (e : ∀ k, k ≠ 66 → 67 ≤ k → scM k = false → ¬ (73 ≤ k ∧ k ≤ 80) → h'.1 k = h.1 k) (e66 : ∀ i, i ≠ 8 → i ≠ 13 → scS i = false → h'.1 66 i = h.1 66 i) (hB : MB B' h') : RM (S.1, B', S.2.2) h' := by
  obtain ⟨h1, h2, h3, h4, h5, h6⟩ := c
  have g : ∀ k, k ≠ 66 ∧ 67 ≤ k ∧ scM k = false ∧ ¬ (73 ≤ k ∧ k ≤ 80) → h'.1 k = h.1 k := fun k q => e k q.1 q.2.1 q.2.2.1 q.2.2.2
  refine ⟨h1.keep (fun k q => g k ?_) (e66 0 (by decide) (by decide) rfl) (e66 4 (by decide) (by decide) rfl), hB, ?_, ?_, by rw [e66 20 (by decide) (by decide) rfl]; exact h5, ?_⟩
  · simp only [MTc, List.mem_cons, List.not_mem_nil, or_false, decide_eq_true_eq] at q
    rcases q with rfl | rfl | rfl | rfl | rfl | rfl | rfl <;> decide
  · unfold MP at h3 ⊢
    rw [e66 41 (by decide) (by decide) rfl, e66 44 (by decide) (by decide) rfl, e66 45 (by decide) (by decide) rfl, e66 46 (by decide) (by decide) rfl, g 92 (by decide), g 93 (by decide)]
    exact h3
  · unfold MX at h4 ⊢
    rw [e66 19 (by decide) (by decide) rfl, g 81 (by decide)]
    exact h4
  · unfold MK MI at h6 ⊢
    rw [g 96 (by decide), g 97 (by decide)]
    exact h6
