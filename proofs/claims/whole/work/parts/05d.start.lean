/-! ===== the start: the worlds of the constructors as the pure heap ===== -/
def hz0 : Nat → Nat → Int32 := fun k => match k with
  | 0 => fun i => if i = 13 then -1 else 0
  | 3 => fun i => if i = 7 then -1 else 0
  | 22 => fun i => if i = 4 then -1 else if i = 5 then -1 else 0
  | 25 => fun i => if i = 4 then -1 else if i = 5 then -1 else 0
  | 66 => fun i => if i = 20 then -1 else if i = 44 then -1 else if i = 45 then -1 else 0
  | _ => fun _ => 0
def h00 : PH := (hz0, 0)
def tmS (i : Nat) : Term := [Term.string "CarriedBack$Trunk" 59, Term.string "CarriedBack$Trunk" 69, Term.string "CarriedBack$Trunk" 85, Term.string "CarriedBack$Trunk" 94, Term.string "CarriedBack$Trunk" 99, Term.string "CarriedBack$Trunk" 123, Term.string "CarriedBack$Trunk" 128, Term.string "CarriedBack$Rules" 54, Term.string "CarriedBack$Rules" 72, Term.string "CarriedBack$Rules" 77].getD i (Term.string "" 0)
theorem ws_inj {A : Nat → Prop} {ws : va_W} (hD : va_D A ws) {qs : List Nat} (hq : ws.map Prod.fst = qs) : (∀ i j, i < qs.length → j < qs.length → qs.getD i 0 = qs.getD j 0 → i = j) ∧ ∀ i, i < qs.length → A (qs.getD i 0) := by
  subst hq
  have key : ∀ i, i < (ws.map Prod.fst).length → ∃ q, ws[i]? = some q ∧ q.1 = (ws.map Prod.fst).getD i 0 := by
    intro i hi
    have hi2 : i < ws.length := by simpa using hi
    refine ⟨ws[i], List.getElem?_eq_getElem hi2, ?_⟩
    rw [List.getD_eq_getElem?_getD, List.getElem?_map, List.getElem?_eq_getElem hi2]
    rfl
  refine ⟨fun i j hi hj e => ?_, fun i hi => ?_⟩
  · obtain ⟨p, p1, p2⟩ := key i hi
    obtain ⟨q, q1, q2⟩ := key j hj
    exact hD.1 i j p q p1 q1 (by rw [p2, q2, e])
  · obtain ⟨p, p1, p2⟩ := key i hi
    rw [← p2]
    exact hD.2 i p p1
set_option maxHeartbeats 4000000 in
set_option maxRecDepth 100000 in
theorem str_start {args : Array Value} {s : State} (hgv : (Jvm.Cond.and given_1 narrow_1).before args s = true) (hg : ∀ w ∈ lw_tbl, w.before args s = true) : ∃ adK adV : Nat → Nat, vk_S 10 lenT bytT adK adV (fun q : Nat => s.heap.size ≤ q) s s.heap ∧ ∀ q ∈ strT, vk_R q.1 q.2.1 q.2.2.1 (adK q.2.2.2) s := by
  have hs := flat_of_before _ hgv
  have hA : ∀ a : Nat, a < s.heap.size → ¬ (fun q : Nat => s.heap.size ≤ q) a := fun a h => Nat.not_le.mpr h
  have hex : ∀ i : Nat, i < 10 → (Cond.exactly (tmS i) "java/lang/String").before args s = true := by
    intro i hi
    rcases (show i = 0 ∨ i = 1 ∨ i = 2 ∨ i = 3 ∨ i = 4 ∨ i = 5 ∨ i = 6 ∨ i = 7 ∨ i = 8 ∨ i = 9 by omega) with rfl | rfl | rfl | rfl | rfl | rfl | rfl | rfl | rfl | rfl
    · exact hs _ (by decide +kernel)
    · exact hs _ (by decide +kernel)
    · exact hs _ (by decide +kernel)
    · exact hs _ (by decide +kernel)
    · exact hs _ (by decide +kernel)
    · exact hs _ (by decide +kernel)
    · exact hs _ (by decide +kernel)
    · exact hs _ (by decide +kernel)
    · exact hs _ (by decide +kernel)
    · exact hs _ (by decide +kernel)
  have hco : ∀ i : Nat, i < 10 → (Cond.eq (.field (tmS i) "java/lang/String" "coder" "B") (.int 0)).before args s = true := by
    intro i hi
    rcases (show i = 0 ∨ i = 1 ∨ i = 2 ∨ i = 3 ∨ i = 4 ∨ i = 5 ∨ i = 6 ∨ i = 7 ∨ i = 8 ∨ i = 9 by omega) with rfl | rfl | rfl | rfl | rfl | rfl | rfl | rfl | rfl | rfl
    · exact hs _ (by decide +kernel)
    · exact hs _ (by decide +kernel)
    · exact hs _ (by decide +kernel)
    · exact hs _ (by decide +kernel)
    · exact hs _ (by decide +kernel)
    · exact hs _ (by decide +kernel)
    · exact hs _ (by decide +kernel)
    · exact hs _ (by decide +kernel)
    · exact hs _ (by decide +kernel)
    · exact hs _ (by decide +kernel)
  have har : ∀ i : Nat, i < 10 → (Cond.arrayOf (.field (tmS i) "java/lang/String" "value" "[B") .byte).before args s = true := by
    intro i hi
    rcases (show i = 0 ∨ i = 1 ∨ i = 2 ∨ i = 3 ∨ i = 4 ∨ i = 5 ∨ i = 6 ∨ i = 7 ∨ i = 8 ∨ i = 9 by omega) with rfl | rfl | rfl | rfl | rfl | rfl | rfl | rfl | rfl | rfl
    · exact hs _ (by decide +kernel)
    · exact hs _ (by decide +kernel)
    · exact hs _ (by decide +kernel)
    · exact hs _ (by decide +kernel)
    · exact hs _ (by decide +kernel)
    · exact hs _ (by decide +kernel)
    · exact hs _ (by decide +kernel)
    · exact hs _ (by decide +kernel)
    · exact hs _ (by decide +kernel)
    · exact hs _ (by decide +kernel)
  have hle : ∀ i : Nat, i < 10 → (Cond.eq (.length (.field (tmS i) "java/lang/String" "value" "[B")) (.int (Int32.ofNat (lenT.getD i 0)))).before args s = true := by
    intro i hi
    rcases (show i = 0 ∨ i = 1 ∨ i = 2 ∨ i = 3 ∨ i = 4 ∨ i = 5 ∨ i = 6 ∨ i = 7 ∨ i = 8 ∨ i = 9 by omega) with rfl | rfl | rfl | rfl | rfl | rfl | rfl | rfl | rfl | rfl
    · exact hs _ (by decide +kernel)
    · exact hs _ (by decide +kernel)
    · exact hs _ (by decide +kernel)
    · exact hs _ (by decide +kernel)
    · exact hs _ (by decide +kernel)
    · exact hs _ (by decide +kernel)
    · exact hs _ (by decide +kernel)
    · exact hs _ (by decide +kernel)
    · exact hs _ (by decide +kernel)
    · exact hs _ (by decide +kernel)
  have hel : ∀ i : Nat, i < 10 → ∀ j : Nat, j < lenT.getD i 0 → (Cond.eq (.elem (.field (tmS i) "java/lang/String" "value" "[B") (.int (Int32.ofNat j))) (.int ((bytT.getD i []).getD j 0))).before args s = true := by
    intro i hi
    rcases (show i = 0 ∨ i = 1 ∨ i = 2 ∨ i = 3 ∨ i = 4 ∨ i = 5 ∨ i = 6 ∨ i = 7 ∨ i = 8 ∨ i = 9 by omega) with rfl | rfl | rfl | rfl | rfl | rfl | rfl | rfl | rfl | rfl
    · intro j hj
      have hj : j < 6 := hj
      rcases (show j = 0 ∨ j = 1 ∨ j = 2 ∨ j = 3 ∨ j = 4 ∨ j = 5 by omega) with rfl | rfl | rfl | rfl | rfl | rfl
      · exact hs _ (by decide +kernel)
      · exact hs _ (by decide +kernel)
      · exact hs _ (by decide +kernel)
      · exact hs _ (by decide +kernel)
      · exact hs _ (by decide +kernel)
      · exact hs _ (by decide +kernel)
    · intro j hj
      have hj : j < 5 := hj
      rcases (show j = 0 ∨ j = 1 ∨ j = 2 ∨ j = 3 ∨ j = 4 by omega) with rfl | rfl | rfl | rfl | rfl
      · exact hs _ (by decide +kernel)
      · exact hs _ (by decide +kernel)
      · exact hs _ (by decide +kernel)
      · exact hs _ (by decide +kernel)
      · exact hs _ (by decide +kernel)
    · intro j hj
      have hj : j < 4 := hj
      rcases (show j = 0 ∨ j = 1 ∨ j = 2 ∨ j = 3 by omega) with rfl | rfl | rfl | rfl
      · exact hs _ (by decide +kernel)
      · exact hs _ (by decide +kernel)
      · exact hs _ (by decide +kernel)
      · exact hs _ (by decide +kernel)
    · intro j hj
      have hj : j < 5 := hj
      rcases (show j = 0 ∨ j = 1 ∨ j = 2 ∨ j = 3 ∨ j = 4 by omega) with rfl | rfl | rfl | rfl | rfl
      · exact hs _ (by decide +kernel)
      · exact hs _ (by decide +kernel)
      · exact hs _ (by decide +kernel)
      · exact hs _ (by decide +kernel)
      · exact hs _ (by decide +kernel)
    · intro j hj
      have hj : j < 4 := hj
      rcases (show j = 0 ∨ j = 1 ∨ j = 2 ∨ j = 3 by omega) with rfl | rfl | rfl | rfl
      · exact hs _ (by decide +kernel)
      · exact hs _ (by decide +kernel)
      · exact hs _ (by decide +kernel)
      · exact hs _ (by decide +kernel)
    · intro j hj
      have hj : j < 4 := hj
      rcases (show j = 0 ∨ j = 1 ∨ j = 2 ∨ j = 3 by omega) with rfl | rfl | rfl | rfl
      · exact hs _ (by decide +kernel)
      · exact hs _ (by decide +kernel)
      · exact hs _ (by decide +kernel)
      · exact hs _ (by decide +kernel)
    · intro j hj
      have hj : j < 4 := hj
      rcases (show j = 0 ∨ j = 1 ∨ j = 2 ∨ j = 3 by omega) with rfl | rfl | rfl | rfl
      · exact hs _ (by decide +kernel)
      · exact hs _ (by decide +kernel)
      · exact hs _ (by decide +kernel)
      · exact hs _ (by decide +kernel)
    · intro j hj
      have hj : j < 6 := hj
      rcases (show j = 0 ∨ j = 1 ∨ j = 2 ∨ j = 3 ∨ j = 4 ∨ j = 5 by omega) with rfl | rfl | rfl | rfl | rfl | rfl
      · exact hs _ (by decide +kernel)
      · exact hs _ (by decide +kernel)
      · exact hs _ (by decide +kernel)
      · exact hs _ (by decide +kernel)
      · exact hs _ (by decide +kernel)
      · exact hs _ (by decide +kernel)
    · intro j hj
      have hj : j < 5 := hj
      rcases (show j = 0 ∨ j = 1 ∨ j = 2 ∨ j = 3 ∨ j = 4 by omega) with rfl | rfl | rfl | rfl | rfl
      · exact hs _ (by decide +kernel)
      · exact hs _ (by decide +kernel)
      · exact hs _ (by decide +kernel)
      · exact hs _ (by decide +kernel)
      · exact hs _ (by decide +kernel)
    · intro j hj
      have hj : j < 4 := hj
      rcases (show j = 0 ∨ j = 1 ∨ j = 2 ∨ j = 3 by omega) with rfl | rfl | rfl | rfl
      · exact hs _ (by decide +kernel)
      · exact hs _ (by decide +kernel)
      · exact hs _ (by decide +kernel)
      · exact hs _ (by decide +kernel)
  have hne : ∀ i j : Nat, i < 10 → j < 10 → i ≠ j → (Cond.not (Cond.eq (tmS i) (tmS j))).before args s = true ∨ (Cond.not (Cond.eq (tmS j) (tmS i))).before args s = true := by
    intro i j hi hj hij
    rcases (show i = 0 ∨ i = 1 ∨ i = 2 ∨ i = 3 ∨ i = 4 ∨ i = 5 ∨ i = 6 ∨ i = 7 ∨ i = 8 ∨ i = 9 by omega) with rfl | rfl | rfl | rfl | rfl | rfl | rfl | rfl | rfl | rfl <;> rcases (show j = 0 ∨ j = 1 ∨ j = 2 ∨ j = 3 ∨ j = 4 ∨ j = 5 ∨ j = 6 ∨ j = 7 ∨ j = 8 ∨ j = 9 by omega) with rfl | rfl | rfl | rfl | rfl | rfl | rfl | rfl | rfl | rfl
    all_goals first | exact absurd rfl hij | exact Or.inl (hs _ (by decide +kernel)) | exact Or.inr (hs _ (by decide +kernel))
  obtain ⟨adK, adV, hS, hev⟩ := vk_Sof (A := fun q : Nat => s.heap.size ≤ q) (tm := tmS) (len := lenT) (byt := bytT) (N := 10) (fun i hi => by have := lenT_lt i hi; omega) hex hco har hle hel hne hA
  refine ⟨adK, adV, hS, ?_⟩
  intro q hq
  simp only [strT, List.mem_cons, List.not_mem_nil, or_false] at hq
  rcases hq with rfl | rfl | rfl | rfl | rfl | rfl | rfl | rfl | rfl | rfl | rfl
  · exact vk_R.of (hg _ wd589) (hev 7 (by omega))
  · exact vk_R.of (hg _ wd598) (va_eqR (hs (Cond.eq (Term.string "CarriedBack$Trunk" 99) (Term.string "CarriedBack$Rules" 67)) (by decide +kernel)) (hev 4 (by omega)))
  · exact vk_R.of (hg _ wd603) (hev 8 (by omega))
  · exact vk_R.of (hg _ wd608) (hev 9 (by omega))
  · exact vk_R.of (hg _ wd436) (hev 0 (by omega))
  · exact vk_R.of (hg _ wd559) (hev 1 (by omega))
  · exact vk_R.of (hg _ wd502) (hev 2 (by omega))
  · exact vk_R.of (hg _ wd536) (hev 3 (by omega))
  · exact vk_R.of (hg _ wd541) (hev 4 (by omega))
  · exact vk_R.of (hg _ wd564) (hev 5 (by omega))
  · exact vk_R.of (hg _ wd570) (hev 6 (by omega))
set_option maxHeartbeats 8000000 in
set_option maxRecDepth 100000 in
theorem whole_of {p : Program} {e : Env} {s : State} {m : MethodId} {below : List Frame} {meth : Method} {c : Code} (l : Launch) {b L : Nat} {xs : Nat → Int32} (C0 : lw_At p s m meth c b L xs) (hrun : f_L_law_18 L xs FU 0 h00 = some 1) : W p l e room_1 s m #[Value.ref b] below meth c s.heap [] 0 0 (lw_Z below #[Value.ref b] s) (entryFrame m ([Value.ref b] : List Value).toArray 4) := by
  obtain ⟨hx, hb, hr, hml, hown, hts0, hX, hbl, hlocks, hgv⟩ := id C0
  have hts : ∀ w ∈ GW, w.before #[Value.ref b] s = true := fun w hw => hts0 w (gw_tbl w hw)
  have hA : ∀ q : Nat, s.heap.size ≤ q → (fun q : Nat => s.heap.size ≤ q) q := fun _ h => h
  have hbA : ¬ (fun q : Nat => s.heap.size ≤ q) b := Nat.not_le.mpr hbl
  obtain ⟨c0, iS0, hKn0⟩ := u_known (C := RX0) (T := TX0) (N := 10) (n := 10) hts hinX0 (hts _ wd230)
  obtain ⟨c1, iS1, hKn1⟩ := u_known (C := RX1) (T := TX1) (N := 8) (n := 8) hts hinX1 (hts _ wd300)
  obtain ⟨c2, iS2, hKn2⟩ := u_known (C := RX2) (T := TX2) (N := 4) (n := 4) hts hinX2 (hts _ wd280)
  obtain ⟨c3, iS3, hKn3⟩ := u_known (C := RX3) (T := TX3) (N := 8) (n := 8) hts hinX3 (hts _ wd116)
  obtain ⟨c4, iS4, hKn4⟩ := u_known (C := RX4) (T := TX4) (N := 7) (n := 7) hts hinX4 (hts _ wd334)
  obtain ⟨c5, iS5, hKn5⟩ := u_known (C := RX5) (T := TX5) (N := 7) (n := 7) hts hinX5 (hts _ wd201)
  obtain ⟨c6, iS6, hKn6⟩ := u_known (C := RX6) (T := TX6) (N := 2) (n := 2) hts hinX6 (hts _ wd99)
  obtain ⟨c7, iS7, hKn7⟩ := u_known (C := RX7) (T := TX7) (N := 10) (n := 10) hts hinX7 (hts _ wd149)
  obtain ⟨c8, iS8, hKn8⟩ := u_known (C := RX8) (T := TX8) (N := 14) (n := 14) hts hinX8 (hts _ wd91)
  obtain ⟨c9, iS9, hKn9⟩ := u_known (C := RX9) (T := TX9) (N := 55) (n := 55) hts hinX9 (hts _ wd1030)
  obtain ⟨dC, dI, hKc⟩ : ∃ (dC : Nat → ClassId) (dI : Nat → Nat → Nat), ∀ (k : Nat) (q : vw_C), vwCl[k]? = some q → u_Kn s q.1 q.2.1 q.2.2 (dC k) (dI k) := by
    refine ⟨fun k => [c0, c1, c2, c3, c4, c5, c6, c7, c8, c9].getD k c0, fun k => [iS0, iS1, iS2, iS3, iS4, iS5, iS6, iS7, iS8, iS9].getD k iS0, ?_⟩
    intro k q hq
    match k, hq with
    | 0, hq => cases hq; exact hKn0
    | 1, hq => cases hq; exact hKn1
    | 2, hq => cases hq; exact hKn2
    | 3, hq => cases hq; exact hKn3
    | 4, hq => cases hq; exact hKn4
    | 5, hq => cases hq; exact hKn5
    | 6, hq => cases hq; exact hKn6
    | 7, hq => cases hq; exact hKn7
    | 8, hq => cases hq; exact hKn8
    | 9, hq => cases hq; exact hKn9
    | k + 10, hq => simp [vwCl] at hq
  obtain ⟨cI, kI, coI, fI, gI1, gI2⟩ := Cond.arrayClass_spec (hts _ wd114)
  obtain ⟨cZ, kZ, coZ, fZ, gZ1, gZ2⟩ := Cond.arrayClass_spec (hts _ wd361)
  have hnest : ∀ w ∈ nestWs, va_Nw w s := by
    intro w hw
    refine va_Nw.of (nestWs_tab w hw) (hts0 w ?_)
    exact mem_pos (big := lw_tbl) [150, 202, 231, 100, 676, 798, 818, 748, 521, 937, 938, 1003, 558, 792, 287] (by decide +kernel) w hw
  have hKI : KI (dC, dI) cI cZ s := ⟨⟨hKc, fun k q h => by simp at h⟩, fI, fZ, hnest⟩
  obtain ⟨adK, adV, hVS, hVR⟩ := str_start hgv hts0
  have hs := flat_of_before _ hgv
  have hA9 : ∀ a : Nat, a < s.heap.size → ¬ (fun q : Nat => s.heap.size ≤ q) a := fun a h => Nat.not_le.mpr h
  have hZ1 : va_Z "java/lang/String" "COMPACT_STRINGS" "Z" (.int 1) (fun q : Nat => s.heap.size ≤ q) s s.heap := va_Zof (hts0 _ wd450) (hts _ wd83) (va_eqi (hs _ (by decide +kernel))) hA9
  have hZ2 : va_Zq "jdk/internal/util/Preconditions" "SIOOBE_FORMATTER" "Ljava/util/function/BiFunction;" (fun q : Nat => s.heap.size ≤ q) s s.heap := va_Zqof (hts0 _ wd466) (hts _ wd85) (hs _ (by decide +kernel)) hA9
  have hS : va_S (fun q : Nat => s.heap.size ≤ q) s.heap s.heap [] := va_S.rf
  have hP : va_P (dC, dI) vwCl [] s.heap := fun k q h => by simp at h
  have hD : va_D (fun q : Nat => s.heap.size ≤ q) [] := ⟨fun i j p q h => by simp at h, fun k q h => by simp at h⟩
  have hl := lv_entry ([.ref b]) (n := 4) (Nat.le_of_ble_eq_true rfl)
  rw [lg_entry_eq]
  generalize (lg_sl ([.ref b]) ++ List.replicate (4 - (lg_sl ([.ref b])).length) Slot.unset).toArray = ls at hl ⊢
  have hl : lv_has ls 4 [(0, .ref b)] := hl
  refine va_new (ci := 8) (fs := [.null, .null, .null, .null, .null, .null, .null, .null, .null, .null, .null, .null, .int 0, .int 0]) (C := RX8) (T := TX8) (N := 14) hx hb hts hinX8 tyX8 tyX8_ok hown (hts _ wd90) (hts _ wd91) (hts _ wd73) hKI.1 hP hD hS hA rfl (fun j hj => by rcases (show j = 0 ∨ j = 1 ∨ j = 2 ∨ j = 3 ∨ j = 4 ∨ j = 5 ∨ j = 6 ∨ j = 7 ∨ j = 8 ∨ j = 9 ∨ j = 10 ∨ j = 11 ∨ j = 12 ∨ j = 13 by omega) with rfl | rfl | rfl | rfl | rfl | rfl | rfl | rfl | rfl | rfl | rfl | rfl | rfl | rfl <;> rfl) (Nat.le_of_ble_eq_true rfl) (Nat.le_of_ble_eq_true rfl) dL_law_0 (fun q0 H hP hD hS => ?_)
  have hP : va_P (dC, dI) vwCl [(q0, .inr (8, [.null, .null, .null, .null, .null, .null, .null, .null, .null, .null, .null, .null, .int 0, .int 0]))] H := hP
  have hD : va_D (fun q : Nat => s.heap.size ≤ q) [(q0, .inr (8, [.null, .null, .null, .null, .null, .null, .null, .null, .null, .null, .null, .null, .int 0, .int 0]))] := hD
  refine W.widen (k := 1) (n := 14) (Nat.le_refl _) (Nat.le_refl _) ?_
  refine lv_dup hx hb dL_law_3 rfl ?_
  have hPc := hP.sub (ws' := [(q0, .inr (8, [.null, .null, .null, .null, .null, .null, .null, .null, .null, .null, .null, .null, .int 0, .int 0]))]) [0] rfl
  have hDc := hD.sub (ws' := [(q0, .inr (8, [.null, .null, .null, .null, .null, .null, .null, .null, .null, .null, .null, .null, .int 0, .int 0]))]) [0] (by decide) rfl
  have hFc := va_free (wc := [(q0, .inr (8, [.null, .null, .null, .null, .null, .null, .null, .null, .null, .null, .null, .null, .int 0, .int 0]))]) hD hS hA [0] rfl
  refine va_callv (va_runI (As := []) (rest := [.ref q0]) ⟨hx, hb, hml, hown, hts⟩ (k_X8_init l (dC, dI) cI cZ q0 H.size) (cwI 0 hts (gC wd94) rfl rfl rfl (hts _ wd73) (hts _ wd92) (hts _ wd93) rfl (by decide +kernel) ⟨Nat.le_of_ble_eq_true rfl, Nat.le_of_ble_eq_true rfl⟩) ⟨fun a U g mk q => ⟨q.1, q.2.1, q.2.2.1, KI.same (s := U) (U := U.calling g mk a) rfl q.2.2.2.1, q.2.2.2.2⟩, fun U hU hW => ⟨rfl, by rw [hU], by rw [hU]; exact hPc, hKI.warm hW, hDc.weaken (fun _ _ _ _ => trivial)⟩⟩ rfl rfl hl.1 rfl (lv_room (Nat.le_of_ble_eq_true rfl)) dL_law_4 ⟨Nat.le_of_ble_eq_true rfl, Nat.le_of_ble_eq_true rfl⟩) hS (fun q _ h => hFc q h) hFc (fun u t H1 locs ht hvm hw hB hz1 hk1 hS => ?_)
  obtain ⟨hP1, hD1⟩ := hB
  rw [ht] at hP1
  obtain ⟨hP, hD⟩ := va_join (wr := []) (w1 := [(q0, .inr (8, [.ref (u 1), .ref (u 3), .ref (u 4), .ref (u 13), .ref (u 22), .ref (u 25), .ref (u 28), .ref (u 37), .ref (u 46), .ref (u 55), .ref (u 58), .ref (u 60), .int 0, .int (-1)])), ((u 1), .inr (6, [.ref (u 2), .int 0])), ((u 2), .inl (cI, 500, .inl (fun _ => 0))), ((u 3), .inr (3, [.ref (u 1), .int 0, .int 0, .int 0, .int 0, .int 0, .int 0, .int (-1)])), ((u 4), .inr (7, [.int 0, .ref (u 5), .ref (u 6), .ref (u 7), .ref (u 8), .ref (u 9), .int 0, .ref (u 10), .ref (u 11), .ref (u 12)])), ((u 5), .inl (cI, 24, .inl (fun _ => 0))), ((u 6), .inl (cI, 24, .inl (fun _ => 0))), ((u 7), .inl (cI, 24, .inl (fun _ => 0))), ((u 8), .inl (cI, 384, .inl (fun _ => 0))), ((u 9), .inl (cI, 400, .inl (fun _ => 0))), ((u 10), .inl (cI, 10, .inl (fun _ => 0))), ((u 11), .inl (cI, 10, .inl (fun _ => 0))), ((u 12), .inl (cI, 10, .inl (fun _ => 0))), ((u 13), .inr (7, [.int 0, .ref (u 14), .ref (u 15), .ref (u 16), .ref (u 17), .ref (u 18), .int 0, .ref (u 19), .ref (u 20), .ref (u 21)])), ((u 14), .inl (cI, 24, .inl (fun _ => 0))), ((u 15), .inl (cI, 24, .inl (fun _ => 0))), ((u 16), .inl (cI, 24, .inl (fun _ => 0))), ((u 17), .inl (cI, 384, .inl (fun _ => 0))), ((u 18), .inl (cI, 400, .inl (fun _ => 0))), ((u 19), .inl (cI, 10, .inl (fun _ => 0))), ((u 20), .inl (cI, 10, .inl (fun _ => 0))), ((u 21), .inl (cI, 10, .inl (fun _ => 0))), ((u 22), .inr (5, [.int 0, .int 0, .ref (u 23), .ref (u 24), .int (-1), .int (-1), .int 0])), ((u 23), .inl (cI, 8, .inl (fun _ => 0))), ((u 24), .inl (cI, 8, .inl (fun _ => 0))), ((u 25), .inr (5, [.int 0, .int 0, .ref (u 26), .ref (u 27), .int (-1), .int (-1), .int 0])), ((u 26), .inl (cI, 8, .inl (fun _ => 0))), ((u 27), .inl (cI, 8, .inl (fun _ => 0))), ((u 28), .inr (0, [.int 0, .ref (u 29), .ref (u 30), .ref (u 31), .ref (u 32), .int 0, .ref (u 33), .ref (u 34), .ref (u 35), .ref (u 36)])), ((u 29), .inl (cI, 4, .inl (fun _ => 0))), ((u 30), .inl (cI, 4, .inl (fun _ => 0))), ((u 31), .inl (cI, 4, .inl (fun _ => 0))), ((u 32), .inl (cI, 64, .inl (fun _ => 0))), ((u 33), .inl (cI, 20, .inl (fun _ => 0))), ((u 34), .inl (cI, 20, .inl (fun _ => 0))), ((u 35), .inl (cI, 20, .inl (fun _ => 0))), ((u 36), .inl (cI, 320, .inl (fun _ => 0))), ((u 37), .inr (0, [.int 0, .ref (u 38), .ref (u 39), .ref (u 40), .ref (u 41), .int 0, .ref (u 42), .ref (u 43), .ref (u 44), .ref (u 45)])), ((u 38), .inl (cI, 4, .inl (fun _ => 0))), ((u 39), .inl (cI, 4, .inl (fun _ => 0))), ((u 40), .inl (cI, 4, .inl (fun _ => 0))), ((u 41), .inl (cI, 64, .inl (fun _ => 0))), ((u 42), .inl (cI, 20, .inl (fun _ => 0))), ((u 43), .inl (cI, 20, .inl (fun _ => 0))), ((u 44), .inl (cI, 20, .inl (fun _ => 0))), ((u 45), .inl (cI, 320, .inl (fun _ => 0))), ((u 46), .inr (0, [.int 0, .ref (u 47), .ref (u 48), .ref (u 49), .ref (u 50), .int 0, .ref (u 51), .ref (u 52), .ref (u 53), .ref (u 54)])), ((u 47), .inl (cI, 4, .inl (fun _ => 0))), ((u 48), .inl (cI, 4, .inl (fun _ => 0))), ((u 49), .inl (cI, 4, .inl (fun _ => 0))), ((u 50), .inl (cI, 64, .inl (fun _ => 0))), ((u 51), .inl (cI, 20, .inl (fun _ => 0))), ((u 52), .inl (cI, 20, .inl (fun _ => 0))), ((u 53), .inl (cI, 20, .inl (fun _ => 0))), ((u 54), .inl (cI, 320, .inl (fun _ => 0))), ((u 55), .inr (2, [.ref (u 4), .ref (u 28), .ref (u 56), .ref (u 57)])), ((u 56), .inl (cI, 16, .inl (fun _ => 0))), ((u 57), .inl (cI, 16, .inl (fun _ => 0))), ((u 58), .inr (1, [.ref (u 4), .ref (u 55), .int 0, .ref (u 59), .int 0, .int 0, .int 0, .int 0])), ((u 59), .inl (cI, 10, .inl (fun _ => 0))), ((u 60), .inr (4, [.ref (u 4), .ref (u 61), .int 0, .ref (u 62), .ref (u 63), .ref (u 64), .ref (u 65)])), ((u 61), .inl (cI, 8, .inl (fun _ => 0))), ((u 62), .inl (cZ, 256, .inl (fun _ => 0))), ((u 63), .inl (cI, 256, .inl (fun _ => 0))), ((u 64), .inl (cI, 256, .inl (fun _ => 0))), ((u 65), .inl (cI, 4096, .inl (fun _ => 0)))]) hP hD [0] [] rfl rfl (by decide) (by decide) hk1 hFc hP1 hD1
  generalize H1 = H at hP hS ⊢
  have hP : va_P (dC, dI) vwCl [(q0, .inr (8, [.ref (u 1), .ref (u 3), .ref (u 4), .ref (u 13), .ref (u 22), .ref (u 25), .ref (u 28), .ref (u 37), .ref (u 46), .ref (u 55), .ref (u 58), .ref (u 60), .int 0, .int (-1)])), ((u 1), .inr (6, [.ref (u 2), .int 0])), ((u 2), .inl (cI, 500, .inl (fun _ => 0))), ((u 3), .inr (3, [.ref (u 1), .int 0, .int 0, .int 0, .int 0, .int 0, .int 0, .int (-1)])), ((u 4), .inr (7, [.int 0, .ref (u 5), .ref (u 6), .ref (u 7), .ref (u 8), .ref (u 9), .int 0, .ref (u 10), .ref (u 11), .ref (u 12)])), ((u 5), .inl (cI, 24, .inl (fun _ => 0))), ((u 6), .inl (cI, 24, .inl (fun _ => 0))), ((u 7), .inl (cI, 24, .inl (fun _ => 0))), ((u 8), .inl (cI, 384, .inl (fun _ => 0))), ((u 9), .inl (cI, 400, .inl (fun _ => 0))), ((u 10), .inl (cI, 10, .inl (fun _ => 0))), ((u 11), .inl (cI, 10, .inl (fun _ => 0))), ((u 12), .inl (cI, 10, .inl (fun _ => 0))), ((u 13), .inr (7, [.int 0, .ref (u 14), .ref (u 15), .ref (u 16), .ref (u 17), .ref (u 18), .int 0, .ref (u 19), .ref (u 20), .ref (u 21)])), ((u 14), .inl (cI, 24, .inl (fun _ => 0))), ((u 15), .inl (cI, 24, .inl (fun _ => 0))), ((u 16), .inl (cI, 24, .inl (fun _ => 0))), ((u 17), .inl (cI, 384, .inl (fun _ => 0))), ((u 18), .inl (cI, 400, .inl (fun _ => 0))), ((u 19), .inl (cI, 10, .inl (fun _ => 0))), ((u 20), .inl (cI, 10, .inl (fun _ => 0))), ((u 21), .inl (cI, 10, .inl (fun _ => 0))), ((u 22), .inr (5, [.int 0, .int 0, .ref (u 23), .ref (u 24), .int (-1), .int (-1), .int 0])), ((u 23), .inl (cI, 8, .inl (fun _ => 0))), ((u 24), .inl (cI, 8, .inl (fun _ => 0))), ((u 25), .inr (5, [.int 0, .int 0, .ref (u 26), .ref (u 27), .int (-1), .int (-1), .int 0])), ((u 26), .inl (cI, 8, .inl (fun _ => 0))), ((u 27), .inl (cI, 8, .inl (fun _ => 0))), ((u 28), .inr (0, [.int 0, .ref (u 29), .ref (u 30), .ref (u 31), .ref (u 32), .int 0, .ref (u 33), .ref (u 34), .ref (u 35), .ref (u 36)])), ((u 29), .inl (cI, 4, .inl (fun _ => 0))), ((u 30), .inl (cI, 4, .inl (fun _ => 0))), ((u 31), .inl (cI, 4, .inl (fun _ => 0))), ((u 32), .inl (cI, 64, .inl (fun _ => 0))), ((u 33), .inl (cI, 20, .inl (fun _ => 0))), ((u 34), .inl (cI, 20, .inl (fun _ => 0))), ((u 35), .inl (cI, 20, .inl (fun _ => 0))), ((u 36), .inl (cI, 320, .inl (fun _ => 0))), ((u 37), .inr (0, [.int 0, .ref (u 38), .ref (u 39), .ref (u 40), .ref (u 41), .int 0, .ref (u 42), .ref (u 43), .ref (u 44), .ref (u 45)])), ((u 38), .inl (cI, 4, .inl (fun _ => 0))), ((u 39), .inl (cI, 4, .inl (fun _ => 0))), ((u 40), .inl (cI, 4, .inl (fun _ => 0))), ((u 41), .inl (cI, 64, .inl (fun _ => 0))), ((u 42), .inl (cI, 20, .inl (fun _ => 0))), ((u 43), .inl (cI, 20, .inl (fun _ => 0))), ((u 44), .inl (cI, 20, .inl (fun _ => 0))), ((u 45), .inl (cI, 320, .inl (fun _ => 0))), ((u 46), .inr (0, [.int 0, .ref (u 47), .ref (u 48), .ref (u 49), .ref (u 50), .int 0, .ref (u 51), .ref (u 52), .ref (u 53), .ref (u 54)])), ((u 47), .inl (cI, 4, .inl (fun _ => 0))), ((u 48), .inl (cI, 4, .inl (fun _ => 0))), ((u 49), .inl (cI, 4, .inl (fun _ => 0))), ((u 50), .inl (cI, 64, .inl (fun _ => 0))), ((u 51), .inl (cI, 20, .inl (fun _ => 0))), ((u 52), .inl (cI, 20, .inl (fun _ => 0))), ((u 53), .inl (cI, 20, .inl (fun _ => 0))), ((u 54), .inl (cI, 320, .inl (fun _ => 0))), ((u 55), .inr (2, [.ref (u 4), .ref (u 28), .ref (u 56), .ref (u 57)])), ((u 56), .inl (cI, 16, .inl (fun _ => 0))), ((u 57), .inl (cI, 16, .inl (fun _ => 0))), ((u 58), .inr (1, [.ref (u 4), .ref (u 55), .int 0, .ref (u 59), .int 0, .int 0, .int 0, .int 0])), ((u 59), .inl (cI, 10, .inl (fun _ => 0))), ((u 60), .inr (4, [.ref (u 4), .ref (u 61), .int 0, .ref (u 62), .ref (u 63), .ref (u 64), .ref (u 65)])), ((u 61), .inl (cI, 8, .inl (fun _ => 0))), ((u 62), .inl (cZ, 256, .inl (fun _ => 0))), ((u 63), .inl (cI, 256, .inl (fun _ => 0))), ((u 64), .inl (cI, 256, .inl (fun _ => 0))), ((u 65), .inl (cI, 4096, .inl (fun _ => 0)))] H := hP
  have hD : va_D (fun q : Nat => s.heap.size ≤ q) [(q0, .inr (8, [.ref (u 1), .ref (u 3), .ref (u 4), .ref (u 13), .ref (u 22), .ref (u 25), .ref (u 28), .ref (u 37), .ref (u 46), .ref (u 55), .ref (u 58), .ref (u 60), .int 0, .int (-1)])), ((u 1), .inr (6, [.ref (u 2), .int 0])), ((u 2), .inl (cI, 500, .inl (fun _ => 0))), ((u 3), .inr (3, [.ref (u 1), .int 0, .int 0, .int 0, .int 0, .int 0, .int 0, .int (-1)])), ((u 4), .inr (7, [.int 0, .ref (u 5), .ref (u 6), .ref (u 7), .ref (u 8), .ref (u 9), .int 0, .ref (u 10), .ref (u 11), .ref (u 12)])), ((u 5), .inl (cI, 24, .inl (fun _ => 0))), ((u 6), .inl (cI, 24, .inl (fun _ => 0))), ((u 7), .inl (cI, 24, .inl (fun _ => 0))), ((u 8), .inl (cI, 384, .inl (fun _ => 0))), ((u 9), .inl (cI, 400, .inl (fun _ => 0))), ((u 10), .inl (cI, 10, .inl (fun _ => 0))), ((u 11), .inl (cI, 10, .inl (fun _ => 0))), ((u 12), .inl (cI, 10, .inl (fun _ => 0))), ((u 13), .inr (7, [.int 0, .ref (u 14), .ref (u 15), .ref (u 16), .ref (u 17), .ref (u 18), .int 0, .ref (u 19), .ref (u 20), .ref (u 21)])), ((u 14), .inl (cI, 24, .inl (fun _ => 0))), ((u 15), .inl (cI, 24, .inl (fun _ => 0))), ((u 16), .inl (cI, 24, .inl (fun _ => 0))), ((u 17), .inl (cI, 384, .inl (fun _ => 0))), ((u 18), .inl (cI, 400, .inl (fun _ => 0))), ((u 19), .inl (cI, 10, .inl (fun _ => 0))), ((u 20), .inl (cI, 10, .inl (fun _ => 0))), ((u 21), .inl (cI, 10, .inl (fun _ => 0))), ((u 22), .inr (5, [.int 0, .int 0, .ref (u 23), .ref (u 24), .int (-1), .int (-1), .int 0])), ((u 23), .inl (cI, 8, .inl (fun _ => 0))), ((u 24), .inl (cI, 8, .inl (fun _ => 0))), ((u 25), .inr (5, [.int 0, .int 0, .ref (u 26), .ref (u 27), .int (-1), .int (-1), .int 0])), ((u 26), .inl (cI, 8, .inl (fun _ => 0))), ((u 27), .inl (cI, 8, .inl (fun _ => 0))), ((u 28), .inr (0, [.int 0, .ref (u 29), .ref (u 30), .ref (u 31), .ref (u 32), .int 0, .ref (u 33), .ref (u 34), .ref (u 35), .ref (u 36)])), ((u 29), .inl (cI, 4, .inl (fun _ => 0))), ((u 30), .inl (cI, 4, .inl (fun _ => 0))), ((u 31), .inl (cI, 4, .inl (fun _ => 0))), ((u 32), .inl (cI, 64, .inl (fun _ => 0))), ((u 33), .inl (cI, 20, .inl (fun _ => 0))), ((u 34), .inl (cI, 20, .inl (fun _ => 0))), ((u 35), .inl (cI, 20, .inl (fun _ => 0))), ((u 36), .inl (cI, 320, .inl (fun _ => 0))), ((u 37), .inr (0, [.int 0, .ref (u 38), .ref (u 39), .ref (u 40), .ref (u 41), .int 0, .ref (u 42), .ref (u 43), .ref (u 44), .ref (u 45)])), ((u 38), .inl (cI, 4, .inl (fun _ => 0))), ((u 39), .inl (cI, 4, .inl (fun _ => 0))), ((u 40), .inl (cI, 4, .inl (fun _ => 0))), ((u 41), .inl (cI, 64, .inl (fun _ => 0))), ((u 42), .inl (cI, 20, .inl (fun _ => 0))), ((u 43), .inl (cI, 20, .inl (fun _ => 0))), ((u 44), .inl (cI, 20, .inl (fun _ => 0))), ((u 45), .inl (cI, 320, .inl (fun _ => 0))), ((u 46), .inr (0, [.int 0, .ref (u 47), .ref (u 48), .ref (u 49), .ref (u 50), .int 0, .ref (u 51), .ref (u 52), .ref (u 53), .ref (u 54)])), ((u 47), .inl (cI, 4, .inl (fun _ => 0))), ((u 48), .inl (cI, 4, .inl (fun _ => 0))), ((u 49), .inl (cI, 4, .inl (fun _ => 0))), ((u 50), .inl (cI, 64, .inl (fun _ => 0))), ((u 51), .inl (cI, 20, .inl (fun _ => 0))), ((u 52), .inl (cI, 20, .inl (fun _ => 0))), ((u 53), .inl (cI, 20, .inl (fun _ => 0))), ((u 54), .inl (cI, 320, .inl (fun _ => 0))), ((u 55), .inr (2, [.ref (u 4), .ref (u 28), .ref (u 56), .ref (u 57)])), ((u 56), .inl (cI, 16, .inl (fun _ => 0))), ((u 57), .inl (cI, 16, .inl (fun _ => 0))), ((u 58), .inr (1, [.ref (u 4), .ref (u 55), .int 0, .ref (u 59), .int 0, .int 0, .int 0, .int 0])), ((u 59), .inl (cI, 10, .inl (fun _ => 0))), ((u 60), .inr (4, [.ref (u 4), .ref (u 61), .int 0, .ref (u 62), .ref (u 63), .ref (u 64), .ref (u 65)])), ((u 61), .inl (cI, 8, .inl (fun _ => 0))), ((u 62), .inl (cZ, 256, .inl (fun _ => 0))), ((u 63), .inl (cI, 256, .inl (fun _ => 0))), ((u 64), .inl (cI, 256, .inl (fun _ => 0))), ((u 65), .inl (cI, 4096, .inl (fun _ => 0)))] := hD
  refine W.widen (k := 66) (n := 8693) (Nat.le_refl _) (Nat.le_refl _) ?_
  refine lv_astore_n (lv' := [(1, .ref q0), (0, .ref b)]) hx hb dL_law_7 rfl hl (by decide) rfl (fun ls hl => ?_)
  refine va_new (ci := 9) (fs := [.int 0, .null, .null, .null, .int 0, .null, .null, .null, .int 0, .null, .null, .null, .null, .int 0, .null, .null, .null, .null, .null, .int 0, .int 0, .int 0, .int 0, .long 0, .int 0, .int 0, .int 0, .int 0, .null, .null, .null, .int 0, .null, .null, .null, .int 0, .null, .null, .null, .null, .int 0, .int 0, .null, .null, .int 0, .int 0, .int 0, .int 0, .null, .null, .int 0, .int 0, .int 0, .null, .null]) (C := RX9) (T := TX9) (N := 55) hx hb hts hinX9 tyX9 tyX9_ok hown (hts _ wd1029) (hts _ wd1030) (hts _ wd82) hKI.1 hP hD hS hA rfl (fun j hj => by rcases (show j = 0 ∨ j = 1 ∨ j = 2 ∨ j = 3 ∨ j = 4 ∨ j = 5 ∨ j = 6 ∨ j = 7 ∨ j = 8 ∨ j = 9 ∨ j = 10 ∨ j = 11 ∨ j = 12 ∨ j = 13 ∨ j = 14 ∨ j = 15 ∨ j = 16 ∨ j = 17 ∨ j = 18 ∨ j = 19 ∨ j = 20 ∨ j = 21 ∨ j = 22 ∨ j = 23 ∨ j = 24 ∨ j = 25 ∨ j = 26 ∨ j = 27 ∨ j = 28 ∨ j = 29 ∨ j = 30 ∨ j = 31 ∨ j = 32 ∨ j = 33 ∨ j = 34 ∨ j = 35 ∨ j = 36 ∨ j = 37 ∨ j = 38 ∨ j = 39 ∨ j = 40 ∨ j = 41 ∨ j = 42 ∨ j = 43 ∨ j = 44 ∨ j = 45 ∨ j = 46 ∨ j = 47 ∨ j = 48 ∨ j = 49 ∨ j = 50 ∨ j = 51 ∨ j = 52 ∨ j = 53 ∨ j = 54 by omega) with rfl | rfl | rfl | rfl | rfl | rfl | rfl | rfl | rfl | rfl | rfl | rfl | rfl | rfl | rfl | rfl | rfl | rfl | rfl | rfl | rfl | rfl | rfl | rfl | rfl | rfl | rfl | rfl | rfl | rfl | rfl | rfl | rfl | rfl | rfl | rfl | rfl | rfl | rfl | rfl | rfl | rfl | rfl | rfl | rfl | rfl | rfl | rfl | rfl | rfl | rfl | rfl | rfl | rfl | rfl <;> rfl) (Nat.le_of_ble_eq_true rfl) (Nat.le_of_ble_eq_true rfl) dL_law_8 (fun q8 H hP hD hS => ?_)
  have hP : va_P (dC, dI) vwCl [(q0, .inr (8, [.ref (u 1), .ref (u 3), .ref (u 4), .ref (u 13), .ref (u 22), .ref (u 25), .ref (u 28), .ref (u 37), .ref (u 46), .ref (u 55), .ref (u 58), .ref (u 60), .int 0, .int (-1)])), ((u 1), .inr (6, [.ref (u 2), .int 0])), ((u 2), .inl (cI, 500, .inl (fun _ => 0))), ((u 3), .inr (3, [.ref (u 1), .int 0, .int 0, .int 0, .int 0, .int 0, .int 0, .int (-1)])), ((u 4), .inr (7, [.int 0, .ref (u 5), .ref (u 6), .ref (u 7), .ref (u 8), .ref (u 9), .int 0, .ref (u 10), .ref (u 11), .ref (u 12)])), ((u 5), .inl (cI, 24, .inl (fun _ => 0))), ((u 6), .inl (cI, 24, .inl (fun _ => 0))), ((u 7), .inl (cI, 24, .inl (fun _ => 0))), ((u 8), .inl (cI, 384, .inl (fun _ => 0))), ((u 9), .inl (cI, 400, .inl (fun _ => 0))), ((u 10), .inl (cI, 10, .inl (fun _ => 0))), ((u 11), .inl (cI, 10, .inl (fun _ => 0))), ((u 12), .inl (cI, 10, .inl (fun _ => 0))), ((u 13), .inr (7, [.int 0, .ref (u 14), .ref (u 15), .ref (u 16), .ref (u 17), .ref (u 18), .int 0, .ref (u 19), .ref (u 20), .ref (u 21)])), ((u 14), .inl (cI, 24, .inl (fun _ => 0))), ((u 15), .inl (cI, 24, .inl (fun _ => 0))), ((u 16), .inl (cI, 24, .inl (fun _ => 0))), ((u 17), .inl (cI, 384, .inl (fun _ => 0))), ((u 18), .inl (cI, 400, .inl (fun _ => 0))), ((u 19), .inl (cI, 10, .inl (fun _ => 0))), ((u 20), .inl (cI, 10, .inl (fun _ => 0))), ((u 21), .inl (cI, 10, .inl (fun _ => 0))), ((u 22), .inr (5, [.int 0, .int 0, .ref (u 23), .ref (u 24), .int (-1), .int (-1), .int 0])), ((u 23), .inl (cI, 8, .inl (fun _ => 0))), ((u 24), .inl (cI, 8, .inl (fun _ => 0))), ((u 25), .inr (5, [.int 0, .int 0, .ref (u 26), .ref (u 27), .int (-1), .int (-1), .int 0])), ((u 26), .inl (cI, 8, .inl (fun _ => 0))), ((u 27), .inl (cI, 8, .inl (fun _ => 0))), ((u 28), .inr (0, [.int 0, .ref (u 29), .ref (u 30), .ref (u 31), .ref (u 32), .int 0, .ref (u 33), .ref (u 34), .ref (u 35), .ref (u 36)])), ((u 29), .inl (cI, 4, .inl (fun _ => 0))), ((u 30), .inl (cI, 4, .inl (fun _ => 0))), ((u 31), .inl (cI, 4, .inl (fun _ => 0))), ((u 32), .inl (cI, 64, .inl (fun _ => 0))), ((u 33), .inl (cI, 20, .inl (fun _ => 0))), ((u 34), .inl (cI, 20, .inl (fun _ => 0))), ((u 35), .inl (cI, 20, .inl (fun _ => 0))), ((u 36), .inl (cI, 320, .inl (fun _ => 0))), ((u 37), .inr (0, [.int 0, .ref (u 38), .ref (u 39), .ref (u 40), .ref (u 41), .int 0, .ref (u 42), .ref (u 43), .ref (u 44), .ref (u 45)])), ((u 38), .inl (cI, 4, .inl (fun _ => 0))), ((u 39), .inl (cI, 4, .inl (fun _ => 0))), ((u 40), .inl (cI, 4, .inl (fun _ => 0))), ((u 41), .inl (cI, 64, .inl (fun _ => 0))), ((u 42), .inl (cI, 20, .inl (fun _ => 0))), ((u 43), .inl (cI, 20, .inl (fun _ => 0))), ((u 44), .inl (cI, 20, .inl (fun _ => 0))), ((u 45), .inl (cI, 320, .inl (fun _ => 0))), ((u 46), .inr (0, [.int 0, .ref (u 47), .ref (u 48), .ref (u 49), .ref (u 50), .int 0, .ref (u 51), .ref (u 52), .ref (u 53), .ref (u 54)])), ((u 47), .inl (cI, 4, .inl (fun _ => 0))), ((u 48), .inl (cI, 4, .inl (fun _ => 0))), ((u 49), .inl (cI, 4, .inl (fun _ => 0))), ((u 50), .inl (cI, 64, .inl (fun _ => 0))), ((u 51), .inl (cI, 20, .inl (fun _ => 0))), ((u 52), .inl (cI, 20, .inl (fun _ => 0))), ((u 53), .inl (cI, 20, .inl (fun _ => 0))), ((u 54), .inl (cI, 320, .inl (fun _ => 0))), ((u 55), .inr (2, [.ref (u 4), .ref (u 28), .ref (u 56), .ref (u 57)])), ((u 56), .inl (cI, 16, .inl (fun _ => 0))), ((u 57), .inl (cI, 16, .inl (fun _ => 0))), ((u 58), .inr (1, [.ref (u 4), .ref (u 55), .int 0, .ref (u 59), .int 0, .int 0, .int 0, .int 0])), ((u 59), .inl (cI, 10, .inl (fun _ => 0))), ((u 60), .inr (4, [.ref (u 4), .ref (u 61), .int 0, .ref (u 62), .ref (u 63), .ref (u 64), .ref (u 65)])), ((u 61), .inl (cI, 8, .inl (fun _ => 0))), ((u 62), .inl (cZ, 256, .inl (fun _ => 0))), ((u 63), .inl (cI, 256, .inl (fun _ => 0))), ((u 64), .inl (cI, 256, .inl (fun _ => 0))), ((u 65), .inl (cI, 4096, .inl (fun _ => 0))), (q8, .inr (9, [.int 0, .null, .null, .null, .int 0, .null, .null, .null, .int 0, .null, .null, .null, .null, .int 0, .null, .null, .null, .null, .null, .int 0, .int 0, .int 0, .int 0, .long 0, .int 0, .int 0, .int 0, .int 0, .null, .null, .null, .int 0, .null, .null, .null, .int 0, .null, .null, .null, .null, .int 0, .int 0, .null, .null, .int 0, .int 0, .int 0, .int 0, .null, .null, .int 0, .int 0, .int 0, .null, .null]))] H := hP
  have hD : va_D (fun q : Nat => s.heap.size ≤ q) [(q0, .inr (8, [.ref (u 1), .ref (u 3), .ref (u 4), .ref (u 13), .ref (u 22), .ref (u 25), .ref (u 28), .ref (u 37), .ref (u 46), .ref (u 55), .ref (u 58), .ref (u 60), .int 0, .int (-1)])), ((u 1), .inr (6, [.ref (u 2), .int 0])), ((u 2), .inl (cI, 500, .inl (fun _ => 0))), ((u 3), .inr (3, [.ref (u 1), .int 0, .int 0, .int 0, .int 0, .int 0, .int 0, .int (-1)])), ((u 4), .inr (7, [.int 0, .ref (u 5), .ref (u 6), .ref (u 7), .ref (u 8), .ref (u 9), .int 0, .ref (u 10), .ref (u 11), .ref (u 12)])), ((u 5), .inl (cI, 24, .inl (fun _ => 0))), ((u 6), .inl (cI, 24, .inl (fun _ => 0))), ((u 7), .inl (cI, 24, .inl (fun _ => 0))), ((u 8), .inl (cI, 384, .inl (fun _ => 0))), ((u 9), .inl (cI, 400, .inl (fun _ => 0))), ((u 10), .inl (cI, 10, .inl (fun _ => 0))), ((u 11), .inl (cI, 10, .inl (fun _ => 0))), ((u 12), .inl (cI, 10, .inl (fun _ => 0))), ((u 13), .inr (7, [.int 0, .ref (u 14), .ref (u 15), .ref (u 16), .ref (u 17), .ref (u 18), .int 0, .ref (u 19), .ref (u 20), .ref (u 21)])), ((u 14), .inl (cI, 24, .inl (fun _ => 0))), ((u 15), .inl (cI, 24, .inl (fun _ => 0))), ((u 16), .inl (cI, 24, .inl (fun _ => 0))), ((u 17), .inl (cI, 384, .inl (fun _ => 0))), ((u 18), .inl (cI, 400, .inl (fun _ => 0))), ((u 19), .inl (cI, 10, .inl (fun _ => 0))), ((u 20), .inl (cI, 10, .inl (fun _ => 0))), ((u 21), .inl (cI, 10, .inl (fun _ => 0))), ((u 22), .inr (5, [.int 0, .int 0, .ref (u 23), .ref (u 24), .int (-1), .int (-1), .int 0])), ((u 23), .inl (cI, 8, .inl (fun _ => 0))), ((u 24), .inl (cI, 8, .inl (fun _ => 0))), ((u 25), .inr (5, [.int 0, .int 0, .ref (u 26), .ref (u 27), .int (-1), .int (-1), .int 0])), ((u 26), .inl (cI, 8, .inl (fun _ => 0))), ((u 27), .inl (cI, 8, .inl (fun _ => 0))), ((u 28), .inr (0, [.int 0, .ref (u 29), .ref (u 30), .ref (u 31), .ref (u 32), .int 0, .ref (u 33), .ref (u 34), .ref (u 35), .ref (u 36)])), ((u 29), .inl (cI, 4, .inl (fun _ => 0))), ((u 30), .inl (cI, 4, .inl (fun _ => 0))), ((u 31), .inl (cI, 4, .inl (fun _ => 0))), ((u 32), .inl (cI, 64, .inl (fun _ => 0))), ((u 33), .inl (cI, 20, .inl (fun _ => 0))), ((u 34), .inl (cI, 20, .inl (fun _ => 0))), ((u 35), .inl (cI, 20, .inl (fun _ => 0))), ((u 36), .inl (cI, 320, .inl (fun _ => 0))), ((u 37), .inr (0, [.int 0, .ref (u 38), .ref (u 39), .ref (u 40), .ref (u 41), .int 0, .ref (u 42), .ref (u 43), .ref (u 44), .ref (u 45)])), ((u 38), .inl (cI, 4, .inl (fun _ => 0))), ((u 39), .inl (cI, 4, .inl (fun _ => 0))), ((u 40), .inl (cI, 4, .inl (fun _ => 0))), ((u 41), .inl (cI, 64, .inl (fun _ => 0))), ((u 42), .inl (cI, 20, .inl (fun _ => 0))), ((u 43), .inl (cI, 20, .inl (fun _ => 0))), ((u 44), .inl (cI, 20, .inl (fun _ => 0))), ((u 45), .inl (cI, 320, .inl (fun _ => 0))), ((u 46), .inr (0, [.int 0, .ref (u 47), .ref (u 48), .ref (u 49), .ref (u 50), .int 0, .ref (u 51), .ref (u 52), .ref (u 53), .ref (u 54)])), ((u 47), .inl (cI, 4, .inl (fun _ => 0))), ((u 48), .inl (cI, 4, .inl (fun _ => 0))), ((u 49), .inl (cI, 4, .inl (fun _ => 0))), ((u 50), .inl (cI, 64, .inl (fun _ => 0))), ((u 51), .inl (cI, 20, .inl (fun _ => 0))), ((u 52), .inl (cI, 20, .inl (fun _ => 0))), ((u 53), .inl (cI, 20, .inl (fun _ => 0))), ((u 54), .inl (cI, 320, .inl (fun _ => 0))), ((u 55), .inr (2, [.ref (u 4), .ref (u 28), .ref (u 56), .ref (u 57)])), ((u 56), .inl (cI, 16, .inl (fun _ => 0))), ((u 57), .inl (cI, 16, .inl (fun _ => 0))), ((u 58), .inr (1, [.ref (u 4), .ref (u 55), .int 0, .ref (u 59), .int 0, .int 0, .int 0, .int 0])), ((u 59), .inl (cI, 10, .inl (fun _ => 0))), ((u 60), .inr (4, [.ref (u 4), .ref (u 61), .int 0, .ref (u 62), .ref (u 63), .ref (u 64), .ref (u 65)])), ((u 61), .inl (cI, 8, .inl (fun _ => 0))), ((u 62), .inl (cZ, 256, .inl (fun _ => 0))), ((u 63), .inl (cI, 256, .inl (fun _ => 0))), ((u 64), .inl (cI, 256, .inl (fun _ => 0))), ((u 65), .inl (cI, 4096, .inl (fun _ => 0))), (q8, .inr (9, [.int 0, .null, .null, .null, .int 0, .null, .null, .null, .int 0, .null, .null, .null, .null, .int 0, .null, .null, .null, .null, .null, .int 0, .int 0, .int 0, .int 0, .long 0, .int 0, .int 0, .int 0, .int 0, .null, .null, .null, .int 0, .null, .null, .null, .int 0, .null, .null, .null, .null, .int 0, .int 0, .null, .null, .int 0, .int 0, .int 0, .int 0, .null, .null, .int 0, .int 0, .int 0, .null, .null]))] := hD
  refine W.widen (k := 67) (n := 8748) (Nat.le_refl _) (Nat.le_refl _) ?_
  refine lv_dup hx hb dL_law_11 rfl ?_
  have hPc := hP.sub (ws' := [(q8, .inr (9, [.int 0, .null, .null, .null, .int 0, .null, .null, .null, .int 0, .null, .null, .null, .null, .int 0, .null, .null, .null, .null, .null, .int 0, .int 0, .int 0, .int 0, .long 0, .int 0, .int 0, .int 0, .int 0, .null, .null, .null, .int 0, .null, .null, .null, .int 0, .null, .null, .null, .null, .int 0, .int 0, .null, .null, .int 0, .int 0, .int 0, .int 0, .null, .null, .int 0, .int 0, .int 0, .null, .null]))]) [66] rfl
  have hDc := hD.sub (ws' := [(q8, .inr (9, [.int 0, .null, .null, .null, .int 0, .null, .null, .null, .int 0, .null, .null, .null, .null, .int 0, .null, .null, .null, .null, .null, .int 0, .int 0, .int 0, .int 0, .long 0, .int 0, .int 0, .int 0, .int 0, .null, .null, .null, .int 0, .null, .null, .null, .int 0, .null, .null, .null, .null, .int 0, .int 0, .null, .null, .int 0, .int 0, .int 0, .int 0, .null, .null, .int 0, .int 0, .int 0, .null, .null]))]) [66] (by decide) rfl
  have hFc := va_free (wc := [(q8, .inr (9, [.int 0, .null, .null, .null, .int 0, .null, .null, .null, .int 0, .null, .null, .null, .null, .int 0, .null, .null, .null, .null, .null, .int 0, .int 0, .int 0, .int 0, .long 0, .int 0, .int 0, .int 0, .int 0, .null, .null, .null, .int 0, .null, .null, .null, .int 0, .null, .null, .null, .null, .int 0, .int 0, .null, .null, .int 0, .int 0, .int 0, .int 0, .null, .null, .int 0, .int 0, .int 0, .null, .null]))]) hD hS hA [66] rfl
  refine va_callv (va_runI (As := []) (rest := [.ref q8]) ⟨hx, hb, hml, hown, hts⟩ (k_X9_init l (dC, dI) cI cZ q8 H.size) (cwI 0 hts (gC wd1033) rfl rfl rfl (hts _ wd82) (hts _ wd1031) (hts _ wd1032) rfl (by decide +kernel) ⟨Nat.le_of_ble_eq_true rfl, Nat.le_of_ble_eq_true rfl⟩) ⟨fun a U g mk q => ⟨q.1, q.2.1, q.2.2.1, KI.same (s := U) (U := U.calling g mk a) rfl q.2.2.2.1, q.2.2.2.2⟩, fun U hU hW => ⟨rfl, by rw [hU], by rw [hU]; exact hPc, hKI.warm hW, hDc.weaken (fun _ _ _ _ => trivial)⟩⟩ rfl rfl hl.1 rfl (lv_room (Nat.le_of_ble_eq_true rfl)) dL_law_12 ⟨Nat.le_of_ble_eq_true rfl, Nat.le_of_ble_eq_true rfl⟩) hS (fun q _ h => hFc q h) hFc (fun v t H1 locs ht hvm hw hB hz1 hk1 hS => ?_)
  obtain ⟨hP1, hD1⟩ := hB
  rw [ht] at hP1
  obtain ⟨hP, hD⟩ := va_join (wr := [(q0, .inr (8, [.ref (u 1), .ref (u 3), .ref (u 4), .ref (u 13), .ref (u 22), .ref (u 25), .ref (u 28), .ref (u 37), .ref (u 46), .ref (u 55), .ref (u 58), .ref (u 60), .int 0, .int (-1)])), ((u 1), .inr (6, [.ref (u 2), .int 0])), ((u 2), .inl (cI, 500, .inl (fun _ => 0))), ((u 3), .inr (3, [.ref (u 1), .int 0, .int 0, .int 0, .int 0, .int 0, .int 0, .int (-1)])), ((u 4), .inr (7, [.int 0, .ref (u 5), .ref (u 6), .ref (u 7), .ref (u 8), .ref (u 9), .int 0, .ref (u 10), .ref (u 11), .ref (u 12)])), ((u 5), .inl (cI, 24, .inl (fun _ => 0))), ((u 6), .inl (cI, 24, .inl (fun _ => 0))), ((u 7), .inl (cI, 24, .inl (fun _ => 0))), ((u 8), .inl (cI, 384, .inl (fun _ => 0))), ((u 9), .inl (cI, 400, .inl (fun _ => 0))), ((u 10), .inl (cI, 10, .inl (fun _ => 0))), ((u 11), .inl (cI, 10, .inl (fun _ => 0))), ((u 12), .inl (cI, 10, .inl (fun _ => 0))), ((u 13), .inr (7, [.int 0, .ref (u 14), .ref (u 15), .ref (u 16), .ref (u 17), .ref (u 18), .int 0, .ref (u 19), .ref (u 20), .ref (u 21)])), ((u 14), .inl (cI, 24, .inl (fun _ => 0))), ((u 15), .inl (cI, 24, .inl (fun _ => 0))), ((u 16), .inl (cI, 24, .inl (fun _ => 0))), ((u 17), .inl (cI, 384, .inl (fun _ => 0))), ((u 18), .inl (cI, 400, .inl (fun _ => 0))), ((u 19), .inl (cI, 10, .inl (fun _ => 0))), ((u 20), .inl (cI, 10, .inl (fun _ => 0))), ((u 21), .inl (cI, 10, .inl (fun _ => 0))), ((u 22), .inr (5, [.int 0, .int 0, .ref (u 23), .ref (u 24), .int (-1), .int (-1), .int 0])), ((u 23), .inl (cI, 8, .inl (fun _ => 0))), ((u 24), .inl (cI, 8, .inl (fun _ => 0))), ((u 25), .inr (5, [.int 0, .int 0, .ref (u 26), .ref (u 27), .int (-1), .int (-1), .int 0])), ((u 26), .inl (cI, 8, .inl (fun _ => 0))), ((u 27), .inl (cI, 8, .inl (fun _ => 0))), ((u 28), .inr (0, [.int 0, .ref (u 29), .ref (u 30), .ref (u 31), .ref (u 32), .int 0, .ref (u 33), .ref (u 34), .ref (u 35), .ref (u 36)])), ((u 29), .inl (cI, 4, .inl (fun _ => 0))), ((u 30), .inl (cI, 4, .inl (fun _ => 0))), ((u 31), .inl (cI, 4, .inl (fun _ => 0))), ((u 32), .inl (cI, 64, .inl (fun _ => 0))), ((u 33), .inl (cI, 20, .inl (fun _ => 0))), ((u 34), .inl (cI, 20, .inl (fun _ => 0))), ((u 35), .inl (cI, 20, .inl (fun _ => 0))), ((u 36), .inl (cI, 320, .inl (fun _ => 0))), ((u 37), .inr (0, [.int 0, .ref (u 38), .ref (u 39), .ref (u 40), .ref (u 41), .int 0, .ref (u 42), .ref (u 43), .ref (u 44), .ref (u 45)])), ((u 38), .inl (cI, 4, .inl (fun _ => 0))), ((u 39), .inl (cI, 4, .inl (fun _ => 0))), ((u 40), .inl (cI, 4, .inl (fun _ => 0))), ((u 41), .inl (cI, 64, .inl (fun _ => 0))), ((u 42), .inl (cI, 20, .inl (fun _ => 0))), ((u 43), .inl (cI, 20, .inl (fun _ => 0))), ((u 44), .inl (cI, 20, .inl (fun _ => 0))), ((u 45), .inl (cI, 320, .inl (fun _ => 0))), ((u 46), .inr (0, [.int 0, .ref (u 47), .ref (u 48), .ref (u 49), .ref (u 50), .int 0, .ref (u 51), .ref (u 52), .ref (u 53), .ref (u 54)])), ((u 47), .inl (cI, 4, .inl (fun _ => 0))), ((u 48), .inl (cI, 4, .inl (fun _ => 0))), ((u 49), .inl (cI, 4, .inl (fun _ => 0))), ((u 50), .inl (cI, 64, .inl (fun _ => 0))), ((u 51), .inl (cI, 20, .inl (fun _ => 0))), ((u 52), .inl (cI, 20, .inl (fun _ => 0))), ((u 53), .inl (cI, 20, .inl (fun _ => 0))), ((u 54), .inl (cI, 320, .inl (fun _ => 0))), ((u 55), .inr (2, [.ref (u 4), .ref (u 28), .ref (u 56), .ref (u 57)])), ((u 56), .inl (cI, 16, .inl (fun _ => 0))), ((u 57), .inl (cI, 16, .inl (fun _ => 0))), ((u 58), .inr (1, [.ref (u 4), .ref (u 55), .int 0, .ref (u 59), .int 0, .int 0, .int 0, .int 0])), ((u 59), .inl (cI, 10, .inl (fun _ => 0))), ((u 60), .inr (4, [.ref (u 4), .ref (u 61), .int 0, .ref (u 62), .ref (u 63), .ref (u 64), .ref (u 65)])), ((u 61), .inl (cI, 8, .inl (fun _ => 0))), ((u 62), .inl (cZ, 256, .inl (fun _ => 0))), ((u 63), .inl (cI, 256, .inl (fun _ => 0))), ((u 64), .inl (cI, 256, .inl (fun _ => 0))), ((u 65), .inl (cI, 4096, .inl (fun _ => 0)))]) (w1 := [(q8, .inr (9, [.int 0, .ref (v 1), .ref (v 2), .ref (v 3), .int 0, .ref (v 4), .ref (v 5), .ref (v 6), .int 0, .ref (v 7), .ref (v 8), .ref (v 9), .ref (v 10), .int 0, .ref (v 11), .ref (v 12), .ref (v 13), .ref (v 14), .ref (v 15), .int 0, .int (-1), .int 0, .int 0, .long 0, .int 0, .int 0, .int 0, .int 0, .ref (v 16), .ref (v 17), .ref (v 18), .int 0, .ref (v 19), .ref (v 20), .ref (v 21), .int 0, .ref (v 22), .ref (v 23), .ref (v 24), .ref (v 25), .int 0, .int 0, .ref (v 26), .ref (v 27), .int (-1), .int (-1), .int 0, .int 0, .ref (v 28), .ref (v 29), .int 0, .int 0, .int 0, .ref (v 30), .ref (v 31)])), ((v 1), .inl (cI, 384, .inl (fun _ => 0))), ((v 2), .inl (cI, 24, .inl (fun _ => 0))), ((v 3), .inl (cI, 24, .inl (fun _ => 0))), ((v 4), .inl (cI, 10, .inl (fun _ => 0))), ((v 5), .inl (cI, 10, .inl (fun _ => 0))), ((v 6), .inl (cI, 10, .inl (fun _ => 0))), ((v 7), .inl (cI, 4, .inl (fun _ => 0))), ((v 8), .inl (cI, 4, .inl (fun _ => 0))), ((v 9), .inl (cI, 64, .inl (fun _ => 0))), ((v 10), .inl (cI, 4, .inl (fun _ => 0))), ((v 11), .inl (cI, 20, .inl (fun _ => 0))), ((v 12), .inl (cI, 20, .inl (fun _ => 0))), ((v 13), .inl (cI, 20, .inl (fun _ => 0))), ((v 14), .inl (cI, 320, .inl (fun _ => 0))), ((v 15), .inl (cI, 500, .inl (fun _ => 0))), ((v 16), .inl (cI, 384, .inl (fun _ => 0))), ((v 17), .inl (cI, 24, .inl (fun _ => 0))), ((v 18), .inl (cI, 24, .inl (fun _ => 0))), ((v 19), .inl (cI, 10, .inl (fun _ => 0))), ((v 20), .inl (cI, 10, .inl (fun _ => 0))), ((v 21), .inl (cI, 10, .inl (fun _ => 0))), ((v 22), .inl (cI, 400, .inl (fun _ => 0))), ((v 23), .inl (cI, 16, .inl (fun _ => 0))), ((v 24), .inl (cI, 16, .inl (fun _ => 0))), ((v 25), .inl (cI, 8, .inl (fun _ => 0))), ((v 26), .inl (cI, 8, .inl (fun _ => 0))), ((v 27), .inl (cI, 8, .inl (fun _ => 0))), ((v 28), .inl (cI, 8, .inl (fun _ => 0))), ((v 29), .inl (cI, 8, .inl (fun _ => 0))), ((v 30), .inl (cI, 1000, .inl (fun _ => 0))), ((v 31), .inl (cZ, 2, .inl (fun _ => 0)))]) hP hD [66] [0, 1, 2, 3, 4, 5, 6, 7, 8, 9, 10, 11, 12, 13, 14, 15, 16, 17, 18, 19, 20, 21, 22, 23, 24, 25, 26, 27, 28, 29, 30, 31, 32, 33, 34, 35, 36, 37, 38, 39, 40, 41, 42, 43, 44, 45, 46, 47, 48, 49, 50, 51, 52, 53, 54, 55, 56, 57, 58, 59, 60, 61, 62, 63, 64, 65] rfl rfl (by decide) (by decide) hk1 hFc hP1 hD1
  generalize H1 = H at hP hS ⊢
  have hP : va_P (dC, dI) vwCl [(q0, .inr (8, [.ref (u 1), .ref (u 3), .ref (u 4), .ref (u 13), .ref (u 22), .ref (u 25), .ref (u 28), .ref (u 37), .ref (u 46), .ref (u 55), .ref (u 58), .ref (u 60), .int 0, .int (-1)])), ((u 1), .inr (6, [.ref (u 2), .int 0])), ((u 2), .inl (cI, 500, .inl (fun _ => 0))), ((u 3), .inr (3, [.ref (u 1), .int 0, .int 0, .int 0, .int 0, .int 0, .int 0, .int (-1)])), ((u 4), .inr (7, [.int 0, .ref (u 5), .ref (u 6), .ref (u 7), .ref (u 8), .ref (u 9), .int 0, .ref (u 10), .ref (u 11), .ref (u 12)])), ((u 5), .inl (cI, 24, .inl (fun _ => 0))), ((u 6), .inl (cI, 24, .inl (fun _ => 0))), ((u 7), .inl (cI, 24, .inl (fun _ => 0))), ((u 8), .inl (cI, 384, .inl (fun _ => 0))), ((u 9), .inl (cI, 400, .inl (fun _ => 0))), ((u 10), .inl (cI, 10, .inl (fun _ => 0))), ((u 11), .inl (cI, 10, .inl (fun _ => 0))), ((u 12), .inl (cI, 10, .inl (fun _ => 0))), ((u 13), .inr (7, [.int 0, .ref (u 14), .ref (u 15), .ref (u 16), .ref (u 17), .ref (u 18), .int 0, .ref (u 19), .ref (u 20), .ref (u 21)])), ((u 14), .inl (cI, 24, .inl (fun _ => 0))), ((u 15), .inl (cI, 24, .inl (fun _ => 0))), ((u 16), .inl (cI, 24, .inl (fun _ => 0))), ((u 17), .inl (cI, 384, .inl (fun _ => 0))), ((u 18), .inl (cI, 400, .inl (fun _ => 0))), ((u 19), .inl (cI, 10, .inl (fun _ => 0))), ((u 20), .inl (cI, 10, .inl (fun _ => 0))), ((u 21), .inl (cI, 10, .inl (fun _ => 0))), ((u 22), .inr (5, [.int 0, .int 0, .ref (u 23), .ref (u 24), .int (-1), .int (-1), .int 0])), ((u 23), .inl (cI, 8, .inl (fun _ => 0))), ((u 24), .inl (cI, 8, .inl (fun _ => 0))), ((u 25), .inr (5, [.int 0, .int 0, .ref (u 26), .ref (u 27), .int (-1), .int (-1), .int 0])), ((u 26), .inl (cI, 8, .inl (fun _ => 0))), ((u 27), .inl (cI, 8, .inl (fun _ => 0))), ((u 28), .inr (0, [.int 0, .ref (u 29), .ref (u 30), .ref (u 31), .ref (u 32), .int 0, .ref (u 33), .ref (u 34), .ref (u 35), .ref (u 36)])), ((u 29), .inl (cI, 4, .inl (fun _ => 0))), ((u 30), .inl (cI, 4, .inl (fun _ => 0))), ((u 31), .inl (cI, 4, .inl (fun _ => 0))), ((u 32), .inl (cI, 64, .inl (fun _ => 0))), ((u 33), .inl (cI, 20, .inl (fun _ => 0))), ((u 34), .inl (cI, 20, .inl (fun _ => 0))), ((u 35), .inl (cI, 20, .inl (fun _ => 0))), ((u 36), .inl (cI, 320, .inl (fun _ => 0))), ((u 37), .inr (0, [.int 0, .ref (u 38), .ref (u 39), .ref (u 40), .ref (u 41), .int 0, .ref (u 42), .ref (u 43), .ref (u 44), .ref (u 45)])), ((u 38), .inl (cI, 4, .inl (fun _ => 0))), ((u 39), .inl (cI, 4, .inl (fun _ => 0))), ((u 40), .inl (cI, 4, .inl (fun _ => 0))), ((u 41), .inl (cI, 64, .inl (fun _ => 0))), ((u 42), .inl (cI, 20, .inl (fun _ => 0))), ((u 43), .inl (cI, 20, .inl (fun _ => 0))), ((u 44), .inl (cI, 20, .inl (fun _ => 0))), ((u 45), .inl (cI, 320, .inl (fun _ => 0))), ((u 46), .inr (0, [.int 0, .ref (u 47), .ref (u 48), .ref (u 49), .ref (u 50), .int 0, .ref (u 51), .ref (u 52), .ref (u 53), .ref (u 54)])), ((u 47), .inl (cI, 4, .inl (fun _ => 0))), ((u 48), .inl (cI, 4, .inl (fun _ => 0))), ((u 49), .inl (cI, 4, .inl (fun _ => 0))), ((u 50), .inl (cI, 64, .inl (fun _ => 0))), ((u 51), .inl (cI, 20, .inl (fun _ => 0))), ((u 52), .inl (cI, 20, .inl (fun _ => 0))), ((u 53), .inl (cI, 20, .inl (fun _ => 0))), ((u 54), .inl (cI, 320, .inl (fun _ => 0))), ((u 55), .inr (2, [.ref (u 4), .ref (u 28), .ref (u 56), .ref (u 57)])), ((u 56), .inl (cI, 16, .inl (fun _ => 0))), ((u 57), .inl (cI, 16, .inl (fun _ => 0))), ((u 58), .inr (1, [.ref (u 4), .ref (u 55), .int 0, .ref (u 59), .int 0, .int 0, .int 0, .int 0])), ((u 59), .inl (cI, 10, .inl (fun _ => 0))), ((u 60), .inr (4, [.ref (u 4), .ref (u 61), .int 0, .ref (u 62), .ref (u 63), .ref (u 64), .ref (u 65)])), ((u 61), .inl (cI, 8, .inl (fun _ => 0))), ((u 62), .inl (cZ, 256, .inl (fun _ => 0))), ((u 63), .inl (cI, 256, .inl (fun _ => 0))), ((u 64), .inl (cI, 256, .inl (fun _ => 0))), ((u 65), .inl (cI, 4096, .inl (fun _ => 0))), (q8, .inr (9, [.int 0, .ref (v 1), .ref (v 2), .ref (v 3), .int 0, .ref (v 4), .ref (v 5), .ref (v 6), .int 0, .ref (v 7), .ref (v 8), .ref (v 9), .ref (v 10), .int 0, .ref (v 11), .ref (v 12), .ref (v 13), .ref (v 14), .ref (v 15), .int 0, .int (-1), .int 0, .int 0, .long 0, .int 0, .int 0, .int 0, .int 0, .ref (v 16), .ref (v 17), .ref (v 18), .int 0, .ref (v 19), .ref (v 20), .ref (v 21), .int 0, .ref (v 22), .ref (v 23), .ref (v 24), .ref (v 25), .int 0, .int 0, .ref (v 26), .ref (v 27), .int (-1), .int (-1), .int 0, .int 0, .ref (v 28), .ref (v 29), .int 0, .int 0, .int 0, .ref (v 30), .ref (v 31)])), ((v 1), .inl (cI, 384, .inl (fun _ => 0))), ((v 2), .inl (cI, 24, .inl (fun _ => 0))), ((v 3), .inl (cI, 24, .inl (fun _ => 0))), ((v 4), .inl (cI, 10, .inl (fun _ => 0))), ((v 5), .inl (cI, 10, .inl (fun _ => 0))), ((v 6), .inl (cI, 10, .inl (fun _ => 0))), ((v 7), .inl (cI, 4, .inl (fun _ => 0))), ((v 8), .inl (cI, 4, .inl (fun _ => 0))), ((v 9), .inl (cI, 64, .inl (fun _ => 0))), ((v 10), .inl (cI, 4, .inl (fun _ => 0))), ((v 11), .inl (cI, 20, .inl (fun _ => 0))), ((v 12), .inl (cI, 20, .inl (fun _ => 0))), ((v 13), .inl (cI, 20, .inl (fun _ => 0))), ((v 14), .inl (cI, 320, .inl (fun _ => 0))), ((v 15), .inl (cI, 500, .inl (fun _ => 0))), ((v 16), .inl (cI, 384, .inl (fun _ => 0))), ((v 17), .inl (cI, 24, .inl (fun _ => 0))), ((v 18), .inl (cI, 24, .inl (fun _ => 0))), ((v 19), .inl (cI, 10, .inl (fun _ => 0))), ((v 20), .inl (cI, 10, .inl (fun _ => 0))), ((v 21), .inl (cI, 10, .inl (fun _ => 0))), ((v 22), .inl (cI, 400, .inl (fun _ => 0))), ((v 23), .inl (cI, 16, .inl (fun _ => 0))), ((v 24), .inl (cI, 16, .inl (fun _ => 0))), ((v 25), .inl (cI, 8, .inl (fun _ => 0))), ((v 26), .inl (cI, 8, .inl (fun _ => 0))), ((v 27), .inl (cI, 8, .inl (fun _ => 0))), ((v 28), .inl (cI, 8, .inl (fun _ => 0))), ((v 29), .inl (cI, 8, .inl (fun _ => 0))), ((v 30), .inl (cI, 1000, .inl (fun _ => 0))), ((v 31), .inl (cZ, 2, .inl (fun _ => 0)))] H := hP
  have hD : va_D (fun q : Nat => s.heap.size ≤ q) [(q0, .inr (8, [.ref (u 1), .ref (u 3), .ref (u 4), .ref (u 13), .ref (u 22), .ref (u 25), .ref (u 28), .ref (u 37), .ref (u 46), .ref (u 55), .ref (u 58), .ref (u 60), .int 0, .int (-1)])), ((u 1), .inr (6, [.ref (u 2), .int 0])), ((u 2), .inl (cI, 500, .inl (fun _ => 0))), ((u 3), .inr (3, [.ref (u 1), .int 0, .int 0, .int 0, .int 0, .int 0, .int 0, .int (-1)])), ((u 4), .inr (7, [.int 0, .ref (u 5), .ref (u 6), .ref (u 7), .ref (u 8), .ref (u 9), .int 0, .ref (u 10), .ref (u 11), .ref (u 12)])), ((u 5), .inl (cI, 24, .inl (fun _ => 0))), ((u 6), .inl (cI, 24, .inl (fun _ => 0))), ((u 7), .inl (cI, 24, .inl (fun _ => 0))), ((u 8), .inl (cI, 384, .inl (fun _ => 0))), ((u 9), .inl (cI, 400, .inl (fun _ => 0))), ((u 10), .inl (cI, 10, .inl (fun _ => 0))), ((u 11), .inl (cI, 10, .inl (fun _ => 0))), ((u 12), .inl (cI, 10, .inl (fun _ => 0))), ((u 13), .inr (7, [.int 0, .ref (u 14), .ref (u 15), .ref (u 16), .ref (u 17), .ref (u 18), .int 0, .ref (u 19), .ref (u 20), .ref (u 21)])), ((u 14), .inl (cI, 24, .inl (fun _ => 0))), ((u 15), .inl (cI, 24, .inl (fun _ => 0))), ((u 16), .inl (cI, 24, .inl (fun _ => 0))), ((u 17), .inl (cI, 384, .inl (fun _ => 0))), ((u 18), .inl (cI, 400, .inl (fun _ => 0))), ((u 19), .inl (cI, 10, .inl (fun _ => 0))), ((u 20), .inl (cI, 10, .inl (fun _ => 0))), ((u 21), .inl (cI, 10, .inl (fun _ => 0))), ((u 22), .inr (5, [.int 0, .int 0, .ref (u 23), .ref (u 24), .int (-1), .int (-1), .int 0])), ((u 23), .inl (cI, 8, .inl (fun _ => 0))), ((u 24), .inl (cI, 8, .inl (fun _ => 0))), ((u 25), .inr (5, [.int 0, .int 0, .ref (u 26), .ref (u 27), .int (-1), .int (-1), .int 0])), ((u 26), .inl (cI, 8, .inl (fun _ => 0))), ((u 27), .inl (cI, 8, .inl (fun _ => 0))), ((u 28), .inr (0, [.int 0, .ref (u 29), .ref (u 30), .ref (u 31), .ref (u 32), .int 0, .ref (u 33), .ref (u 34), .ref (u 35), .ref (u 36)])), ((u 29), .inl (cI, 4, .inl (fun _ => 0))), ((u 30), .inl (cI, 4, .inl (fun _ => 0))), ((u 31), .inl (cI, 4, .inl (fun _ => 0))), ((u 32), .inl (cI, 64, .inl (fun _ => 0))), ((u 33), .inl (cI, 20, .inl (fun _ => 0))), ((u 34), .inl (cI, 20, .inl (fun _ => 0))), ((u 35), .inl (cI, 20, .inl (fun _ => 0))), ((u 36), .inl (cI, 320, .inl (fun _ => 0))), ((u 37), .inr (0, [.int 0, .ref (u 38), .ref (u 39), .ref (u 40), .ref (u 41), .int 0, .ref (u 42), .ref (u 43), .ref (u 44), .ref (u 45)])), ((u 38), .inl (cI, 4, .inl (fun _ => 0))), ((u 39), .inl (cI, 4, .inl (fun _ => 0))), ((u 40), .inl (cI, 4, .inl (fun _ => 0))), ((u 41), .inl (cI, 64, .inl (fun _ => 0))), ((u 42), .inl (cI, 20, .inl (fun _ => 0))), ((u 43), .inl (cI, 20, .inl (fun _ => 0))), ((u 44), .inl (cI, 20, .inl (fun _ => 0))), ((u 45), .inl (cI, 320, .inl (fun _ => 0))), ((u 46), .inr (0, [.int 0, .ref (u 47), .ref (u 48), .ref (u 49), .ref (u 50), .int 0, .ref (u 51), .ref (u 52), .ref (u 53), .ref (u 54)])), ((u 47), .inl (cI, 4, .inl (fun _ => 0))), ((u 48), .inl (cI, 4, .inl (fun _ => 0))), ((u 49), .inl (cI, 4, .inl (fun _ => 0))), ((u 50), .inl (cI, 64, .inl (fun _ => 0))), ((u 51), .inl (cI, 20, .inl (fun _ => 0))), ((u 52), .inl (cI, 20, .inl (fun _ => 0))), ((u 53), .inl (cI, 20, .inl (fun _ => 0))), ((u 54), .inl (cI, 320, .inl (fun _ => 0))), ((u 55), .inr (2, [.ref (u 4), .ref (u 28), .ref (u 56), .ref (u 57)])), ((u 56), .inl (cI, 16, .inl (fun _ => 0))), ((u 57), .inl (cI, 16, .inl (fun _ => 0))), ((u 58), .inr (1, [.ref (u 4), .ref (u 55), .int 0, .ref (u 59), .int 0, .int 0, .int 0, .int 0])), ((u 59), .inl (cI, 10, .inl (fun _ => 0))), ((u 60), .inr (4, [.ref (u 4), .ref (u 61), .int 0, .ref (u 62), .ref (u 63), .ref (u 64), .ref (u 65)])), ((u 61), .inl (cI, 8, .inl (fun _ => 0))), ((u 62), .inl (cZ, 256, .inl (fun _ => 0))), ((u 63), .inl (cI, 256, .inl (fun _ => 0))), ((u 64), .inl (cI, 256, .inl (fun _ => 0))), ((u 65), .inl (cI, 4096, .inl (fun _ => 0))), (q8, .inr (9, [.int 0, .ref (v 1), .ref (v 2), .ref (v 3), .int 0, .ref (v 4), .ref (v 5), .ref (v 6), .int 0, .ref (v 7), .ref (v 8), .ref (v 9), .ref (v 10), .int 0, .ref (v 11), .ref (v 12), .ref (v 13), .ref (v 14), .ref (v 15), .int 0, .int (-1), .int 0, .int 0, .long 0, .int 0, .int 0, .int 0, .int 0, .ref (v 16), .ref (v 17), .ref (v 18), .int 0, .ref (v 19), .ref (v 20), .ref (v 21), .int 0, .ref (v 22), .ref (v 23), .ref (v 24), .ref (v 25), .int 0, .int 0, .ref (v 26), .ref (v 27), .int (-1), .int (-1), .int 0, .int 0, .ref (v 28), .ref (v 29), .int 0, .int 0, .int 0, .ref (v 30), .ref (v 31)])), ((v 1), .inl (cI, 384, .inl (fun _ => 0))), ((v 2), .inl (cI, 24, .inl (fun _ => 0))), ((v 3), .inl (cI, 24, .inl (fun _ => 0))), ((v 4), .inl (cI, 10, .inl (fun _ => 0))), ((v 5), .inl (cI, 10, .inl (fun _ => 0))), ((v 6), .inl (cI, 10, .inl (fun _ => 0))), ((v 7), .inl (cI, 4, .inl (fun _ => 0))), ((v 8), .inl (cI, 4, .inl (fun _ => 0))), ((v 9), .inl (cI, 64, .inl (fun _ => 0))), ((v 10), .inl (cI, 4, .inl (fun _ => 0))), ((v 11), .inl (cI, 20, .inl (fun _ => 0))), ((v 12), .inl (cI, 20, .inl (fun _ => 0))), ((v 13), .inl (cI, 20, .inl (fun _ => 0))), ((v 14), .inl (cI, 320, .inl (fun _ => 0))), ((v 15), .inl (cI, 500, .inl (fun _ => 0))), ((v 16), .inl (cI, 384, .inl (fun _ => 0))), ((v 17), .inl (cI, 24, .inl (fun _ => 0))), ((v 18), .inl (cI, 24, .inl (fun _ => 0))), ((v 19), .inl (cI, 10, .inl (fun _ => 0))), ((v 20), .inl (cI, 10, .inl (fun _ => 0))), ((v 21), .inl (cI, 10, .inl (fun _ => 0))), ((v 22), .inl (cI, 400, .inl (fun _ => 0))), ((v 23), .inl (cI, 16, .inl (fun _ => 0))), ((v 24), .inl (cI, 16, .inl (fun _ => 0))), ((v 25), .inl (cI, 8, .inl (fun _ => 0))), ((v 26), .inl (cI, 8, .inl (fun _ => 0))), ((v 27), .inl (cI, 8, .inl (fun _ => 0))), ((v 28), .inl (cI, 8, .inl (fun _ => 0))), ((v 29), .inl (cI, 8, .inl (fun _ => 0))), ((v 30), .inl (cI, 1000, .inl (fun _ => 0))), ((v 31), .inl (cZ, 2, .inl (fun _ => 0)))] := hD
  refine W.widen (k := 98) (n := 12102) (Nat.le_refl _) (Nat.le_refl _) ?_
  refine lv_astore_n (lv' := [(2, .ref q8), (1, .ref q0), (0, .ref b)]) hx hb dL_law_15 rfl hl (by decide) rfl (fun ls hl => ?_)
  refine lv_iconst (v := 0) hx hb dL_law_16 (by decide) ?_
  refine lv_istore_n (lv' := [(3, .int 0), (2, .ref q8), (1, .ref q0), (0, .ref b)]) hx hb dL_law_17 rfl hl (by decide) rfl (fun ls hl => ?_)
  obtain ⟨inj, inA⟩ := ws_inj hD (qs := [q0, (u 1), (u 2), (u 3), (u 4), (u 5), (u 6), (u 7), (u 8), (u 9), (u 10), (u 11), (u 12), (u 13), (u 14), (u 15), (u 16), (u 17), (u 18), (u 19), (u 20), (u 21), (u 22), (u 23), (u 24), (u 25), (u 26), (u 27), (u 28), (u 29), (u 30), (u 31), (u 32), (u 33), (u 34), (u 35), (u 36), (u 37), (u 38), (u 39), (u 40), (u 41), (u 42), (u 43), (u 44), (u 45), (u 46), (u 47), (u 48), (u 49), (u 50), (u 51), (u 52), (u 53), (u 54), (u 55), (u 56), (u 57), (u 58), (u 59), (u 60), (u 61), (u 62), (u 63), (u 64), (u 65), q8, (v 1), (v 2), (v 3), (v 4), (v 5), (v 6), (v 7), (v 8), (v 9), (v 10), (v 11), (v 12), (v 13), (v 14), (v 15), (v 16), (v 17), (v 18), (v 19), (v 20), (v 21), (v 22), (v 23), (v 24), (v 25), (v 26), (v 27), (v 28), (v 29), (v 30), (v 31)]) rfl
  generalize hG9 : ((((dC, dI), cI, cZ, (fun k => ([q0, (u 1), (u 2), (u 3), (u 4), (u 5), (u 6), (u 7), (u 8), (u 9), (u 10), (u 11), (u 12), (u 13), (u 14), (u 15), (u 16), (u 17), (u 18), (u 19), (u 20), (u 21), (u 22), (u 23), (u 24), (u 25), (u 26), (u 27), (u 28), (u 29), (u 30), (u 31), (u 32), (u 33), (u 34), (u 35), (u 36), (u 37), (u 38), (u 39), (u 40), (u 41), (u 42), (u 43), (u 44), (u 45), (u 46), (u 47), (u 48), (u 49), (u 50), (u 51), (u 52), (u 53), (u 54), (u 55), (u 56), (u 57), (u 58), (u 59), (u 60), (u 61), (u 62), (u 63), (u 64), (u 65), q8, (v 1), (v 2), (v 3), (v 4), (v 5), (v 6), (v 7), (v 8), (v 9), (v 10), (v 11), (v 12), (v 13), (v 14), (v 15), (v 16), (v 17), (v 18), (v 19), (v 20), (v 21), (v 22), (v 23), (v 24), (v 25), (v 26), (v 27), (v 28), (v 29), (v 30), (v 31)] : List Nat).getD k 0), (fun q : Nat => s.heap.size ≤ q), adK, adV)) : GC) = G
  have hG : GOK G := by rw [← hG9]; exact ⟨inj, inA⟩
  have hK : KW G s := by rw [← hG9]; exact ⟨⟨hKc, fun k q h => by
    match k, h with
    | 0, h => cases h; exact ⟨fun n z => ⟨fun k h => (by cases h), kI, gI1, coI, gI2⟩, fI⟩
    | 1, h => cases h; exact ⟨fun n z => ⟨fun k h => (by cases h), kZ, gZ1, coZ, gZ2⟩, fZ⟩
    | k + 2, h => simp at h⟩, hnest, hVS, hVR, hZ1, hZ2⟩
  have hW : WP G h00 H := by
    rw [← hG9]
    intro k q hq
    obtain ⟨hk, -⟩ := wsG_some hq
    rw [wsG_at hk rfl] at hq
    cases hq
    match k, hk with
    | 0, _ => exact hP 0 _ rfl
    | 1, _ => exact hP 1 _ rfl
    | 2, _ => exact hP 2 _ rfl
    | 3, _ => exact hP 3 _ rfl
    | 4, _ => exact hP 4 _ rfl
    | 5, _ => exact hP 5 _ rfl
    | 6, _ => exact hP 6 _ rfl
    | 7, _ => exact hP 7 _ rfl
    | 8, _ => exact hP 8 _ rfl
    | 9, _ => exact hP 9 _ rfl
    | 10, _ => exact hP 10 _ rfl
    | 11, _ => exact hP 11 _ rfl
    | 12, _ => exact hP 12 _ rfl
    | 13, _ => exact hP 13 _ rfl
    | 14, _ => exact hP 14 _ rfl
    | 15, _ => exact hP 15 _ rfl
    | 16, _ => exact hP 16 _ rfl
    | 17, _ => exact hP 17 _ rfl
    | 18, _ => exact hP 18 _ rfl
    | 19, _ => exact hP 19 _ rfl
    | 20, _ => exact hP 20 _ rfl
    | 21, _ => exact hP 21 _ rfl
    | 22, _ => exact hP 22 _ rfl
    | 23, _ => exact hP 23 _ rfl
    | 24, _ => exact hP 24 _ rfl
    | 25, _ => exact hP 25 _ rfl
    | 26, _ => exact hP 26 _ rfl
    | 27, _ => exact hP 27 _ rfl
    | 28, _ => exact hP 28 _ rfl
    | 29, _ => exact hP 29 _ rfl
    | 30, _ => exact hP 30 _ rfl
    | 31, _ => exact hP 31 _ rfl
    | 32, _ => exact hP 32 _ rfl
    | 33, _ => exact hP 33 _ rfl
    | 34, _ => exact hP 34 _ rfl
    | 35, _ => exact hP 35 _ rfl
    | 36, _ => exact hP 36 _ rfl
    | 37, _ => exact hP 37 _ rfl
    | 38, _ => exact hP 38 _ rfl
    | 39, _ => exact hP 39 _ rfl
    | 40, _ => exact hP 40 _ rfl
    | 41, _ => exact hP 41 _ rfl
    | 42, _ => exact hP 42 _ rfl
    | 43, _ => exact hP 43 _ rfl
    | 44, _ => exact hP 44 _ rfl
    | 45, _ => exact hP 45 _ rfl
    | 46, _ => exact hP 46 _ rfl
    | 47, _ => exact hP 47 _ rfl
    | 48, _ => exact hP 48 _ rfl
    | 49, _ => exact hP 49 _ rfl
    | 50, _ => exact hP 50 _ rfl
    | 51, _ => exact hP 51 _ rfl
    | 52, _ => exact hP 52 _ rfl
    | 53, _ => exact hP 53 _ rfl
    | 54, _ => exact hP 54 _ rfl
    | 55, _ => exact hP 55 _ rfl
    | 56, _ => exact hP 56 _ rfl
    | 57, _ => exact hP 57 _ rfl
    | 58, _ => exact hP 58 _ rfl
    | 59, _ => exact hP 59 _ rfl
    | 60, _ => exact hP 60 _ rfl
    | 61, _ => exact hP 61 _ rfl
    | 62, _ => exact hP 62 _ rfl
    | 63, _ => exact hP 63 _ rfl
    | 64, _ => exact hP 64 _ rfl
    | 65, _ => exact hP 65 _ rfl
    | 66, _ => exact hP 66 _ rfl
    | 67, _ => exact hP 67 _ rfl
    | 68, _ => exact hP 68 _ rfl
    | 69, _ => exact hP 69 _ rfl
    | 70, _ => exact hP 70 _ rfl
    | 71, _ => exact hP 71 _ rfl
    | 72, _ => exact hP 72 _ rfl
    | 73, _ => exact hP 73 _ rfl
    | 74, _ => exact hP 74 _ rfl
    | 75, _ => exact hP 75 _ rfl
    | 76, _ => exact hP 76 _ rfl
    | 77, _ => exact hP 77 _ rfl
    | 78, _ => exact hP 78 _ rfl
    | 79, _ => exact hP 79 _ rfl
    | 80, _ => exact hP 80 _ rfl
    | 81, _ => exact hP 81 _ rfl
    | 82, _ => exact hP 82 _ rfl
    | 83, _ => exact hP 83 _ rfl
    | 84, _ => exact hP 84 _ rfl
    | 85, _ => exact hP 85 _ rfl
    | 86, _ => exact hP 86 _ rfl
    | 87, _ => exact hP 87 _ rfl
    | 88, _ => exact hP 88 _ rfl
    | 89, _ => exact hP 89 _ rfl
    | 90, _ => exact hP 90 _ rfl
    | 91, _ => exact hP 91 _ rfl
    | 92, _ => exact hP 92 _ rfl
    | 93, _ => exact hP 93 _ rfl
    | 94, _ => exact hP 94 _ rfl
    | 95, _ => exact hP 95 _ rfl
    | 96, _ => exact hP 96 _ rfl
    | 97, _ => exact hP 97 _ rfl
    | k + 98, hk => exact absurd hk (by omega)
  have hSP : SP G s H locs := by rw [← hG9]; exact hS
  have e0 : q0 = gB G 0 := by rw [← hG9]; rfl
  have e8 : q8 = gB G 66 := by rw [← hG9]; rfl
  rw [e0, e8] at hl
  exact w_L_law_18 hG C0 (by rw [← hG9]; exact hbA) (by rw [← hG9]; exact fun q h => h) hK FU 0 h00 H locs ls (lv_sub hl [3, 2, 1, 0] rfl) hW hSP hrun
