/-! ===== the pure heap: contents by cell and slot, and the one long; the cells of the system by their numbers 0 .. 97 ===== -/
abbrev PH : Type := (Nat → Nat → Int32) × Int64
def hC (h : PH) (a : Nat) (f : Nat → Int32) : PH := (fun b => if b = a then f else h.1 b, h.2)
def hU (h : PH) (a k : Nat) (v : Int32) : PH := hC h a (upd (h.1 a) k v)
def hL (h : PH) (v : Int64) : PH := (h.1, v)
theorem hC_s (h : PH) (a : Nat) (f : Nat → Int32) : (hC h a f).1 a = f := if_pos rfl
theorem hC_n (h : PH) {a b : Nat} (f : Nat → Int32) (hb : b ≠ a) : (hC h a f).1 b = h.1 b := if_neg hb
theorem hU_s (h : PH) (a k : Nat) (v : Int32) : (hU h a k v).1 a = upd (h.1 a) k v := if_pos rfl
theorem hU_n (h : PH) {a b : Nat} (k : Nat) (v : Int32) (hb : b ≠ a) : (hU h a k v).1 b = h.1 b := if_neg hb
abbrev GC : Type := va_G × ClassId × ClassId × (Nat → Nat) × (Nat → Prop) × (Nat → Nat) × (Nat → Nat)
abbrev gD (G : GC) : va_G := G.1
abbrev gI (G : GC) : ClassId := G.2.1
abbrev gZ (G : GC) : ClassId := G.2.2.1
abbrev gB (G : GC) : Nat → Nat := G.2.2.2.1
abbrev gA (G : GC) : Nat → Prop := G.2.2.2.2.1
abbrev gk (G : GC) : Nat → Nat := G.2.2.2.2.2.1
abbrev gv (G : GC) : Nat → Nat := G.2.2.2.2.2.2
def fsX0 (G : GC) (a : Nat) (r : Nat → Int32) : List Value := [.int (r 0), .ref (gB G (a + 1)), .ref (gB G (a + 2)), .ref (gB G (a + 3)), .ref (gB G (a + 4)), .int (r 5), .ref (gB G (a + 5)), .ref (gB G (a + 6)), .ref (gB G (a + 7)), .ref (gB G (a + 8))]
def kdX0 (a : Nat) : Prop := a = 28 ∨ a = 37 ∨ a = 46
def fsX1 (G : GC) (a : Nat) (r : Nat → Int32) : List Value := [.ref (gB G 4), .ref (gB G 55), .int (r 2), .ref (gB G (a + 1)), .int (r 4), .int (r 5), .int (r 6), .int (r 7)]
def kdX1 (a : Nat) : Prop := a = 58
def fsX2 (G : GC) (a : Nat) (r : Nat → Int32) : List Value := [.ref (gB G 4), .ref (gB G 28), .ref (gB G (a + 1)), .ref (gB G (a + 2))]
def kdX2 (a : Nat) : Prop := a = 55
def fsX3 (G : GC) (a : Nat) (r : Nat → Int32) : List Value := [.ref (gB G 1), .int (r 1), .int (r 2), .int (r 3), .int (r 4), .int (r 5), .int (r 6), .int (r 7)]
def kdX3 (a : Nat) : Prop := a = 3
def fsX4 (G : GC) (a : Nat) (r : Nat → Int32) : List Value := [.ref (gB G 4), .ref (gB G (a + 1)), .int (r 2), .ref (gB G (a + 2)), .ref (gB G (a + 3)), .ref (gB G (a + 4)), .ref (gB G (a + 5))]
def kdX4 (a : Nat) : Prop := a = 60
def fsX5 (G : GC) (a : Nat) (r : Nat → Int32) : List Value := [.int (r 0), .int (r 1), .ref (gB G (a + 1)), .ref (gB G (a + 2)), .int (r 4), .int (r 5), .int (r 6)]
def kdX5 (a : Nat) : Prop := a = 22 ∨ a = 25
def fsX6 (G : GC) (a : Nat) (r : Nat → Int32) : List Value := [.ref (gB G (a + 1)), .int (r 1)]
def kdX6 (a : Nat) : Prop := a = 1
def fsX7 (G : GC) (a : Nat) (r : Nat → Int32) : List Value := [.int (r 0), .ref (gB G (a + 1)), .ref (gB G (a + 2)), .ref (gB G (a + 3)), .ref (gB G (a + 4)), .ref (gB G (a + 5)), .int (r 6), .ref (gB G (a + 6)), .ref (gB G (a + 7)), .ref (gB G (a + 8))]
def kdX7 (a : Nat) : Prop := a = 4 ∨ a = 13
def fsX8 (G : GC) (a : Nat) (r : Nat → Int32) : List Value := [.ref (gB G 1), .ref (gB G 3), .ref (gB G 4), .ref (gB G 13), .ref (gB G 22), .ref (gB G 25), .ref (gB G 28), .ref (gB G 37), .ref (gB G 46), .ref (gB G 55), .ref (gB G 58), .ref (gB G 60), .int (r 12), .int (r 13)]
def kdX8 (a : Nat) : Prop := a = 0
def fsX9 (G : GC) (a : Nat) (r : Nat → Int32) (g : Int64) : List Value := [.int (r 0), .ref (gB G (a + 1)), .ref (gB G (a + 2)), .ref (gB G (a + 3)), .int (r 4), .ref (gB G (a + 4)), .ref (gB G (a + 5)), .ref (gB G (a + 6)), .int (r 8), .ref (gB G (a + 7)), .ref (gB G (a + 8)), .ref (gB G (a + 9)), .ref (gB G (a + 10)), .int (r 13), .ref (gB G (a + 11)), .ref (gB G (a + 12)), .ref (gB G (a + 13)), .ref (gB G (a + 14)), .ref (gB G (a + 15)), .int (r 19), .int (r 20), .int (r 21), .int (r 22), .long g, .int (r 24), .int (r 25), .int (r 26), .int (r 27), .ref (gB G (a + 16)), .ref (gB G (a + 17)), .ref (gB G (a + 18)), .int (r 31), .ref (gB G (a + 19)), .ref (gB G (a + 20)), .ref (gB G (a + 21)), .int (r 35), .ref (gB G (a + 22)), .ref (gB G (a + 23)), .ref (gB G (a + 24)), .ref (gB G (a + 25)), .int (r 40), .int (r 41), .ref (gB G (a + 26)), .ref (gB G (a + 27)), .int (r 44), .int (r 45), .int (r 46), .int (r 47), .ref (gB G (a + 28)), .ref (gB G (a + 29)), .int (r 50), .int (r 51), .int (r 52), .ref (gB G (a + 30)), .ref (gB G (a + 31))]
def kdX9 (a : Nat) : Prop := a = 66
def cO (G : GC) (k : Nat) (r : Nat → Int32) : va_E := match k with
  | 0 => .inr (8, fsX8 G 0 r)
  | 1 => .inr (6, fsX6 G 1 r)
  | 2 => .inl (gI G, 500, .inl r)
  | 3 => .inr (3, fsX3 G 3 r)
  | 4 => .inr (7, fsX7 G 4 r)
  | 5 => .inl (gI G, 24, .inl r)
  | 6 => .inl (gI G, 24, .inl r)
  | 7 => .inl (gI G, 24, .inl r)
  | 8 => .inl (gI G, 384, .inl r)
  | 9 => .inl (gI G, 400, .inl r)
  | 10 => .inl (gI G, 10, .inl r)
  | 11 => .inl (gI G, 10, .inl r)
  | 12 => .inl (gI G, 10, .inl r)
  | 13 => .inr (7, fsX7 G 13 r)
  | 14 => .inl (gI G, 24, .inl r)
  | 15 => .inl (gI G, 24, .inl r)
  | 16 => .inl (gI G, 24, .inl r)
  | 17 => .inl (gI G, 384, .inl r)
  | 18 => .inl (gI G, 400, .inl r)
  | 19 => .inl (gI G, 10, .inl r)
  | 20 => .inl (gI G, 10, .inl r)
  | 21 => .inl (gI G, 10, .inl r)
  | 22 => .inr (5, fsX5 G 22 r)
  | 23 => .inl (gI G, 8, .inl r)
  | 24 => .inl (gI G, 8, .inl r)
  | 25 => .inr (5, fsX5 G 25 r)
  | 26 => .inl (gI G, 8, .inl r)
  | 27 => .inl (gI G, 8, .inl r)
  | 28 => .inr (0, fsX0 G 28 r)
  | 29 => .inl (gI G, 4, .inl r)
  | 30 => .inl (gI G, 4, .inl r)
  | 31 => .inl (gI G, 4, .inl r)
  | 32 => .inl (gI G, 64, .inl r)
  | 33 => .inl (gI G, 20, .inl r)
  | 34 => .inl (gI G, 20, .inl r)
  | 35 => .inl (gI G, 20, .inl r)
  | 36 => .inl (gI G, 320, .inl r)
  | 37 => .inr (0, fsX0 G 37 r)
  | 38 => .inl (gI G, 4, .inl r)
  | 39 => .inl (gI G, 4, .inl r)
  | 40 => .inl (gI G, 4, .inl r)
  | 41 => .inl (gI G, 64, .inl r)
  | 42 => .inl (gI G, 20, .inl r)
  | 43 => .inl (gI G, 20, .inl r)
  | 44 => .inl (gI G, 20, .inl r)
  | 45 => .inl (gI G, 320, .inl r)
  | 46 => .inr (0, fsX0 G 46 r)
  | 47 => .inl (gI G, 4, .inl r)
  | 48 => .inl (gI G, 4, .inl r)
  | 49 => .inl (gI G, 4, .inl r)
  | 50 => .inl (gI G, 64, .inl r)
  | 51 => .inl (gI G, 20, .inl r)
  | 52 => .inl (gI G, 20, .inl r)
  | 53 => .inl (gI G, 20, .inl r)
  | 54 => .inl (gI G, 320, .inl r)
  | 55 => .inr (2, fsX2 G 55 r)
  | 56 => .inl (gI G, 16, .inl r)
  | 57 => .inl (gI G, 16, .inl r)
  | 58 => .inr (1, fsX1 G 58 r)
  | 59 => .inl (gI G, 10, .inl r)
  | 60 => .inr (4, fsX4 G 60 r)
  | 61 => .inl (gI G, 8, .inl r)
  | 62 => .inl (gZ G, 256, .inl r)
  | 63 => .inl (gI G, 256, .inl r)
  | 64 => .inl (gI G, 256, .inl r)
  | 65 => .inl (gI G, 4096, .inl r)
  | 67 => .inl (gI G, 384, .inl r)
  | 68 => .inl (gI G, 24, .inl r)
  | 69 => .inl (gI G, 24, .inl r)
  | 70 => .inl (gI G, 10, .inl r)
  | 71 => .inl (gI G, 10, .inl r)
  | 72 => .inl (gI G, 10, .inl r)
  | 73 => .inl (gI G, 4, .inl r)
  | 74 => .inl (gI G, 4, .inl r)
  | 75 => .inl (gI G, 64, .inl r)
  | 76 => .inl (gI G, 4, .inl r)
  | 77 => .inl (gI G, 20, .inl r)
  | 78 => .inl (gI G, 20, .inl r)
  | 79 => .inl (gI G, 20, .inl r)
  | 80 => .inl (gI G, 320, .inl r)
  | 81 => .inl (gI G, 500, .inl r)
  | 82 => .inl (gI G, 384, .inl r)
  | 83 => .inl (gI G, 24, .inl r)
  | 84 => .inl (gI G, 24, .inl r)
  | 85 => .inl (gI G, 10, .inl r)
  | 86 => .inl (gI G, 10, .inl r)
  | 87 => .inl (gI G, 10, .inl r)
  | 88 => .inl (gI G, 400, .inl r)
  | 89 => .inl (gI G, 16, .inl r)
  | 90 => .inl (gI G, 16, .inl r)
  | 91 => .inl (gI G, 8, .inl r)
  | 92 => .inl (gI G, 8, .inl r)
  | 93 => .inl (gI G, 8, .inl r)
  | 94 => .inl (gI G, 8, .inl r)
  | 95 => .inl (gI G, 8, .inl r)
  | 96 => .inl (gI G, 1000, .inl r)
  | 97 => .inl (gZ G, 2, .inl r)
  | _ => .inl (gI G, 0, .inl r)
def cE (G : GC) (k : Nat) (h : PH) : va_E := if k = 66 then .inr (9, fsX9 G 66 (h.1 66) h.2) else cO G k (h.1 k)
theorem cE_n {G : GC} {h h' : PH} {k j : Nat} (hj : j ≠ k) (h1 : ∀ b, b ≠ k → h'.1 b = h.1 b) (h2 : h'.2 = h.2) : cE G j h' = cE G j h := by
  unfold cE
  by_cases e : j = 66
  · subst e; rw [if_pos rfl, if_pos rfl, h1 66 hj, h2]
  · rw [if_neg e, if_neg e, h1 j hj]
theorem cE_L {G : GC} {h : PH} {v : Int64} {j : Nat} (hj : j ≠ 66) : cE G j (hL h v) = cE G j h := by
  unfold cE
  rw [if_neg hj, if_neg hj]
  rfl
theorem cE_U {G : GC} {h : PH} {a k j : Nat} {v : Int32} (hj : j ≠ a) : cE G j (hU h a k v) = cE G j h := cE_n hj (fun _ hb => hU_n h k v hb) rfl
theorem cE_C {G : GC} {h : PH} {a j : Nat} {f : Nat → Int32} (hj : j ≠ a) : cE G j (hC h a f) = cE G j h := cE_n hj (fun _ hb => hC_n h f hb) rfl
def wsG (G : GC) (h : PH) : va_W := (List.range 98).map (fun k => (gB G k, cE G k h))
theorem wsG_at {G : GC} {h : PH} {k : Nat} {e : va_E} (hk : k < 98) (he : cE G k h = e) : (wsG G h)[k]? = some (gB G k, e) := by
  unfold wsG
  rw [List.getElem?_map, List.getElem?_range hk, ← he]
  rfl
theorem wsG_out {G : GC} {h : PH} {k : Nat} (hk : 98 ≤ k) : (wsG G h)[k]? = none := by
  unfold wsG
  rw [List.getElem?_map, List.getElem?_eq_none (by simpa using hk)]
  rfl
theorem wsG_set {G : GC} {h h' : PH} {k : Nat} {e : va_E} (hk : k < 98) (h1 : ∀ j, j ≠ k → cE G j h' = cE G j h) (h2 : cE G k h' = e) : (wsG G h).set k (gB G k, e) = wsG G h' := by
  apply List.ext_getElem?
  intro j
  by_cases hj : j < 98
  · by_cases hjk : j = k
    · subst hjk
      rw [List.getElem?_set_self (by simpa [wsG] using hj), wsG_at hj h2]
    · rw [List.getElem?_set_ne (Ne.symm hjk), wsG_at hj (h1 j hjk).symm, wsG_at hj rfl]
  · have h3 : 98 ≤ j := Nat.not_lt.mp hj
    rw [wsG_out h3, List.getElem?_set_ne (by omega), wsG_out h3]
def GOK (G : GC) : Prop := (∀ i j, i < 98 → j < 98 → gB G i = gB G j → i = j) ∧ ∀ i, i < 98 → gA G (gB G i)
theorem wsG_some {G : GC} {h : PH} {k : Nat} {q : Nat × va_E} (hq : (wsG G h)[k]? = some q) : k < 98 ∧ q.1 = gB G k := by
  by_cases hk : k < 98
  · rw [wsG_at hk rfl] at hq
    cases hq
    exact ⟨hk, rfl⟩
  · rw [wsG_out (Nat.not_lt.mp hk)] at hq
    cases hq
theorem GOK.D {G : GC} (hG : GOK G) (h : PH) : va_D (gA G) (wsG G h) := by
  refine ⟨fun i j p q hp hq e => ?_, fun k q hq => ?_⟩
  · obtain ⟨a1, a2⟩ := wsG_some hp
    obtain ⟨b1, b2⟩ := wsG_some hq
    exact hG.1 i j a1 b1 (by rw [← a2, ← b2, e])
  · obtain ⟨a1, a2⟩ := wsG_some hq
    rw [a2]
    exact hG.2 k a1
def isA (V n : Nat) : Prop := V < 98 ∧ ∀ (G : GC) (h : PH), cE G V h = .inl (gI G, n, .inl (h.1 V))
def isZ (V n : Nat) : Prop := V < 98 ∧ ∀ (G : GC) (h : PH), cE G V h = .inl (gZ G, n, .inl (h.1 V))
set_option maxRecDepth 20000 in
theorem ltX0 {a : Nat} (ha : kdX0 a) : a < 98 := by rcases ha with rfl | rfl | rfl <;> decide
set_option maxRecDepth 20000 in
theorem ceX0 {G : GC} {h : PH} {a : Nat} (ha : kdX0 a) : cE G a h = .inr (0, fsX0 G a (h.1 a)) := by rcases ha with rfl | rfl | rfl <;> rfl
set_option maxRecDepth 20000 in
theorem puX0_0 {G : GC} {h : PH} {a : Nat} (ha : kdX0 a) (v : Int32) : cE G a (hU h a 0 v) = .inr (0, (fsX0 G a (h.1 a)).set 0 (.int v)) := by rcases ha with rfl | rfl | rfl <;> rfl
set_option maxRecDepth 20000 in
theorem arX0_1 {a : Nat} (ha : kdX0 a) : isA (a + 1) 4 := by rcases ha with rfl | rfl | rfl <;> exact ⟨by decide, fun _ _ => rfl⟩
set_option maxRecDepth 20000 in
theorem arX0_2 {a : Nat} (ha : kdX0 a) : isA (a + 2) 4 := by rcases ha with rfl | rfl | rfl <;> exact ⟨by decide, fun _ _ => rfl⟩
set_option maxRecDepth 20000 in
theorem arX0_3 {a : Nat} (ha : kdX0 a) : isA (a + 3) 4 := by rcases ha with rfl | rfl | rfl <;> exact ⟨by decide, fun _ _ => rfl⟩
set_option maxRecDepth 20000 in
theorem arX0_4 {a : Nat} (ha : kdX0 a) : isA (a + 4) 64 := by rcases ha with rfl | rfl | rfl <;> exact ⟨by decide, fun _ _ => rfl⟩
set_option maxRecDepth 20000 in
theorem puX0_5 {G : GC} {h : PH} {a : Nat} (ha : kdX0 a) (v : Int32) : cE G a (hU h a 5 v) = .inr (0, (fsX0 G a (h.1 a)).set 5 (.int v)) := by rcases ha with rfl | rfl | rfl <;> rfl
set_option maxRecDepth 20000 in
theorem arX0_6 {a : Nat} (ha : kdX0 a) : isA (a + 5) 20 := by rcases ha with rfl | rfl | rfl <;> exact ⟨by decide, fun _ _ => rfl⟩
set_option maxRecDepth 20000 in
theorem arX0_7 {a : Nat} (ha : kdX0 a) : isA (a + 6) 20 := by rcases ha with rfl | rfl | rfl <;> exact ⟨by decide, fun _ _ => rfl⟩
set_option maxRecDepth 20000 in
theorem arX0_8 {a : Nat} (ha : kdX0 a) : isA (a + 7) 20 := by rcases ha with rfl | rfl | rfl <;> exact ⟨by decide, fun _ _ => rfl⟩
set_option maxRecDepth 20000 in
theorem arX0_9 {a : Nat} (ha : kdX0 a) : isA (a + 8) 320 := by rcases ha with rfl | rfl | rfl <;> exact ⟨by decide, fun _ _ => rfl⟩
set_option maxRecDepth 20000 in
theorem ltX1 {a : Nat} (ha : kdX1 a) : a < 98 := by cases ha; decide
set_option maxRecDepth 20000 in
theorem ceX1 {G : GC} {h : PH} {a : Nat} (ha : kdX1 a) : cE G a h = .inr (1, fsX1 G a (h.1 a)) := by cases ha; rfl
set_option maxRecDepth 20000 in
theorem puX1_2 {G : GC} {h : PH} {a : Nat} (ha : kdX1 a) (v : Int32) : cE G a (hU h a 2 v) = .inr (1, (fsX1 G a (h.1 a)).set 2 (.int v)) := by cases ha; rfl
set_option maxRecDepth 20000 in
theorem arX1_3 {a : Nat} (ha : kdX1 a) : isA (a + 1) 10 := by cases ha; exact ⟨by decide, fun _ _ => rfl⟩
set_option maxRecDepth 20000 in
theorem puX1_4 {G : GC} {h : PH} {a : Nat} (ha : kdX1 a) (v : Int32) : cE G a (hU h a 4 v) = .inr (1, (fsX1 G a (h.1 a)).set 4 (.int v)) := by cases ha; rfl
set_option maxRecDepth 20000 in
theorem puX1_5 {G : GC} {h : PH} {a : Nat} (ha : kdX1 a) (v : Int32) : cE G a (hU h a 5 v) = .inr (1, (fsX1 G a (h.1 a)).set 5 (.int v)) := by cases ha; rfl
set_option maxRecDepth 20000 in
theorem puX1_6 {G : GC} {h : PH} {a : Nat} (ha : kdX1 a) (v : Int32) : cE G a (hU h a 6 v) = .inr (1, (fsX1 G a (h.1 a)).set 6 (.int v)) := by cases ha; rfl
set_option maxRecDepth 20000 in
theorem puX1_7 {G : GC} {h : PH} {a : Nat} (ha : kdX1 a) (v : Int32) : cE G a (hU h a 7 v) = .inr (1, (fsX1 G a (h.1 a)).set 7 (.int v)) := by cases ha; rfl
set_option maxRecDepth 20000 in
theorem ltX2 {a : Nat} (ha : kdX2 a) : a < 98 := by cases ha; decide
set_option maxRecDepth 20000 in
theorem ceX2 {G : GC} {h : PH} {a : Nat} (ha : kdX2 a) : cE G a h = .inr (2, fsX2 G a (h.1 a)) := by cases ha; rfl
set_option maxRecDepth 20000 in
theorem arX2_2 {a : Nat} (ha : kdX2 a) : isA (a + 1) 16 := by cases ha; exact ⟨by decide, fun _ _ => rfl⟩
set_option maxRecDepth 20000 in
theorem arX2_3 {a : Nat} (ha : kdX2 a) : isA (a + 2) 16 := by cases ha; exact ⟨by decide, fun _ _ => rfl⟩
set_option maxRecDepth 20000 in
theorem ltX3 {a : Nat} (ha : kdX3 a) : a < 98 := by cases ha; decide
set_option maxRecDepth 20000 in
theorem ceX3 {G : GC} {h : PH} {a : Nat} (ha : kdX3 a) : cE G a h = .inr (3, fsX3 G a (h.1 a)) := by cases ha; rfl
set_option maxRecDepth 20000 in
theorem puX3_1 {G : GC} {h : PH} {a : Nat} (ha : kdX3 a) (v : Int32) : cE G a (hU h a 1 v) = .inr (3, (fsX3 G a (h.1 a)).set 1 (.int v)) := by cases ha; rfl
set_option maxRecDepth 20000 in
theorem puX3_2 {G : GC} {h : PH} {a : Nat} (ha : kdX3 a) (v : Int32) : cE G a (hU h a 2 v) = .inr (3, (fsX3 G a (h.1 a)).set 2 (.int v)) := by cases ha; rfl
set_option maxRecDepth 20000 in
theorem puX3_3 {G : GC} {h : PH} {a : Nat} (ha : kdX3 a) (v : Int32) : cE G a (hU h a 3 v) = .inr (3, (fsX3 G a (h.1 a)).set 3 (.int v)) := by cases ha; rfl
set_option maxRecDepth 20000 in
theorem puX3_4 {G : GC} {h : PH} {a : Nat} (ha : kdX3 a) (v : Int32) : cE G a (hU h a 4 v) = .inr (3, (fsX3 G a (h.1 a)).set 4 (.int v)) := by cases ha; rfl
set_option maxRecDepth 20000 in
theorem puX3_5 {G : GC} {h : PH} {a : Nat} (ha : kdX3 a) (v : Int32) : cE G a (hU h a 5 v) = .inr (3, (fsX3 G a (h.1 a)).set 5 (.int v)) := by cases ha; rfl
set_option maxRecDepth 20000 in
theorem puX3_6 {G : GC} {h : PH} {a : Nat} (ha : kdX3 a) (v : Int32) : cE G a (hU h a 6 v) = .inr (3, (fsX3 G a (h.1 a)).set 6 (.int v)) := by cases ha; rfl
set_option maxRecDepth 20000 in
theorem puX3_7 {G : GC} {h : PH} {a : Nat} (ha : kdX3 a) (v : Int32) : cE G a (hU h a 7 v) = .inr (3, (fsX3 G a (h.1 a)).set 7 (.int v)) := by cases ha; rfl
set_option maxRecDepth 20000 in
theorem ltX4 {a : Nat} (ha : kdX4 a) : a < 98 := by cases ha; decide
set_option maxRecDepth 20000 in
theorem ceX4 {G : GC} {h : PH} {a : Nat} (ha : kdX4 a) : cE G a h = .inr (4, fsX4 G a (h.1 a)) := by cases ha; rfl
set_option maxRecDepth 20000 in
theorem arX4_1 {a : Nat} (ha : kdX4 a) : isA (a + 1) 8 := by cases ha; exact ⟨by decide, fun _ _ => rfl⟩
set_option maxRecDepth 20000 in
theorem puX4_2 {G : GC} {h : PH} {a : Nat} (ha : kdX4 a) (v : Int32) : cE G a (hU h a 2 v) = .inr (4, (fsX4 G a (h.1 a)).set 2 (.int v)) := by cases ha; rfl
set_option maxRecDepth 20000 in
theorem arX4_3 {a : Nat} (ha : kdX4 a) : isZ (a + 2) 256 := by cases ha; exact ⟨by decide, fun _ _ => rfl⟩
set_option maxRecDepth 20000 in
theorem arX4_4 {a : Nat} (ha : kdX4 a) : isA (a + 3) 256 := by cases ha; exact ⟨by decide, fun _ _ => rfl⟩
set_option maxRecDepth 20000 in
theorem arX4_5 {a : Nat} (ha : kdX4 a) : isA (a + 4) 256 := by cases ha; exact ⟨by decide, fun _ _ => rfl⟩
set_option maxRecDepth 20000 in
theorem arX4_6 {a : Nat} (ha : kdX4 a) : isA (a + 5) 4096 := by cases ha; exact ⟨by decide, fun _ _ => rfl⟩
set_option maxRecDepth 20000 in
theorem ltX5 {a : Nat} (ha : kdX5 a) : a < 98 := by rcases ha with rfl | rfl <;> decide
set_option maxRecDepth 20000 in
theorem ceX5 {G : GC} {h : PH} {a : Nat} (ha : kdX5 a) : cE G a h = .inr (5, fsX5 G a (h.1 a)) := by rcases ha with rfl | rfl <;> rfl
set_option maxRecDepth 20000 in
theorem puX5_0 {G : GC} {h : PH} {a : Nat} (ha : kdX5 a) (v : Int32) : cE G a (hU h a 0 v) = .inr (5, (fsX5 G a (h.1 a)).set 0 (.int v)) := by rcases ha with rfl | rfl <;> rfl
set_option maxRecDepth 20000 in
theorem puX5_1 {G : GC} {h : PH} {a : Nat} (ha : kdX5 a) (v : Int32) : cE G a (hU h a 1 v) = .inr (5, (fsX5 G a (h.1 a)).set 1 (.int v)) := by rcases ha with rfl | rfl <;> rfl
set_option maxRecDepth 20000 in
theorem arX5_2 {a : Nat} (ha : kdX5 a) : isA (a + 1) 8 := by rcases ha with rfl | rfl <;> exact ⟨by decide, fun _ _ => rfl⟩
set_option maxRecDepth 20000 in
theorem arX5_3 {a : Nat} (ha : kdX5 a) : isA (a + 2) 8 := by rcases ha with rfl | rfl <;> exact ⟨by decide, fun _ _ => rfl⟩
set_option maxRecDepth 20000 in
theorem puX5_4 {G : GC} {h : PH} {a : Nat} (ha : kdX5 a) (v : Int32) : cE G a (hU h a 4 v) = .inr (5, (fsX5 G a (h.1 a)).set 4 (.int v)) := by rcases ha with rfl | rfl <;> rfl
set_option maxRecDepth 20000 in
theorem puX5_5 {G : GC} {h : PH} {a : Nat} (ha : kdX5 a) (v : Int32) : cE G a (hU h a 5 v) = .inr (5, (fsX5 G a (h.1 a)).set 5 (.int v)) := by rcases ha with rfl | rfl <;> rfl
set_option maxRecDepth 20000 in
theorem puX5_6 {G : GC} {h : PH} {a : Nat} (ha : kdX5 a) (v : Int32) : cE G a (hU h a 6 v) = .inr (5, (fsX5 G a (h.1 a)).set 6 (.int v)) := by rcases ha with rfl | rfl <;> rfl
set_option maxRecDepth 20000 in
theorem ltX6 {a : Nat} (ha : kdX6 a) : a < 98 := by cases ha; decide
set_option maxRecDepth 20000 in
theorem ceX6 {G : GC} {h : PH} {a : Nat} (ha : kdX6 a) : cE G a h = .inr (6, fsX6 G a (h.1 a)) := by cases ha; rfl
set_option maxRecDepth 20000 in
theorem arX6_0 {a : Nat} (ha : kdX6 a) : isA (a + 1) 500 := by cases ha; exact ⟨by decide, fun _ _ => rfl⟩
set_option maxRecDepth 20000 in
theorem puX6_1 {G : GC} {h : PH} {a : Nat} (ha : kdX6 a) (v : Int32) : cE G a (hU h a 1 v) = .inr (6, (fsX6 G a (h.1 a)).set 1 (.int v)) := by cases ha; rfl
set_option maxRecDepth 20000 in
theorem ltX7 {a : Nat} (ha : kdX7 a) : a < 98 := by rcases ha with rfl | rfl <;> decide
set_option maxRecDepth 20000 in
theorem ceX7 {G : GC} {h : PH} {a : Nat} (ha : kdX7 a) : cE G a h = .inr (7, fsX7 G a (h.1 a)) := by rcases ha with rfl | rfl <;> rfl
set_option maxRecDepth 20000 in
theorem puX7_0 {G : GC} {h : PH} {a : Nat} (ha : kdX7 a) (v : Int32) : cE G a (hU h a 0 v) = .inr (7, (fsX7 G a (h.1 a)).set 0 (.int v)) := by rcases ha with rfl | rfl <;> rfl
set_option maxRecDepth 20000 in
theorem arX7_1 {a : Nat} (ha : kdX7 a) : isA (a + 1) 24 := by rcases ha with rfl | rfl <;> exact ⟨by decide, fun _ _ => rfl⟩
set_option maxRecDepth 20000 in
theorem arX7_2 {a : Nat} (ha : kdX7 a) : isA (a + 2) 24 := by rcases ha with rfl | rfl <;> exact ⟨by decide, fun _ _ => rfl⟩
set_option maxRecDepth 20000 in
theorem arX7_3 {a : Nat} (ha : kdX7 a) : isA (a + 3) 24 := by rcases ha with rfl | rfl <;> exact ⟨by decide, fun _ _ => rfl⟩
set_option maxRecDepth 20000 in
theorem arX7_4 {a : Nat} (ha : kdX7 a) : isA (a + 4) 384 := by rcases ha with rfl | rfl <;> exact ⟨by decide, fun _ _ => rfl⟩
set_option maxRecDepth 20000 in
theorem arX7_5 {a : Nat} (ha : kdX7 a) : isA (a + 5) 400 := by rcases ha with rfl | rfl <;> exact ⟨by decide, fun _ _ => rfl⟩
set_option maxRecDepth 20000 in
theorem puX7_6 {G : GC} {h : PH} {a : Nat} (ha : kdX7 a) (v : Int32) : cE G a (hU h a 6 v) = .inr (7, (fsX7 G a (h.1 a)).set 6 (.int v)) := by rcases ha with rfl | rfl <;> rfl
set_option maxRecDepth 20000 in
theorem arX7_7 {a : Nat} (ha : kdX7 a) : isA (a + 6) 10 := by rcases ha with rfl | rfl <;> exact ⟨by decide, fun _ _ => rfl⟩
set_option maxRecDepth 20000 in
theorem arX7_8 {a : Nat} (ha : kdX7 a) : isA (a + 7) 10 := by rcases ha with rfl | rfl <;> exact ⟨by decide, fun _ _ => rfl⟩
set_option maxRecDepth 20000 in
theorem arX7_9 {a : Nat} (ha : kdX7 a) : isA (a + 8) 10 := by rcases ha with rfl | rfl <;> exact ⟨by decide, fun _ _ => rfl⟩
set_option maxRecDepth 20000 in
theorem ltX8 {a : Nat} (ha : kdX8 a) : a < 98 := by cases ha; decide
set_option maxRecDepth 20000 in
theorem ceX8 {G : GC} {h : PH} {a : Nat} (ha : kdX8 a) : cE G a h = .inr (8, fsX8 G a (h.1 a)) := by cases ha; rfl
set_option maxRecDepth 20000 in
theorem puX8_12 {G : GC} {h : PH} {a : Nat} (ha : kdX8 a) (v : Int32) : cE G a (hU h a 12 v) = .inr (8, (fsX8 G a (h.1 a)).set 12 (.int v)) := by cases ha; rfl
set_option maxRecDepth 20000 in
theorem puX8_13 {G : GC} {h : PH} {a : Nat} (ha : kdX8 a) (v : Int32) : cE G a (hU h a 13 v) = .inr (8, (fsX8 G a (h.1 a)).set 13 (.int v)) := by cases ha; rfl
set_option maxRecDepth 20000 in
theorem ltX9 {a : Nat} (ha : kdX9 a) : a < 98 := by cases ha; decide
set_option maxRecDepth 20000 in
theorem ceX9 {G : GC} {h : PH} {a : Nat} (ha : kdX9 a) : cE G a h = .inr (9, fsX9 G a (h.1 a) h.2) := by cases ha; rfl
set_option maxRecDepth 20000 in
theorem puX9_0 {G : GC} {h : PH} {a : Nat} (ha : kdX9 a) (v : Int32) : cE G a (hU h a 0 v) = .inr (9, (fsX9 G a (h.1 a) h.2).set 0 (.int v)) := by cases ha; rfl
set_option maxRecDepth 20000 in
theorem arX9_1 {a : Nat} (ha : kdX9 a) : isA (a + 1) 384 := by cases ha; exact ⟨by decide, fun _ _ => rfl⟩
set_option maxRecDepth 20000 in
theorem arX9_2 {a : Nat} (ha : kdX9 a) : isA (a + 2) 24 := by cases ha; exact ⟨by decide, fun _ _ => rfl⟩
set_option maxRecDepth 20000 in
theorem arX9_3 {a : Nat} (ha : kdX9 a) : isA (a + 3) 24 := by cases ha; exact ⟨by decide, fun _ _ => rfl⟩
set_option maxRecDepth 20000 in
theorem puX9_4 {G : GC} {h : PH} {a : Nat} (ha : kdX9 a) (v : Int32) : cE G a (hU h a 4 v) = .inr (9, (fsX9 G a (h.1 a) h.2).set 4 (.int v)) := by cases ha; rfl
set_option maxRecDepth 20000 in
theorem arX9_5 {a : Nat} (ha : kdX9 a) : isA (a + 4) 10 := by cases ha; exact ⟨by decide, fun _ _ => rfl⟩
set_option maxRecDepth 20000 in
theorem arX9_6 {a : Nat} (ha : kdX9 a) : isA (a + 5) 10 := by cases ha; exact ⟨by decide, fun _ _ => rfl⟩
set_option maxRecDepth 20000 in
theorem arX9_7 {a : Nat} (ha : kdX9 a) : isA (a + 6) 10 := by cases ha; exact ⟨by decide, fun _ _ => rfl⟩
set_option maxRecDepth 20000 in
theorem puX9_8 {G : GC} {h : PH} {a : Nat} (ha : kdX9 a) (v : Int32) : cE G a (hU h a 8 v) = .inr (9, (fsX9 G a (h.1 a) h.2).set 8 (.int v)) := by cases ha; rfl
set_option maxRecDepth 20000 in
theorem arX9_9 {a : Nat} (ha : kdX9 a) : isA (a + 7) 4 := by cases ha; exact ⟨by decide, fun _ _ => rfl⟩
set_option maxRecDepth 20000 in
theorem arX9_10 {a : Nat} (ha : kdX9 a) : isA (a + 8) 4 := by cases ha; exact ⟨by decide, fun _ _ => rfl⟩
set_option maxRecDepth 20000 in
theorem arX9_11 {a : Nat} (ha : kdX9 a) : isA (a + 9) 64 := by cases ha; exact ⟨by decide, fun _ _ => rfl⟩
set_option maxRecDepth 20000 in
theorem arX9_12 {a : Nat} (ha : kdX9 a) : isA (a + 10) 4 := by cases ha; exact ⟨by decide, fun _ _ => rfl⟩
set_option maxRecDepth 20000 in
theorem puX9_13 {G : GC} {h : PH} {a : Nat} (ha : kdX9 a) (v : Int32) : cE G a (hU h a 13 v) = .inr (9, (fsX9 G a (h.1 a) h.2).set 13 (.int v)) := by cases ha; rfl
set_option maxRecDepth 20000 in
theorem arX9_14 {a : Nat} (ha : kdX9 a) : isA (a + 11) 20 := by cases ha; exact ⟨by decide, fun _ _ => rfl⟩
set_option maxRecDepth 20000 in
theorem arX9_15 {a : Nat} (ha : kdX9 a) : isA (a + 12) 20 := by cases ha; exact ⟨by decide, fun _ _ => rfl⟩
set_option maxRecDepth 20000 in
theorem arX9_16 {a : Nat} (ha : kdX9 a) : isA (a + 13) 20 := by cases ha; exact ⟨by decide, fun _ _ => rfl⟩
set_option maxRecDepth 20000 in
theorem arX9_17 {a : Nat} (ha : kdX9 a) : isA (a + 14) 320 := by cases ha; exact ⟨by decide, fun _ _ => rfl⟩
set_option maxRecDepth 20000 in
theorem arX9_18 {a : Nat} (ha : kdX9 a) : isA (a + 15) 500 := by cases ha; exact ⟨by decide, fun _ _ => rfl⟩
set_option maxRecDepth 20000 in
theorem puX9_19 {G : GC} {h : PH} {a : Nat} (ha : kdX9 a) (v : Int32) : cE G a (hU h a 19 v) = .inr (9, (fsX9 G a (h.1 a) h.2).set 19 (.int v)) := by cases ha; rfl
set_option maxRecDepth 20000 in
theorem puX9_20 {G : GC} {h : PH} {a : Nat} (ha : kdX9 a) (v : Int32) : cE G a (hU h a 20 v) = .inr (9, (fsX9 G a (h.1 a) h.2).set 20 (.int v)) := by cases ha; rfl
set_option maxRecDepth 20000 in
theorem puX9_21 {G : GC} {h : PH} {a : Nat} (ha : kdX9 a) (v : Int32) : cE G a (hU h a 21 v) = .inr (9, (fsX9 G a (h.1 a) h.2).set 21 (.int v)) := by cases ha; rfl
set_option maxRecDepth 20000 in
theorem puX9_22 {G : GC} {h : PH} {a : Nat} (ha : kdX9 a) (v : Int32) : cE G a (hU h a 22 v) = .inr (9, (fsX9 G a (h.1 a) h.2).set 22 (.int v)) := by cases ha; rfl
set_option maxRecDepth 20000 in
theorem puX9_23 {G : GC} {h : PH} {a : Nat} (ha : kdX9 a) (v : Int64) : cE G a (hL h v) = .inr (9, (fsX9 G a (h.1 a) h.2).set 23 (.long v)) := by cases ha; rfl
set_option maxRecDepth 20000 in
theorem puX9_24 {G : GC} {h : PH} {a : Nat} (ha : kdX9 a) (v : Int32) : cE G a (hU h a 24 v) = .inr (9, (fsX9 G a (h.1 a) h.2).set 24 (.int v)) := by cases ha; rfl
set_option maxRecDepth 20000 in
theorem puX9_25 {G : GC} {h : PH} {a : Nat} (ha : kdX9 a) (v : Int32) : cE G a (hU h a 25 v) = .inr (9, (fsX9 G a (h.1 a) h.2).set 25 (.int v)) := by cases ha; rfl
set_option maxRecDepth 20000 in
theorem puX9_26 {G : GC} {h : PH} {a : Nat} (ha : kdX9 a) (v : Int32) : cE G a (hU h a 26 v) = .inr (9, (fsX9 G a (h.1 a) h.2).set 26 (.int v)) := by cases ha; rfl
set_option maxRecDepth 20000 in
theorem puX9_27 {G : GC} {h : PH} {a : Nat} (ha : kdX9 a) (v : Int32) : cE G a (hU h a 27 v) = .inr (9, (fsX9 G a (h.1 a) h.2).set 27 (.int v)) := by cases ha; rfl
set_option maxRecDepth 20000 in
theorem arX9_28 {a : Nat} (ha : kdX9 a) : isA (a + 16) 384 := by cases ha; exact ⟨by decide, fun _ _ => rfl⟩
set_option maxRecDepth 20000 in
theorem arX9_29 {a : Nat} (ha : kdX9 a) : isA (a + 17) 24 := by cases ha; exact ⟨by decide, fun _ _ => rfl⟩
set_option maxRecDepth 20000 in
theorem arX9_30 {a : Nat} (ha : kdX9 a) : isA (a + 18) 24 := by cases ha; exact ⟨by decide, fun _ _ => rfl⟩
set_option maxRecDepth 20000 in
theorem puX9_31 {G : GC} {h : PH} {a : Nat} (ha : kdX9 a) (v : Int32) : cE G a (hU h a 31 v) = .inr (9, (fsX9 G a (h.1 a) h.2).set 31 (.int v)) := by cases ha; rfl
set_option maxRecDepth 20000 in
theorem arX9_32 {a : Nat} (ha : kdX9 a) : isA (a + 19) 10 := by cases ha; exact ⟨by decide, fun _ _ => rfl⟩
set_option maxRecDepth 20000 in
theorem arX9_33 {a : Nat} (ha : kdX9 a) : isA (a + 20) 10 := by cases ha; exact ⟨by decide, fun _ _ => rfl⟩
set_option maxRecDepth 20000 in
theorem arX9_34 {a : Nat} (ha : kdX9 a) : isA (a + 21) 10 := by cases ha; exact ⟨by decide, fun _ _ => rfl⟩
set_option maxRecDepth 20000 in
theorem puX9_35 {G : GC} {h : PH} {a : Nat} (ha : kdX9 a) (v : Int32) : cE G a (hU h a 35 v) = .inr (9, (fsX9 G a (h.1 a) h.2).set 35 (.int v)) := by cases ha; rfl
set_option maxRecDepth 20000 in
theorem arX9_36 {a : Nat} (ha : kdX9 a) : isA (a + 22) 400 := by cases ha; exact ⟨by decide, fun _ _ => rfl⟩
set_option maxRecDepth 20000 in
theorem arX9_37 {a : Nat} (ha : kdX9 a) : isA (a + 23) 16 := by cases ha; exact ⟨by decide, fun _ _ => rfl⟩
set_option maxRecDepth 20000 in
theorem arX9_38 {a : Nat} (ha : kdX9 a) : isA (a + 24) 16 := by cases ha; exact ⟨by decide, fun _ _ => rfl⟩
set_option maxRecDepth 20000 in
theorem arX9_39 {a : Nat} (ha : kdX9 a) : isA (a + 25) 8 := by cases ha; exact ⟨by decide, fun _ _ => rfl⟩
set_option maxRecDepth 20000 in
theorem puX9_40 {G : GC} {h : PH} {a : Nat} (ha : kdX9 a) (v : Int32) : cE G a (hU h a 40 v) = .inr (9, (fsX9 G a (h.1 a) h.2).set 40 (.int v)) := by cases ha; rfl
set_option maxRecDepth 20000 in
theorem puX9_41 {G : GC} {h : PH} {a : Nat} (ha : kdX9 a) (v : Int32) : cE G a (hU h a 41 v) = .inr (9, (fsX9 G a (h.1 a) h.2).set 41 (.int v)) := by cases ha; rfl
set_option maxRecDepth 20000 in
theorem arX9_42 {a : Nat} (ha : kdX9 a) : isA (a + 26) 8 := by cases ha; exact ⟨by decide, fun _ _ => rfl⟩
set_option maxRecDepth 20000 in
theorem arX9_43 {a : Nat} (ha : kdX9 a) : isA (a + 27) 8 := by cases ha; exact ⟨by decide, fun _ _ => rfl⟩
set_option maxRecDepth 20000 in
theorem puX9_44 {G : GC} {h : PH} {a : Nat} (ha : kdX9 a) (v : Int32) : cE G a (hU h a 44 v) = .inr (9, (fsX9 G a (h.1 a) h.2).set 44 (.int v)) := by cases ha; rfl
set_option maxRecDepth 20000 in
theorem puX9_45 {G : GC} {h : PH} {a : Nat} (ha : kdX9 a) (v : Int32) : cE G a (hU h a 45 v) = .inr (9, (fsX9 G a (h.1 a) h.2).set 45 (.int v)) := by cases ha; rfl
set_option maxRecDepth 20000 in
theorem puX9_46 {G : GC} {h : PH} {a : Nat} (ha : kdX9 a) (v : Int32) : cE G a (hU h a 46 v) = .inr (9, (fsX9 G a (h.1 a) h.2).set 46 (.int v)) := by cases ha; rfl
set_option maxRecDepth 20000 in
theorem puX9_47 {G : GC} {h : PH} {a : Nat} (ha : kdX9 a) (v : Int32) : cE G a (hU h a 47 v) = .inr (9, (fsX9 G a (h.1 a) h.2).set 47 (.int v)) := by cases ha; rfl
set_option maxRecDepth 20000 in
theorem arX9_48 {a : Nat} (ha : kdX9 a) : isA (a + 28) 8 := by cases ha; exact ⟨by decide, fun _ _ => rfl⟩
set_option maxRecDepth 20000 in
theorem arX9_49 {a : Nat} (ha : kdX9 a) : isA (a + 29) 8 := by cases ha; exact ⟨by decide, fun _ _ => rfl⟩
set_option maxRecDepth 20000 in
theorem puX9_50 {G : GC} {h : PH} {a : Nat} (ha : kdX9 a) (v : Int32) : cE G a (hU h a 50 v) = .inr (9, (fsX9 G a (h.1 a) h.2).set 50 (.int v)) := by cases ha; rfl
set_option maxRecDepth 20000 in
theorem puX9_51 {G : GC} {h : PH} {a : Nat} (ha : kdX9 a) (v : Int32) : cE G a (hU h a 51 v) = .inr (9, (fsX9 G a (h.1 a) h.2).set 51 (.int v)) := by cases ha; rfl
set_option maxRecDepth 20000 in
theorem puX9_52 {G : GC} {h : PH} {a : Nat} (ha : kdX9 a) (v : Int32) : cE G a (hU h a 52 v) = .inr (9, (fsX9 G a (h.1 a) h.2).set 52 (.int v)) := by cases ha; rfl
set_option maxRecDepth 20000 in
theorem arX9_53 {a : Nat} (ha : kdX9 a) : isA (a + 30) 1000 := by cases ha; exact ⟨by decide, fun _ _ => rfl⟩
set_option maxRecDepth 20000 in
theorem arX9_54 {a : Nat} (ha : kdX9 a) : isZ (a + 31) 2 := by cases ha; exact ⟨by decide, fun _ _ => rfl⟩
/-! strings and nest words -/
def strT : List (String × Nat × String × Nat) := [("CarriedBack$Rules", 54, "freeze", 7), ("CarriedBack$Rules", 67, "risk", 4), ("CarriedBack$Rules", 72, "weigh", 8), ("CarriedBack$Rules", 77, "only", 9), ("CarriedBack$Trunk", 59, "change", 0), ("CarriedBack$Trunk", 69, "fault", 1), ("CarriedBack$Trunk", 85, "sets", 2), ("CarriedBack$Trunk", 94, "reads", 3), ("CarriedBack$Trunk", 99, "risk", 4), ("CarriedBack$Trunk", 123, "from", 5), ("CarriedBack$Trunk", 128, "till", 6)]
def lenT : List Nat := [6, 5, 4, 5, 4, 4, 4, 6, 5, 4]
def bytT : List (List Int32) := [[99, 104, 97, 110, 103, 101], [102, 97, 117, 108, 116], [115, 101, 116, 115], [114, 101, 97, 100, 115], [114, 105, 115, 107], [102, 114, 111, 109], [116, 105, 108, 108], [102, 114, 101, 101, 122, 101], [119, 101, 105, 103, 104], [111, 110, 108, 121]]
def nestWs : List Cond := [.methodLinkNest RX8 27 yX7_init "CarriedBack", .methodLinkNest RX8 37 yX5_init "CarriedBack", .methodLinkNest RX8 47 yX0_init "CarriedBack", .methodLinkNest RX8 9 yX6_init "CarriedBack", .methodLinkNest RX0 49 yX8_firstOnes "CarriedBack", .methodLinkNest RX1 62 yX8_has "CarriedBack", .methodLinkNest RX1 76 yX8_firstOnes "CarriedBack", .methodLinkNest RX2 55 yX8_has "CarriedBack", .methodLinkNest RX3 84 yX8_has "CarriedBack", .methodLinkNest RX4 41 yX8_has "CarriedBack", .methodLinkNest RX4 45 yX8_firstOnes "CarriedBack", .methodLinkNest RX5 96 yX8_has "CarriedBack", .methodLinkNest RX7 133 yX8_has "CarriedBack", .methodLinkNest RX7 43 yX8_firstOnes "CarriedBack", .fieldLinkNest RX1 39 "CarriedBack$Picker" "book" "LCarriedBack$Book;" "CarriedBack"]
theorem nestWs_warm {s U : State} (hW : s.WarmedH U.vm) : ∀ w ∈ nestWs, va_Nw w s → va_Nw w U := by
  intro w hw
  simp only [nestWs, List.mem_cons, List.not_mem_nil, or_false] at hw
  rcases hw with rfl | rfl | rfl | rfl | rfl | rfl | rfl | rfl | rfl | rfl | rfl | rfl | rfl | rfl | rfl
  all_goals first | exact fun h => va_Nw.warmM hW h | exact fun h => va_Nw.warmF hW h
def KW (G : GC) (U : State) : Prop := va_K (gD G) vwCl [(gI G, .int), (gZ G, .boolean)] U ∧ (∀ w ∈ nestWs, va_Nw w U) ∧ vk_S 10 lenT bytT (gk G) (gv G) (gA G) U U.heap ∧ (∀ q ∈ strT, vk_R q.1 q.2.1 q.2.2.1 (gk G q.2.2.2) U) ∧ va_Z "java/lang/String" "COMPACT_STRINGS" "Z" (.int 1) (gA G) U U.heap ∧ va_Zq "jdk/internal/util/Preconditions" "SIOOBE_FORMATTER" "Ljava/util/function/BiFunction;" (gA G) U U.heap
theorem KW.call {G : GC} {s U : State} {H : Heap} {locs : List Loc} (hK : KW G s) (hS : va_S (gA G) s.heap H locs) (hU : U.heap = H) (hW : s.WarmedH U.vm) : KW G U := by
  obtain ⟨k1, k2, k3, k4, k5, k6⟩ := hK
  subst hU
  exact ⟨va_K.moved hW.alike k1, fun w hw => nestWs_warm hW w hw (k2 w hw), (k3.kept hS.2.1).moved hW.alike, fun q hq => (k4 q hq).warm hW, (k5.kept hS.2.1).moved hW.alike, (k6.kept hS.2.1).moved hW.alike⟩
abbrev WP (G : GC) (h : PH) (H : Heap) : Prop := va_P (gD G) vwCl (wsG G h) H
abbrev SP (G : GC) (s : State) (H : Heap) (locs : List Loc) : Prop := va_S (gA G) s.heap H locs
def PW (G : GC) (h : PH) (U : State) : Prop := WP G h U.heap ∧ KW G U
theorem PW.blind {G : GC} {h : PH} (a : Array Value) (U : State) (g : JFrame) (mk : MethodId) (hp : PW G h U) : PW G h (U.calling g mk a) := by
  obtain ⟨p1, k1, k2, k3, k4, k5, k6⟩ := hp
  have hv : (U.calling g mk a).vm = U.vm := rfl
  refine ⟨p1, va_K.moved (u := U) (U := U.calling g mk a) (Vm.Alike.refl U.vm) k1, fun w hw => ?_, k3.moved (u := U) (U := U.calling g mk a) (Vm.Alike.refl U.vm), fun q hq => (k4 q hq).same hv, k5.moved (u := U) (U := U.calling g mk a) (Vm.Alike.refl U.vm), k6.moved (u := U) (U := U.calling g mk a) (Vm.Alike.refl U.vm)⟩
  refine va_Nw.same ?_ hv.symm (k2 w hw)
  simp only [nestWs, List.mem_cons, List.not_mem_nil, or_false] at hw
  rcases hw with rfl | rfl | rfl | rfl | rfl | rfl | rfl | rfl | rfl | rfl | rfl | rfl | rfl | rfl | rfl <;> rfl
