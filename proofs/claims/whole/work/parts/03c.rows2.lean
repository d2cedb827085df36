abbrev QI (G : GC) (rr : Int32) (hh : PH) : Array Value → State → Outcome → State → Prop := va_Qi (fun (r2 : Int32) (u : PH) => r2 = rr ∧ u = hh) (fun u t => WP G u t.heap) (gA G)
abbrev QJ (G : GC) (rr : Int64) (hh : PH) : Array Value → State → Outcome → State → Prop := va_Ql (fun (r2 : Int64) (u : PH) => r2 = rr ∧ u = hh) (fun u t => WP G u t.heap) (gA G)
abbrev QV (G : GC) (hh : PH) : Array Value → State → Outcome → State → Prop := va_Qv (fun (u : PH) => u = hh) (fun u t => WP G u t.heap) (gA G)
abbrev QR (G : GC) (rr : Nat) (hh : PH) : Array Value → State → Outcome → State → Prop := va_Qr (fun (u : PH) => u = hh) (fun u a t => a = gB G rr ∧ WP G u t.heap) (gA G)
theorem re2 {α β : Type} {a c : α} {b d : β} (h : (a, b) = (c, d)) : a = c ∧ b = d := ⟨congrArg Prod.fst h, congrArg Prod.snd h⟩
def zr {α : Type} (v : Int32) (r : α) : Option α := if v = 0 ∨ v = 1 then some r else none
theorem zr_s {α : Type} {v : Int32} {r z : α} (h : zr v r = some z) : narrow .boolean (.int v) = .int v ∧ r = z := by
  unfold zr at h
  by_cases hv : v = 0 ∨ v = 1
  · rw [if_pos hv] at h
    refine ⟨?_, Option.some.inj h⟩
    rcases hv with rfl | rfl <;> rfl
  · rw [if_neg hv] at h; cases h
def dz {β : Type} (d : Int32) (r : Option β) : Option β := if d = 0 then none else r
theorem dz_s {β : Type} {d : Int32} {r : Option β} {z : β} (h : dz d r = some z) : ∃ _ : ¬ d = 0, r = some z := by
  unfold dz at h
  by_cases hv : d = 0
  · rw [if_pos hv] at h; cases h
  · rw [if_neg hv] at h; exact ⟨hv, h⟩
/-- a receiver that is a String constant -/
theorem r_pvS {s : State} {G : GC} {h : PH} {H : Heap} {locs : List Loc} {As : List Value} (hK : KW G s) (hP : WP G h H) (hS : SP G s H locs) {w : Nat} (hw : w < 10) : PreV s H "java/lang/String" (gk G w) (va_Pc (.ref (gk G w) :: As) (PW G h)) As :=
  ⟨fun a U g mk z => ⟨z.1, PW.blind a U g mk z.2⟩, vk_recv hK.2.2.1 hw hS, fun U hU hW => ⟨rfl, by rw [hU]; exact hP, hK.call hS hU hW⟩⟩
