/-! ===== options, names of values, tests ===== -/
def lt' {α β : Type} (e : α) (f : α → β) : β := f e
theorem lt_at {α β : Type} {e x : α} {f : α → β} {z : β} (ex : x = e) (h : lt' e f = z) : f x = z := by subst ex; exact h
theorem if_t {c : Prop} {α : Type} [Decidable c] {a b z : α} (hc : c) (h : (if c then a else b) = z) : a = z := by rw [if_pos hc] at h; exact h
theorem if_f {c : Prop} {α : Type} [Decidable c] {a b z : α} (hc : ¬ c) (h : (if c then a else b) = z) : b = z := by rw [if_neg hc] at h; exact h
def bO {α β : Type} (x : Option α) (f : α → Option β) : Option β := match x with
  | some r => f r
  | none => none
def bP {α β : Type} (x : Option (α × PH)) (f : α → PH → Option β) : Option β := match x with
  | some q => f q.1 q.2
  | none => none
theorem bO_s {α β : Type} {x : Option α} {f : α → Option β} {z : β} (h : bO x f = some z) : ∃ r, x = some r ∧ f r = some z := by
  cases x with
  | none => cases h
  | some r => exact ⟨r, rfl, h⟩
theorem bP_s {α β : Type} {x : Option (α × PH)} {f : α → PH → Option β} {z : β} (h : bP x f = some z) : ∃ r h1, x = some (r, h1) ∧ f r h1 = some z := by
  cases x with
  | none => cases h
  | some r => exact ⟨r.1, r.2, rfl, h⟩
def ib (i : Int32) (n : Nat) : Bool := !(decide (i < 0) || decide (n ≤ i.toNatClampNeg))
theorem ib_in {i : Int32} {n : Nat} (h : ib i n = true) : vp_in i n := by
  intro hh
  unfold ib at h
  rcases hh with hh | hh <;> simp [hh] at h
def ag (h : PH) (V n : Nat) (i : Int32) : Option Int32 := if ib i n = true then some (h.1 V i.toNatClampNeg) else none
def asg (h : PH) (V n : Nat) (i x : Int32) : Option PH := if ib i n = true then some (hU h V i.toNatClampNeg x) else none
def cpy (h : PH) (V n : Nat) (sp : Int32) (U k : Nat) (dp len : Int32) : Option PH := if ¬ sp < 0 ∧ ¬ dp < 0 ∧ ¬ len < 0 ∧ sp.toNatClampNeg + len.toNatClampNeg ≤ n ∧ dp.toNatClampNeg + len.toNatClampNeg ≤ k then some (hC h U (va_cpy (h.1 V) (h.1 U) sp.toNatClampNeg dp.toNatClampNeg len.toNatClampNeg)) else none
theorem ag_s {h : PH} {V n : Nat} {i v : Int32} (e : ag h V n i = some v) : vp_in i n ∧ h.1 V i.toNatClampNeg = v := by
  unfold ag at e
  by_cases hi : ib i n = true
  · rw [if_pos hi] at e; exact ⟨ib_in hi, Option.some.inj e⟩
  · rw [if_neg hi] at e; cases e
theorem asg_s {h h' : PH} {V n : Nat} {i x : Int32} (e : asg h V n i x = some h') : vp_in i n ∧ hU h V i.toNatClampNeg x = h' := by
  unfold asg at e
  by_cases hi : ib i n = true
  · rw [if_pos hi] at e; exact ⟨ib_in hi, Option.some.inj e⟩
  · rw [if_neg hi] at e; cases e
/-- what a switch over 0 .. n does with another number -/
theorem sw_out {x : Int32} (n : Nat) (hn : n < 1000) (h : ∀ k : Nat, k ≤ n → x ≠ nI k) : x.toInt < 0 ∨ (n : Int) < x.toInt := by
  by_cases h1 : x.toInt < 0
  · exact Or.inl h1
  · by_cases h2 : (n : Int) < x.toInt
    · exact Or.inr h2
    · exfalso
      have h0 : 0 ≤ x.toInt := by omega
      refine h x.toInt.toNat (by omega) ?_
      apply Int32.toInt_inj.mp
      rw [nI_toInt (by omega)]
      omega
section RW
variable {p : Program} {l : Launch} {e : Env} {R : Room} {s : State} {m : MethodId} {args : Array Value} {below : List Frame} {meth : Method} {c : Code} {H : Heap} {locs : List Loc} {cells slots : Nat} {Q : State → Prop}
variable {cc : ByteArray} {pc : Nat} {ls : Array Slot} {rest : List Value} {G : GC} {h : PH}
theorem r_get (hx : p.tables.exec = Jvm.exec) (hb : c.code = cc) {own C : String} {T : u_T} {N ci index : Nat} {Ts : List Cond} (hts : ∀ w ∈ Ts, w.before args s = true) (hin : ∀ w ∈ u_ws C T N, w ∈ Ts) (hown : s.vm.findClass own = some m.cls) (hK : KW G s) (hP : WP G h H) {a : Nat} {fs : List Value} (ha : a < 98) (he : cE G a h = .inr (ci, fs)) (hc : vwCl[ci]? = some (C, T, N)) (k : Nat) (hk : k < N) (hlink : (Cond.fieldLink own index (T k).1 (T k).2.1 (T k).2.2.1) ∈ Ts) {v : Value} (hv : fs[k]? = some v) (hdg : decode cc pc = .ok (.getfield index, 3))
    (kk : W p l e R s m args below meth c H locs cells slots Q (F0 m (pc + 3) ls (v :: rest))) : W p l e R s m args below meth c H locs cells slots Q (F0 m pc ls (.ref (gB G a) :: rest)) :=
  va_get hx hb hts hin hown hK.1 hP a (wsG_at ha he) hc k hk (hts _ hlink) (fun _ h9 => h9) hv hdg kk
theorem r_getN (hx : p.tables.exec = Jvm.exec) (hb : c.code = cc) {own C host : String} {T : u_T} {N ci index : Nat} {Ts : List Cond} (hts : ∀ w ∈ Ts, w.before args s = true) (hin : ∀ w ∈ u_ws C T N, w ∈ Ts) (hown : s.vm.findClass own = some m.cls) (hK : KW G s) (hP : WP G h H) {a : Nat} {fs : List Value} (ha : a < 98) (he : cE G a h = .inr (ci, fs)) (hc : vwCl[ci]? = some (C, T, N)) (k : Nat) (hk : k < N) (hlink : (Cond.fieldLinkNest own index (T k).1 (T k).2.1 (T k).2.2.1 host) ∈ nestWs) {v : Value} (hv : fs[k]? = some v) (hdg : decode cc pc = .ok (.getfield index, 3))
    (kk : W p l e R s m args below meth c H locs cells slots Q (F0 m (pc + 3) ls (v :: rest))) : W p l e R s m args below meth c H locs cells slots Q (F0 m pc ls (.ref (gB G a) :: rest)) :=
  va_getN hx hb hts hin hown hK.1 hP a (wsG_at ha he) hc k hk (va_Nw.use rfl (hK.2.1 _ hlink)) (fun _ h9 => h9) hv hdg kk
theorem r_put (hG : GOK G) (hx : p.tables.exec = Jvm.exec) (hb : c.code = cc) {own C : String} {T : u_T} {N ci index : Nat} {Ts : List Cond} (hts : ∀ w ∈ Ts, w.before args s = true) (hin : ∀ w ∈ u_ws C T N, w ∈ Ts) (ty0 : Nat → FieldType) (hty : ∀ k, k < N → parseFieldDescriptor (T k).2.2.1 = some (ty0 k)) (hnm : ∀ a, a < N → ∀ b, b < N → a ≠ b → (T a).2.1 ≠ (T b).2.1) (hown : s.vm.findClass own = some m.cls) (hK : KW G s) (hP : WP G h H) (hS : SP G s H locs) {a : Nat} {fs : List Value} (ha : a < 98) (he : cE G a h = .inr (ci, fs)) (hc : vwCl[ci]? = some (C, T, N)) (k : Nat) (hk : k < N) (hlink : (Cond.fieldLink own index (T k).1 (T k).2.1 (T k).2.2.1) ∈ Ts) (hfin : (T k).2.2.2 = false) {ty : FieldType} {v : Value} (hd : parseFieldDescriptor (T k).2.2.1 = some ty) (hn : narrow ty v = v) (hfit : fits ty v = true) (hl : k < fs.length) {h' : PH} (h1 : ∀ j, j ≠ a → cE G j h' = cE G j h) (h2 : cE G a h' = .inr (ci, fs.set k v))
    (hdg : decode cc pc = .ok (.putfield index, 3)) (kk : ∀ (H1 : Heap) (locs1 : List Loc), WP G h' H1 → SP G s H1 locs1 → W p l e R s m args below meth c H1 locs1 cells slots Q (F0 m (pc + 3) ls rest)) : W p l e R s m args below meth c H locs cells slots Q (F0 m pc ls (v :: .ref (gB G a) :: rest)) := by
  refine va_put hx hb hts hin ty0 hty hnm hown hK.1 hP (hG.D h) hS a (wsG_at ha he) hc k hk (hts _ hlink) (fun _ h9 => h9) hfin hd hn hfit hl hdg (fun H1 locs1 q1 _ q3 => kk H1 locs1 ?_ q3)
  rw [wsG_set ha h1 h2] at q1
  exact q1
theorem r_iald (hx : p.tables.exec = Jvm.exec) (hb : c.code = cc) (hK : KW G s) (hP : WP G h H) {V n : Nat} (hV : isA V n) {i v : Int32} (e1 : ag h V n i = some v) (hdg : decode cc pc = .ok (.iaload, 1))
    (kk : W p l e R s m args below meth c H locs cells slots Q (F0 m (pc + 1) ls (.int v :: rest))) : W p l e R s m args below meth c H locs cells slots Q (F0 m pc ls (.int i :: .ref (gB G V) :: rest)) := by
  obtain ⟨q1, rfl⟩ := ag_s e1
  exact va_iald hx hb hK.1 hP V 0 (wsG_at hV.1 (hV.2 G h)) rfl q1 hdg kk
theorem r_zald (hx : p.tables.exec = Jvm.exec) (hb : c.code = cc) (hK : KW G s) (hP : WP G h H) {V n : Nat} (hV : isZ V n) {i v : Int32} (e1 : ag h V n i = some v) (hdg : decode cc pc = .ok (.baload, 1))
    (kk : W p l e R s m args below meth c H locs cells slots Q (F0 m (pc + 1) ls (.int v :: rest))) : W p l e R s m args below meth c H locs cells slots Q (F0 m pc ls (.int i :: .ref (gB G V) :: rest)) := by
  obtain ⟨q1, rfl⟩ := ag_s e1
  exact va_zald hx hb hK.1 hP V 1 (wsG_at hV.1 (hV.2 G h)) rfl q1 hdg kk
theorem r_iast (hG : GOK G) (hx : p.tables.exec = Jvm.exec) (hb : c.code = cc) (hK : KW G s) (hP : WP G h H) (hS : SP G s H locs) {V n : Nat} (hV : isA V n) {i x : Int32} {h' : PH} (e1 : asg h V n i x = some h') (hdg : decode cc pc = .ok (.iastore, 1))
    (kk : ∀ (H1 : Heap) (locs1 : List Loc), WP G h' H1 → SP G s H1 locs1 → W p l e R s m args below meth c H1 locs1 cells slots Q (F0 m (pc + 1) ls rest)) : W p l e R s m args below meth c H locs cells slots Q (F0 m pc ls (.int x :: .int i :: .ref (gB G V) :: rest)) := by
  obtain ⟨q1, rfl⟩ := asg_s e1
  refine va_iast hx hb hK.1 hP (hG.D h) hS V 0 (wsG_at hV.1 (hV.2 G h)) rfl q1 hdg (fun H1 locs1 z1 _ z3 => kk H1 locs1 ?_ z3)
  rw [wsG_set (h' := hU h V i.toNatClampNeg x) hV.1 (fun j hj => cE_U hj) (by rw [hV.2, hU_s])] at z1
  exact z1
theorem r_zast (hG : GOK G) (hx : p.tables.exec = Jvm.exec) (hb : c.code = cc) (hK : KW G s) (hP : WP G h H) (hS : SP G s H locs) {V n : Nat} (hV : isZ V n) {i x : Int32} {h' : PH} (e1 : asg h V n i (vp_nar .boolean x) = some h') (hdg : decode cc pc = .ok (.bastore, 1))
    (kk : ∀ (H1 : Heap) (locs1 : List Loc), WP G h' H1 → SP G s H1 locs1 → W p l e R s m args below meth c H1 locs1 cells slots Q (F0 m (pc + 1) ls rest)) : W p l e R s m args below meth c H locs cells slots Q (F0 m pc ls (.int x :: .int i :: .ref (gB G V) :: rest)) := by
  obtain ⟨q1, rfl⟩ := asg_s e1
  refine va_zast hx hb hK.1 hP (hG.D h) hS V 1 (wsG_at hV.1 (hV.2 G h)) rfl q1 hdg (fun H1 locs1 z1 _ z3 => kk H1 locs1 ?_ z3)
  rw [wsG_set (h' := hU h V i.toNatClampNeg (vp_nar .boolean x)) hV.1 (fun j hj => cE_U hj) (by rw [hV.2, hU_s])] at z1
  exact z1
theorem r_cpy (hG : GOK G) (hx : p.tables.exec = Jvm.exec) (hb : c.code = cc) (hml : c.maxLocals = ls.size) {own : String} {index : Nat} (hown : s.vm.findClass own = some m.cls) {Ts : List Cond} (hts : ∀ w ∈ Ts, w.before args s = true) (hlink : (Cond.methodLink own index arraycopyName) ∈ Ts) (hnat : (Cond.native arraycopyName) ∈ Ts) (hstat : (Cond.static arraycopyName) ∈ Ts) (hini : (Cond.initialized "java/lang/System") ∈ Ts)
    (hK : KW G s) (hP : WP G h H) (hS : SP G s H locs) {V n U k : Nat} (hV : isA V n) (hU' : isA U k) {sp dp len : Int32} {h' : PH} (e1 : cpy h V n sp U k dp len = some h')
    (hframes : 1 ≤ R.frames) (hlocals : (rest.map fun v => v.category).sum + (nativeFrameWords "java/lang/System" "arraycopy" 5 + 11) ≤ R.locals) (hdg : decode cc pc = .ok (.invokestatic index, 3))
    (kk : ∀ (H1 : Heap) (locs1 : List Loc), WP G h' H1 → SP G s H1 locs1 → W p l e R s m args below meth c H1 locs1 cells slots Q (F0 m (pc + 3) ls rest)) : W p l e R s m args below meth c H locs cells slots Q (F0 m pc ls (.int len :: .int dp :: .ref (gB G U) :: .int sp :: .ref (gB G V) :: rest)) := by
  unfold cpy at e1
  by_cases hc : ¬ sp < 0 ∧ ¬ dp < 0 ∧ ¬ len < 0 ∧ sp.toNatClampNeg + len.toNatClampNeg ≤ n ∧ dp.toNatClampNeg + len.toNatClampNeg ≤ k
  · rw [if_pos hc] at e1
    have e2 := Option.some.inj e1
    subst e2
    obtain ⟨g1, g2, g3, g4, g5⟩ := hc
    refine va_copyi hx hb hml hown (hts _ hlink) (hts _ hnat) (hts _ hstat) (hts _ hini) hK.1 hP (hG.D h) hS V U 0 0 (wsG_at hV.1 (hV.2 G h)) (wsG_at hU'.1 (hU'.2 G h)) rfl rfl rfl g1 g2 g3 g4 g5 (fun _ _ => rfl) hframes hlocals hdg (fun H1 locs1 z1 _ z3 => kk H1 locs1 ?_ z3)
    rw [wsG_set (h' := hC h U (va_cpy (h.1 V) (h.1 U) sp.toNatClampNeg dp.toNatClampNeg len.toNatClampNeg)) hU'.1 (fun j hj => cE_C hj) (by rw [hU'.2, hC_s])] at z1
    exact z1
  · rw [if_neg hc] at e1; cases e1
end RW
/-! contracts -/
def CI (l : Launch) (y : MethodName) (ws : List Cond) (rm : Room) (G : GC) (av : List Value) (h : PH) (rr : Int32) (hh : PH) : Prop := Met l y ws rm (va_Pc av (PW G h)) (va_Qi (fun (r2 : Int32) (u : PH) => r2 = rr ∧ u = hh) (fun u t => WP G u t.heap) (gA G)) 0 0 (gA G)
def CL (l : Launch) (y : MethodName) (ws : List Cond) (rm : Room) (G : GC) (av : List Value) (h : PH) (rr : Int64) (hh : PH) : Prop := Met l y ws rm (va_Pc av (PW G h)) (va_Ql (fun (r2 : Int64) (u : PH) => r2 = rr ∧ u = hh) (fun u t => WP G u t.heap) (gA G)) 0 0 (gA G)
def CV (l : Launch) (y : MethodName) (ws : List Cond) (rm : Room) (G : GC) (av : List Value) (h : PH) (hh : PH) : Prop := Met l y ws rm (va_Pc av (PW G h)) (va_Qv (fun (u : PH) => u = hh) (fun u t => WP G u t.heap) (gA G)) 0 0 (gA G)
def CR (l : Launch) (y : MethodName) (ws : List Cond) (rm : Room) (G : GC) (av : List Value) (h : PH) (rr : Nat) (hh : PH) : Prop := Met l y ws rm (va_Pc av (PW G h)) (va_Qr (fun (u : PH) => u = hh) (fun u a t => a = gB G rr ∧ WP G u t.heap) (gA G)) 0 0 (gA G)
/-- what a method's walk stands on -/
def MC (l : Launch) (G : GC) (p : Program) (s : State) (m : MethodId) (args : Array Value) (meth : Method) (c : Code) (own : String) (cc : ByteArray) (maxL : Nat) (ret : Option FieldType) : Prop :=
  p.tables.exec = Jvm.exec ∧ c.code = cc ∧ meth.sig.returnType = ret ∧ meth.locks = false ∧ c.maxLocals = maxL ∧ s.vm.findClass own = some m.cls ∧ (∀ w ∈ GW, w.before args s = true) ∧ KW G s
section RC
variable {p : Program} {l : Launch} {e : Env} {R : Room} {s : State} {m : MethodId} {args : Array Value} {below : List Frame} {meth : Method} {c : Code} {H : Heap} {locs : List Loc} {cells slots : Nat} {Q : State → Prop}
variable {cc : ByteArray} {pc : Nat} {ls : Array Slot} {rest st : List Value} {G : GC} {h hh : PH} {As av : List Value}
variable {y : MethodName} {bytes : ByteArray} {maxL nL n index : Nat} {ret : Option FieldType} {ws : List Cond} {rm : Room} {Ts : List Cond} {own C host : String}
theorem r_callI {rr : Int32} (hr : va_Run p l e R s m args below meth c H locs cells slots 0 0 (F0 m pc ls st) rest (va_Qi (fun (r2 : Int32) (u : PH) => r2 = rr ∧ u = hh) (fun u t => WP G u t.heap) (gA G) av.toArray) (gA G)) (hS : SP G s H locs)
    (kk : ∀ (H1 : Heap) (locs1 : List Loc), WP G hh H1 → SP G s H1 locs1 → W p l e R s m args below meth c H1 locs1 cells slots Q (F0 m (pc + 3) ls (.int rr :: rest))) : W p l e R s m args below meth c H locs cells slots Q (F0 m pc ls st) := by
  refine va_calli hr hS (fun _ _ q => q) (fun _ q => q) (fun r u t H1 locs1 ht hvm hw hB hz hk hS1 => ?_)
  obtain ⟨rfl, rfl⟩ := hw
  rw [ht] at hB
  exact kk H1 locs1 hB hS1
theorem r_callL {rr : Int64} (hr : va_Run p l e R s m args below meth c H locs cells slots 0 0 (F0 m pc ls st) rest (va_Ql (fun (r2 : Int64) (u : PH) => r2 = rr ∧ u = hh) (fun u t => WP G u t.heap) (gA G) av.toArray) (gA G)) (hS : SP G s H locs)
    (kk : ∀ (H1 : Heap) (locs1 : List Loc), WP G hh H1 → SP G s H1 locs1 → W p l e R s m args below meth c H1 locs1 cells slots Q (F0 m (pc + 3) ls (.long rr :: rest))) : W p l e R s m args below meth c H locs cells slots Q (F0 m pc ls st) := by
  refine va_calll hr hS (fun _ _ q => q) (fun _ q => q) (fun r u t H1 locs1 ht hvm hw hB hz hk hS1 => ?_)
  obtain ⟨rfl, rfl⟩ := hw
  rw [ht] at hB
  exact kk H1 locs1 hB hS1
theorem r_callV (hr : va_Run p l e R s m args below meth c H locs cells slots 0 0 (F0 m pc ls st) rest (va_Qv (fun (u : PH) => u = hh) (fun u t => WP G u t.heap) (gA G) av.toArray) (gA G)) (hS : SP G s H locs)
    (kk : ∀ (H1 : Heap) (locs1 : List Loc), WP G hh H1 → SP G s H1 locs1 → W p l e R s m args below meth c H1 locs1 cells slots Q (F0 m (pc + 3) ls rest)) : W p l e R s m args below meth c H locs cells slots Q (F0 m pc ls st) := by
  refine va_callv hr hS (fun _ _ q => q) (fun _ q => q) (fun u t H1 locs1 ht hvm hw hB hz hk hS1 => ?_)
  subst hw
  rw [ht] at hB
  exact kk H1 locs1 hB hS1
theorem r_callR {rr : Nat} (hr : va_Run p l e R s m args below meth c H locs cells slots 0 0 (F0 m pc ls st) rest (va_Qr (fun (u : PH) => u = hh) (fun u a t => a = gB G rr ∧ WP G u t.heap) (gA G) av.toArray) (gA G)) (hS : SP G s H locs)
    (kk : ∀ (H1 : Heap) (locs1 : List Loc), WP G hh H1 → SP G s H1 locs1 → W p l e R s m args below meth c H1 locs1 cells slots Q (F0 m (pc + 3) ls (.ref (gB G rr) :: rest))) : W p l e R s m args below meth c H locs cells slots Q (F0 m pc ls st) := by
  refine va_callr hr hS (fun _ _ q => q) (fun _ q => q) (fun u a t H1 locs1 ht hvm hw hB hz hk hS1 => ?_)
  subst hw
  obtain ⟨rfl, hB⟩ := hB
  rw [ht] at hB
  exact kk H1 locs1 hB hS1
/-- a receiver that is an object of the system -/
theorem r_pv (hK : KW G s) (hP : WP G h H) (hS : SP G s H locs) {a ci : Nat} {q : vw_C} {fs : List Value} (ha : a < 98) (he : cE G a h = .inr (ci, fs)) (hc : vwCl[ci]? = some q) : PreV s H q.1 (gB G a) (va_Pc (.ref (gB G a) :: As) (PW G h)) As :=
  ⟨fun a U g mk z => ⟨z.1, PW.blind a U g mk z.2⟩, va_recv hK.1 hP hc (wsG_at ha he), fun U hU hW => ⟨rfl, by rw [hU]; exact hP, hK.call hS hU hW⟩⟩
theorem r_ps (hK : KW G s) (hP : WP G h H) (hS : SP G s H locs) : PreS s H (va_Pc As (PW G h)) As :=
  ⟨fun a U g mk z => ⟨z.1, PW.blind a U g mk z.2⟩, fun U hU hW => ⟨rfl, by rw [hU]; exact hP, hK.call hS hU hW⟩⟩
theorem r_iret {rr v : Int32} (hx : p.tables.exec = Jvm.exec) (hb : c.code = cc) (hr : meth.sig.returnType = some .int) (hlocks : meth.locks = false) (hP : WP G h H) (hS : SP G s H locs) (hf : v = rr ∧ h = hh) (hdg : decode cc pc = .ok (.ireturn, 1)) : W p l e R s m args below meth c H locs 0 0 (MQ below (va_Qi (fun (r2 : Int32) (u : PH) => r2 = rr ∧ u = hh) (fun u t => WP G u t.heap) (gA G)) args s 0 0 (gA G)) (F0 m pc ls [.int v]) := by
  obtain ⟨rfl, rfl⟩ := hf
  exact W.iret hx hb hr (fun t ht hW => ⟨⟨v, h, rfl, ⟨rfl, rfl⟩, (show WP G h t.heap by rw [ht]; exact hP)⟩, hS.F ht⟩) hS.2.2 hdg hlocks
theorem r_zret {rr v : Int32} {ty : FieldType} (hx : p.tables.exec = Jvm.exec) (hb : c.code = cc) (hr : meth.sig.returnType = some ty) (hn : narrow ty (.int v) = .int v) (hlocks : meth.locks = false) (hP : WP G h H) (hS : SP G s H locs) (hf : v = rr ∧ h = hh) (hdg : decode cc pc = .ok (.ireturn, 1)) : W p l e R s m args below meth c H locs 0 0 (MQ below (va_Qi (fun (r2 : Int32) (u : PH) => r2 = rr ∧ u = hh) (fun u t => WP G u t.heap) (gA G)) args s 0 0 (gA G)) (F0 m pc ls [.int v]) := by
  obtain ⟨rfl, rfl⟩ := hf
  exact W.zret hx hb hr hn (fun t ht hW => ⟨⟨v, h, rfl, ⟨rfl, rfl⟩, (show WP G h t.heap by rw [ht]; exact hP)⟩, hS.F ht⟩) hS.2.2 hdg hlocks
theorem r_lret {rr v : Int64} (hx : p.tables.exec = Jvm.exec) (hb : c.code = cc) (hr : meth.sig.returnType = some .long) (hlocks : meth.locks = false) (hP : WP G h H) (hS : SP G s H locs) (hf : v = rr ∧ h = hh) (hdg : decode cc pc = .ok (.lreturn, 1)) : W p l e R s m args below meth c H locs 0 0 (MQ below (va_Ql (fun (r2 : Int64) (u : PH) => r2 = rr ∧ u = hh) (fun u t => WP G u t.heap) (gA G)) args s 0 0 (gA G)) (F0 m pc ls [.long v]) := by
  obtain ⟨rfl, rfl⟩ := hf
  exact W.lret hx hb hr (fun t ht hW => ⟨⟨v, h, rfl, ⟨rfl, rfl⟩, (show WP G h t.heap by rw [ht]; exact hP)⟩, hS.F ht⟩) hS.2.2 hdg hlocks
theorem r_vret (hx : p.tables.exec = Jvm.exec) (hb : c.code = cc) (hr : meth.sig.returnType = none) (hlocks : meth.locks = false) (hP : WP G h H) (hS : SP G s H locs) (hf : h = hh) (hdg : decode cc pc = .ok (.return_, 1)) : W p l e R s m args below meth c H locs 0 0 (MQ below (va_Qv (fun (u : PH) => u = hh) (fun u t => WP G u t.heap) (gA G)) args s 0 0 (gA G)) (F0 m pc ls []) := by
  subst hf
  exact W.vret hx hb hr (fun t ht hW => ⟨⟨h, rfl, rfl, (show WP G h t.heap by rw [ht]; exact hP)⟩, hS.F ht⟩) hS.2.2 hdg hlocks
theorem r_aret {rr k : Nat} {rt : String} (hx : p.tables.exec = Jvm.exec) (hb : c.code = cc) (hr : meth.sig.returnType = some (.object rt)) (hlocks : meth.locks = false) (hP : WP G h H) (hS : SP G s H locs) (hf : k = rr ∧ h = hh) (hdg : decode cc pc = .ok (.areturn, 1)) : W p l e R s m args below meth c H locs 0 0 (MQ below (va_Qr (fun (u : PH) => u = hh) (fun u a t => a = gB G rr ∧ WP G u t.heap) (gA G)) args s 0 0 (gA G)) (F0 m pc ls [.ref (gB G k)]) := by
  obtain ⟨rfl, rfl⟩ := hf
  exact W.aret hx hb hr (Or.inl ⟨_, rfl⟩) (Or.inr ⟨_, rfl⟩) (fun t ht hW => ⟨⟨h, gB G k, rfl, rfl, rfl, (show WP G h t.heap by rw [ht]; exact hP)⟩, hS.F ht⟩) hS.2.2 hdg hlocks
end RC
def FU : Nat := 1000000
