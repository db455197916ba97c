/-! own rows: what a method does is told by a function (none: it can't go on), and its rows read that function step by step -/
def ga (f : Nat → Int32) (n : Nat) (i : Int32) : Option Int32 := if i < 0 ∨ n ≤ i.toNatClampNeg then none else some (f i.toNatClampNeg)
def sa (f : Nat → Int32) (n : Nat) (i x : Int32) : Option (Nat → Int32) := if i < 0 ∨ n ≤ i.toNatClampNeg then none else some (upd f i.toNatClampNeg x)
def dvq (x y : Int32) : Option Int32 := if y = 0 then none else some (x / y)
def rmq (x y : Int32) : Option Int32 := if y = 0 then none else some (x - x / y * y)
def dvl (x y : Int64) : Option Int64 := if y = 0 then none else some (x / y)
def rml (x y : Int64) : Option Int64 := if y = 0 then none else some (x - x / y * y)
def bq (x : Int32) : Option Int32 := if x = 0 ∨ x = 1 then some x else none
def jn {α β : Type} (k : α) (f : α → β) : β := f k
def fu : Nat := 6000
def gx (n : Nat) (i : Int32) : Option Unit := if i < 0 ∨ n ≤ i.toNatClampNeg then none else some ()
theorem ifp {ρ : Type} {c : Prop} {inst : Decidable c} {A B q : ρ} (h : (@ite ρ c inst A B) = q) (hc : c) : A = q := by rw [if_pos hc] at h; exact h
theorem ifn {ρ : Type} {c : Prop} {inst : Decidable c} {A B q : ρ} (h : (@ite ρ c inst A B) = q) (hc : ¬ c) : B = q := by rw [if_neg hc] at h; exact h
theorem bnd {α β : Type} {x : Option α} {k : α → Option β} {r : β} (h : x.bind k = some r) : ∃ y, x = some y ∧ k y = some r := by
  cases x with
  | none => cases h
  | some y => exact ⟨y, rfl, h⟩
theorem q_jn {α β : Type} {k : α} {f : α → β} {q : β} (h : jn k f = q) : ∃ J, J = k ∧ f J = q := ⟨k, rfl, h⟩
theorem ga_s {ρ : Type} {f : Nat → Int32} {n : Nat} {i : Int32} {k : Int32 → Option ρ} {r : ρ} (h : (ga f n i).bind k = some r) : vp_in i n ∧ k (f i.toNatClampNeg) = some r := by
  unfold ga at h
  by_cases hc : i < 0 ∨ n ≤ i.toNatClampNeg
  · rw [if_pos hc] at h; cases h
  · rw [if_neg hc] at h; exact ⟨hc, h⟩
theorem sa_s {ρ : Type} {f : Nat → Int32} {n : Nat} {i x : Int32} {k : (Nat → Int32) → Option ρ} {r : ρ} (h : (sa f n i x).bind k = some r) : vp_in i n ∧ k (upd f i.toNatClampNeg x) = some r := by
  unfold sa at h
  by_cases hc : i < 0 ∨ n ≤ i.toNatClampNeg
  · rw [if_pos hc] at h; cases h
  · rw [if_neg hc] at h; exact ⟨hc, h⟩
theorem gx_s {ρ : Type} {n : Nat} {i : Int32} {k : Unit → Option ρ} {r : ρ} (h : (gx n i).bind k = some r) : vp_in i n ∧ k () = some r := by
  unfold gx at h
  by_cases hc : i < 0 ∨ n ≤ i.toNatClampNeg
  · rw [if_pos hc] at h; cases h
  · rw [if_neg hc] at h; exact ⟨hc, h⟩
theorem q_sw {ρ : Type} {c : Prop} {inst : Decidable c} {A B q : ρ} (h : (@ite ρ c inst A B) = q) : (c ∧ A = q) ∨ (¬ c ∧ B = q) := by
  by_cases hc : c
  · exact Or.inl ⟨hc, ifp h hc⟩
  · exact Or.inr ⟨hc, ifn h hc⟩
theorem dvq_s {ρ : Type} {x y : Int32} {k : Int32 → Option ρ} {r : ρ} (h : (dvq x y).bind k = some r) : ¬ y = 0 ∧ k (x / y) = some r := by
  unfold dvq at h
  by_cases hc : y = 0
  · rw [if_pos hc] at h; cases h
  · rw [if_neg hc] at h; exact ⟨hc, h⟩
theorem rmq_s {ρ : Type} {x y : Int32} {k : Int32 → Option ρ} {r : ρ} (h : (rmq x y).bind k = some r) : ¬ y = 0 ∧ k (x - x / y * y) = some r := by
  unfold rmq at h
  by_cases hc : y = 0
  · rw [if_pos hc] at h; cases h
  · rw [if_neg hc] at h; exact ⟨hc, h⟩
theorem dvl_s {ρ : Type} {x y : Int64} {k : Int64 → Option ρ} {r : ρ} (h : (dvl x y).bind k = some r) : ¬ y = 0 ∧ k (x / y) = some r := by
  unfold dvl at h
  by_cases hc : y = 0
  · rw [if_pos hc] at h; cases h
  · rw [if_neg hc] at h; exact ⟨hc, h⟩
theorem rml_s {ρ : Type} {x y : Int64} {k : Int64 → Option ρ} {r : ρ} (h : (rml x y).bind k = some r) : ¬ y = 0 ∧ k (x - x / y * y) = some r := by
  unfold rml at h
  by_cases hc : y = 0
  · rw [if_pos hc] at h; cases h
  · rw [if_neg hc] at h; exact ⟨hc, h⟩
theorem nb_01 {x : Int32} (h : x = 0 ∨ x = 1) : narrow .boolean (.int x) = .int x := by
  rcases h with rfl | rfl <;> decide
theorem bq_s {ρ : Type} {x : Int32} {k : Int32 → Option ρ} {r : ρ} (h : (bq x).bind k = some r) : narrow .boolean (.int x) = .int x ∧ k x = some r := by
  unfold bq at h
  by_cases hc : x = 0 ∨ x = 1
  · rw [if_pos hc] at h; exact ⟨nb_01 hc, h⟩
  · rw [if_neg hc] at h; cases h
theorem nt_i {x c : Int32} {z : Int} (h : ¬ x = c) (hc : c.toInt = z) : x.toInt ≠ z := fun e => h (Int32.toInt_inj.mp (e.trans hc.symm))
/-- the links between nest mates, as the tables have them -/
def nnF : List (String × Nat × String × String × String × String) := [("WorldIndex$Text", 9, "WorldIndex$Row", "cells", "[I", "WorldIndex"), ("WorldIndex$Slips", 37, "WorldIndex$Row", "cells", "[I", "WorldIndex"), ("WorldIndex$Years", 32, "WorldIndex$Row", "cells", "[I", "WorldIndex"), ("WorldIndex", 143, "WorldIndex$Row", "cells", "[I", "WorldIndex"), ("WorldIndex", 216, "WorldIndex$Row", "there", "Z", "WorldIndex"), ("WorldIndex", 223, "WorldIndex$Row", "lane", "I", "WorldIndex"), ("WorldIndex", 220, "WorldIndex$Row", "length", "I", "WorldIndex"), ("WorldIndex", 92, "WorldIndex$Slips", "kind", "[I", "WorldIndex"), ("WorldIndex$Readings", 53, "WorldIndex$Slips", "kind", "[I", "WorldIndex"), ("WorldIndex", 96, "WorldIndex$Slips", "page", "[I", "WorldIndex"), ("WorldIndex$Readings", 46, "WorldIndex$Slips", "page", "[I", "WorldIndex"), ("WorldIndex$SearchTree", 37, "WorldIndex$Slips", "asked", "[I", "WorldIndex"), ("WorldIndex", 99, "WorldIndex$Slips", "asked", "[I", "WorldIndex"), ("WorldIndex", 102, "WorldIndex$Slips", "sent", "[I", "WorldIndex"), ("WorldIndex$Readings", 57, "WorldIndex$Slips", "sent", "[I", "WorldIndex"), ("WorldIndex$SearchTree", 28, "WorldIndex$Slips", "count", "I", "WorldIndex"), ("WorldIndex", 88, "WorldIndex$Slips", "count", "I", "WorldIndex"), ("WorldIndex$Readings", 56, "WorldIndex$Slips", "count", "I", "WorldIndex"), ("WorldIndex$Years", 60, "WorldIndex$Slips", "wetSet", "I", "WorldIndex"), ("WorldIndex", 82, "WorldIndex$Readings", "count", "I", "WorldIndex"), ("WorldIndex", 192, "WorldIndex$Readings", "fittingPages", "I", "WorldIndex"), ("WorldIndex", 195, "WorldIndex$Readings", "leastPage", "I", "WorldIndex"), ("WorldIndex", 198, "WorldIndex$Readings", "greatestPage", "I", "WorldIndex")]
def nnM : List (String × Nat × MethodName × String) := [("WorldIndex", 17, ⟨"WorldIndex$Row", "<init>", "()V"⟩, "WorldIndex"), ("WorldIndex", 20, ⟨"WorldIndex$Slips", "<init>", "()V"⟩, "WorldIndex"), ("WorldIndex", 27, ⟨"WorldIndex$Readings", "<init>", "()V"⟩, "WorldIndex"), ("WorldIndex$Readings", 20, ⟨"WorldIndex$Slips", "<init>", "()V"⟩, "WorldIndex"), ("WorldIndex", 34, ⟨"WorldIndex$Years", "<init>", "()V"⟩, "WorldIndex"), ("WorldIndex$Years", 11, ⟨"WorldIndex$Slips", "<init>", "()V"⟩, "WorldIndex"), ("WorldIndex", 41, ⟨"WorldIndex$SearchTree", "<init>", "()V"⟩, "WorldIndex"), ("WorldIndex", 48, ⟨"WorldIndex$Orderings", "<init>", "()V"⟩, "WorldIndex")]
def NN (U : State) : Prop := (∀ t ∈ nnF, va_Nw (.fieldLinkNest t.1 t.2.1 t.2.2.1 t.2.2.2.1 t.2.2.2.2.1 t.2.2.2.2.2) U) ∧ ∀ t ∈ nnM, va_Nw (.methodLinkNest t.1 t.2.1 t.2.2.1 t.2.2.2) U
theorem NN.warm {s U : State} (hW : s.WarmedH U.vm) (h : NN s) : NN U := ⟨fun t ht => va_Nw.warmF hW (h.1 t ht), fun t ht => va_Nw.warmM hW (h.2 t ht)⟩
theorem NN.same {u U : State} (hv : u.vm = U.vm) (h : NN u) : NN U := ⟨fun t ht => va_Nw.same rfl hv (h.1 t ht), fun t ht => va_Nw.same rfl hv (h.2 t ht)⟩
theorem NN.f {args : Array Value} {s : State} (h : NN s) (a : String) (i : Nat) (b n d g : String) (ht : (a, i, b, n, d, g) ∈ nnF) : (Cond.fieldLinkNest a i b n d g).before args s = true := va_Nw.use rfl (h.1 _ ht)
theorem NN.m {s : State} (h : NN s) (a : String) (i : Nat) (x : MethodName) (g : String) (ht : (a, i, x, g) ∈ nnM) : va_Nw (.methodLinkNest a i x g) s := h.2 _ ht
abbrev tysW (cI cR : ClassId) : List (ClassId × FieldType) := [(cI, .int), (cR, .object RX2)]
def PreR (D : va_G) (cI cR : ClassId) (w : va_W) (U : State) : Prop := va_P D vwCl w U.heap ∧ va_K D vwCl (tysW cI cR) U ∧ NN U
def PreW (D : va_G) (cI cR : ClassId) (w : va_W) (sz : Nat) (U : State) : Prop := U.heap.size = sz ∧ va_P D vwCl w U.heap ∧ va_K D vwCl (tysW cI cR) U ∧ va_D (fun _ => True) w ∧ NN U
theorem PreR.blind {D : va_G} {cI cR : ClassId} {w : va_W} {av : List Value} : FrameBlind (va_Pc av (PreR D cI cR w)) := fun a U g mk q => by
  obtain ⟨q0, qP, qK, qN⟩ := q
  exact ⟨q0, qP, va_K.moved (u := U) (U := U.calling g mk a) (Vm.Alike.refl U.vm) qK, NN.same (u := U) (U := U.calling g mk a) rfl qN⟩
theorem PreW.blind {D : va_G} {cI cR : ClassId} {w : va_W} {sz : Nat} {av : List Value} : FrameBlind (va_Pc av (PreW D cI cR w sz)) := fun a U g mk q => by
  obtain ⟨q0, q1, qP, qK, qD, qN⟩ := q
  exact ⟨q0, q1, qP, va_K.moved (u := U) (U := U.calling g mk a) (Vm.Alike.refl U.vm) qK, qD, NN.same (u := U) (U := U.calling g mk a) rfl qN⟩
abbrev CR (l : Launch) (y : MethodName) (wsc : List Cond) (rm : Room) (D : va_G) (cI cR : ClassId) (av : List Value) (w : va_W) (r : Value) : Prop := Met l y wsc rm (va_Pc av (PreR D cI cR w)) (k2_QcV r) 0 0 (fun _ => False)
abbrev QWi (D : va_G) (w' : va_W) (A : Nat → Prop) (r0 : Int32) : Array Value → State → Outcome → State → Prop := va_Qi (fun r (_ : Unit) => r = r0) (fun _ t => va_P D vwCl w' t.heap ∧ va_D A w') A
abbrev QWl (D : va_G) (w' : va_W) (A : Nat → Prop) (r0 : Int64) : Array Value → State → Outcome → State → Prop := va_Ql (fun r (_ : Unit) => r = r0) (fun _ t => va_P D vwCl w' t.heap ∧ va_D A w') A
abbrev QWv (D : va_G) (w' : va_W) (A : Nat → Prop) : Array Value → State → Outcome → State → Prop := va_Qv (fun (_ : Unit) => True) (fun _ t => va_P D vwCl w' t.heap ∧ va_D A w') A
abbrev CWi (l : Launch) (y : MethodName) (wsc : List Cond) (rm : Room) (D : va_G) (cI cR : ClassId) (av : List Value) (w w' : va_W) (r0 : Int32) : Prop := ∀ sz : Nat, Met l y wsc rm (va_Pc av (PreW D cI cR w sz)) (QWi D w' (va_A w sz) r0) 0 0 (va_A w sz)
abbrev CWl (l : Launch) (y : MethodName) (wsc : List Cond) (rm : Room) (D : va_G) (cI cR : ClassId) (av : List Value) (w w' : va_W) (r0 : Int64) : Prop := ∀ sz : Nat, Met l y wsc rm (va_Pc av (PreW D cI cR w sz)) (QWl D w' (va_A w sz) r0) 0 0 (va_A w sz)
abbrev CWv (l : Launch) (y : MethodName) (wsc : List Cond) (rm : Room) (D : va_G) (cI cR : ClassId) (av : List Value) (w w' : va_W) : Prop := ∀ sz : Nat, Met l y wsc rm (va_Pc av (PreW D cI cR w sz)) (QWv D w' (va_A w sz)) 0 0 (va_A w sz)

theorem CRi.intro {l : Launch} {y : MethodName} {wsc wsc' : List Cond} {rm : Room} {D : va_G} {cI cR : ClassId} {av : List Value} {w : va_W} {r0 : Int32} {cc : ByteArray} {maxL : Nat} {ty : FieldType} (hy : plainName y.cls = true) (hw : wsc = Cond.code y cc maxL (some ty) :: wsc') (hlen : (lg_sl av).length ≤ maxL)
    (body : ∀ (p : Program) (e : Env) (s : State) (m : MethodId) (args : Array Value) (below : List Frame) (meth : Method) (c : Code), p.tables.exec = Jvm.exec → c.code = cc → c.maxLocals = maxL → (∀ w ∈ wsc, w.before args s = true) → s.vm.findClass y.cls = some m.cls → va_P D vwCl w s.heap → va_K D vwCl (tysW cI cR) s → NN s → ∀ QQ : State → Prop, (∀ (pc : Nat) (ls : Array Slot) (v : Int32), narrow ty (.int v) = .int v → v = r0 → decode cc pc = .ok (.ireturn, 1) → W p l e rm s m args below meth c s.heap [] 0 0 QQ (F0 m pc ls [.int v])) → ∀ ls : Array Slot, lv_has ls maxL (lv_args 0 av) → W p l e rm s m args below meth c s.heap [] 0 0 QQ (F0 m 0 ls [])) : CR l y wsc rm D cI cR av w (.int r0) := by
  refine Met.ofW (cc := cc) (maxL := maxL) (ret := some ty) hy hw ?_
  intro p e s m args below meth c s₁ B hml hv
  obtain ⟨rfl, hP, hK, hN⟩ := hv
  have hl := lv_entry av (n := maxL) hlen
  rw [lg_entry_eq]
  exact body p e s m _ below meth c B.exec B.bytes hml (atoms_spec (ws := wsc) B.pre) (findClass_of_methodNamed B.named) hP hK hN _ (fun pc ls v hn hv hd => by subst hv; exact W.zret B.exec B.bytes B.returns hn (fun t ht _ => ⟨rfl, ht⟩) (fun _ h => by cases h) hd B.notSynchronized) _ hl

theorem CRl.intro {l : Launch} {y : MethodName} {wsc wsc' : List Cond} {rm : Room} {D : va_G} {cI cR : ClassId} {av : List Value} {w : va_W} {r0 : Int64} {cc : ByteArray} {maxL : Nat} (hy : plainName y.cls = true) (hw : wsc = Cond.code y cc maxL (some .long) :: wsc') (hlen : (lg_sl av).length ≤ maxL)
    (body : ∀ (p : Program) (e : Env) (s : State) (m : MethodId) (args : Array Value) (below : List Frame) (meth : Method) (c : Code), p.tables.exec = Jvm.exec → c.code = cc → c.maxLocals = maxL → (∀ w ∈ wsc, w.before args s = true) → s.vm.findClass y.cls = some m.cls → va_P D vwCl w s.heap → va_K D vwCl (tysW cI cR) s → NN s → ∀ QQ : State → Prop, (∀ (pc : Nat) (ls : Array Slot) (v : Int64), v = r0 → decode cc pc = .ok (.lreturn, 1) → W p l e rm s m args below meth c s.heap [] 0 0 QQ (F0 m pc ls [.long v])) → ∀ ls : Array Slot, lv_has ls maxL (lv_args 0 av) → W p l e rm s m args below meth c s.heap [] 0 0 QQ (F0 m 0 ls [])) : CR l y wsc rm D cI cR av w (.long r0) := by
  refine Met.ofW (cc := cc) (maxL := maxL) (ret := some .long) hy hw ?_
  intro p e s m args below meth c s₁ B hml hv
  obtain ⟨rfl, hP, hK, hN⟩ := hv
  have hl := lv_entry av (n := maxL) hlen
  rw [lg_entry_eq]
  exact body p e s m _ below meth c B.exec B.bytes hml (atoms_spec (ws := wsc) B.pre) (findClass_of_methodNamed B.named) hP hK hN _ (fun pc ls v hv hd => by subst hv; exact W.lret B.exec B.bytes B.returns (fun t ht _ => ⟨rfl, ht⟩) (fun _ h => by cases h) hd B.notSynchronized) _ hl

theorem CWi.intro {l : Launch} {y : MethodName} {wsc wsc' : List Cond} {rm : Room} {D : va_G} {cI cR : ClassId} {av : List Value} {w w' : va_W} {r0 : Int32} {cc : ByteArray} {maxL : Nat} {ty : FieldType} (hy : plainName y.cls = true) (hw : wsc = Cond.code y cc maxL (some ty) :: wsc') (hlen : (lg_sl av).length ≤ maxL)
    (body : ∀ (p : Program) (e : Env) (s : State) (m : MethodId) (args : Array Value) (below : List Frame) (meth : Method) (c : Code), p.tables.exec = Jvm.exec → c.code = cc → c.maxLocals = maxL → (∀ w ∈ wsc, w.before args s = true) → s.vm.findClass y.cls = some m.cls → va_P D vwCl w s.heap → va_K D vwCl (tysW cI cR) s → NN s → ∀ A : Nat → Prop, (∀ q : Nat, s.heap.size ≤ q → A q) → va_D A w → va_S A s.heap s.heap [] → ∀ QQ : State → Prop, (∀ (pc : Nat) (ls : Array Slot) (v : Int32) (H : Heap) (locs : List Loc), narrow ty (.int v) = .int v → v = r0 → va_P D vwCl w' H → va_D A w' → va_S A s.heap H locs → decode cc pc = .ok (.ireturn, 1) → W p l e rm s m args below meth c H locs 0 0 QQ (F0 m pc ls [.int v])) → ∀ ls : Array Slot, lv_has ls maxL (lv_args 0 av) → W p l e rm s m args below meth c s.heap [] 0 0 QQ (F0 m 0 ls [])) : CWi l y wsc rm D cI cR av w w' r0 := by
  intro sz
  refine Met.ofW (cc := cc) (maxL := maxL) (ret := (some ty)) hy hw ?_
  intro p e s m args below meth c s₁ B hml hv
  obtain ⟨rfl, hsz, hP, hK, hD0, hN⟩ := hv
  subst hsz
  have hl := lv_entry av (n := maxL) hlen
  rw [lg_entry_eq]
  exact body p e s m _ below meth c B.exec B.bytes hml (atoms_spec (ws := wsc) B.pre) (findClass_of_methodNamed B.named) hP hK hN (va_A w s.heap.size) (fun q h => Or.inr h) (hD0.self (sz := s.heap.size)) va_S.rf _ (fun pc ls v H locs hn hv hP hD hS hd => by subst hv; exact W.zret B.exec B.bytes B.returns hn (fun t ht _ => ⟨⟨_, (), rfl, rfl, by rw [ht]; exact hP, hD⟩, hS.F ht⟩) hS.2.2 hd B.notSynchronized) _ hl

theorem CWl.intro {l : Launch} {y : MethodName} {wsc wsc' : List Cond} {rm : Room} {D : va_G} {cI cR : ClassId} {av : List Value} {w w' : va_W} {r0 : Int64} {cc : ByteArray} {maxL : Nat} (hy : plainName y.cls = true) (hw : wsc = Cond.code y cc maxL (some .long) :: wsc') (hlen : (lg_sl av).length ≤ maxL)
    (body : ∀ (p : Program) (e : Env) (s : State) (m : MethodId) (args : Array Value) (below : List Frame) (meth : Method) (c : Code), p.tables.exec = Jvm.exec → c.code = cc → c.maxLocals = maxL → (∀ w ∈ wsc, w.before args s = true) → s.vm.findClass y.cls = some m.cls → va_P D vwCl w s.heap → va_K D vwCl (tysW cI cR) s → NN s → ∀ A : Nat → Prop, (∀ q : Nat, s.heap.size ≤ q → A q) → va_D A w → va_S A s.heap s.heap [] → ∀ QQ : State → Prop, (∀ (pc : Nat) (ls : Array Slot) (v : Int64) (H : Heap) (locs : List Loc), v = r0 → va_P D vwCl w' H → va_D A w' → va_S A s.heap H locs → decode cc pc = .ok (.lreturn, 1) → W p l e rm s m args below meth c H locs 0 0 QQ (F0 m pc ls [.long v])) → ∀ ls : Array Slot, lv_has ls maxL (lv_args 0 av) → W p l e rm s m args below meth c s.heap [] 0 0 QQ (F0 m 0 ls [])) : CWl l y wsc rm D cI cR av w w' r0 := by
  intro sz
  refine Met.ofW (cc := cc) (maxL := maxL) (ret := (some .long)) hy hw ?_
  intro p e s m args below meth c s₁ B hml hv
  obtain ⟨rfl, hsz, hP, hK, hD0, hN⟩ := hv
  subst hsz
  have hl := lv_entry av (n := maxL) hlen
  rw [lg_entry_eq]
  exact body p e s m _ below meth c B.exec B.bytes hml (atoms_spec (ws := wsc) B.pre) (findClass_of_methodNamed B.named) hP hK hN (va_A w s.heap.size) (fun q h => Or.inr h) (hD0.self (sz := s.heap.size)) va_S.rf _ (fun pc ls v H locs hv hP hD hS hd => by subst hv; exact W.lret B.exec B.bytes B.returns (fun t ht _ => ⟨⟨_, (), rfl, rfl, by rw [ht]; exact hP, hD⟩, hS.F ht⟩) hS.2.2 hd B.notSynchronized) _ hl

theorem CWv.intro {l : Launch} {y : MethodName} {wsc wsc' : List Cond} {rm : Room} {D : va_G} {cI cR : ClassId} {av : List Value} {w w' : va_W} {cc : ByteArray} {maxL : Nat} (hy : plainName y.cls = true) (hw : wsc = Cond.code y cc maxL none :: wsc') (hlen : (lg_sl av).length ≤ maxL)
    (body : ∀ (p : Program) (e : Env) (s : State) (m : MethodId) (args : Array Value) (below : List Frame) (meth : Method) (c : Code), p.tables.exec = Jvm.exec → c.code = cc → c.maxLocals = maxL → (∀ w ∈ wsc, w.before args s = true) → s.vm.findClass y.cls = some m.cls → va_P D vwCl w s.heap → va_K D vwCl (tysW cI cR) s → NN s → ∀ A : Nat → Prop, (∀ q : Nat, s.heap.size ≤ q → A q) → va_D A w → va_S A s.heap s.heap [] → ∀ QQ : State → Prop, (∀ (pc : Nat) (ls : Array Slot) (H : Heap) (locs : List Loc), va_P D vwCl w' H → va_D A w' → va_S A s.heap H locs → decode cc pc = .ok (.return_, 1) → W p l e rm s m args below meth c H locs 0 0 QQ (F0 m pc ls [])) → ∀ ls : Array Slot, lv_has ls maxL (lv_args 0 av) → W p l e rm s m args below meth c s.heap [] 0 0 QQ (F0 m 0 ls [])) : CWv l y wsc rm D cI cR av w w' := by
  intro sz
  refine Met.ofW (cc := cc) (maxL := maxL) (ret := none) hy hw ?_
  intro p e s m args below meth c s₁ B hml hv
  obtain ⟨rfl, hsz, hP, hK, hD0, hN⟩ := hv
  subst hsz
  have hl := lv_entry av (n := maxL) hlen
  rw [lg_entry_eq]
  exact body p e s m _ below meth c B.exec B.bytes hml (atoms_spec (ws := wsc) B.pre) (findClass_of_methodNamed B.named) hP hK hN (va_A w s.heap.size) (fun q h => Or.inr h) (hD0.self (sz := s.heap.size)) va_S.rf _ (fun pc ls H locs hP hD hS hd => W.vret B.exec B.bytes B.returns (fun t ht _ => ⟨⟨(), rfl, trivial, by rw [ht]; exact hP, hD⟩, hS.F ht⟩) hS.2.2 hd B.notSynchronized) _ hl

section QROWS
variable {p : Program} {l : Launch} {e : Env} {R : Room} {s : State} {m : MethodId} {args : Array Value} {below : List Frame} {meth : Method} {c : Code} {H : Heap} {locs : List Loc} {cells slots : Nat} {Q : State → Prop}
variable {cc : ByteArray} {pc : Nat} {ls : Array Slot} {rest st0 : List Value} {D : va_G} {cl : List vw_C} {A : Nat → Prop} {a : Nat} {tys : List (ClassId × FieldType)} {ws : va_W} {H0 : Heap} {ρ : Type} {q : ρ}
theorem q_iald (hexec : p.tables.exec = Jvm.exec) (hb : c.code = cc) (hK : va_K D cl tys s) (hP : va_P D cl ws H) (q0 t0 : Nat) {cA : ClassId} {n : Nat} {f : Nat → Int32} (ha : ws[q0]? = some (a, .inl (cA, n, .inl f))) (ht : tys[t0]? = some (cA, .int)) {i : Int32} {k : Int32 → Option ρ} (hf : (ga f n i).bind k = some q) (hdg : decode cc pc = .ok (.iaload, 1))
    (kk : ∀ x : Int32, k x = some q → W p l e R s m args below meth c H locs cells slots Q (F0 m (pc + 1) ls (.int x :: rest))) : W p l e R s m args below meth c H locs cells slots Q (F0 m pc ls (.int i :: .ref a :: rest)) :=
  va_iald hexec hb hK hP q0 t0 ha ht (ga_s hf).1 hdg (kk _ (ga_s hf).2)
theorem q_iast (hexec : p.tables.exec = Jvm.exec) (hb : c.code = cc) (hK : va_K D cl tys s) (hP : va_P D cl ws H) (hD : va_D A ws) (hS : va_S A H0 H locs) (q0 t0 : Nat) {cA : ClassId} {n : Nat} {f : Nat → Int32} (ha : ws[q0]? = some (a, .inl (cA, n, .inl f))) (ht : tys[t0]? = some (cA, .int)) {i x : Int32} {k : (Nat → Int32) → Option ρ} (hf : (sa f n i x).bind k = some q) (hdg : decode cc pc = .ok (.iastore, 1))
    (kk : ∀ (g : Nat → Int32) (H1 : Heap) (locs1 : List Loc), k g = some q → va_P D cl (ws.set q0 (a, .inl (cA, n, .inl g))) H1 → va_D A (ws.set q0 (a, .inl (cA, n, .inl g))) → va_S A H0 H1 locs1 → W p l e R s m args below meth c H1 locs1 cells slots Q (F0 m (pc + 1) ls rest)) : W p l e R s m args below meth c H locs cells slots Q (F0 m pc ls (.int x :: .int i :: .ref a :: rest)) :=
  va_iast hexec hb hK hP hD hS q0 t0 ha ht (sa_s hf).1 hdg (fun H1 locs1 h1 h2 h3 => kk _ H1 locs1 (sa_s hf).2 h1 h2 h3)
theorem q_aald (hexec : p.tables.exec = Jvm.exec) (hb : c.code = cc) (hK : va_K D cl tys s) (hP : va_P D cl ws H) (q0 t0 : Nat) {cA : ClassId} {C : String} {n v : Nat} {f : Nat → Option Nat} (ha : ws[q0]? = some (a, .inl (cA, n, .inr (.inr (.inr (.inr f)))))) (ht : tys[t0]? = some (cA, .object C)) {i : Int32} {k : Unit → Option ρ} (hf : (gx n i).bind k = some q) (hv : vp_in i n → f i.toNatClampNeg = some v) (hdg : decode cc pc = .ok (.aaload, 1))
    (kk : k () = some q → W p l e R s m args below meth c H locs cells slots Q (F0 m (pc + 1) ls (.ref v :: rest))) : W p l e R s m args below meth c H locs cells slots Q (F0 m pc ls (.int i :: .ref a :: rest)) := by
  have h1 := gx_s hf
  have h2 := kk h1.2
  refine va_aldq hexec hb hK hP q0 t0 ha ht h1.1 hdg ?_
  rw [hv h1.1]
  exact h2
theorem q_idiv (hexec : p.tables.exec = Jvm.exec) (hb : c.code = cc) {x y : Int32} {k : Int32 → Option ρ} (hf : (dvq x y).bind k = some q) (hdg : decode cc pc = .ok (.idiv, 1)) (kk : ∀ z : Int32, k z = some q → W p l e R s m args below meth c H locs cells slots Q (F0 m (pc + 1) ls (.int z :: rest))) : W p l e R s m args below meth c H locs cells slots Q (F0 m pc ls (.int y :: .int x :: rest)) := lv_idiv hexec hb hdg (dvq_s hf).1 (kk _ (dvq_s hf).2)
theorem q_irem (hexec : p.tables.exec = Jvm.exec) (hb : c.code = cc) {x y : Int32} {k : Int32 → Option ρ} (hf : (rmq x y).bind k = some q) (hdg : decode cc pc = .ok (.irem, 1)) (kk : ∀ z : Int32, k z = some q → W p l e R s m args below meth c H locs cells slots Q (F0 m (pc + 1) ls (.int z :: rest))) : W p l e R s m args below meth c H locs cells slots Q (F0 m pc ls (.int y :: .int x :: rest)) := lv_irem hexec hb hdg (rmq_s hf).1 (kk _ (rmq_s hf).2)
theorem q_ldiv (hexec : p.tables.exec = Jvm.exec) (hb : c.code = cc) {x y : Int64} {k : Int64 → Option ρ} (hf : (dvl x y).bind k = some q) (hdg : decode cc pc = .ok (.ldiv, 1)) (kk : ∀ z : Int64, k z = some q → W p l e R s m args below meth c H locs cells slots Q (F0 m (pc + 1) ls (.long z :: rest))) : W p l e R s m args below meth c H locs cells slots Q (F0 m pc ls (.long y :: .long x :: rest)) := lv_ldiv hexec hb hdg (dvl_s hf).1 (kk _ (dvl_s hf).2)
theorem q_lrem (hexec : p.tables.exec = Jvm.exec) (hb : c.code = cc) {x y : Int64} {k : Int64 → Option ρ} (hf : (rml x y).bind k = some q) (hdg : decode cc pc = .ok (.lrem, 1)) (kk : ∀ z : Int64, k z = some q → W p l e R s m args below meth c H locs cells slots Q (F0 m (pc + 1) ls (.long z :: rest))) : W p l e R s m args below meth c H locs cells slots Q (F0 m pc ls (.long y :: .long x :: rest)) := lv_lrem hexec hb hdg (rml_s hf).1 (kk _ (rml_s hf).2)
theorem q_icmp_eq (hexec : p.tables.exec = Jvm.exec) (hb : c.code = cc) {x y : Int32} {inst : Decidable (x = y)} {B1 B2 : ρ} (hf : @ite ρ (x = y) inst B1 B2 = q) {off : Int} (tgt : Nat) (hdg : decode cc pc = .ok (.if_icmp .eq off, 3)) (ht : (pc : Int) + off = (tgt : Int)) (kt : B1 = q → W p l e R s m args below meth c H locs cells slots Q (F0 m tgt ls rest)) (kf : B2 = q → W p l e R s m args below meth c H locs cells slots Q (F0 m (pc + 3) ls rest)) : W p l e R s m args below meth c H locs cells slots Q (F0 m pc ls (.int y :: .int x :: rest)) := lv_icmp_eq hexec hb hdg ht (fun h => kt (ifp hf h)) (fun h => kf (ifn hf h))
theorem q_icmp_ne (hexec : p.tables.exec = Jvm.exec) (hb : c.code = cc) {x y : Int32} {inst : Decidable (x = y)} {B1 B2 : ρ} (hf : @ite ρ (x = y) inst B1 B2 = q) {off : Int} (tgt : Nat) (hdg : decode cc pc = .ok (.if_icmp .ne off, 3)) (ht : (pc : Int) + off = (tgt : Int)) (kt : B2 = q → W p l e R s m args below meth c H locs cells slots Q (F0 m tgt ls rest)) (kf : B1 = q → W p l e R s m args below meth c H locs cells slots Q (F0 m (pc + 3) ls rest)) : W p l e R s m args below meth c H locs cells slots Q (F0 m pc ls (.int y :: .int x :: rest)) := lv_icmp_ne hexec hb hdg ht (fun h => kt (ifn hf h)) (fun h => kf (ifp hf h))
theorem q_icmp_lt (hexec : p.tables.exec = Jvm.exec) (hb : c.code = cc) {x y : Int32} {inst : Decidable (x < y)} {B1 B2 : ρ} (hf : @ite ρ (x < y) inst B1 B2 = q) {off : Int} (tgt : Nat) (hdg : decode cc pc = .ok (.if_icmp .lt off, 3)) (ht : (pc : Int) + off = (tgt : Int)) (kt : B1 = q → W p l e R s m args below meth c H locs cells slots Q (F0 m tgt ls rest)) (kf : B2 = q → W p l e R s m args below meth c H locs cells slots Q (F0 m (pc + 3) ls rest)) : W p l e R s m args below meth c H locs cells slots Q (F0 m pc ls (.int y :: .int x :: rest)) := lv_icmp_lt hexec hb hdg ht (fun h => kt (ifp hf h)) (fun h => kf (ifn hf h))
theorem q_icmp_ge (hexec : p.tables.exec = Jvm.exec) (hb : c.code = cc) {x y : Int32} {inst : Decidable (y ≤ x)} {B1 B2 : ρ} (hf : @ite ρ (y ≤ x) inst B1 B2 = q) {off : Int} (tgt : Nat) (hdg : decode cc pc = .ok (.if_icmp .ge off, 3)) (ht : (pc : Int) + off = (tgt : Int)) (kt : B1 = q → W p l e R s m args below meth c H locs cells slots Q (F0 m tgt ls rest)) (kf : B2 = q → W p l e R s m args below meth c H locs cells slots Q (F0 m (pc + 3) ls rest)) : W p l e R s m args below meth c H locs cells slots Q (F0 m pc ls (.int y :: .int x :: rest)) := lv_icmp_ge hexec hb hdg ht (fun h => kt (ifp hf h)) (fun h => kf (ifn hf h))
theorem q_icmp_gt (hexec : p.tables.exec = Jvm.exec) (hb : c.code = cc) {x y : Int32} {inst : Decidable (y < x)} {B1 B2 : ρ} (hf : @ite ρ (y < x) inst B1 B2 = q) {off : Int} (tgt : Nat) (hdg : decode cc pc = .ok (.if_icmp .gt off, 3)) (ht : (pc : Int) + off = (tgt : Int)) (kt : B1 = q → W p l e R s m args below meth c H locs cells slots Q (F0 m tgt ls rest)) (kf : B2 = q → W p l e R s m args below meth c H locs cells slots Q (F0 m (pc + 3) ls rest)) : W p l e R s m args below meth c H locs cells slots Q (F0 m pc ls (.int y :: .int x :: rest)) := lv_icmp_gt hexec hb hdg ht (fun h => kt (ifp hf h)) (fun h => kf (ifn hf h))
theorem q_icmp_le (hexec : p.tables.exec = Jvm.exec) (hb : c.code = cc) {x y : Int32} {inst : Decidable (x ≤ y)} {B1 B2 : ρ} (hf : @ite ρ (x ≤ y) inst B1 B2 = q) {off : Int} (tgt : Nat) (hdg : decode cc pc = .ok (.if_icmp .le off, 3)) (ht : (pc : Int) + off = (tgt : Int)) (kt : B1 = q → W p l e R s m args below meth c H locs cells slots Q (F0 m tgt ls rest)) (kf : B2 = q → W p l e R s m args below meth c H locs cells slots Q (F0 m (pc + 3) ls rest)) : W p l e R s m args below meth c H locs cells slots Q (F0 m pc ls (.int y :: .int x :: rest)) := lv_icmp_le hexec hb hdg ht (fun h => kt (ifp hf h)) (fun h => kf (ifn hf h))
theorem q_if_eq (hexec : p.tables.exec = Jvm.exec) (hb : c.code = cc) {x : Int32} {inst : Decidable (x = 0)} {B1 B2 : ρ} (hf : @ite ρ (x = 0) inst B1 B2 = q) {off : Int} (tgt : Nat) (hdg : decode cc pc = .ok (.ifCond .eq off, 3)) (ht : (pc : Int) + off = (tgt : Int)) (kt : B1 = q → W p l e R s m args below meth c H locs cells slots Q (F0 m tgt ls rest)) (kf : B2 = q → W p l e R s m args below meth c H locs cells slots Q (F0 m (pc + 3) ls rest)) : W p l e R s m args below meth c H locs cells slots Q (F0 m pc ls (.int x :: rest)) := lv_if_eq hexec hb hdg ht (fun h => kt (ifp hf h)) (fun h => kf (ifn hf h))
theorem q_if_ne (hexec : p.tables.exec = Jvm.exec) (hb : c.code = cc) {x : Int32} {inst : Decidable (x = 0)} {B1 B2 : ρ} (hf : @ite ρ (x = 0) inst B1 B2 = q) {off : Int} (tgt : Nat) (hdg : decode cc pc = .ok (.ifCond .ne off, 3)) (ht : (pc : Int) + off = (tgt : Int)) (kt : B2 = q → W p l e R s m args below meth c H locs cells slots Q (F0 m tgt ls rest)) (kf : B1 = q → W p l e R s m args below meth c H locs cells slots Q (F0 m (pc + 3) ls rest)) : W p l e R s m args below meth c H locs cells slots Q (F0 m pc ls (.int x :: rest)) := lv_if_ne hexec hb hdg ht (fun h => kt (ifn hf h)) (fun h => kf (ifp hf h))
theorem q_if_lt (hexec : p.tables.exec = Jvm.exec) (hb : c.code = cc) {x : Int32} {inst : Decidable (x < 0)} {B1 B2 : ρ} (hf : @ite ρ (x < 0) inst B1 B2 = q) {off : Int} (tgt : Nat) (hdg : decode cc pc = .ok (.ifCond .lt off, 3)) (ht : (pc : Int) + off = (tgt : Int)) (kt : B1 = q → W p l e R s m args below meth c H locs cells slots Q (F0 m tgt ls rest)) (kf : B2 = q → W p l e R s m args below meth c H locs cells slots Q (F0 m (pc + 3) ls rest)) : W p l e R s m args below meth c H locs cells slots Q (F0 m pc ls (.int x :: rest)) := lv_if_lt hexec hb hdg ht (fun h => kt (ifp hf h)) (fun h => kf (ifn hf h))
theorem q_if_ge (hexec : p.tables.exec = Jvm.exec) (hb : c.code = cc) {x : Int32} {inst : Decidable (0 ≤ x)} {B1 B2 : ρ} (hf : @ite ρ (0 ≤ x) inst B1 B2 = q) {off : Int} (tgt : Nat) (hdg : decode cc pc = .ok (.ifCond .ge off, 3)) (ht : (pc : Int) + off = (tgt : Int)) (kt : B1 = q → W p l e R s m args below meth c H locs cells slots Q (F0 m tgt ls rest)) (kf : B2 = q → W p l e R s m args below meth c H locs cells slots Q (F0 m (pc + 3) ls rest)) : W p l e R s m args below meth c H locs cells slots Q (F0 m pc ls (.int x :: rest)) := lv_if_ge hexec hb hdg ht (fun h => kt (ifp hf h)) (fun h => kf (ifn hf h))
theorem q_if_gt (hexec : p.tables.exec = Jvm.exec) (hb : c.code = cc) {x : Int32} {inst : Decidable (0 < x)} {B1 B2 : ρ} (hf : @ite ρ (0 < x) inst B1 B2 = q) {off : Int} (tgt : Nat) (hdg : decode cc pc = .ok (.ifCond .gt off, 3)) (ht : (pc : Int) + off = (tgt : Int)) (kt : B1 = q → W p l e R s m args below meth c H locs cells slots Q (F0 m tgt ls rest)) (kf : B2 = q → W p l e R s m args below meth c H locs cells slots Q (F0 m (pc + 3) ls rest)) : W p l e R s m args below meth c H locs cells slots Q (F0 m pc ls (.int x :: rest)) := lv_if_gt hexec hb hdg ht (fun h => kt (ifp hf h)) (fun h => kf (ifn hf h))
theorem q_if_le (hexec : p.tables.exec = Jvm.exec) (hb : c.code = cc) {x : Int32} {inst : Decidable (x ≤ 0)} {B1 B2 : ρ} (hf : @ite ρ (x ≤ 0) inst B1 B2 = q) {off : Int} (tgt : Nat) (hdg : decode cc pc = .ok (.ifCond .le off, 3)) (ht : (pc : Int) + off = (tgt : Int)) (kt : B1 = q → W p l e R s m args below meth c H locs cells slots Q (F0 m tgt ls rest)) (kf : B2 = q → W p l e R s m args below meth c H locs cells slots Q (F0 m (pc + 3) ls rest)) : W p l e R s m args below meth c H locs cells slots Q (F0 m pc ls (.int x :: rest)) := lv_if_le hexec hb hdg ht (fun h => kt (ifp hf h)) (fun h => kf (ifn hf h))
theorem q_ldc2 (hexec : p.tables.exec = Jvm.exec) (hb : c.code = cc) {own : String} {index : Nat} {v : Int64} (hown : s.vm.findClass own = some m.cls) (hconst : (Jvm.Cond.constantLong own index v).before args s = true) (hdg : decode cc pc = .ok (.ldc2_w index, 3)) (k : W p l e R s m args below meth c H locs cells slots Q (F0 m (pc + 3) ls (.long v :: rest))) : W p l e R s m args below meth c H locs cells slots Q (F0 m pc ls rest) := W.ldc2 hexec hb hown hconst (g := F0 m pc ls rest) rfl hdg k
variable {w' : va_W}
-- calls
variable {y : MethodName} {bytes : ByteArray} {maxL nL n index : Nat} {ret : Option FieldType} {wsc : List Cond} {rm : Room} {Ts : List Cond} {own C : String} {b : Addr} {As : List Value} {cI cR : ClassId} {w : va_W}
theorem q_rS {r : Value} (S : CallFix p m c cc nL s args Ts own) (hM : CR l y wsc rm D cI cR As w r) (cw : CallB R s args own index y bytes maxL ret wsc rm 0 0 n ∧ (Cond.static y).before args s = true) (hP : va_P D vwCl w H) (hK : va_K D vwCl (tysW cI cR) s) (hN : NN s) (hn : As.length = n) (hsize : ls.size = nL) (hst : st0 = As.reverse ++ rest) (hW : (rest.map fun v => v.category).sum ≤ 8) (hdg : decode cc pc = .ok (.invokestatic index, 3)) (hf : cells + 0 ≤ R.cells ∧ slots + 0 ≤ R.slots)
    (kk : W p l e R s m args below meth c H locs cells slots Q (F0 m (pc + 3) ls (r :: rest))) : W p l e R s m args below meth c H locs cells slots Q (F0 m pc ls st0) :=
  W.callV (va_Run.run (va_runS S hM cw ⟨PreR.blind, fun U hU hW => ⟨rfl, by rw [hU]; exact hP, va_K.moved hW.alike hK, NN.warm hW hN⟩⟩ rfl hn hsize hst (lv_room hW) hdg hf)) kk
theorem q_rV {r : Value} (S : CallFix p m c cc nL s args Ts own) (hM : CR l y wsc rm D cI cR (.ref b :: As) w r) (cw : CallW R s args own C index y bytes maxL ret wsc rm 0 0 n) (hP : va_P D vwCl w H) (hK : va_K D vwCl (tysW cI cR) s) (hN : NN s) (hrec : ∃ cellB : Cell, H[b]? = some cellB ∧ cellB.vm.isStatics = false ∧ s.vm.findClass C = some cellB.cls) (hn : As.length = n) (hsize : ls.size = nL) (hst : st0 = As.reverse ++ .ref b :: rest) (hW : (rest.map fun v => v.category).sum ≤ 8) (hdg : decode cc pc = .ok (.invokevirtual index, 3)) (hf : cells + 0 ≤ R.cells ∧ slots + 0 ≤ R.slots)
    (kk : W p l e R s m args below meth c H locs cells slots Q (F0 m (pc + 3) ls (r :: rest))) : W p l e R s m args below meth c H locs cells slots Q (F0 m pc ls st0) :=
  W.callV (va_Run.run (va_runV S hM cw ⟨PreR.blind, hrec, fun U hU hW => ⟨rfl, by rw [hU]; exact hP, va_K.moved hW.alike hK, NN.warm hW hN⟩⟩ rfl hn hsize hst (lv_room hW) hdg hf)) kk
variable {wc wr : va_W}
theorem q_wVi {r0 : Int32} (S : CallFix p m c cc nL s args Ts own) (hM : CWi l y wsc rm D cI cR (.ref b :: As) wc w' r0) (cw : CallW R s args own C index y bytes maxL ret wsc rm 0 0 n) (hP : va_P D vwCl ws H) (hD : va_D A ws) (hS : va_S A s.heap H locs) (hA : ∀ q, s.heap.size ≤ q → A q) (hK : va_K D vwCl (tysW cI cR) s) (hN : NN s) (isC isR : List Nat) (hC : isC.map (fun i => ws[i]?) = wc.map some) (hR : isR.map (fun i => ws[i]?) = wr.map some) (hnC : va_nd isC = true) (hnR : va_nd isR = true) (hdis : ∀ i ∈ isR, i ∉ isC) (hrec : ∃ cellB : Cell, H[b]? = some cellB ∧ cellB.vm.isStatics = false ∧ s.vm.findClass C = some cellB.cls) (hn : As.length = n) (hsize : ls.size = nL) (hst : st0 = As.reverse ++ .ref b :: rest) (hW : (rest.map fun v => v.category).sum ≤ 8) (hdg : decode cc pc = .ok (.invokevirtual index, 3)) (hf : cells + 0 ≤ R.cells ∧ slots + 0 ≤ R.slots)
    (kk : ∀ (H1 : Heap) (locs1 : List Loc), va_P D vwCl (wr ++ w') H1 → va_D A (wr ++ w') → va_S A s.heap H1 locs1 → W p l e R s m args below meth c H1 locs1 cells slots Q (F0 m (pc + 3) ls (.int r0 :: rest))) : W p l e R s m args below meth c H locs cells slots Q (F0 m pc ls st0) := by
  have hDc : va_D A wc := hD.sub isC hnC hC
  have hPc : va_P D vwCl wc H := by
    intro k q hq
    have h1 : (isC.map (fun i => ws[i]?))[k]? = some (some q) := by rw [hC, List.getElem?_map, hq]; rfl
    rw [List.getElem?_map] at h1
    cases hi : isC[k]? with
    | none => rw [hi] at h1; cases h1
    | some i => rw [hi] at h1; exact hP i q (Option.some.inj h1)
  have hFc := va_free (wc := wc) hD hS hA isC hC
  refine va_calli (va_runV S (hM H.size) cw ⟨PreW.blind, hrec, fun U hU hW => ⟨rfl, by rw [hU], by rw [hU]; exact hPc, va_K.moved hW.alike hK, hDc.weaken (fun _ _ _ _ => trivial), NN.warm hW hN⟩⟩ rfl hn hsize hst (lv_room hW) hdg hf) hS (fun q _ h => hFc q h) hFc (fun r u t H1 locs1 ht hvm hw hB hz1 hk1 hS1 => ?_)
  obtain ⟨hP1, hD1⟩ := hB
  rw [ht] at hP1
  subst hw
  obtain ⟨hP2, hD2⟩ := va_join hP hD isC isR hC hR hnR hdis hk1 hFc hP1 hD1
  exact kk H1 locs1 hP2 hD2 hS1
theorem q_wVl {r0 : Int64} (S : CallFix p m c cc nL s args Ts own) (hM : CWl l y wsc rm D cI cR (.ref b :: As) wc w' r0) (cw : CallW R s args own C index y bytes maxL ret wsc rm 0 0 n) (hP : va_P D vwCl ws H) (hD : va_D A ws) (hS : va_S A s.heap H locs) (hA : ∀ q, s.heap.size ≤ q → A q) (hK : va_K D vwCl (tysW cI cR) s) (hN : NN s) (isC isR : List Nat) (hC : isC.map (fun i => ws[i]?) = wc.map some) (hR : isR.map (fun i => ws[i]?) = wr.map some) (hnC : va_nd isC = true) (hnR : va_nd isR = true) (hdis : ∀ i ∈ isR, i ∉ isC) (hrec : ∃ cellB : Cell, H[b]? = some cellB ∧ cellB.vm.isStatics = false ∧ s.vm.findClass C = some cellB.cls) (hn : As.length = n) (hsize : ls.size = nL) (hst : st0 = As.reverse ++ .ref b :: rest) (hW : (rest.map fun v => v.category).sum ≤ 8) (hdg : decode cc pc = .ok (.invokevirtual index, 3)) (hf : cells + 0 ≤ R.cells ∧ slots + 0 ≤ R.slots)
    (kk : ∀ (H1 : Heap) (locs1 : List Loc), va_P D vwCl (wr ++ w') H1 → va_D A (wr ++ w') → va_S A s.heap H1 locs1 → W p l e R s m args below meth c H1 locs1 cells slots Q (F0 m (pc + 3) ls (.long r0 :: rest))) : W p l e R s m args below meth c H locs cells slots Q (F0 m pc ls st0) := by
  have hDc : va_D A wc := hD.sub isC hnC hC
  have hPc : va_P D vwCl wc H := by
    intro k q hq
    have h1 : (isC.map (fun i => ws[i]?))[k]? = some (some q) := by rw [hC, List.getElem?_map, hq]; rfl
    rw [List.getElem?_map] at h1
    cases hi : isC[k]? with
    | none => rw [hi] at h1; cases h1
    | some i => rw [hi] at h1; exact hP i q (Option.some.inj h1)
  have hFc := va_free (wc := wc) hD hS hA isC hC
  refine va_calll (va_runV S (hM H.size) cw ⟨PreW.blind, hrec, fun U hU hW => ⟨rfl, by rw [hU], by rw [hU]; exact hPc, va_K.moved hW.alike hK, hDc.weaken (fun _ _ _ _ => trivial), NN.warm hW hN⟩⟩ rfl hn hsize hst (lv_room hW) hdg hf) hS (fun q _ h => hFc q h) hFc (fun r u t H1 locs1 ht hvm hw hB hz1 hk1 hS1 => ?_)
  obtain ⟨hP1, hD1⟩ := hB
  rw [ht] at hP1
  subst hw
  obtain ⟨hP2, hD2⟩ := va_join hP hD isC isR hC hR hnR hdis hk1 hFc hP1 hD1
  exact kk H1 locs1 hP2 hD2 hS1
theorem q_wVv (S : CallFix p m c cc nL s args Ts own) (hM : CWv l y wsc rm D cI cR (.ref b :: As) wc w') (cw : CallW R s args own C index y bytes maxL ret wsc rm 0 0 n) (hP : va_P D vwCl ws H) (hD : va_D A ws) (hS : va_S A s.heap H locs) (hA : ∀ q, s.heap.size ≤ q → A q) (hK : va_K D vwCl (tysW cI cR) s) (hN : NN s) (isC isR : List Nat) (hC : isC.map (fun i => ws[i]?) = wc.map some) (hR : isR.map (fun i => ws[i]?) = wr.map some) (hnC : va_nd isC = true) (hnR : va_nd isR = true) (hdis : ∀ i ∈ isR, i ∉ isC) (hrec : ∃ cellB : Cell, H[b]? = some cellB ∧ cellB.vm.isStatics = false ∧ s.vm.findClass C = some cellB.cls) (hn : As.length = n) (hsize : ls.size = nL) (hst : st0 = As.reverse ++ .ref b :: rest) (hW : (rest.map fun v => v.category).sum ≤ 8) (hdg : decode cc pc = .ok (.invokevirtual index, 3)) (hf : cells + 0 ≤ R.cells ∧ slots + 0 ≤ R.slots)
    (kk : ∀ (H1 : Heap) (locs1 : List Loc), va_P D vwCl (wr ++ w') H1 → va_D A (wr ++ w') → va_S A s.heap H1 locs1 → W p l e R s m args below meth c H1 locs1 cells slots Q (F0 m (pc + 3) ls (rest))) : W p l e R s m args below meth c H locs cells slots Q (F0 m pc ls st0) := by
  have hDc : va_D A wc := hD.sub isC hnC hC
  have hPc : va_P D vwCl wc H := by
    intro k q hq
    have h1 : (isC.map (fun i => ws[i]?))[k]? = some (some q) := by rw [hC, List.getElem?_map, hq]; rfl
    rw [List.getElem?_map] at h1
    cases hi : isC[k]? with
    | none => rw [hi] at h1; cases h1
    | some i => rw [hi] at h1; exact hP i q (Option.some.inj h1)
  have hFc := va_free (wc := wc) hD hS hA isC hC
  refine va_callv (va_runV S (hM H.size) cw ⟨PreW.blind, hrec, fun U hU hW => ⟨rfl, by rw [hU], by rw [hU]; exact hPc, va_K.moved hW.alike hK, hDc.weaken (fun _ _ _ _ => trivial), NN.warm hW hN⟩⟩ rfl hn hsize hst (lv_room hW) hdg hf) hS (fun q _ h => hFc q h) hFc (fun u t H1 locs1 ht hvm hw hB hz1 hk1 hS1 => ?_)
  obtain ⟨hP1, hD1⟩ := hB
  rw [ht] at hP1
  obtain ⟨hP2, hD2⟩ := va_join hP hD isC isR hC hR hnR hdis hk1 hFc hP1 hD1
  exact kk H1 locs1 hP2 hD2 hS1
end QROWS
