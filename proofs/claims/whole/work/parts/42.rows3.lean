/-! constructors: what they make -/
def PreN (D : va_G) (cI cR : ClassId) (w : va_W) (sz : Nat) (U : State) : Prop := PreW D cI cR w sz U ∧ va_AO RX2 U
theorem PreN.blind {D : va_G} {cI cR : ClassId} {w : va_W} {sz : Nat} {av : List Value} : FrameBlind (va_Pc av (PreN D cI cR w sz)) := fun a U g mk q => by
  obtain ⟨q0, q1, q2⟩ := q
  exact ⟨q0, (PreW.blind (av := av) a U g mk ⟨q0, q1⟩).2, va_AO.moved (u := U) (U := U.calling g mk a) (Vm.Alike.refl U.vm) q2⟩
abbrev CN (l : Launch) (y : MethodName) (wsc : List Cond) (rm : Room) (D : va_G) (cI cR : ClassId) (h0 : Nat) (w : va_W) (wn : List Nat → va_W) (mc ms : Nat) : Prop := ∀ sz : Nat, Met l y wsc rm (va_Pc [.ref h0] (PreN D cI cR w sz)) (va_Qv (fun (_ : List Nat) => True) (fun u t => va_P D vwCl (wn u) t.heap ∧ va_D (va_A w sz) (wn u)) (va_A w sz)) mc ms (va_A w sz)
section NROWS
variable {p : Program} {l : Launch} {e : Env} {R : Room} {s : State} {m : MethodId} {args : Array Value} {below : List Frame} {meth : Method} {c : Code} {H : Heap} {locs : List Loc} {cells slots : Nat} {Q : State → Prop}
variable {cc : ByteArray} {pc : Nat} {ls : Array Slot} {rest st0 : List Value} {D : va_G} {cl : List vw_C} {A : Nat → Prop} {a : Nat} {ws : va_W} {H0 : Heap} {cI cR : ClassId}
theorem q_newa (hexec : p.tables.exec = Jvm.exec) (hb : c.code = cc) (harr : (Cond.arrayClass .int).before args s = true) (hK : va_K D cl (tysW cI cR) s) (hP : va_P D cl ws H) (hD : va_D A ws) (hS : va_S A H0 H locs) (hA : ∀ q, H0.size ≤ q → A q)
    {n : Int32} {N' : Nat} (hn : ¬ n < 0) (hN : n.toNatClampNeg = N') (hbytes : N' * componentBytes .int ≤ 536870912) (hcells : cells + 1 ≤ R.cells) (hslots : slots + N' ≤ R.slots) (hdg : decode cc pc = .ok (.newarray .int, 2))
    (kk : ∀ (q : Nat) (H1 : Heap), va_P D cl (ws ++ [(q, .inl (cI, N', .inl (fun _ => 0)))]) H1 → va_D A (ws ++ [(q, .inl (cI, N', .inl (fun _ => 0)))]) → va_S A H0 H1 locs →
      W p l e R s m args below meth c H1 locs (cells + 1) (slots + N') Q (F0 m (pc + 2) ls (.ref q :: rest))) : W p l e R s m args below meth c H locs cells slots Q (F0 m pc ls (.int n :: rest)) := by
  refine va_newa (atype := .int) (ty := .int) (a0 := (N', .inl (fun _ => 0))) hexec hb harr rfl hK hP hD hS hA (fun cA => rfl) hn hN hbytes hcells hslots hdg (fun q cA H1 hK1 h1 h2 h3 => ?_)
  have e1 : s.vm.findClass ("[" ++ FieldType.int.toString) = some cA := (hK1.2 2 _ rfl).2
  have e2 : s.vm.findClass ("[" ++ FieldType.int.toString) = some cI := (hK.2 0 _ rfl).2
  have e3 : cA = cI := Option.some.inj (e1.symm.trans e2)
  subst e3
  exact kk q H1 h1 h2 h3
theorem q_newq (hexec : p.tables.exec = Jvm.exec) (hb : c.code = cc) {own : String} {index : Nat} (hown : s.vm.findClass own = some m.cls) (hclink : (Cond.classLink own index RX2).before args s = true) (hover : va_AO RX2 s) (hK : va_K D cl (tysW cI cR) s) (hP : va_P D cl ws H) (hD : va_D A ws) (hS : va_S A H0 H locs) (hA : ∀ q, H0.size ≤ q → A q)
    {n : Int32} {N' : Nat} (hn : ¬ n < 0) (hN : n.toNatClampNeg = N') (hbytes : N' * 4 ≤ 536870912) (hcells : cells + 1 ≤ R.cells) (hslots : slots + N' ≤ R.slots) (hdg : decode cc pc = .ok (.anewarray index, 3))
    (kk : ∀ (q : Nat) (H1 : Heap), va_P D cl (ws ++ [(q, .inl (cR, N', .inr (.inr (.inr (.inr (fun _ => none))))))]) H1 → va_D A (ws ++ [(q, .inl (cR, N', .inr (.inr (.inr (.inr (fun _ => none))))))]) → va_S A H0 H1 locs →
      W p l e R s m args below meth c H1 locs (cells + 1) (slots + N') Q (F0 m (pc + 3) ls (.ref q :: rest))) : W p l e R s m args below meth c H locs cells slots Q (F0 m pc ls (.int n :: rest)) := by
  refine va_newq hexec hb hown hclink hover hK hP hD hS hA hn hN hbytes hcells hslots hdg (fun q cA H1 hK1 h1 h2 h3 => ?_)
  obtain ⟨_, _, _, _, _, e1⟩ := (hK1.2 2 _ rfl).2
  obtain ⟨_, _, _, _, _, e2⟩ := (hK.2 1 _ rfl).2
  have e3 : cA = cR := Option.some.inj (e1.symm.trans e2)
  subst e3
  exact kk q H1 h1 h2 h3
variable {y : MethodName} {bytes : ByteArray} {maxL nL n index mc ms : Nat} {wsc : List Cond} {rm : Room} {Ts : List Cond} {own host : String} {b : Nat} {wc wr : va_W} {Wn : List Nat → va_W}
theorem q_wI (S : CallFix p m c cc nL s args Ts own) (hM : CN l y wsc rm D cI cR b wc Wn mc ms) (cw : va_CN R s args own index y host bytes maxL none wsc rm mc ms 0) (hy1 : y.name = "<init>") (hinst : (Cond.instanceMethod y).before args s = true) (hP : va_P D vwCl ws H) (hD : va_D A ws) (hS : va_S A s.heap H locs) (hA : ∀ q, s.heap.size ≤ q → A q) (hK : va_K D vwCl (tysW cI cR) s) (hN : NN s) (hAO : va_AO RX2 s) (isC isR : List Nat) (hC : isC.map (fun i => ws[i]?) = wc.map some) (hR : isR.map (fun i => ws[i]?) = wr.map some) (hnC : va_nd isC = true) (hnR : va_nd isR = true) (hdis : ∀ i ∈ isR, i ∉ isC) (hn : ([] : List Value).length = 0) (hsize : ls.size = nL) (hst : st0 = .ref b :: rest) (hW : (rest.map fun v => v.category).sum ≤ 8) (hdg : decode cc pc = .ok (.invokespecial index, 3)) (hf : cells + mc ≤ R.cells ∧ slots + ms ≤ R.slots)
    (kk : ∀ (u : List Nat) (H1 : Heap) (locs1 : List Loc), va_P D vwCl (wr ++ Wn u) H1 → va_D A (wr ++ Wn u) → va_S A s.heap H1 locs1 → W p l e R s m args below meth c H1 locs1 (cells + mc) (slots + ms) Q (F0 m (pc + 3) ls rest)) : W p l e R s m args below meth c H locs cells slots Q (F0 m pc ls st0) := by
  have hDc : va_D A wc := hD.sub isC hnC hC
  have hPc : va_P D vwCl wc H := by
    intro k q hq
    have h1 : (isC.map (fun i => ws[i]?))[k]? = some (some q) := by rw [hC, List.getElem?_map, hq]; rfl
    rw [List.getElem?_map] at h1
    cases hi : isC[k]? with
    | none => rw [hi] at h1; cases h1
    | some i => rw [hi] at h1; exact hP i q (Option.some.inj h1)
  have hFc := va_free (wc := wc) hD hS hA isC hC
  refine va_callv (va_runIN (As := []) S (hM H.size) ⟨cw, hy1, hinst⟩ ⟨PreN.blind, fun U hU hW => ⟨rfl, ⟨by rw [hU], by rw [hU]; exact hPc, va_K.moved hW.alike hK, hDc.weaken (fun _ _ _ _ => trivial), NN.warm hW hN⟩, va_AO.moved hW.alike hAO⟩⟩ rfl hn hsize hst (lv_room hW) hdg hf) hS (fun q _ h => hFc q h) hFc (fun u t H1 locs1 ht hvm hw hB hz1 hk1 hS1 => ?_)
  obtain ⟨hP1, hD1⟩ := hB
  rw [ht] at hP1
  obtain ⟨hP2, hD2⟩ := va_join hP hD isC isR hC hR hnR hdis hk1 hFc hP1 hD1
  exact kk u H1 locs1 hP2 hD2 hS1
theorem q_wI2 (S : CallFix p m c cc nL s args Ts own) (hM : CN l y wsc rm D cI cR b wc Wn mc ms) (cw : CallB R s args own index y bytes maxL none wsc rm mc ms 0 ∧ y.name = "<init>" ∧ (Cond.instanceMethod y).before args s = true) (hP : va_P D vwCl ws H) (hD : va_D A ws) (hS : va_S A s.heap H locs) (hA : ∀ q, s.heap.size ≤ q → A q) (hK : va_K D vwCl (tysW cI cR) s) (hN : NN s) (hAO : va_AO RX2 s) (isC isR : List Nat) (hC : isC.map (fun i => ws[i]?) = wc.map some) (hR : isR.map (fun i => ws[i]?) = wr.map some) (hnC : va_nd isC = true) (hnR : va_nd isR = true) (hdis : ∀ i ∈ isR, i ∉ isC) (hn : ([] : List Value).length = 0) (hsize : ls.size = nL) (hst : st0 = .ref b :: rest) (hW : (rest.map fun v => v.category).sum ≤ 8) (hdg : decode cc pc = .ok (.invokespecial index, 3)) (hf : cells + mc ≤ R.cells ∧ slots + ms ≤ R.slots)
    (kk : ∀ (u : List Nat) (H1 : Heap) (locs1 : List Loc), va_P D vwCl (wr ++ Wn u) H1 → va_D A (wr ++ Wn u) → va_S A s.heap H1 locs1 → W p l e R s m args below meth c H1 locs1 (cells + mc) (slots + ms) Q (F0 m (pc + 3) ls rest)) : W p l e R s m args below meth c H locs cells slots Q (F0 m pc ls st0) := by
  have hDc : va_D A wc := hD.sub isC hnC hC
  have hPc : va_P D vwCl wc H := by
    intro k q hq
    have h1 : (isC.map (fun i => ws[i]?))[k]? = some (some q) := by rw [hC, List.getElem?_map, hq]; rfl
    rw [List.getElem?_map] at h1
    cases hi : isC[k]? with
    | none => rw [hi] at h1; cases h1
    | some i => rw [hi] at h1; exact hP i q (Option.some.inj h1)
  have hFc := va_free (wc := wc) hD hS hA isC hC
  refine va_callv (va_runI (As := []) S (hM H.size) cw ⟨PreN.blind, fun U hU hW => ⟨rfl, ⟨by rw [hU], by rw [hU]; exact hPc, va_K.moved hW.alike hK, hDc.weaken (fun _ _ _ _ => trivial), NN.warm hW hN⟩, va_AO.moved hW.alike hAO⟩⟩ rfl hn hsize hst (lv_room hW) hdg hf) hS (fun q _ h => hFc q h) hFc (fun u t H1 locs1 ht hvm hw hB hz1 hk1 hS1 => ?_)
  obtain ⟨hP1, hD1⟩ := hB
  rw [ht] at hP1
  obtain ⟨hP2, hD2⟩ := va_join hP hD isC isR hC hR hnR hdis hk1 hFc hP1 hD1
  exact kk u H1 locs1 hP2 hD2 hS1
end NROWS
