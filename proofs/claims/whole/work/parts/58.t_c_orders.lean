/-! class and reference over the counting -/
def okP (N : Nat) (pf ps : Nat → Nat) (q S : Nat) : Bool := !mB S q && decide (∀ i, i < N → ps i = q → mB S (pf i) = true)
theorem okP_iff {N : Nat} {pf ps : Nat → Nat} {q S : Nat} : okP N pf ps q S = true ↔ mB S q = false ∧ ∀ i, i < N → ps i = q → mB S (pf i) = true := by
  unfold okP
  rw [Bool.and_eq_true, Bool.not_eq_true', decide_eq_true_iff]
theorem okP_ok {N n : Nat} {pf ps : Nat → Nat} (hn : n ≤ 7) (hf : ∀ i, i < N → pf i < n) : okOk (okP N pf ps) := by
  refine ⟨fun q U h => (okP_iff.mp h).1, fun q r U hU hq hr hqr h => ?_⟩
  obtain ⟨h1, h2⟩ := okP_iff.mp h
  have m1 : ∀ x, x < 7 → mB (insB U r) x = (decide (x = r) || mB U x) := fun x hx => (mem_tab ⟨U, hU⟩ ⟨r, hr⟩ ⟨x, hx⟩).1
  refine okP_iff.mpr ⟨?_, fun i hi e => ?_⟩
  · rw [m1 q hq, h1, decide_eq_false hqr]; rfl
  · rw [m1 _ (by have := hf i hi; omega), h2 i hi e, Bool.or_true]
theorem ah_tab : ∀ S : Fin 128, ∀ f : Fin 7, (((1 : Int32) <<< (nI f.val &&& 31)) &&& (nI S.val ^^^ (-1))) = 0 ↔ mB S.val f.val = true := by decide +kernel
theorem bit_tab : ∀ S : Fin 128, ∀ f : Fin 7, (((nI S.val >>> (nI f.val &&& 31)) &&& 1) = 0 ↔ mB S.val f.val = false) ∧ (pX4_isWet (nI S.val) (nI f.val) = 0 ↔ mB S.val f.val = false) ∧ (mB S.val f.val = false → delB S.val f.val = S.val) := by decide +kernel
def AhOk (t : Nat) (pf ps : Nat → Nat) (H : Nat → Int32) : Prop := ∀ s, s < 7 → ∀ S, S < 128 → ((H s &&& (nI S ^^^ (-1))) = 0 ↔ ∀ i, i < t → ps i = s → mB S (pf i) = true)
theorem and_or_r (a b c : Int32) : (a ||| b) &&& c = a &&& c ||| b &&& c := Int32.toBitVec_inj.1 BitVec.and_or_distrib_right
theorem AhOk.step {t : Nat} {pf ps : Nat → Nat} {H : Nat → Int32} (h : AhOk t pf ps H) (hf : pf t < 7) : AhOk (t + 1) pf ps (upd H (ps t) (H (ps t) ||| ((1 : Int32) <<< (nI (pf t) &&& 31)))) := by
  intro s hs S hS
  by_cases e : s = ps t
  · subst e
    rw [upd_at, and_or_r, Int32.or_eq_zero_iff, h _ hs S hS, show _ ↔ _ from ah_tab ⟨S, hS⟩ ⟨pf t, hf⟩]
    refine ⟨fun q i hi ei => ?_, fun q => ⟨fun i hi ei => q i (by omega) ei, q t (by omega) rfl⟩⟩
    by_cases c : i = t
    · subst c; exact q.2
    · exact q.1 i (by omega) ei
  · rw [upd_ne e, h s hs S hS]
    refine ⟨fun q i hi ei => ?_, fun q i hi ei => q i (by omega) ei⟩
    by_cases c : i = t
    · subst c; exact absurd ei.symm e
    · exact q i (by omega) ei
theorem mf_c {N : Nat} {pf ps : Nat → Nat} {H : Nat → Int32} (h : AhOk N pf ps H) {q S : Nat} (hq : q < 7) (hS : S < 128) : pX0_mayFollow H (nI q) (nI S) = some (if okP N pf ps q S = true then 1 else 0) := by
  unfold pX0_mayFollow
  have b := (bit_tab ⟨S, hS⟩ ⟨q, hq⟩).1
  have b : ((nI S >>> (nI q &&& 31)) &&& 1) = 0 ↔ mB S q = false := b
  by_cases c : mB S q = false
  · rw [if_pos (b.mpr c), ga_nI hq (by decide), Option.bind_some]
    by_cases c2 : ∀ i, i < N → ps i = q → mB S (pf i) = true
    · rw [if_pos ((h q hq S hS).mpr c2), if_pos (okP_iff.mpr ⟨c, c2⟩)]
    · rw [if_neg (fun k => c2 ((h q hq S hS).mp k)), if_neg (fun k => c2 (okP_iff.mp k).2)]
  · rw [if_neg (fun k => c (b.mp k)), if_neg (fun k => c (okP_iff.mp k).1)]
theorem nI_inj7 {a b : Nat} (ha : a < 128) (hb : b < 128) (h : nI a = nI b) : a = b := (nI_eq (by omega) (by omega)).mp h
theorem ways_L {N n T : Nat} {pf ps w : Nat → Nat} {H W : Nat → Int32} (hn : n ≤ 7) (h : AhOk N pf ps H) (hT : T < 2 ^ n) (hW : ∀ S, S < T → W S = nI (w S)) : ∀ (m q fl s : Nat), q + m = n → m < fl → pX0_waysTo_L4 (nI T) H W (nI n) (fun a _ => some a) fl (nI s) (nI q) = some (nI (s + sumL (fun q => if (mB T q && okP N pf ps q (delB T q)) = true then w (delB T q) else 0) (List.range' q m))) := by
  have hT7 := p128 hn hT
  intro m
  induction m with
  | zero =>
    intro q fl s hq hf
    obtain ⟨f, rfl⟩ : ∃ f, fl = f + 1 := ⟨fl - 1, by omega⟩
    rw [pX0_waysTo_L4_s, if_pos (nI_le (by omega) (by omega))]
    rfl
  | succ m ih =>
    intro q fl s hq hf
    obtain ⟨f, rfl⟩ : ∃ f, fl = f + 1 := ⟨fl - 1, by omega⟩
    have e0 : (nI T &&& (((1 : Int32) <<< (nI q &&& 31)) ^^^ (-1))) = nI (delB T q) := air_tab ⟨T, hT7⟩ ⟨q, by omega⟩
    have hd : delB T q < 2 ^ n := del_lt hT
    rw [pX0_waysTo_L4_s, if_neg (nI_ge (by omega) (by omega)), e0, List.range'_succ, show nI q + (1 : Int32) = nI (q + 1) from nI_1 q]
    simp only [jn]
    show _ = some (nI (s + ((if (mB T q && okP N pf ps q (delB T q)) = true then w (delB T q) else 0) + sumL (fun q => if (mB T q && okP N pf ps q (delB T q)) = true then w (delB T q) else 0) (List.range' (q + 1) m))))
    by_cases c : mB T q = true
    · have d1 := del_tab ⟨T, hT7⟩ ⟨q, by omega⟩ c
      have d1 : mB (delB T q) q = false ∧ insB (delB T q) q = T ∧ pcB (delB T q) + 1 = pcB T ∧ delB T q < T := d1
      rw [if_neg (fun k => by have := nI_inj7 (p128 hn hd) hT7 k; omega), mf_c h (by omega) (p128 hn hd), Option.bind_some, c, Bool.true_and]
      by_cases c2 : okP N pf ps q (delB T q) = true
      · rw [if_pos c2, if_pos c2, if_neg (show ¬ (1 : Int32) = 0 by decide), ga_nI (p128 hn hd) (by decide), Option.bind_some, hW _ d1.2.2.2, nI_add, ih (q + 1) f _ (by omega) (by omega), Nat.add_assoc]
      · rw [if_neg c2, if_neg c2, if_pos rfl, ih (q + 1) f _ (by omega) (by omega), Nat.zero_add]
    · have c' : mB T q = false := (Bool.not_eq_true _).mp c
      have d2 : delB T q = T := (bit_tab ⟨T, hT7⟩ ⟨q, by omega⟩).2.2 c'
      rw [if_pos (by rw [d2]), c', Bool.false_and, if_neg (show ¬ false = true by decide), ih (q + 1) f _ (by omega) (by omega), Nat.zero_add]
theorem pc_tab : ∀ T : Fin 128, (T.val ≠ 0 → pcB T.val ≠ 0) ∧ pcB T.val ≤ 7 := by decide +kernel
theorem pcall_tab : ∀ n : Fin 8, pcB (2 ^ n.val - 1) = n.val ∧ ((1 : Int32) <<< (nI n.val &&& 31)) - 1 = nI (2 ^ n.val - 1) ∧ 2 ^ n.val ≤ 128 ∧ 1 ≤ 2 ^ n.val := by decide +kernel
def wW (n : Nat) (ok : Nat → Nat → Bool) (T : Nat) : Nat := MP n ok (pcB T) 0 T
theorem wW_step {n T : Nat} {ok : Nat → Nat → Bool} (hn : n ≤ 7) (hok : okOk ok) (hT : T < 2 ^ n) (h0 : T ≠ 0) : sumL (fun q => if (mB T q && ok q (delB T q)) = true then wW n ok (delB T q) else 0) (List.range n) = wW n ok T := by
  have hT7 := p128 hn hT
  have hp := (pc_tab ⟨T, hT7⟩).1 h0
  have hp : pcB T ≠ 0 := hp
  unfold wW
  obtain ⟨m, em⟩ : ∃ m, pcB T = m + 1 := ⟨pcB T - 1, by omega⟩
  rw [em, MP_back hn hok m 0 T (Nat.pow_pos (by decide)) hT]
  refine sumL_congr _ (fun q hq => ?_)
  have hq := List.mem_range.mp hq
  by_cases c : (mB T q && ok q (delB T q)) = true
  · have c1 : mB T q = true := (Bool.and_eq_true _ _ ▸ c).1
    have d1 := del_tab ⟨T, hT7⟩ ⟨q, by omega⟩ c1
    have d1 : mB (delB T q) q = false ∧ insB (delB T q) q = T ∧ pcB (delB T q) + 1 = pcB T ∧ delB T q < T := d1
    rw [if_pos c, if_pos c, show pcB (delB T q) = m by omega]
  · rw [if_neg c, if_neg c]
theorem many_L {N n : Nat} {pf ps : Nat → Nat} {H : Nat → Int32} (hn : n ≤ 7) (h : AhOk N pf ps H) (hok : okOk (okP N pf ps)) (K : Int32 → (Nat → Int32) → Option (Int32 × (Nat → Int32))) : ∀ (m T fl : Nat) (W : Nat → Int32), T + m = 2 ^ n → m < fl → 1 ≤ T → (∀ S, S < T → W S = nI (wW n (okP N pf ps) S)) → ∃ W', pX0_howMany_L18 (nI (2 ^ n - 1)) H (nI n) K fl (nI T) W = K (nI (2 ^ n)) W' ∧ ∀ S, S < 2 ^ n → W' S = nI (wW n (okP N pf ps) S) := by
  have pa := pcall_tab ⟨n, by omega⟩
  have pa : pcB (2 ^ n - 1) = n ∧ ((1 : Int32) <<< (nI n &&& 31)) - 1 = nI (2 ^ n - 1) ∧ 2 ^ n ≤ 128 ∧ 1 ≤ 2 ^ n := pa
  intro m
  induction m with
  | zero =>
    intro T fl W hT hf h1 hW
    obtain ⟨f, rfl⟩ : ∃ f, fl = f + 1 := ⟨fl - 1, by omega⟩
    obtain rfl : T = 2 ^ n := by omega
    rw [pX0_howMany_L18_s, if_pos (nI_lt (by omega) (by omega))]
    exact ⟨W, rfl, hW⟩
  | succ m ih =>
    intro T fl W hT hf h1 hW
    obtain ⟨f, rfl⟩ : ∃ f, fl = f + 1 := ⟨fl - 1, by omega⟩
    have wl := ways_L hn h (show T < 2 ^ n by omega) hW n 0 fu 0 (by omega) (by unfold fu; omega)
    rw [Nat.zero_add, ← List.range_eq_range', wW_step hn hok (by omega) (by omega), show nI 0 = (0 : Int32) from rfl] at wl
    rw [pX0_howMany_L18_s, if_neg (nI_nlt (by omega) (by omega))]
    unfold pX0_waysTo
    rw [wl, Option.bind_some, sa_nI (by omega) (by decide), Option.bind_some, show nI T + (1 : Int32) = nI (T + 1) from nI_1 T]
    refine ih (T + 1) f _ (by omega) (by omega) (by omega) (fun S hS => ?_)
    by_cases e : S = T
    · subst e; exact upd_at _ _ _
    · rw [upd_ne e]; exact hW S (by omega)
theorem many_c {N n : Nat} {pf ps : Nat → Nat} {H : Nat → Int32} (hn : n ≤ 7) (h : AhOk N pf ps H) (hok : okOk (okP N pf ps)) (W0 : Nat → Int32) : ∃ W', pX0_howMany H W0 (nI n) = some (nI (MP n (okP N pf ps) n 0 (2 ^ n - 1)), W') := by
  have pa := pcall_tab ⟨n, by omega⟩
  have pa : pcB (2 ^ n - 1) = n ∧ ((1 : Int32) <<< (nI n &&& 31)) - 1 = nI (2 ^ n - 1) ∧ 2 ^ n ≤ 128 ∧ 1 ≤ 2 ^ n := pa
  unfold pX0_howMany
  rw [show (0 : Int32) = nI 0 from rfl, sa_nI (by decide) (by decide), Option.bind_some, pa.2.1]
  obtain ⟨W', e1, e2⟩ := many_L hn h hok (fun (k4_v2 : Int32) (k4_w_o_ways : Nat → Int32) => (ga k4_w_o_ways 128 (nI (2 ^ n - 1))).bind fun x5 => some ((x5, k4_w_o_ways))) (2 ^ n - 1) 1 fu (upd W0 0 1) (by omega) (by unfold fu; omega) (Nat.le_refl 1) (fun S hS => by
    obtain rfl : S = 0 := by omega
    rw [upd_at]
    rfl)
  rw [show nI 1 = (1 : Int32) from rfl] at e1
  rw [e1, ga_nI (by omega) (by decide), Option.bind_some, e2 _ (by omega)]
  unfold wW
  rw [pa.1]
  exact ⟨W', rfl⟩
theorem least_L {N n S : Nat} {pf ps : Nat → Nat} {H : Nat → Int32} (hn : n ≤ 7) (h : AhOk N pf ps H) (hS : S < 128) : ∀ (m q fl : Nat), q + m = n → m < fl → pX0_leastThatMayFollow_L2 (nI S) H (nI n) (fun _ => some (-9)) fl (nI q) = some (match fiL (fun q => if okP N pf ps q S = true then some q else none) (List.range' q m) with | some v => nI v | none => -9) := by
  intro m
  induction m with
  | zero =>
    intro q fl hq hf
    obtain ⟨f, rfl⟩ : ∃ f, fl = f + 1 := ⟨fl - 1, by omega⟩
    rw [pX0_leastThatMayFollow_L2_s, if_pos (nI_le (by omega) (by omega))]
    rfl
  | succ m ih =>
    intro q fl hq hf
    obtain ⟨f, rfl⟩ : ∃ f, fl = f + 1 := ⟨fl - 1, by omega⟩
    rw [pX0_leastThatMayFollow_L2_s, if_neg (nI_ge (by omega) (by omega)), mf_c h (by omega) hS, Option.bind_some, show nI q + (1 : Int32) = nI (q + 1) from nI_1 q, List.range'_succ]
    show _ = some (match (match (if okP N pf ps q S = true then some q else none) with | some v => some v | none => fiL (fun q => if okP N pf ps q S = true then some q else none) (List.range' (q + 1) m)) with | some v => nI v | none => -9)
    by_cases c : okP N pf ps q S = true
    · rw [if_pos c, if_pos c, if_neg (show ¬ (1 : Int32) = 0 by decide)]
    · rw [if_neg c, if_neg c, if_pos rfl]
      exact ih (q + 1) f (by omega) (by omega)
theorem fiL_lt {p : Nat → Bool} {v : Nat} : ∀ l : List Nat, fiL (fun q => if p q = true then some q else none) l = some v → v ∈ l := by
  intro l
  induction l with
  | nil => intro h; cases h
  | cons q l ih =>
    intro h
    have h : (match (if p q = true then some q else none) with | some v => some v | none => fiL (fun q => if p q = true then some q else none) l) = some v := h
    by_cases c : p q = true
    · rw [if_pos c] at h
      cases h
      exact List.mem_cons_self ..
    · rw [if_neg c] at h
      exact List.mem_cons_of_mem _ (ih h)
theorem first_L {N n place : Nat} {pf ps : Nat → Nat} {H W : Nat → Int32} (hn : n ≤ 7) (h : AhOk N pf ps H) (hp : place < 7) : ∀ (j S at' fl v : Nat) (lt : Int32), at' + j = place → j + 1 < fl → S < 2 ^ n → grd n (okP N pf ps) j S = some v → pX0_firstAt_L26 (nI place) H W (nI n) (fun _ x _ => some (x, W)) fl (nI S) lt (nI at') = some (nI v, W) := by
  intro j
  induction j with
  | zero =>
    intro S at' fl v lt ha hf hS hg
    obtain ⟨f, rfl⟩ : ∃ f, fl = f + 2 := ⟨fl - 2, by omega⟩
    have hl := least_L hn h (p128 hn hS) n 0 fu (by omega) (by unfold fu; omega)
    rw [← List.range_eq_range', show fiL (fun q => if okP N pf ps q S = true then some q else none) (List.range n) = some v from hg, show nI 0 = (0 : Int32) from rfl] at hl
    have hv : v < n := List.mem_range.mp (fiL_lt _ hg)
    rw [show f + 2 = (f + 1) + 1 from rfl, pX0_firstAt_L26_s, if_neg (nI_nlt (by omega) (by omega))]
    unfold pX0_leastThatMayFollow
    rw [hl, Option.bind_some]
    show (if nI v = (-9 : Int32) then _ else _) = _
    rw [if_neg (m9_nI (by omega)), show nI at' + (1 : Int32) = nI (at' + 1) from nI_1 at', pX0_firstAt_L26_s, if_pos (nI_lt (by omega) (by omega))]
  | succ j ih =>
    intro S at' fl v lt ha hf hS hg
    obtain ⟨f, rfl⟩ : ∃ f, fl = f + 1 := ⟨fl - 1, by omega⟩
    have hg : (least n (okP N pf ps) S).bind (fun q => grd n (okP N pf ps) j (insB S q)) = some v := hg
    cases hq : least n (okP N pf ps) S with
    | none => rw [hq] at hg; cases hg
    | some q =>
      rw [hq, Option.bind_some] at hg
      have hl := least_L hn h (p128 hn hS) n 0 fu (by omega) (by unfold fu; omega)
      rw [← List.range_eq_range', show fiL (fun q => if okP N pf ps q S = true then some q else none) (List.range n) = some q from hq, show nI 0 = (0 : Int32) from rfl] at hl
      have hv : q < n := List.mem_range.mp (fiL_lt _ hq)
      rw [pX0_firstAt_L26_s, if_neg (nI_nlt (by omega) (by omega))]
      unfold pX0_leastThatMayFollow
      rw [hl, Option.bind_some]
      show (if nI q = (-9 : Int32) then _ else _) = _
      have so : (nI S ||| ((1 : Int32) <<< (nI q &&& 31))) = nI (insB S q) := soak_tab ⟨S, p128 hn hS⟩ ⟨q, by omega⟩
      rw [if_neg (m9_nI (by omega)), show nI at' + (1 : Int32) = nI (at' + 1) from nI_1 at']
      show pX0_firstAt_L26 (nI place) H W (nI n) (fun _ x _ => some (x, W)) f (nI S ||| ((1 : Int32) <<< (nI q &&& 31))) (nI q) (nI (at' + 1)) = _
      rw [so]
      exact ih (insB S q) (at' + 1) f v (nI q) (by omega) (by omega) (ins_lt hS hv) hg
theorem nth_L {U : Nat} (hU : U < 128) (K : Int32 → Int32 → Option ((Nat → Int32) × (Nat → Int32))) : ∀ (m q s fl : Nat), q + m = 7 → m < fl → s < 2 ^ 31 → nthF U m q s < 7 → pX8_rowOf_L39 (nI U) K fl (nI s) (nI q) = K 0 (nI (nthF U m q s)) := by
  intro m
  induction m with
  | zero =>
    intro q s fl hq hf hs h
    exact absurd h (by show ¬ q < 7; omega)
  | succ m ih =>
    intro q s fl hq hf hs h
    obtain ⟨f, rfl⟩ : ∃ f, fl = f + 1 := ⟨fl - 1, by omega⟩
    have b := (bit_tab ⟨U, hU⟩ ⟨q, by omega⟩).2.1
    have b : pX4_isWet (nI U) (nI q) = 0 ↔ mB U q = false := b
    rw [pX8_rowOf_L39_s]
    simp only [jn]
    rw [isOf_wet, show nI q + (1 : Int32) = nI (q + 1) from nI_1 q]
    unfold nthF at h ⊢
    by_cases c : mB U q = true
    · rw [if_pos c] at h ⊢
      have nb : ¬ pX4_isWet (nI U) (nI q) = 0 := fun k => by rw [b.mp k] at c; cases c
      rw [if_neg nb, if_neg nb, show nI s - (0 : Int32) = nI s from pk_sub (a := s) (b := 0) (by omega)]
      exact ih (q + 1) s f (by omega) (by omega) hs h
    · rw [if_neg c] at h ⊢
      have pb := b.mpr ((Bool.not_eq_true _).mp c)
      rw [if_pos pb, if_pos pb]
      by_cases c2 : s = 0
      · subst c2
        rw [if_pos rfl, if_pos (show nI 0 ≤ (0 : Int32) by decide)]
        rfl
      · rw [if_neg c2] at h ⊢
        rw [if_neg (show ¬ nI s ≤ (0 : Int32) from nI_ge (a := 0) (by omega) hs), show nI s - (1 : Int32) = nI (s - 1) from pk_sub (a := s) (b := 1) (by omega)]
        exact ih (q + 1) (s - 1) f (by omega) (by omega) (by omega) h
