/-! class and reference over the counting -/
def okP (N : Nat) (pf ps : Nat → Nat) (q S : Nat) : Bool := !mB S q && decide (∀ i, i < N → ps i = q → mB S (pf i) = true)
theorem okP_iff {N : Nat} {pf ps : Nat → Nat} {q S : Nat} : okP N pf ps q S = true ↔ mB S q = false ∧ ∀ i, i < N → ps i = q → mB S (pf i) = true := by
  unfold okP
  rw [Bool.and_eq_true, Bool.not_eq_true', decide_eq_true_iff]
theorem okP_ok {N n : Nat} {pf ps : Nat → Nat} (hn : n ≤ 7) (hf : ∀ i, i < N → pf i < n) : okOk (okP N pf ps) := by
  refine ⟨fun q U h => (okP_iff.mp h).1, fun q r U hU hq hr hqr h => ?_⟩
  obtain ⟨h1, h2⟩ := okP_iff.mp h
  have m1 : ∀ x, x < 7 → mB (insB U r) x = (decide (x = r) || mB U x) := fun x hx => (mem_tab ⟨U, hU⟩ ⟨r, hr⟩ ⟨x, hx⟩).1
  refine okP_iff.mpr ⟨?_, fun i hi e => ?_⟩
  · rw [m1 q hq, h1, decide_eq_false hqr]; rfl
  · rw [m1 _ (by have := hf i hi; omega), h2 i hi e, Bool.or_true]
theorem ah_tab : ∀ S : Fin 128, ∀ f : Fin 7, (((1 : Int32) <<< (nI f.val &&& 31)) &&& (nI S.val ^^^ (-1))) = 0 ↔ mB S.val f.val = true := by decide +kernel
theorem bit_tab : ∀ S : Fin 128, ∀ f : Fin 7, (((nI S.val >>> (nI f.val &&& 31)) &&& 1) = 0 ↔ mB S.val f.val = false) ∧ (pX4_isWet (nI S.val) (nI f.val) = 0 ↔ mB S.val f.val = false) ∧ (mB S.val f.val = false → delB S.val f.val = S.val) := by decide +kernel
def AhOk (t : Nat) (pf ps : Nat → Nat) (H : Nat → Int32) : Prop := ∀ s, s < 7 → ∀ S, S < 128 → ((H s &&& (nI S ^^^ (-1))) = 0 ↔ ∀ i, i < t → ps i = s → mB S (pf i) = true)
theorem and_or_r (a b c : Int32) : (a ||| b) &&& c = a &&& c ||| b &&& c := Int32.toBitVec_inj.1 BitVec.and_or_distrib_right
theorem AhOk.step {t : Nat} {pf ps : Nat → Nat} {H : Nat → Int32} (h : AhOk t pf ps H) (hf : pf t < 7) : AhOk (t + 1) pf ps (upd H (ps t) (H (ps t) ||| ((1 : Int32) <<< (nI (pf t) &&& 31)))) := by
  intro s hs S hS
  by_cases e : s = ps t
  · subst e
    rw [upd_at, and_or_r, Int32.or_eq_zero_iff, h _ hs S hS, show _ ↔ _ from ah_tab ⟨S, hS⟩ ⟨pf t, hf⟩]
    refine ⟨fun q i hi ei => ?_, fun q => ⟨fun i hi ei => q i (by omega) ei, q t (by omega) rfl⟩⟩
    by_cases c : i = t
    · subst c; exact q.2
    · exact q.1 i (by omega) ei
  · rw [upd_ne e, h s hs S hS]
    refine ⟨fun q i hi ei => ?_, fun q i hi ei => q i (by omega) ei⟩
    by_cases c : i = t
    · subst c; exact absurd ei.symm e
    · exact q i (by omega) ei
theorem mf_c {N : Nat} {pf ps : Nat → Nat} {H : Nat → Int32} (h : AhOk N pf ps H) {q S : Nat} (hq : q < 7) (hS : S < 128) : pX0_mayFollow H (nI q) (nI S) = some (if okP N pf ps q S = true then 1 else 0) := by
  unfold pX0_mayFollow
  have b := (bit_tab ⟨S, hS⟩ ⟨q, hq⟩).1
  have b : ((nI S >>> (nI q &&& 31)) &&& 1) = 0 ↔ mB S q = false := b
  by_cases c : mB S q = false
  · rw [if_pos (b.mpr c), ga_nI hq (by decide), Option.bind_some]
    by_cases c2 : ∀ i, i < N → ps i = q → mB S (pf i) = true
    · rw [if_pos ((h q hq S hS).mpr c2), if_pos (okP_iff.mpr ⟨c, c2⟩)]
    · rw [if_neg (fun k => c2 ((h q hq S hS).mp k)), if_neg (fun k => c2 (okP_iff.mp k).2)]
  · rw [if_neg (fun k => c (b.mp k)), if_neg (fun k => c (okP_iff.mp k).1)]
theorem nI_inj7 {a b : Nat} (ha : a < 128) (hb : b < 128) (h : nI a = nI b) : a = b := (nI_eq (by omega) (by omega)).mp h
theorem ways_L {N n T : Nat} {pf ps w : Nat → Nat} {H W : Nat → Int32} (hn : n ≤ 7) (h : AhOk N pf ps H) (hT : T < 2 ^ n) (hW : ∀ S, S < T → W S = nI (w S)) : ∀ (m q fl s : Nat), q + m = n → m < fl → pX0_waysTo_L4 (nI T) H W (nI n) (fun a _ => some a) fl (nI s) (nI q) = some (nI (s + sumL (fun q => if (mB T q && okP N pf ps q (delB T q)) = true then w (delB T q) else 0) (List.range' q m))) := by
  have hT7 := p128 hn hT
  intro m
  induction m with
  | zero =>
    intro q fl s hq hf
    obtain ⟨f, rfl⟩ : ∃ f, fl = f + 1 := ⟨fl - 1, by omega⟩
    rw [pX0_waysTo_L4_s, if_pos (nI_le (by omega) (by omega))]
    rfl
  | succ m ih =>
    intro q fl s hq hf
    obtain ⟨f, rfl⟩ : ∃ f, fl = f + 1 := ⟨fl - 1, by omega⟩
    have e0 : (nI T &&& (((1 : Int32) <<< (nI q &&& 31)) ^^^ (-1))) = nI (delB T q) := air_tab ⟨T, hT7⟩ ⟨q, by omega⟩
    have hd : delB T q < 2 ^ n := del_lt hT
    rw [pX0_waysTo_L4_s, if_neg (nI_ge (by omega) (by omega)), e0, List.range'_succ, show nI q + (1 : Int32) = nI (q + 1) from nI_1 q]
    simp only [jn]
    show _ = some (nI (s + ((if (mB T q && okP N pf ps q (delB T q)) = true then w (delB T q) else 0) + sumL (fun q => if (mB T q && okP N pf ps q (delB T q)) = true then w (delB T q) else 0) (List.range' (q + 1) m))))
    by_cases c : mB T q = true
    · have d1 := del_tab ⟨T, hT7⟩ ⟨q, by omega⟩ c
      have d1 : mB (delB T q) q = false ∧ insB (delB T q) q = T ∧ pcB (delB T q) + 1 = pcB T ∧ delB T q < T := d1
      rw [if_neg (fun k => by have := nI_inj7 (p128 hn hd) hT7 k; omega), mf_c h (by omega) (p128 hn hd), Option.bind_some, c, Bool.true_and]
      by_cases c2 : okP N pf ps q (delB T q) = true
      · rw [if_pos c2, if_pos c2, if_neg (show ¬ (1 : Int32) = 0 by decide), ga_nI (p128 hn hd) (by decide), Option.bind_some, hW _ d1.2.2.2, nI_add, ih (q + 1) f _ (by omega) (by omega), Nat.add_assoc]
      · rw [if_neg c2, if_neg c2, if_pos rfl, ih (q + 1) f _ (by omega) (by omega), Nat.zero_add]
    · have c' : mB T q = false := (Bool.not_eq_true _).mp c
      have d2 : delB T q = T := (bit_tab ⟨T, hT7⟩ ⟨q, by omega⟩).2.2 c'
      rw [if_pos (by rw [d2]), c', Bool.false_and, if_neg (show ¬ false = true by decide), ih (q + 1) f _ (by omega) (by omega), Nat.zero_add]
theorem pc_tab : ∀ T : Fin 128, (T.val ≠ 0 → pcB T.val ≠ 0) ∧ pcB T.val ≤ 7 := by decide +kernel
theorem pcall_tab : ∀ n : Fin 8, pcB (2 ^ n.val - 1) = n.val ∧ ((1 : Int32) <<< (nI n.val &&& 31)) - 1 = nI (2 ^ n.val - 1) ∧ 2 ^ n.val ≤ 128 ∧ 1 ≤ 2 ^ n.val := by decide +kernel
def wW (n : Nat) (ok : Nat → Nat → Bool) (T : Nat) : Nat := MP n ok (pcB T) 0 T
theorem wW_step {n T : Nat} {ok : Nat → Nat → Bool} (hn : n ≤ 7) (hok : okOk ok) (hT : T < 2 ^ n) (h0 : T ≠ 0) : sumL (fun q => if (mB T q && ok q (delB T q)) = true then wW n ok (delB T q) else 0) (List.range n) = wW n ok T := by
  have hT7 := p128 hn hT
  have hp := (pc_tab ⟨T, hT7⟩).1 h0
  have hp : pcB T ≠ 0 := hp
  unfold wW
  obtain ⟨m, em⟩ : ∃ m, pcB T = m + 1 := ⟨pcB T - 1, by omega⟩
  rw [em, MP_back hn hok m 0 T (Nat.pow_pos (by decide)) hT]
  refine sumL_congr _ (fun q hq => ?_)
  have hq := List.mem_range.mp hq
  by_cases c : (mB T q && ok q (delB T q)) = true
  · have c1 : mB T q = true := (Bool.and_eq_true _ _ ▸ c).1
    have d1 := del_tab ⟨T, hT7⟩ ⟨q, by omega⟩ c1
    have d1 : mB (delB T q) q = false ∧ insB (delB T q) q = T ∧ pcB (delB T q) + 1 = pcB T ∧ delB T q < T := d1
    rw [if_pos c, if_pos c, show pcB (delB T q) = m by omega]
  · rw [if_neg c, if_neg c]
theorem many_L {N n : Nat} {pf ps : Nat → Nat} {H : Nat → Int32} (hn : n ≤ 7) (h : AhOk N pf ps H) (hok : okOk (okP N pf ps)) (K : Int32 → (Nat → Int32) → Option (Int32 × (Nat → Int32))) : ∀ (m T fl : Nat) (W : Nat → Int32), T + m = 2 ^ n → m < fl → 1 ≤ T → (∀ S, S < T → W S = nI (wW n (okP N pf ps) S)) → ∃ W', pX0_howMany_L18 (nI (2 ^ n - 1)) H (nI n) K fl (nI T) W = K (nI (2 ^ n)) W' ∧ ∀ S, S < 2 ^ n → W' S = nI (wW n (okP N pf ps) S) := by
  have pa := pcall_tab ⟨n, by omega⟩
  have pa : pcB (2 ^ n - 1) = n ∧ ((1 : Int32) <<< (nI n &&& 31)) - 1 = nI (2 ^ n - 1) ∧ 2 ^ n ≤ 128 ∧ 1 ≤ 2 ^ n := pa
  intro m
  induction m with
  | zero =>
    intro T fl W hT hf h1 hW
    obtain ⟨f, rfl⟩ : ∃ f, fl = f + 1 := ⟨fl - 1, by omega⟩
    obtain rfl : T = 2 ^ n := by omega
    rw [pX0_howMany_L18_s, if_pos (nI_lt (by omega) (by omega))]
    exact ⟨W, rfl, hW⟩
  | succ m ih =>
    intro T fl W hT hf h1 hW
    obtain ⟨f, rfl⟩ : ∃ f, fl = f + 1 := ⟨fl - 1, by omega⟩
    have wl := ways_L hn h (show T < 2 ^ n by omega) hW n 0 fu 0 (by omega) (by unfold fu; omega)
    rw [Nat.zero_add, ← List.range_eq_range', wW_step hn hok (by omega) (by omega), show nI 0 = (0 : Int32) from rfl] at wl
    rw [pX0_howMany_L18_s, if_neg (nI_nlt (by omega) (by omega))]
    unfold pX0_waysTo
    rw [wl, Option.bind_some, sa_nI (by omega) (by decide), Option.bind_some, show nI T + (1 : Int32) = nI (T + 1) from nI_1 T]
    refine ih (T + 1) f _ (by omega) (by omega) (by omega) (fun S hS => ?_)
    by_cases e : S = T
    · subst e; exact upd_at _ _ _
    · rw [upd_ne e]; exact hW S (by omega)
theorem many_c {N n : Nat} {pf ps : Nat → Nat} {H : Nat → Int32} (hn : n ≤ 7) (h : AhOk N pf ps H) (hok : okOk (okP N pf ps)) (W0 : Nat → Int32) : ∃ W', pX0_howMany H W0 (nI n) = some (nI (MP n (okP N pf ps) n 0 (2 ^ n - 1)), W') := by
  have pa := pcall_tab ⟨n, by omega⟩
  have pa : pcB (2 ^ n - 1) = n ∧ ((1 : Int32) <<< (nI n &&& 31)) - 1 = nI (2 ^ n - 1) ∧ 2 ^ n ≤ 128 ∧ 1 ≤ 2 ^ n := pa
  unfold pX0_howMany
  rw [show (0 : Int32) = nI 0 from rfl, sa_nI (by decide) (by decide), Option.bind_some, pa.2.1]
  obtain ⟨W', e1, e2⟩ := many_L hn h hok (fun (k4_v2 : Int32) (k4_w_o_ways : Nat → Int32) => (ga k4_w_o_ways 128 (nI (2 ^ n - 1))).bind fun x5 => some ((x5, k4_w_o_ways))) (2 ^ n - 1) 1 fu (upd W0 0 1) (by omega) (by unfold fu; omega) (Nat.le_refl 1) (fun S hS => by
    obtain rfl : S = 0 := by omega
    rw [upd_at]
    rfl)
  rw [show nI 1 = (1 : Int32) from rfl] at e1
  rw [e1, ga_nI (by omega) (by decide), Option.bind_some, e2 _ (by omega)]
  unfold wW
  rw [pa.1]
  exact ⟨W', rfl⟩
theorem least_L {N n S : Nat} {pf ps : Nat → Nat} {H : Nat → Int32} (hn : n ≤ 7) (h : AhOk N pf ps H) (hS : S < 128) : ∀ (m q fl : Nat), q + m = n → m < fl → pX0_leastThatMayFollow_L2 (nI S) H (nI n) (fun _ => some (-9)) fl (nI q) = some (match fiL (fun q => if okP N pf ps q S = true then some q else none) (List.range' q m) with | some v => nI v | none => -9) := by
  intro m
  induction m with
  | zero =>
    intro q fl hq hf
    obtain ⟨f, rfl⟩ : ∃ f, fl = f + 1 := ⟨fl - 1, by omega⟩
    rw [pX0_leastThatMayFollow_L2_s, if_pos (nI_le (by omega) (by omega))]
    rfl
  | succ m ih =>
    intro q fl hq hf
    obtain ⟨f, rfl⟩ : ∃ f, fl = f + 1 := ⟨fl - 1, by omega⟩
    rw [pX0_leastThatMayFollow_L2_s, if_neg (nI_ge (by omega) (by omega)), mf_c h (by omega) hS, Option.bind_some, show nI q + (1 : Int32) = nI (q + 1) from nI_1 q, List.range'_succ]
    show _ = some (match (match (if okP N pf ps q S = true then some q else none) with | some v => some v | none => fiL (fun q => if okP N pf ps q S = true then some q else none) (List.range' (q + 1) m)) with | some v => nI v | none => -9)
    by_cases c : okP N pf ps q S = true
    · rw [if_pos c, if_pos c, if_neg (show ¬ (1 : Int32) = 0 by decide)]
    · rw [if_neg c, if_neg c, if_pos rfl]
      exact ih (q + 1) f (by omega) (by omega)
theorem fiL_lt {p : Nat → Bool} {v : Nat} : ∀ l : List Nat, fiL (fun q => if p q = true then some q else none) l = some v → v ∈ l := by
  intro l
  induction l with
  | nil => intro h; cases h
  | cons q l ih =>
    intro h
    have h : (match (if p q = true then some q else none) with | some v => some v | none => fiL (fun q => if p q = true then some q else none) l) = some v := h
    by_cases c : p q = true
    · rw [if_pos c] at h
      cases h
      exact List.mem_cons_self ..
    · rw [if_neg c] at h
      exact List.mem_cons_of_mem _ (ih h)
theorem first_L {N n place : Nat} {pf ps : Nat → Nat} {H W : Nat → Int32} (hn : n ≤ 7) (h : AhOk N pf ps H) (hp : place < 7) : ∀ (j S at' fl v : Nat) (lt : Int32), at' + j = place → j + 1 < fl → S < 2 ^ n → grd n (okP N pf ps) j S = some v → pX0_firstAt_L26 (nI place) H W (nI n) (fun _ x _ => some (x, W)) fl (nI S) lt (nI at') = some (nI v, W) := by
  intro j
  induction j with
  | zero =>
    intro S at' fl v lt ha hf hS hg
    obtain ⟨f, rfl⟩ : ∃ f, fl = f + 2 := ⟨fl - 2, by omega⟩
    have hl := least_L hn h (p128 hn hS) n 0 fu (by omega) (by unfold fu; omega)
    rw [← List.range_eq_range', show fiL (fun q => if okP N pf ps q S = true then some q else none) (List.range n) = some v from hg, show nI 0 = (0 : Int32) from rfl] at hl
    have hv : v < n := List.mem_range.mp (fiL_lt _ hg)
    rw [show f + 2 = (f + 1) + 1 from rfl, pX0_firstAt_L26_s, if_neg (nI_nlt (by omega) (by omega))]
    unfold pX0_leastThatMayFollow
    rw [hl, Option.bind_some]
    show (if nI v = (-9 : Int32) then _ else _) = _
    rw [if_neg (m9_nI (by omega)), show nI at' + (1 : Int32) = nI (at' + 1) from nI_1 at', pX0_firstAt_L26_s, if_pos (nI_lt (by omega) (by omega))]
  | succ j ih =>
    intro S at' fl v lt ha hf hS hg
    obtain ⟨f, rfl⟩ : ∃ f, fl = f + 1 := ⟨fl - 1, by omega⟩
    have hg : (least n (okP N pf ps) S).bind (fun q => grd n (okP N pf ps) j (insB S q)) = some v := hg
    cases hq : least n (okP N pf ps) S with
    | none => rw [hq] at hg; cases hg
    | some q =>
      rw [hq, Option.bind_some] at hg
      have hl := least_L hn h (p128 hn hS) n 0 fu (by omega) (by unfold fu; omega)
      rw [← List.range_eq_range', show fiL (fun q => if okP N pf ps q S = true then some q else none) (List.range n) = some q from hq, show nI 0 = (0 : Int32) from rfl] at hl
      have hv : q < n := List.mem_range.mp (fiL_lt _ hq)
      rw [pX0_firstAt_L26_s, if_neg (nI_nlt (by omega) (by omega))]
      unfold pX0_leastThatMayFollow
      rw [hl, Option.bind_some]
      show (if nI q = (-9 : Int32) then _ else _) = _
      have so : (nI S ||| ((1 : Int32) <<< (nI q &&& 31))) = nI (insB S q) := soak_tab ⟨S, p128 hn hS⟩ ⟨q, by omega⟩
      rw [if_neg (m9_nI (by omega)), show nI at' + (1 : Int32) = nI (at' + 1) from nI_1 at']
      show pX0_firstAt_L26 (nI place) H W (nI n) (fun _ x _ => some (x, W)) f (nI S ||| ((1 : Int32) <<< (nI q &&& 31))) (nI q) (nI (at' + 1)) = _
      rw [so]
      exact ih (insB S q) (at' + 1) f v (nI q) (by omega) (by omega) (ins_lt hS hv) hg
theorem nth_L {U : Nat} (hU : U < 128) (K : Int32 → Int32 → Option ((Nat → Int32) × (Nat → Int32))) : ∀ (m q s fl : Nat), q + m = 7 → m < fl → s < 2 ^ 31 → nthF U m q s < 7 → pX8_rowOf_L39 (nI U) K fl (nI s) (nI q) = K 0 (nI (nthF U m q s)) := by
  intro m
  induction m with
  | zero =>
    intro q s fl hq hf hs h
    exact absurd h (by show ¬ q < 7; omega)
  | succ m ih =>
    intro q s fl hq hf hs h
    obtain ⟨f, rfl⟩ : ∃ f, fl = f + 1 := ⟨fl - 1, by omega⟩
    have b := (bit_tab ⟨U, hU⟩ ⟨q, by omega⟩).2.1
    have b : pX4_isWet (nI U) (nI q) = 0 ↔ mB U q = false := b
    rw [pX8_rowOf_L39_s]
    simp only [jn]
    rw [isOf_wet, show nI q + (1 : Int32) = nI (q + 1) from nI_1 q]
    unfold nthF at h ⊢
    by_cases c : mB U q = true
    · rw [if_pos c] at h ⊢
      have nb : ¬ pX4_isWet (nI U) (nI q) = 0 := fun k => by rw [b.mp k] at c; cases c
      rw [if_neg nb, if_neg nb, show nI s - (0 : Int32) = nI s from pk_sub (a := s) (b := 0) (by omega)]
      exact ih (q + 1) s f (by omega) (by omega) hs h
    · rw [if_neg c] at h ⊢
      have pb := b.mpr ((Bool.not_eq_true _).mp c)
      rw [if_pos pb, if_pos pb]
      by_cases c2 : s = 0
      · subst c2
        rw [if_pos rfl, if_pos (show nI 0 ≤ (0 : Int32) by decide)]
        rfl
      · rw [if_neg c2] at h ⊢
        rw [if_neg (show ¬ nI s ≤ (0 : Int32) from nI_ge (a := 0) (by omega) hs), show nI s - (1 : Int32) = nI (s - 1) from pk_sub (a := s) (b := 1) (by omega)]
        exact ih (q + 1) (s - 1) f (by omega) (by omega) (by omega) h
theorem fac_tab : ∀ m : Fin 8, fac m.val ≤ 5040 := by decide +kernel
theorem fac_b {m : Nat} (h : m ≤ 7) : fac m ≤ 5040 := fac_tab ⟨m, by omega⟩
theorem rowp_L {N n : Nat} {pf ps : Nat → Nat} (hn : n ≤ 7) (hpf : ∀ i, i < N → pf i < n) (hps : ∀ i, i < N → ps i < n) : ∀ (m k U y fl : Nat) (sc : Int32) (row place : Nat → Int32), k + m = n → m < fl → U < 2 ^ n → pcB U = k → y < fac m → (m ≠ 0 → sc = nI (fac (m - 1))) → (∀ q, q < n → mB U q = true → ∃ p, p < k ∧ place q = nI p) → ∃ row' place', pX8_rowOf_L18 (nI n) (fun _ _ _ _ a b => some (a, b)) fl (nI y) sc (nI U) (nI k) row place = some (row', place') ∧ (∀ i, i < m → row' (k + i) = nI (pkA m U y i)) ∧ (∀ i, i < k → row' i = row i) ∧ (∀ q, q < n → mB U q = true → place' q = place q) ∧ (∀ q, q < n → mB U q = false → ∃ p, k ≤ p ∧ p < n ∧ place' q = nI p) ∧ (vld (okP N pf ps) m U y = true ↔ ∀ i, i < N → mB U (ps i) = false → place' (pf i) < place' (ps i)) := by
  intro m
  induction m with
  | zero =>
    intro k U y fl sc row place hk hf hU hp hy hs hpl
    obtain ⟨f, rfl⟩ : ∃ f, fl = f + 1 := ⟨fl - 1, by omega⟩
    rw [pX8_rowOf_L18_s, if_pos (nI_le (by omega) (by omega))]
    have e := all_tab ⟨n, by omega⟩ ⟨U, p128 hn hU⟩ hU
    have e1 := e.1 (show pcB U = n by omega)
    have e1 : U = 2 ^ n - 1 := e1
    have a1 : ∀ q, q < n → mB U q = true := fun q hq => by rw [e1]; exact e.2 ⟨q, by omega⟩ hq
    refine ⟨row, place, rfl, fun i hi => by omega, fun _ _ => rfl, fun _ _ _ => rfl, fun q hq h => ?_, ?_⟩
    · rw [a1 q hq] at h; cases h
    · refine ⟨fun _ i hi h => ?_, fun _ => rfl⟩
      rw [a1 _ (hps i hi)] at h; cases h
  | succ m ih =>
    intro k U y fl sc row place hk hf hU hp hy hs hpl
    obtain ⟨f, rfl⟩ : ∃ f, fl = f + 1 := ⟨fl - 1, by omega⟩
    have hs := hs (by omega)
    rw [show m + 1 - 1 = m by omega] at hs
    subst hs
    have fp := fac_pos m
    have fb := fac_b (show m ≤ 7 by omega)
    have fb1 := fac_b (show m + 1 ≤ 7 by omega)
    have hU7 := p128 hn hU
    have hs : y / fac m < m + 1 := (Nat.div_lt_iff_lt_mul fp).mpr hy
    have nl := nth_lt ⟨n, by omega⟩ ⟨U, hU7⟩ hU ⟨y / fac m, by omega⟩ (show y / fac m < n - pcB U by omega)
    have nl : nth U (y / fac m) < n ∧ mB U (nth U (y / fac m)) = false := nl
    generalize hq0 : nth U (y / fac m) = q0 at nl
    obtain ⟨nl1, nl2⟩ := nl
    have i1 := ins_tab ⟨U, hU7⟩ ⟨q0, by omega⟩ nl2
    have i1 : mB (insB U q0) q0 = true ∧ delB (insB U q0) q0 = U ∧ pcB (insB U q0) = pcB U + 1 := i1
    have mi : ∀ x, x < 7 → mB (insB U q0) x = (decide (x = q0) || mB U x) := fun x hx => (mem_tab ⟨U, hU7⟩ ⟨q0, by omega⟩ ⟨x, hx⟩).1
    have so : (nI U ||| ((1 : Int32) <<< (nI q0 &&& 31))) = nI (insB U q0) := soak_tab ⟨U, hU7⟩ ⟨q0, by omega⟩
    have n0 : ¬ nI (fac m) = (0 : Int32) := fun e => by have := (nI_eq (a := fac m) (b := 0) (by omega) (by decide)).mp e; omega
    have dv : dvq (nI y) (nI (fac m)) = some (nI (y / fac m)) := by
      unfold dvq
      rw [if_neg n0, pk_div (by omega) fp (by omega)]
    have rm : rmq (nI y) (nI (fac m)) = some (nI (y % fac m)) := by
      unfold rmq
      rw [if_neg n0, pk_rem (by omega) fp (by omega)]
    have sub : nI n - nI k - (1 : Int32) = nI m := by
      rw [pk_sub (by omega), show nI (n - k) - (1 : Int32) = nI (n - k - 1) from pk_sub (a := n - k) (b := 1) (by omega), show n - k - 1 = m by omega]
    obtain ⟨sc', hsc, esc⟩ : ∃ sc', (m ≠ 0 → sc' = nI (fac (m - 1))) ∧ ∀ J : Int32 → Option ((Nat → Int32) × (Nat → Int32)), (if nI m ≤ (1 : Int32) then J 1 else (dvq (nI (fac m)) (nI m)).bind fun z10 => J z10) = J sc' := by
      by_cases c : m ≤ 1
      · refine ⟨1, fun h => ?_, fun J => by rw [if_pos (show nI m ≤ (1 : Int32) from nI_le (b := 1) c (by decide))]⟩
        obtain rfl : m = 1 := by omega
        rfl
      · refine ⟨nI (fac (m - 1)), fun _ => rfl, fun J => ?_⟩
        have nm : ¬ nI m = (0 : Int32) := fun e => by have := (nI_eq (a := m) (b := 0) (by omega) (by decide)).mp e; omega
        have fe : fac m / m = fac (m - 1) := by
          obtain ⟨m', rfl⟩ : ∃ m', m = m' + 1 := ⟨m - 1, by omega⟩
          show (m' + 1) * fac m' / (m' + 1) = fac (m' + 1 - 1)
          rw [Nat.mul_div_cancel_left _ (by omega)]
          rfl
        unfold dvq
        rw [if_neg (show ¬ nI m ≤ (1 : Int32) from nI_ge (a := 1) (by omega) (by omega)), if_neg nm, pk_div (by omega) (by omega) (by omega), fe, Option.bind_some]
    obtain ⟨row', place', r1, r2, r3, r4, r5, r6⟩ := ih (k + 1) (insB U q0) (y % fac m) f sc' (upd row k (nI q0)) (upd place q0 (nI k)) (by omega) (by omega) (ins_lt hU nl1) (by omega) (Nat.mod_lt _ fp) hsc (fun q hq hm => by
      by_cases e : q = q0
      · subst e; exact ⟨k, by omega, upd_at _ _ _⟩
      · rw [mi q (by omega), decide_eq_false e, Bool.false_or] at hm
        obtain ⟨p, hp1, hp2⟩ := hpl q hq hm
        exact ⟨p, by omega, by rw [upd_ne e]; exact hp2⟩)
    have pq0 : place' q0 = nI k := by rw [r4 q0 nl1 i1.1]; exact upd_at _ _ _
    have pin : ∀ q, q < n → mB U q = true → place' q = place q := fun q hq hm => by
      have ne : q ≠ q0 := fun e => by subst e; rw [nl2] at hm; cases hm
      rw [r4 q hq (by rw [mi q (by omega), hm, Bool.or_true]), upd_ne ne]
    have pout : ∀ q, q < n → mB U q = false → ∃ p, k ≤ p ∧ p < n ∧ place' q = nI p := fun q hq hm => by
      by_cases e : q = q0
      · subst e; exact ⟨k, Nat.le_refl k, by omega, pq0⟩
      · obtain ⟨p, h1, h2, h3⟩ := r5 q hq (by rw [mi q (by omega), decide_eq_false e, hm]; rfl)
        exact ⟨p, by omega, h2, h3⟩
    refine ⟨row', place', ?_, fun i hi => ?_, fun i hi => ?_, pin, pout, ?_⟩
    · rw [pX8_rowOf_L18_s, if_neg (nI_ge (by omega) (by omega)), dv, rm, Option.bind_some, Option.bind_some, show (0 : Int32) = nI 0 from rfl]
      rw [nth_L hU7 _ 7 0 (y / fac m) fu (by omega) (by unfold fu; omega) (by omega) (by show nth U (y / fac m) < 7; omega), show nthF U 7 0 (y / fac m) = q0 from hq0, sa_nI (by omega) (by decide), Option.bind_some, sa_nI (by omega) (by decide), Option.bind_some, sub, so, show nI k + (1 : Int32) = nI (k + 1) from nI_1 k]
      simp only [jn]
      exact (esc (fun z => pX8_rowOf_L18 (nI n) (fun _ _ _ _ a b => some (a, b)) f (nI (y % fac m)) z (nI (insB U q0)) (nI (k + 1)) (upd row k (nI q0)) (upd place q0 (nI k)))).trans r1
    · cases i with
      | zero =>
        rw [Nat.add_zero, r3 k (by omega), upd_at]
        show nI q0 = nI (nth U (y / fac m))
        rw [hq0]
      | succ i =>
        rw [show k + (i + 1) = k + 1 + i by omega, r2 i (by omega)]
        show _ = nI (pkA m (insB U (nth U (y / fac m))) (y % fac m) i)
        rw [hq0]
    · rw [r3 i (by omega), upd_ne (by omega)]
    · show (okP N pf ps (nth U (y / fac m)) U && vld (okP N pf ps) m (insB U (nth U (y / fac m))) (y % fac m)) = true ↔ _
      rw [hq0, Bool.and_eq_true, r6, okP_iff]
      have fi : ∀ f, f < n → (mB U f = true ↔ place' f < nI k) := fun f hf => by
        refine ⟨fun hm => ?_, fun hl => ?_⟩
        · obtain ⟨p, h1, h2⟩ := hpl f hf hm
          rw [pin f hf hm, h2]
          exact nI_lt h1 (by omega)
        · by_cases c : mB U f = true
          · exact c
          · obtain ⟨p, h1, h2, h3⟩ := pout f hf ((Bool.not_eq_true _).mp c)
            rw [h3] at hl
            exact absurd hl (nI_nlt h1 (by omega))
      refine ⟨fun h i hi hm => ?_, fun h => ⟨⟨nl2, fun i hi e => ?_⟩, fun i hi hm => ?_⟩⟩
      · by_cases e : ps i = q0
        · rw [e, pq0]
          exact (fi _ (hpf i hi)).mp (h.1.2 i hi e)
        · exact h.2 i hi (by rw [mi _ (by have := hps i hi; omega), decide_eq_false e, hm]; rfl)
      · have := h i hi (by rw [e]; exact nl2)
        rw [e, pq0] at this
        exact (fi _ (hpf i hi)).mpr this
      · refine h i hi ?_
        rw [mi _ (by have := hps i hi; omega)] at hm
        exact (Bool.or_eq_false_iff.mp hm).2
theorem ahead_L {N n F : Nat} {pf ps : Nat → Nat} {mc place : Nat → Int32} (hn : n ≤ 7) (hF : F + 2 * N ≤ 240) (hpf : ∀ i, i < N → pf i < n) (hps : ∀ i, i < N → ps i < n) (hm : ∀ i, i < N → mc (F + 2 * i) = nI (pf i) ∧ mc (F + 2 * i + 1) = nI (ps i)) : ∀ (m i fl : Nat), i + m = N → m < fl → (pX8_areAhead_L2 (nI F) (nI N) mc place (fun _ => some 1) fl (nI i) = some 1 ∧ ∀ j, i ≤ j → j < N → place (pf j) < place (ps j)) ∨ (pX8_areAhead_L2 (nI F) (nI N) mc place (fun _ => some 1) fl (nI i) = some 0 ∧ ¬ ∀ j, i ≤ j → j < N → place (pf j) < place (ps j)) := by
  intro m
  induction m with
  | zero =>
    intro i fl hi hf
    obtain ⟨f, rfl⟩ : ∃ f, fl = f + 1 := ⟨fl - 1, by omega⟩
    rw [pX8_areAhead_L2_s, if_pos (nI_le (by omega) (by omega))]
    exact Or.inl ⟨rfl, fun j h1 h2 => by omega⟩
  | succ m ih =>
    intro i fl hi hf
    obtain ⟨f, rfl⟩ : ∃ f, fl = f + 1 := ⟨fl - 1, by omega⟩
    obtain ⟨m1, m2⟩ := hm i (by omega)
    have h1 := hpf i (by omega)
    have h2 := hps i (by omega)
    rw [pX8_areAhead_L2_s, if_neg (nI_ge (by omega) (by omega)), c2q, show nI (F + 2 * i) + (1 : Int32) = nI (F + 2 * i + 1) from nI_1 _, ga_nI (by omega) (by decide), Option.bind_some, m1, ga_nI (by omega) (by decide), Option.bind_some, ga_nI (by omega) (by decide), Option.bind_some, m2, ga_nI (by omega) (by decide), Option.bind_some, show nI i + (1 : Int32) = nI (i + 1) from nI_1 i]
    by_cases c : place (pf i) < place (ps i)
    · rw [if_pos c]
      rcases ih (i + 1) f (by omega) (by omega) with ⟨e1, e2⟩ | ⟨e1, e2⟩
      · refine Or.inl ⟨e1, fun j hj1 hj2 => ?_⟩
        by_cases e : j = i
        · subst e; exact c
        · exact e2 j (by omega) hj2
      · exact Or.inr ⟨e1, fun q => e2 (fun j hj1 hj2 => q j (by omega) hj2)⟩
    · rw [if_neg c]
      exact Or.inr ⟨rfl, fun q => c (q i (Nat.le_refl i) (by omega))⟩
theorem ord_tab : ∀ n : Fin 8, pX8_ordersOf (nI n.val) = some (nI (fac n.val)) := by decide +kernel
theorem rowOf_c {N n F : Nat} {pf ps : Nat → Nat} {mc : Nat → Int32} (hn : n ≤ 7) (h1 : 1 ≤ n) (hF : F + 2 * N ≤ 240) (hN : N ≤ 10) (hpf : ∀ i, i < N → pf i < n) (hps : ∀ i, i < N → ps i < n) (hm : ∀ i, i < N → mc (F + 2 * i) = nI (pf i) ∧ mc (F + 2 * i + 1) = nI (ps i)) (row place : Nat → Int32) {y : Nat} (hy : y < fac n) : ∃ row' place', pX8_rowOf (nI n) row place (nI y) = some (row', place') ∧ (∀ i, i < n → row' i = nI (pkA n 0 y i)) ∧ pX8_areAhead mc place' (nI F) (nI N) = some (if vld (okP N pf ps) n 0 y = true then 1 else 0) := by
  have m0 : ∀ q, mB 0 q = false := fun q => Nat.zero_testBit q
  obtain ⟨row', place', r1, r2, r3, r4, r5, r6⟩ := rowp_L hn hpf hps n 0 0 y fu (nI (fac (n - 1))) row place (by omega) (by unfold fu; omega) (Nat.pow_pos (by decide)) rfl hy (fun _ => rfl) (fun q _ h => by rw [m0] at h; cases h)
  refine ⟨row', place', ?_, fun i hi => ?_, ?_⟩
  · unfold pX8_rowOf
    have o := ord_tab ⟨n - 1, by omega⟩
    have o : pX8_ordersOf (nI (n - 1)) = some (nI (fac (n - 1))) := o
    rw [show nI n - (1 : Int32) = nI (n - 1) from pk_sub (a := n) (b := 1) h1, o, Option.bind_some]
    exact r1
  · have := r2 i hi
    rwa [Nat.zero_add] at this
  · unfold pX8_areAhead
    rcases ahead_L (place := place') hn hF hpf hps hm N 0 fu (by omega) (by unfold fu; omega) with ⟨e1, e2⟩ | ⟨e1, e2⟩
    · rw [show (0 : Int32) = nI 0 from rfl, e1, if_pos (r6.mpr (fun i hi _ => e2 i (Nat.zero_le _) hi))]
    · rw [show (0 : Int32) = nI 0 from rfl, e1, if_neg (fun k => e2 (fun j _ hj => r6.mp k j hj (m0 _)))]
      rfl
def isF (sl : Bool) (P : Nat → Bool) (f : Nat → Nat) (l x c : Nat) (is : Int32) : Int32 := if c = 0 ∧ sl = true then (match fsv P f l x with | some v => nI v | none => is) else is
theorem enum_L {N n F : Nat} {pf ps f : Nat → Nat} {mc : Nat → Int32} {p5 : Int32} {sl : Bool} (hn : n ≤ 7) (h1 : 1 ≤ n) (hF : F + 2 * N ≤ 240) (hN : N ≤ 10) (hpf : ∀ i, i < N → pf i < n) (hps : ∀ i, i < N → ps i < n) (hm : ∀ i, i < N → mc (F + 2 * i) = nI (pf i) ∧ mc (F + 2 * i + 1) = nI (ps i)) (hsl : (sl = false ∧ pX4_has (nI n) p5 = 0) ∨ (sl = true ∧ pX4_has (nI n) p5 = 1 ∧ ∃ kk, kk < n ∧ p5 = nI kk ∧ ∀ y, f y = pkA n 0 y kk)) (K : Int32 → Int32 → Int32 → (Nat → Int32) → (Nat → Int32) → Option (Int32 × Int32 × (Nat → Int32) × (Nat → Int32))) : ∀ (l x fl c : Nat) (is : Int32) (row place : Nat → Int32), x + l = fac n → l < fl → c ≤ x → ∃ row' place', pX8_orders_L136 (nI N) p5 (nI F) mc (nI n) K fl (nI c) is (nI x) row place = K (nI (c + cntR (vld (okP N pf ps) n 0) l x)) (isF sl (vld (okP N pf ps) n 0) f l x c is) (nI (fac n)) row' place' := by
  have fb := fac_b hn
  have o := ord_tab ⟨n, by omega⟩
  have o : pX8_ordersOf (nI n) = some (nI (fac n)) := o
  intro l
  induction l with
  | zero =>
    intro x fl c is row place hx hf hc
    obtain ⟨f', rfl⟩ : ∃ f, fl = f + 1 := ⟨fl - 1, by omega⟩
    obtain rfl : x = fac n := by omega
    rw [pX8_orders_L136_s, o, Option.bind_some, if_pos (nI_le (Nat.le_refl _) (by omega))]
    refine ⟨row, place, ?_⟩
    have e : isF sl (vld (okP N pf ps) n 0) f 0 (fac n) c is = is := by
      unfold isF fsv
      split <;> rfl
    rw [e]
    rfl
  | succ l ih =>
    intro x fl c is row place hx hf hc
    obtain ⟨f', rfl⟩ : ∃ f, fl = f + 1 := ⟨fl - 1, by omega⟩
    obtain ⟨row', place', r1, r2, r3⟩ := rowOf_c hn h1 hF hN hpf hps hm row place (show x < fac n by omega)
    rw [pX8_orders_L136_s, o, Option.bind_some, if_neg (nI_ge (by omega) (by omega)), r1, Option.bind_some, r3, Option.bind_some, show nI x + (1 : Int32) = nI (x + 1) from nI_1 x, show nI c + (1 : Int32) = nI (c + 1) from nI_1 c, isSlip_has]
    simp only [jn]
    show ∃ row'' place'', _ = K (nI (c + ((if vld (okP N pf ps) n 0 x = true then 1 else 0) + cntR (vld (okP N pf ps) n 0) l (x + 1)))) _ _ row'' place''
    by_cases cv : vld (okP N pf ps) n 0 x = true
    · have e1 : c + (1 + cntR (vld (okP N pf ps) n 0) l (x + 1)) = c + 1 + cntR (vld (okP N pf ps) n 0) l (x + 1) := by omega
      have eS : ∀ is', isF sl (vld (okP N pf ps) n 0) f l (x + 1) (c + 1) is' = is' := fun is' => by
        unfold isF
        rw [if_neg (fun k => absurd k.1 (by omega))]
      rw [if_pos cv, if_pos cv, if_neg (show ¬ (1 : Int32) = 0 by decide), e1]
      by_cases c0 : c = 0
      · subst c0
        rw [if_pos (show nI 0 = (0 : Int32) from rfl)]
        rcases hsl with ⟨s1, s2⟩ | ⟨s1, s2, kk, hkk, s3, s4⟩
        · rw [if_pos s2]
          have e2 : isF sl (vld (okP N pf ps) n 0) f (l + 1) x 0 is = is := by
            unfold isF
            rw [if_neg (fun k => by rw [s1] at k; exact absurd k.2 (by decide))]
          rw [e2]
          have := ih (x + 1) f' (0 + 1) is row' place' (by omega) (by omega) (by omega)
          rw [eS] at this
          exact this
        · rw [if_neg (one_ne s2), s3, ga_nI (by omega) (by decide), Option.bind_some, r2 kk hkk]
          have e2 : isF sl (vld (okP N pf ps) n 0) f (l + 1) x 0 is = nI (pkA n 0 x kk) := by
            unfold isF fsv
            rw [if_pos ⟨rfl, s1⟩, if_pos cv, s4]
          rw [e2]
          have := ih (x + 1) f' (0 + 1) (nI (pkA n 0 x kk)) row' place' (by omega) (by omega) (by omega)
          rw [eS] at this
          rw [s3] at this
          exact this
      · have nc : ¬ nI c = (0 : Int32) := fun e => c0 ((nI_eq (a := c) (b := 0) (by omega) (by decide)).mp e)
        rw [if_neg nc]
        have e2 : isF sl (vld (okP N pf ps) n 0) f (l + 1) x c is = is := by
          unfold isF
          rw [if_neg (fun k => c0 k.1)]
        rw [e2]
        have := ih (x + 1) f' (c + 1) is row' place' (by omega) (by omega) (by omega)
        rw [eS] at this
        exact this
    · rw [if_neg cv, if_neg cv, if_pos rfl, Nat.zero_add]
      have e2 : isF sl (vld (okP N pf ps) n 0) f (l + 1) x c is = isF sl (vld (okP N pf ps) n 0) f l (x + 1) c is := by
        unfold isF
        rw [show fsv (vld (okP N pf ps) n 0) f (l + 1) x = fsv (vld (okP N pf ps) n 0) f l (x + 1) from if_neg cv]
      rw [e2]
      exact ih (x + 1) f' c is row' place' (by omega) (by omega) (by omega)
theorem begin_L (K : Int32 → (Nat → Int32) → Option ((Nat → Int32) × Int32)) : ∀ (m i fl : Nat) (f : Nat → Int32), i + m = 7 → m < fl → (∀ x, x < i → f x = 0) → ∃ g, pX0_begin_L7 K fl (nI i) f = K (nI 7) g ∧ ∀ x, x < 7 → g x = 0 := by
  intro m
  induction m with
  | zero =>
    intro i fl f hi hf hx
    obtain ⟨fl', rfl⟩ : ∃ x, fl = x + 1 := ⟨fl - 1, by omega⟩
    obtain rfl : i = 7 := by omega
    refine ⟨f, ?_, hx⟩
    rw [pX0_begin_L7_s, if_pos (show (7 : Int32) ≤ nI 7 from nI_le (a := 7) (Nat.le_refl 7) (by decide))]
  | succ m ih =>
    intro i fl f hi hf hx
    obtain ⟨fl', rfl⟩ : ∃ x, fl = x + 1 := ⟨fl - 1, by omega⟩
    obtain ⟨g, h1, h2⟩ := ih (i + 1) fl' (upd f i 0) (by omega) (by omega) (fun x hx2 => by
      by_cases e : x = i
      · subst e; exact upd_at _ _ _
      · rw [upd_ne e]; exact hx x (by omega))
    refine ⟨g, ?_, h2⟩
    rw [pX0_begin_L7_s, if_neg (show ¬ (7 : Int32) ≤ nI i from nI_ge (b := 7) (by omega) (by decide)), sa_nI (by omega) (by decide), Option.bind_some, show nI i + (1 : Int32) = nI (i + 1) from nI_1 i, h1]
theorem begin_c (H0 : Nat → Int32) (c0 c : Int32) : ∃ g, pX0_begin H0 c0 c = some (g, c) ∧ ∀ x, x < 7 → g x = 0 := by
  unfold pX0_begin
  obtain ⟨g, h1, h2⟩ := begin_L (fun _ a => some ((a, c))) 7 0 fu H0 (by omega) (by unfold fu; omega) (fun x h => by omega)
  exact ⟨g, h1, h2⟩
def pfOf (a : Nat) (c : Nat → Int32) (i : Nat) : Nat := (c (a + 2 * i)).toNatClampNeg
def psOf (a : Nat) (c : Nat → Int32) (i : Nat) : Nat := (c (a + 2 * i + 1)).toNatClampNeg
theorem twos_L {n a N F : Nat} {c mc : Nat → Int32} (hn : n ≤ 7) (ha : a + 2 * N ≤ 60) (hF : F + 2 * N ≤ 240) (hc : ∀ x, x < 2 * N → c (a + x) = mc (F + x)) (W : Nat → Int32) (oc : Int32) (row place : Nat → Int32) (K1 : Int32 → (Nat → Int32) → Option (Int32 × Int32 × (Nat → Int32) × (Nat → Int32) × Int32)) (K2 : Int32 → Option (Int32 × Int32 × (Nat → Int32) × (Nat → Int32))) : ∀ (m q fl fl2 : Nat) (H : Nat → Int32), q + m = N → m < fl → 2 * m < fl2 → AhOk q (pfOf a c) (psOf a c) H → (∃ H', pX7_orders_L112 (nI a) (nI N) 0 c (nI n) W oc K1 fl (nI q) H = some (-1, 0, H', W, oc) ∧ pX8_orders_L92 (nI N) (nI F) 0 mc (nI n) row place K2 fl2 (nI (2 * q)) = some (-1, 0, row, place)) ∨ ∃ H', pX7_orders_L112 (nI a) (nI N) 0 c (nI n) W oc K1 fl (nI q) H = K1 (nI N) H' ∧ pX8_orders_L92 (nI N) (nI F) 0 mc (nI n) row place K2 fl2 (nI (2 * q)) = K2 (nI (2 * N)) ∧ AhOk N (pfOf a c) (psOf a c) H' ∧ ∀ i, q ≤ i → i < N → pfOf a c i < n ∧ psOf a c i < n ∧ c (a + 2 * i) = nI (pfOf a c i) ∧ c (a + 2 * i + 1) = nI (psOf a c i) := by
  have e2 : (2 : Int32) * nI N = nI (2 * N) := pk_mul 2 N
  intro m
  induction m with
  | zero =>
    intro q fl fl2 H hq hf hf2 hH
    obtain ⟨f, rfl⟩ : ∃ f, fl = f + 1 := ⟨fl - 1, by omega⟩
    obtain ⟨f2, rfl⟩ : ∃ f, fl2 = f + 1 := ⟨fl2 - 1, by omega⟩
    obtain rfl : q = N := by omega
    right
    rw [pX7_orders_L112_s, pX8_orders_L92_s, e2, if_pos (nI_le (Nat.le_refl q) (by omega)), if_pos (nI_le (Nat.le_refl _) (by omega))]
    exact ⟨H, rfl, rfl, hH, fun i h1 h2 => by omega⟩
  | succ m ih =>
    intro q fl fl2 H hq hf hf2 hH
    obtain ⟨f, rfl⟩ : ∃ f, fl = f + 1 := ⟨fl - 1, by omega⟩
    obtain ⟨f2, rfl⟩ : ∃ f, fl2 = f + 2 := ⟨fl2 - 2, by omega⟩
    have x1 := hc (2 * q) (by omega)
    have x2 := hc (2 * q + 1) (by omega)
    rw [← Nat.add_assoc, ← Nat.add_assoc] at x2
    rw [pX7_orders_L112_s, show f2 + 2 = (f2 + 1) + 1 from rfl, pX8_orders_L92_s, e2, if_neg (nI_ge (by omega) (by omega)), if_neg (nI_ge (show 2 * q < 2 * N by omega) (by omega)), c2q, show nI (a + 2 * q) + (1 : Int32) = nI (a + 2 * q + 1) from nI_1 _, nI_add, ga_nI (by omega) (by decide), ga_nI (by omega) (by decide), ga_nI (by omega) (by decide), Option.bind_some, Option.bind_some, Option.bind_some, show nI q + (1 : Int32) = nI (q + 1) from nI_1 q, show nI (2 * q) + (1 : Int32) = nI (2 * q + 1) from nI_1 _, ← x1, isSlip_has]
    rcases has_nI n (by omega) (c (a + 2 * q)) with ⟨k0, -⟩ | ⟨j, hj, ej, k1⟩
    · left
      rw [if_pos k0, if_pos k0]
      exact ⟨H, rfl, rfl⟩
    rw [if_neg (one_ne k1), if_neg (one_ne k1), pX8_orders_L92_s, e2, if_neg (nI_ge (show 2 * q + 1 < 2 * N by omega) (by omega)), nI_add, ← Nat.add_assoc, ga_nI (by omega) (by decide), Option.bind_some, show nI (2 * q + 1) + (1 : Int32) = nI (2 * (q + 1)) from nI_s1 (by omega), ← x2, isSlip_has]
    rcases has_nI n (by omega) (c (a + 2 * q + 1)) with ⟨l0, -⟩ | ⟨i, hi, ei, l1⟩
    · left
      rw [if_pos l0, if_pos l0]
      exact ⟨H, rfl, rfl⟩
    rw [if_neg (one_ne l1), if_neg (one_ne l1)]
    have pj : pfOf a c q = j := by unfold pfOf; rw [ej, nI_clamp (by omega)]
    have pi : psOf a c q = i := by unfold psOf; rw [ei, nI_clamp (by omega)]
    have hH' := hH.step (by rw [pj]; omega)
    rw [pj, pi] at hH'
    unfold pX0_putAhead
    rw [ej, ei, ga_nI (by omega) (by decide), Option.bind_some, sa_nI (by omega) (by decide), Option.bind_some, Option.bind_some]
    rcases ih (q + 1) f f2 _ (by omega) (by omega) (by omega) hH' with h | ⟨H', r1, r2, r3, r4⟩
    · exact Or.inl h
    · refine Or.inr ⟨H', r1, r2, r3, fun t ht1 ht2 => ?_⟩
      by_cases e : t = q
      · subst e
        rw [pj, pi]
        exact ⟨hj, hi, ej, ei⟩
      · exact r4 t (by omega) ht2
set_option maxRecDepth 20000 in
theorem T_orders (flt : Int32) (th : Nat → Int32) (la : Nat → Int32) (le : Nat → Int32) (cf : Nat → Nat → Int32) (kind : Nat → Int32) (page : Nat → Int32) (asked : Nat → Int32) (sees : Nat → Int32) (cnt : Int32) (wet : Int32) (which : Nat → Int32) (leaf : Nat → Int32) (rds : Int32) (f_askedUpTo : Nat → Int32) (f_costs : Nat → Int32) (o_aheadOf : Nat → Int32) (o_ways : Nat → Int32) (o_count : Int32) (sorts : Nat → Int32) (slong : Nat → Int32) (mcells : Nat → Int32) (m_row : Nat → Int32) (m_placeOf : Nat → Int32) (k : Nat) (hk : k < 4) (p1 : Int32) (p2 : Int32) (p3 : Int32) (p4 : Int32) (p5 : Int32) (hr4 : vp_in p1 4 → p1 = nI k) (hI : Inv cnt wet kind page asked sees rds which leaf th la le cf sorts slong mcells f_costs f_askedUpTo) : ∃ (r : Int32) (flt' : Int32) (o_aheadOf' : Nat → Int32) (o_ways' : Nat → Int32) (o_count' : Int32) (m_row' : Nat → Int32) (m_placeOf' : Nat → Int32), pX7_orders flt (cf k) (th k) (la k) (le k) cnt o_aheadOf o_ways o_count p1 p2 p3 p4 p5 = some (r, flt', o_aheadOf', o_ways', o_count') ∧ pX8_orders flt sorts slong mcells cnt m_row m_placeOf p1 p2 p3 p4 p5 = some (r, flt', m_row', m_placeOf') ∧ Inv cnt wet kind page asked sees rds which leaf th la le cf sorts slong mcells f_costs f_askedUpTo := by
  obtain ⟨n, w, r, rfl, rfl, rfl, hB, hR, hW, hT⟩ := hI
  have hn := hB.1
  have hI : Inv (nI n) (nI w) kind page asked sees (nI r) which leaf th la le cf sorts slong mcells f_costs f_askedUpTo := ⟨n, w, r, rfl, rfl, rfl, hB, hR, hW, hT⟩
  unfold pX7_orders pX8_orders
  rw [isSheet_eq, isLane_eq]
  rcases sheet_or p1 with ⟨h0, -⟩ | ⟨h1, hin⟩
  · rw [if_pos h0, if_pos h0]
    exact ⟨_, _, _, _, _, _, _, rfl, rfl, hI⟩
  rw [if_neg (one_ne h1), if_neg (one_ne h1)]
  have e := hr4 hin
  subst e
  by_cases h2 : pX7_isLane p2 = 0
  · rw [if_pos h2, if_pos h2]
    exact ⟨_, _, _, _, _, _, _, rfl, rfl, hI⟩
  rw [if_neg h2, if_neg h2]
  rcases win_or p4 10 (by decide) with ⟨h3, h4⟩ | ⟨N, hN, rfl, h3⟩
  · have h4 : p4 < 0 ∨ (10 : Int32) < p4 := h4
    have h3 : pX8_within p4 0 10 = 0 := h3
    rw [if_pos h3]
    rcases h4 with h4 | h4
    · rw [if_pos h4]
      exact ⟨_, _, _, _, _, _, _, rfl, rfl, hI⟩
    · by_cases h5 : p4 < 0
      · rw [if_pos h5]
        exact ⟨_, _, _, _, _, _, _, rfl, rfl, hI⟩
      · rw [if_neg h5, if_pos h4]
        exact ⟨_, _, _, _, _, _, _, rfl, rfl, hI⟩
  have h3 : pX8_within (nI N) 0 10 = 1 := h3
  rw [if_neg (one_ne h3), if_neg (nI_pos (by omega)), if_neg (show ¬ (10 : Int32) < nI N from nI_nlt (a := 10) (by omega) (by decide))]
  rcases tree_or p5 with ⟨t1, t2⟩ | ⟨t0, t1, t2, t3⟩
  · rw [if_pos t1]
    rcases t2 with t2 | ⟨t2, t3⟩
    · rw [if_pos t2]
      exact ⟨_, _, _, _, _, _, _, rfl, rfl, hI⟩
    · rw [if_neg t2, if_neg t3]
      exact ⟨_, _, _, _, _, _, _, rfl, rfl, hI⟩
  rw [if_neg t1, if_neg t2, if_pos t3, gx_nI hk (by decide), Option.bind_some, against_eq hk (hW k hk).1, Option.bind_some]
  by_cases c0 : pX2_faultAsLane (th k) (la k) (le k) p2 p3 (2 * nI N) = 0
  · rw [if_pos c0, if_pos c0]
    by_cases n0 : nI n = 0
    · rw [if_pos n0, if_pos n0]
      exact ⟨_, _, _, _, _, _, _, rfl, rfl, hI⟩
    rw [if_neg n0, if_neg n0]
    have n1 : 1 ≤ n := by
      rcases Nat.eq_zero_or_pos n with h | h
      · subst h; exact absurd rfl n0
      · exact h
    obtain ⟨a, b, rfl, eb, hab, -, -⟩ := fault0 (hW k hk).1 c0
    have eb : b = 2 * N := by
      have eb : nI 2 * nI N = nI b := eb
      rw [pk_mul] at eb
      exact ((nI_eq (by omega) (by omega)).mp eb).symm
    subst eb
    rw [cix]
    have hc : ∀ x, x < 2 * N → cf k (a + x) = mcells (60 * k + a + x) := fun x hx => by
      rw [(hW k hk).2 (a + x) (by omega), Nat.add_assoc]
    obtain ⟨H0, b1, b2⟩ := begin_c o_aheadOf o_count (nI n)
    rw [b1, Option.bind_some]
    have hA0 : AhOk 0 (pfOf a (cf k)) (psOf a (cf k)) H0 := by
      intro s hs S hS
      rw [b2 s hs, Int32.zero_and]
      exact ⟨fun _ i hi => absurd hi (Nat.not_lt_zero _), fun _ => rfl⟩
    rcases twos_L hn (show a + 2 * N ≤ 60 by omega) (show 60 * k + a + 2 * N ≤ 240 by omega) hc o_ways (nI n) m_row m_placeOf (fun (k5_v8 : Int32) (k5_w_o_aheadOf : Nat → Int32) => if p5 = ((-1 : Int32)) then ((pX0_howMany k5_w_o_aheadOf o_ways (nI n)).bind fun z7 => some ((z7.1, (0 : Int32), k5_w_o_aheadOf, z7.2, nI n))) else ((pX0_firstAt k5_w_o_aheadOf o_ways (nI n) p5).bind fun z6 => some ((z6.1, (0 : Int32), k5_w_o_aheadOf, z6.2, nI n)))) (fun (_ : Int32) => pX8_orders_L136 (nI N) p5 (nI (60 * k + a)) mcells (nI n) (fun (k11_v8 : Int32) (k11_v9 : Int32) (k11_v10 : Int32) (k11_w_m_row : Nat → Int32) (k11_w_m_placeOf : Nat → Int32) => if p5 = ((-1 : Int32)) then (some ((k11_v8, (0 : Int32), k11_w_m_row, k11_w_m_placeOf))) else (some ((k11_v9, (0 : Int32), k11_w_m_row, k11_w_m_placeOf)))) fu ((0 : Int32)) ((-9 : Int32)) ((0 : Int32)) m_row m_placeOf) N 0 fu fu H0 (by omega) (by unfold fu; omega) (by unfold fu; omega) hA0 with ⟨H', q1, q2⟩ | ⟨H', q1, q2, hH, q4⟩
    · rw [show nI 0 = (0 : Int32) from rfl] at q1
      rw [show nI (2 * 0) = (0 : Int32) from rfl] at q2
      rw [q1, q2]
      exact ⟨_, _, _, _, _, _, _, rfl, rfl, hI⟩
    rw [show nI 0 = (0 : Int32) from rfl] at q1
    rw [show nI (2 * 0) = (0 : Int32) from rfl] at q2
    rw [q1, q2]
    have hpf : ∀ i, i < N → pfOf a (cf k) i < n := fun i hi => (q4 i (Nat.zero_le _) hi).1
    have hps : ∀ i, i < N → psOf a (cf k) i < n := fun i hi => (q4 i (Nat.zero_le _) hi).2.1
    have hm : ∀ i, i < N → mcells (60 * k + a + 2 * i) = nI (pfOf a (cf k) i) ∧ mcells (60 * k + a + 2 * i + 1) = nI (psOf a (cf k) i) := fun i hi => by
      obtain ⟨-, -, u1, u2⟩ := q4 i (Nat.zero_le _) hi
      have v1 := hc (2 * i) (by omega)
      have v2 := hc (2 * i + 1) (by omega)
      rw [← Nat.add_assoc, ← Nat.add_assoc] at v2
      exact ⟨by rw [← v1, u1], by rw [← v2, u2]⟩
    have hok := okP_ok (ps := psOf a (cf k)) hn hpf
    have hCM := C_M hn hok n 0 (Nat.pow_pos (by decide)) (show pcB 0 + n = n from Nat.zero_add n)
    have fb := fac_b hn
    have cb : cntR (vld (okP N (pfOf a (cf k)) (psOf a (cf k))) n 0) (fac n) 0 ≤ fac n := cntR_le _ _
    obtain ⟨W', hMc⟩ := many_c hn hH hok o_ways
    rw [← hCM] at hMc
    rcases t0 with t0 | ⟨kk, hkk, rfl⟩
    · have hh : pX4_has (nI n) p5 = 0 := by
        rw [t0]
        unfold pX4_has
        rw [if_pos (by decide)]
      obtain ⟨row', place', e1⟩ := enum_L (f := fun _ => 0) (sl := false) hn n1 (show 60 * k + a + 2 * N ≤ 240 by omega) hN hpf hps hm (Or.inl ⟨rfl, hh⟩) (fun (k11_v8 : Int32) (k11_v9 : Int32) (k11_v10 : Int32) (k11_w_m_row : Nat → Int32) (k11_w_m_placeOf : Nat → Int32) => if p5 = ((-1 : Int32)) then (some ((k11_v8, (0 : Int32), k11_w_m_row, k11_w_m_placeOf))) else (some ((k11_v9, (0 : Int32), k11_w_m_row, k11_w_m_placeOf)))) (fac n) 0 fu 0 (-9) m_row m_placeOf (by omega) (by unfold fu; omega) (Nat.le_refl 0)
      rw [show nI 0 = (0 : Int32) from rfl, Nat.zero_add] at e1
      rw [e1, if_pos t0, if_pos t0, hMc]
      exact ⟨_, _, _, _, _, _, _, rfl, rfl, hI⟩
    · have nm : ¬ nI kk = (-1 : Int32) := fun q => by
        have q := congrArg Int32.toInt q
        rw [nI_toInt (by omega), show (-1 : Int32).toInt = -1 from rfl] at q
        omega
      rw [if_neg nm]
      unfold pX0_firstAt
      by_cases ck : kk < n
      · have hh : pX4_has (nI n) (nI kk) = 1 := by
          unfold pX4_has
          rw [if_neg (nI_pos (by omega)), if_neg (nI_ge ck (by omega))]
        obtain ⟨row', place', e1⟩ := enum_L (f := fun y => pkA n 0 y kk) (sl := true) hn n1 (show 60 * k + a + 2 * N ≤ 240 by omega) hN hpf hps hm (Or.inr ⟨rfl, hh, kk, ck, rfl, fun _ => rfl⟩) (fun (k11_v8 : Int32) (k11_v9 : Int32) (k11_v10 : Int32) (k11_w_m_row : Nat → Int32) (k11_w_m_placeOf : Nat → Int32) => if nI kk = ((-1 : Int32)) then (some ((k11_v8, (0 : Int32), k11_w_m_row, k11_w_m_placeOf))) else (some ((k11_v9, (0 : Int32), k11_w_m_row, k11_w_m_placeOf)))) (fac n) 0 fu 0 (-9) m_row m_placeOf (by omega) (by unfold fu; omega) (Nat.le_refl 0)
        rw [show nI 0 = (0 : Int32) from rfl, Nat.zero_add] at e1
        rw [e1, if_neg nm, if_neg (nI_ge ck (by omega)), hMc, Option.bind_some]
        unfold isF
        rw [if_pos (show (0 : Nat) = 0 ∧ true = true from ⟨rfl, rfl⟩)]
        by_cases cz : cntR (vld (okP N (pfOf a (cf k)) (psOf a (cf k))) n 0) (fac n) 0 = 0
        · rw [cz, if_pos (show nI 0 = (0 : Int32) from rfl), fsv_zero _ _ cz]
          exact ⟨_, _, _, _, _, _, _, rfl, rfl, hI⟩
        · rw [if_neg (show ¬ nI (cntR (vld (okP N (pfOf a (cf k)) (psOf a (cf k))) n 0) (fac n) 0) = (0 : Int32) from fun q => cz ((nI_eq (b := 0) (by omega) (by decide)).mp q))]
          have fg := F_G hn hok n 0 kk (Nat.pow_pos (by decide)) (show pcB 0 + n = n from Nat.zero_add n) ck (by rw [← hCM]; exact cz)
          obtain ⟨y, hy⟩ := fsv_some (P := vld (okP N (pfOf a (cf k)) (psOf a (cf k))) n 0) (f := fun y => pkA n 0 y kk) (fac n) 0 cz
          rw [hy] at fg
          have fl := first_L (W := W') hn hH (show kk < 7 by omega) kk 0 0 fu _ (-9) (by omega) (by unfold fu; omega) (Nat.pow_pos (by decide)) fg.symm
          rw [show nI 0 = (0 : Int32) from rfl] at fl
          rw [fl, hy]
          exact ⟨_, _, _, _, _, _, _, rfl, rfl, hI⟩
      · have hh : pX4_has (nI n) (nI kk) = 0 := by
          unfold pX4_has
          rw [if_neg (nI_pos (by omega)), if_pos (nI_le (by omega) (by omega))]
        obtain ⟨row', place', e1⟩ := enum_L (f := fun _ => 0) (sl := false) hn n1 (show 60 * k + a + 2 * N ≤ 240 by omega) hN hpf hps hm (Or.inl ⟨rfl, hh⟩) (fun (k11_v8 : Int32) (k11_v9 : Int32) (k11_v10 : Int32) (k11_w_m_row : Nat → Int32) (k11_w_m_placeOf : Nat → Int32) => if nI kk = ((-1 : Int32)) then (some ((k11_v8, (0 : Int32), k11_w_m_row, k11_w_m_placeOf))) else (some ((k11_v9, (0 : Int32), k11_w_m_row, k11_w_m_placeOf)))) (fac n) 0 fu 0 (-9) m_row m_placeOf (by omega) (by unfold fu; omega) (Nat.le_refl 0)
        rw [show nI 0 = (0 : Int32) from rfl, Nat.zero_add] at e1
        rw [e1, if_neg nm, if_pos (nI_le (by omega) (by omega))]
        unfold isF
        rw [if_neg (fun q => absurd q.2 (by decide))]
        exact ⟨_, _, _, _, _, _, _, rfl, rfl, hI⟩
  · rw [if_neg c0, if_neg c0]
    unfold pX7_faulted pX8_fails
    exact ⟨_, _, _, _, _, _, _, rfl, rfl, hI⟩
