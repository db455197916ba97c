/-! where a question leads: class and reference -/
theorem one_ne {x : Int32} (h : x = 1) : ¬ x = 0 := by rw [h]; decide
theorem wet01 (w p : Int32) : pX4_isWet w p = 0 ∨ pX4_isWet w p = 1 := bX4_isWet w p
theorem m9_nI {n : Nat} (h : n < 2 ^ 31) : nI n ≠ -9 := fun e => by
  have e := congrArg Int32.toInt e
  rw [nI_toInt h, show (-9 : Int32).toInt = -9 from rfl] at e
  omega
def seesOk (n : Nat) (sees : Nat → Int32) : Prop := ∀ k, k < n → sees k = -9 ∨ ∃ j, j < n ∧ sees k = nI j
theorem BookOk.so {n w : Nat} {kind page asked sees : Nat → Int32} (h : BookOk n w kind page asked sees) : seesOk n sees := fun k hk => (h.2.2 k hk).2.2.2
def finS (w : Int32) (sees : Nat → Int32) : Nat → Nat → Option (Nat × Nat)
  | 0, _ => none
  | m + 1, k => if pX4_isWet w (nI k) = 0 then (if sees k = -9 then some (0, k) else ((finS w sees m (sees k).toNatClampNeg).map fun q => (q.1 + 1, q.2))) else none
def ptS (kind page : Nat → Int32) (k : Nat) : Int32 := if kind k = 0 then page k else if kind k = 1 then page k + 1 else 2 * page k
def leafS (n : Nat) (w : Int32) (kind page sees : Nat → Int32) (k : Nat) : Int32 := match finS w sees n k with
  | none => -9
  | some q => ptS kind page q.2
def looksS (n : Nat) (w : Int32) (sees : Nat → Int32) (k : Nat) : Int32 := match finS w sees n k with
  | none => -9
  | some q => nI (1 + q.1)
theorem finS_lt {n : Nat} {w : Int32} {sees : Nat → Int32} (hn : n ≤ 7) (hs : seesOk n sees) : ∀ (m k : Nat) (q : Nat × Nat), k < n → finS w sees m k = some q → q.2 < n ∧ q.1 < m := by
  intro m
  induction m with
  | zero => intro k q _ h; cases h
  | succ m ih =>
    intro k q hk h
    unfold finS at h
    by_cases hw : pX4_isWet w (nI k) = 0
    · rw [if_pos hw] at h
      by_cases h9 : sees k = -9
      · rw [if_pos h9] at h
        cases h
        exact ⟨hk, by omega⟩
      · rw [if_neg h9] at h
        rcases hs k hk with h8 | ⟨j, hj, ej⟩
        · exact absurd h8 h9
        · rw [ej, nI_clamp (by omega)] at h
          cases hf : finS w sees m j with
          | none => rw [hf] at h; cases h
          | some q0 =>
            rw [hf] at h
            cases h
            have := ih j q0 hj hf
            exact ⟨this.1, by have := this.2; show q0.1 + 1 < m + 1; omega⟩
    · rw [if_neg hw] at h; cases h
theorem looks_L {n : Nat} {w : Int32} {sees : Nat → Int32} (hn : n ≤ 7) (hs : seesOk n sees) : ∀ (m i k fl : Nat), i + m = n + 1 → k < n → m < fl → pX4_looksOf_L4 sees (nI n) w (fun _ _ => some (-9)) fl (nI k) (nI i) = some (match finS w sees m k with | none => -9 | some q => nI (i + q.1)) := by
  intro m
  induction m with
  | zero =>
    intro i k fl hi hk hf
    obtain ⟨f, rfl⟩ : ∃ f, fl = f + 1 := ⟨fl - 1, by omega⟩
    rw [pX4_looksOf_L4_s, if_pos (nI_lt (by omega) (by omega))]
    rfl
  | succ m ih =>
    intro i k fl hi hk hf
    obtain ⟨f, rfl⟩ : ∃ f, fl = f + 1 := ⟨fl - 1, by omega⟩
    rw [pX4_looksOf_L4_s, if_neg (nI_nlt (by omega) (by omega))]
    unfold finS
    by_cases hw : pX4_isWet w (nI k) = 0
    · rw [if_pos hw, if_pos hw, ga_nI (by omega) (by decide), Option.bind_some]
      by_cases h9 : sees k = -9
      · rw [if_pos h9, if_pos h9]
        rfl
      · rw [if_neg h9, if_neg h9, Option.bind_some]
        rcases hs k hk with h8 | ⟨j, hj, ej⟩
        · exact absurd h8 h9
        · rw [ej, nI_clamp (by omega), show nI i + (1 : Int32) = nI (i + 1) from nI_1 i, ih (i + 1) j f (by omega) hj (by omega)]
          cases finS w sees m j with
          | none => rfl
          | some q => show some (nI (i + 1 + q.1)) = some (nI (i + (q.1 + 1))); rw [show i + 1 + q.1 = i + (q.1 + 1) by omega]
    · rw [if_neg hw, if_neg hw]
theorem looks_c {n : Nat} {w : Int32} {sees : Nat → Int32} (hn : n ≤ 7) (hs : seesOk n sees) {k : Nat} (hk : k < n) : pX4_looksOf sees (nI n) w (nI k) = some (looksS n w sees k) := by
  unfold pX4_looksOf looksS
  rw [show (1 : Int32) = nI 1 from rfl, looks_L hn hs n 1 k fu (by omega) hk (by unfold fu; omega)]
theorem walk_L {n : Nat} {w : Int32} {sees : Nat → Int32} {e : Nat} {ρ : Type} (hn : n ≤ 7) (hs : seesOk n sees) (K : Int32 → Int32 → Option Int32) : ∀ (t m k i fl : Nat), finS w sees m k = some (t, e) → k < n → t < fl → i + t < 2 ^ 31 → pX4_leafOf_L20 (nI (i + t)) sees K fl (nI k) (nI i) = K (nI e) (nI (i + t)) := by
  intro t
  induction t with
  | zero =>
    intro m k i fl h hk hf hb
    obtain ⟨f, rfl⟩ : ∃ f, fl = f + 1 := ⟨fl - 1, by omega⟩
    obtain ⟨m', rfl⟩ : ∃ m', m = m' + 1 := by
      cases m with
      | zero => cases h
      | succ m' => exact ⟨m', rfl⟩
    rw [pX4_leafOf_L20_s, show i + 0 = i from rfl, if_pos (nI_le (Nat.le_refl i) hb)]
    unfold finS at h
    by_cases hw : pX4_isWet w (nI k) = 0
    · rw [if_pos hw] at h
      by_cases h9 : sees k = -9
      · rw [if_pos h9] at h
        cases h
        rfl
      · rw [if_neg h9] at h
        cases hf : finS w sees m' (sees k).toNatClampNeg with
        | none => rw [hf] at h; cases h
        | some q0 =>
          rw [hf] at h
          have := congrArg Prod.fst (Option.some.inj h)
          exact absurd this (by show q0.1 + 1 ≠ 0; omega)
    · rw [if_neg hw] at h; cases h
  | succ t ih =>
    intro m k i fl h hk hf hb
    obtain ⟨f, rfl⟩ : ∃ f, fl = f + 1 := ⟨fl - 1, by omega⟩
    obtain ⟨m', rfl⟩ : ∃ m', m = m' + 1 := by
      cases m with
      | zero => cases h
      | succ m' => exact ⟨m', rfl⟩
    rw [pX4_leafOf_L20_s, if_neg (nI_ge (by omega) hb), ga_nI (by omega) (by decide), Option.bind_some]
    unfold finS at h
    by_cases hw : pX4_isWet w (nI k) = 0
    · rw [if_pos hw] at h
      by_cases h9 : sees k = -9
      · rw [if_pos h9] at h
        have := congrArg Prod.fst (Option.some.inj h)
        exact absurd this (by show 0 ≠ t + 1; omega)
      · rw [if_neg h9] at h
        rcases hs k hk with h8 | ⟨j, hj, ej⟩
        · exact absurd h8 h9
        · rw [ej, nI_clamp (by omega)] at h
          cases hf2 : finS w sees m' j with
          | none => rw [hf2] at h; cases h
          | some q0 =>
            rw [hf2] at h
            have h1 := congrArg Prod.fst (Option.some.inj h)
            have h2 := congrArg Prod.snd (Option.some.inj h)
            have h1 : q0.1 + 1 = t + 1 := h1
            have h2 : q0.2 = e := h2
            have e0 : q0 = (t, e) := by rw [← h2, show t = q0.1 by omega]
            rw [ej, show nI i + (1 : Int32) = nI (i + 1) from nI_1 i, show i + (t + 1) = (i + 1) + t by omega]
            exact ih m' j (i + 1) f (by rw [hf2, e0]) hj (by omega) (by omega)
    · rw [if_neg hw] at h; cases h
theorem points_c {n w : Nat} {kind page asked sees : Nat → Int32} (h : BookOk n w kind page asked sees) {k : Nat} (hk : k < n) : pX4_pointsTo kind page (nI k) = some (ptS kind page k) := by
  have hn := h.1
  unfold pX4_pointsTo ptS
  rw [ga_nI (by omega) (by decide), Option.bind_some]
  rcases (h.2.2 k hk).1 with e | e | e
  · rw [e, if_neg (by decide), if_neg (by decide), if_pos rfl, ga_nI (by omega) (by decide)]; rfl
  · rw [e, if_pos rfl, if_neg (by decide), if_pos rfl, ga_nI (by omega) (by decide)]; rfl
  · rw [e, if_neg (by decide), if_pos rfl, if_neg (by decide), if_neg (by decide), ga_nI (by omega) (by decide)]; rfl
theorem points_m {n w : Nat} {kind page asked sees : Nat → Int32} (h : BookOk n w kind page asked sees) {k : Nat} (hk : k < n) : pX8_pointsOf kind page (nI k) = some (ptS kind page k) := by
  have hn := h.1
  unfold pX8_pointsOf ptS
  rw [ga_nI (by omega) (by decide), Option.bind_some]
  rcases (h.2.2 k hk).1 with e | e | e
  · rw [e, if_pos rfl, if_pos rfl, ga_nI (by omega) (by decide)]; rfl
  · rw [e, if_neg (by decide), if_neg (by decide), Option.bind_some, if_pos rfl, if_pos rfl, ga_nI (by omega) (by decide)]; rfl
  · rw [e, if_neg (by decide), if_neg (by decide), Option.bind_some, if_neg (by decide), if_neg (by decide), ga_nI (by omega) (by decide)]; rfl
theorem pt_nI {n w : Nat} {kind page asked sees : Nat → Int32} (h : BookOk n w kind page asked sees) {k : Nat} (hk : k < n) : ∃ v, v ≤ 98 ∧ ptS kind page k = nI v := by
  obtain ⟨p, hp, ep⟩ := (h.2.2 k hk).2.1
  unfold ptS
  rcases (h.2.2 k hk).1 with e | e | e
  · rw [if_pos e, ep]; exact ⟨p, by omega, rfl⟩
  · rw [if_neg (by rw [e]; decide), if_pos e, ep]; exact ⟨p + 1, by omega, nI_1 p⟩
  · rw [if_neg (by rw [e]; decide), if_neg (by rw [e]; decide), ep]; exact ⟨2 * p, by omega, pk_mul 2 p⟩
theorem leaf_c {n w : Nat} {kind page asked sees : Nat → Int32} (h : BookOk n w kind page asked sees) {k : Nat} (hk : k < n) : pX4_leafOf kind page sees (nI n) (nI w) (nI k) = some (leafS n (nI w) kind page sees k) := by
  have hn := h.1
  unfold pX4_leafOf leafS
  rw [looks_c hn h.so hk, Option.bind_some]
  unfold looksS
  cases hf : finS (nI w) sees n k with
  | none => rw [if_pos rfl]
  | some q =>
    obtain ⟨t, e⟩ := q
    have hq := finS_lt h.1 h.so n k _ hk hf
    have hq1 : e < n := hq.1
    have hq2 : t < n := hq.2
    show (if nI (1 + t) = (-9 : Int32) then some (-9) else _) = _
    rw [if_neg (m9_nI (by omega)), show (1 : Int32) = nI 1 from rfl, walk_L (ρ := Unit) hn h.so _ t n k 1 fu hf hk (by unfold fu; omega) (by omega), points_c h hq1]
    rfl
theorem leaf_L {n w : Nat} {kind page asked sees : Nat → Int32} (h : BookOk n w kind page asked sees) : ∀ (m i k fl : Nat), i + m = n + 1 → k < n → m < fl → ∃ lk, pX8_leafOf_L7 (nI n) (nI w) kind page sees (fun _ l => some (-9, l)) fl (nI k) (nI i) = some (match finS (nI w) sees m k with | none => -9 | some q => ptS kind page q.2, lk) ∧ ∀ q, finS (nI w) sees m k = some q → lk = nI (i + q.1) := by
  have hn := h.1
  intro m
  induction m with
  | zero =>
    intro i k fl hi hk hf
    obtain ⟨f, rfl⟩ : ∃ f, fl = f + 1 := ⟨fl - 1, by omega⟩
    rw [pX8_leafOf_L7_s, if_pos (nI_lt (by omega) (by omega))]
    exact ⟨nI i, rfl, fun q hq => by cases hq⟩
  | succ m ih =>
    intro i k fl hi hk hf
    obtain ⟨f, rfl⟩ : ∃ f, fl = f + 1 := ⟨fl - 1, by omega⟩
    rw [pX8_leafOf_L7_s, if_neg (nI_nlt (by omega) (by omega)), isOf_wet]
    unfold finS
    by_cases hw : pX4_isWet (nI w) (nI k) = 0
    · rw [if_pos hw, if_pos hw, ga_nI (by omega) (by decide), Option.bind_some]
      by_cases h9 : sees k = -9
      · rw [if_pos h9, if_pos h9, points_m h hk]
        exact ⟨nI i, rfl, fun q hq => by cases hq; rfl⟩
      · rw [if_neg h9, if_neg h9, Option.bind_some]
        rcases h.so k hk with h8 | ⟨j, hj, ej⟩
        · exact absurd h8 h9
        · rw [ej, nI_clamp (by omega), show nI i + (1 : Int32) = nI (i + 1) from nI_1 i]
          obtain ⟨lk, h1, h2⟩ := ih (i + 1) j f (by omega) hj (by omega)
          refine ⟨lk, ?_, ?_⟩
          · rw [h1]
            cases finS (nI w) sees m j with
            | none => rfl
            | some q => rfl
          · intro q hq
            cases hf2 : finS (nI w) sees m j with
            | none => rw [hf2] at hq; cases hq
            | some q0 =>
              rw [hf2] at hq
              cases hq
              rw [h2 q0 hf2]
              show nI (i + 1 + q0.1) = nI (i + (q0.1 + 1))
              rw [show i + 1 + q0.1 = i + (q0.1 + 1) by omega]
    · rw [if_neg hw, if_neg hw]
      exact ⟨nI i, rfl, fun q hq => by cases hq⟩
theorem leaf_m {n w : Nat} {kind page asked sees : Nat → Int32} (h : BookOk n w kind page asked sees) {k : Nat} (hk : k < n) (lk0 : Int32) : ∃ lk, pX8_leafOf (nI n) (nI w) kind page sees lk0 (nI k) = some (leafS n (nI w) kind page sees k, lk) ∧ ∀ q, finS (nI w) sees n k = some q → lk = nI (1 + q.1) := by
  have hn := h.1
  unfold pX8_leafOf leafS
  rw [show (1 : Int32) = nI 1 from rfl]
  exact leaf_L h n 1 k fu (by omega) hk (by unfold fu; omega)
theorem leafS_or {n w : Nat} {kind page asked sees : Nat → Int32} (h : BookOk n w kind page asked sees) {k : Nat} (hk : k < n) : (finS (nI w) sees n k = none ∧ leafS n (nI w) kind page sees k = -9) ∨ ∃ q v, finS (nI w) sees n k = some q ∧ v ≤ 98 ∧ leafS n (nI w) kind page sees k = nI v := by
  cases hf : finS (nI w) sees n k with
  | none => exact Or.inl ⟨rfl, by unfold leafS; rw [hf]⟩
  | some q =>
    obtain ⟨v, h1, h2⟩ := pt_nI h (finS_lt h.1 h.so n k q hk hf).1
    exact Or.inr ⟨q, v, rfl, h1, by unfold leafS; rw [hf]; exact h2⟩
