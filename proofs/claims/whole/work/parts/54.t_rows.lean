theorem i10 : ((1 : Int32) = 0) = False := eq_false (by decide)
theorem vu_at {α : Type} (f : Nat → α) (k : Nat) (x : α) : va_up f k x k = x := by simp [va_up]
theorem vu_ne {α : Type} {f : Nat → α} {k j : Nat} {x : α} (h : j ≠ k) : va_up f k x j = f j := by simp [va_up, h]
theorem vu_self {α : Type} (f : Nat → α) (k : Nat) : va_up f k (f k) = f := by
  funext j
  by_cases h : j = k
  · subst h; exact vu_at _ _ _
  · exact vu_ne h
theorem cix (k a : Nat) : (60 : Int32) * nI k + nI a = nI (60 * k + a) := by
  show nI 60 * nI k + nI a = _
  rw [pk_mul, nI_add]
theorem RowsOk.all {th la le : Nat → Int32} {cf : Nat → Nat → Int32} {sorts slong mcells : Nat → Int32} (h : RowsOk th la le cf sorts slong mcells) {k : Nat} {a b c d e : Int32} {g mc : Nat → Int32} (hr : RowOk a b c d e) (hg : ∀ j, j < 60 → g j = mc (60 * k + j)) (ho : ∀ k', k' < 4 → k' ≠ k → ∀ j, j < 60 → mc (60 * k' + j) = mcells (60 * k' + j)) : RowsOk (va_up th k a) (va_up la k b) (va_up le k c) (va_up cf k g) (upd sorts k d) (upd slong k e) mc := by
  intro k' hk'
  by_cases e : k' = k
  · subst e
    rw [vu_at, vu_at, vu_at, vu_at, upd_at, upd_at]
    exact ⟨hr, hg⟩
  · rw [vu_ne e, vu_ne e, vu_ne e, vu_ne e, upd_ne e, upd_ne e]
    exact ⟨(h k' hk').1, fun j hj => by rw [(h k' hk').2 j hj, ho k' hk' e j hj]⟩
theorem RowsOk.cellsOk {th la le : Nat → Int32} {cf : Nat → Nat → Int32} {sorts slong mcells : Nat → Int32} (h : RowsOk th la le cf sorts slong mcells) {k : Nat} {g mc : Nat → Int32} (hg : ∀ j, j < 60 → g j = mc (60 * k + j)) (ho : ∀ k', k' < 4 → k' ≠ k → ∀ j, j < 60 → mc (60 * k' + j) = mcells (60 * k' + j)) : RowsOk th la le (va_up cf k g) sorts slong mc := by
  intro k' hk'
  by_cases e : k' = k
  · subst e
    rw [vu_at]
    exact ⟨(h _ hk').1, hg⟩
  · rw [vu_ne e]
    exact ⟨(h k' hk').1, fun j hj => by rw [(h k' hk').2 j hj, ho k' hk' e j hj]⟩
theorem RowsOk.thereOk {th la le : Nat → Int32} {cf : Nat → Nat → Int32} {sorts slong mcells : Nat → Int32} (h : RowsOk th la le cf sorts slong mcells) {k : Nat} {a d : Int32} (hr : RowOk a (la k) (le k) d (slong k)) : RowsOk (va_up th k a) la le cf (upd sorts k d) slong mcells := by
  intro k' hk'
  by_cases e : k' = k
  · subst e
    rw [vu_at, upd_at]
    exact ⟨hr, (h _ hk').2⟩
  · rw [vu_ne e, upd_ne e]
    exact h k' hk'
theorem laM9 {a : Int32} (h : a = 0 ∨ a = 1 ∨ a = 2) : ¬ a = -9 := by rcases h with e | e | e <;> rw [e] <;> decide
theorem against_eq {th la le : Nat → Int32} {sorts slong : Nat → Int32} {k : Nat} (hk : k < 4) (h : RowOk (th k) (la k) (le k) (sorts k) (slong k)) (p2 p3 p4 : Int32) : pX8_against sorts slong (nI k) p2 p3 p4 = some (pX2_faultAsLane (th k) (la k) (le k) p2 p3 p4) := by
  have g : ∀ f : Nat → Int32, ga f 4 (nI k) = some (f k) := fun f => ga_nI hk (by decide)
  obtain ⟨h1, h2, -⟩ := h
  unfold pX8_against pX2_faultAsLane pX2_holds
  simp only [jn, g, Option.bind_some]
  rcases h1 with ⟨e1, e2⟩ | ⟨e1, e2, e3⟩
  · rw [e1, e2, if_pos rfl, if_pos rfl, if_pos rfl, if_pos rfl]
  · have n9 : ¬ sorts k = -9 := by rw [e2]; exact laM9 e3
    rw [if_neg n9, if_neg n9, e1, e2, ← h2]
    simp only [i10, if_false]
    by_cases c1 : la k = p2
    · rw [if_pos c1, if_pos c1]
      by_cases c2 : 0 ≤ p4
      · rw [if_pos c2, if_pos c2]
        by_cases c3 : p3 < 0
        · simp [c3]
        · by_cases c4 : le k < p3
          · simp [c3, c4]
          · by_cases c5 : le k - p3 < p4
            · simp [c3, c4, c5, nle_of_lt c5]
            · simp [c3, c4, c5, le_of_nlt c5]
      · rw [if_neg c2, if_neg c2]
    · rw [if_neg c1, if_neg c1]
/-- no FAULT: the cells are there -/
theorem fault0 {th la le so sl : Int32} {p2 p3 p4 : Int32} (h : RowOk th la le so sl) (h0 : pX2_faultAsLane th la le p2 p3 p4 = 0) : ∃ a b, p3 = nI a ∧ p4 = nI b ∧ a + b ≤ 60 ∧ th = 1 ∧ la = p2 := by
  obtain ⟨h1, h2, z, hz, ez⟩ := h
  unfold pX2_faultAsLane pX2_holds at h0
  simp only [jn] at h0
  rcases h1 with ⟨e1, e2⟩ | ⟨e1, e2, e3⟩
  · rw [e1, if_pos rfl, if_pos rfl] at h0; exact absurd h0 (by decide)
  · rw [e1] at h0
    simp only [i10, if_false] at h0
    by_cases c1 : la = p2
    · rw [if_pos c1] at h0
      by_cases c2 : 0 ≤ p4
      · rw [if_pos c2] at h0
        by_cases c3 : p3 < 0
        · rw [if_pos c3, if_pos rfl] at h0; exact absurd h0 (by decide)
        · rw [if_neg c3] at h0
          by_cases c4 : le < p3
          · rw [if_pos c4, if_pos rfl] at h0; exact absurd h0 (by decide)
          · rw [if_neg c4] at h0
            by_cases c5 : le - p3 < p4
            · rw [if_pos c5, if_pos rfl] at h0; exact absurd h0 (by decide)
            · obtain ⟨a, ha, ea⟩ := nI_of c3
              obtain ⟨b, hb, eb⟩ := nI_of (x := p4) (fun q => nle_of_lt q c2)
              subst ea eb
              rw [ez, lt_toI, nI_toInt (by omega), nI_toInt ha] at c4
              rw [ez, pk_sub (show a ≤ z by omega), lt_toI, nI_toInt (by omega), nI_toInt hb] at c5
              exact ⟨a, b, rfl, rfl, by omega, e1, c1⟩
      · rw [if_neg c2] at h0; exact absurd h0 (by decide)
    · rw [if_neg c1] at h0; exact absurd h0 (by decide)
theorem renew_L (K : Int32 → (Nat → Int32) → Option ((Nat → Int32) × Int32 × Int32 × Int32)) : ∀ (m i fl : Nat) (f : Nat → Int32), i + m = 60 → m < fl → ∃ g, pX2_renew_L2 K fl (nI i) f = K (nI 60) g ∧ ∀ j, g j = if i ≤ j ∧ j < 60 then 0 else f j := by
  intro m
  induction m with
  | zero =>
    intro i fl f hi hf
    obtain ⟨fl', rfl⟩ : ∃ x, fl = x + 1 := ⟨fl - 1, by omega⟩
    obtain rfl : i = 60 := by omega
    refine ⟨f, ?_, fun j => by rw [if_neg (by omega)]⟩
    rw [pX2_renew_L2_s, if_pos (show (60 : Int32) ≤ nI 60 from nI_le (a := 60) (Nat.le_refl 60) (by decide))]
  | succ m ih =>
    intro i fl f hi hf
    obtain ⟨fl', rfl⟩ : ∃ x, fl = x + 1 := ⟨fl - 1, by omega⟩
    obtain ⟨g, h1, h2⟩ := ih (i + 1) fl' (upd f i 0) (by omega) (by omega)
    refine ⟨g, ?_, fun j => ?_⟩
    · rw [pX2_renew_L2_s, if_neg (show ¬ (60 : Int32) ≤ nI i from nI_ge (b := 60) (by omega) (by decide)), sa_nI (by omega) (by decide), Option.bind_some, show nI i + (1 : Int32) = nI (i + 1) from nI_1 i, h1]
    · rw [h2 j]
      by_cases c : i = j
      · subst c
        rw [if_neg (by omega), upd_at, if_pos (by omega)]
      · rw [upd_ne (by omega)]
        by_cases c2 : i + 1 ≤ j ∧ j < 60
        · rw [if_pos c2, if_pos (by omega)]
        · rw [if_neg c2, if_neg (by omega)]
theorem sheet_L {ρ : Type} (k : Nat) (hk : k < 4) (K : Int32 → (Nat → Int32) → Option (Int32 × Int32 × (Nat → Int32) × (Nat → Int32) × (Nat → Int32))) : ∀ (m i fl : Nat) (f : Nat → Int32), i + m = 60 → m < fl → ∃ g, pX8_sheet_L57 (nI k) K fl (nI i) f = K (nI 60) g ∧ ∀ j, g j = if 60 * k + i ≤ j ∧ j < 60 * k + 60 then 0 else f j := by
  intro m
  induction m with
  | zero =>
    intro i fl f hi hf
    obtain ⟨fl', rfl⟩ : ∃ x, fl = x + 1 := ⟨fl - 1, by omega⟩
    obtain rfl : i = 60 := by omega
    refine ⟨f, ?_, fun j => by rw [if_neg (by omega)]⟩
    rw [pX8_sheet_L57_s, if_pos (show (60 : Int32) ≤ nI 60 from nI_le (a := 60) (Nat.le_refl 60) (by decide))]
  | succ m ih =>
    intro i fl f hi hf
    obtain ⟨fl', rfl⟩ : ∃ x, fl = x + 1 := ⟨fl - 1, by omega⟩
    obtain ⟨g, h1, h2⟩ := ih (i + 1) fl' (upd f (60 * k + i) 0) (by omega) (by omega)
    refine ⟨g, ?_, fun j => ?_⟩
    · rw [pX8_sheet_L57_s, if_neg (show ¬ (60 : Int32) ≤ nI i from nI_ge (b := 60) (by omega) (by decide)), cix, sa_nI (by omega) (by decide), Option.bind_some, show nI i + (1 : Int32) = nI (i + 1) from nI_1 i, h1]
    · rw [h2 j]
      by_cases c : 60 * k + i = j
      · subst c
        rw [if_neg (by omega), upd_at, if_pos (by omega)]
      · rw [upd_ne (by omega)]
        by_cases c2 : 60 * k + (i + 1) ≤ j ∧ j < 60 * k + 60
        · rw [if_pos c2, if_pos (by omega)]
        · rw [if_neg c2, if_neg (by omega)]
theorem copy_fw (S T n : Nat) (k i k' j : Nat) (hS : 60 * k + i = S) (hT : 60 * k' + j = T) (hSn : S + n ≤ 240) (hTn : T + n ≤ 240) (hn : n ≤ 60) (K : Int32 → (Nat → Int32) → Option (Int32 × Int32 × (Nat → Int32))) : ∀ (m q fl : Nat) (f : Nat → Int32), q + m = n → m < fl → (∀ c c', q ≤ c → c < c' → c' < n → T + c ≠ S + c') → ∃ g, pX8_copy_L166 (nI k) (nI i) (nI k') (nI j) (nI n) 0 K fl (nI q) f = K (nI n) g ∧ (∀ c, q ≤ c → c < n → g (T + c) = f (S + c)) ∧ ∀ x, ¬ (T + q ≤ x ∧ x < T + n) → g x = f x := by
  intro m
  induction m with
  | zero =>
    intro q fl f hq hf _
    obtain ⟨fl', rfl⟩ : ∃ x, fl = x + 1 := ⟨fl - 1, by omega⟩
    obtain rfl : q = n := by omega
    refine ⟨f, ?_, fun c h1 h2 => by omega, fun x _ => rfl⟩
    rw [pX8_copy_L166_s, if_pos (nI_le (Nat.le_refl q) (by omega))]
  | succ m ih =>
    intro q fl f hq hf hs
    obtain ⟨fl', rfl⟩ : ∃ x, fl = x + 1 := ⟨fl - 1, by omega⟩
    obtain ⟨g, h1, h2, h3⟩ := ih (q + 1) fl' (upd f (T + q) (f (S + q))) (by omega) (by omega) (fun c c' a b d => hs c c' (by omega) b d)
    refine ⟨g, ?_, fun c hc hcn => ?_, fun x hx => ?_⟩
    · rw [pX8_copy_L166_s, if_neg (nI_ge (by omega) (by omega))]
      simp only [jn, if_true]
      rw [cix, hS, nI_add, ga_nI (by omega) (by decide), Option.bind_some, cix, hT, nI_add, sa_nI (by omega) (by decide), Option.bind_some, show nI q + (1 : Int32) = nI (q + 1) from nI_1 q, h1]
    · by_cases e : c = q
      · subst e
        rw [h3 _ (by omega), upd_at]
      · rw [h2 c (by omega) hcn, upd_ne]
        exact fun z => hs q c (Nat.le_refl q) (by omega) hcn z.symm
    · rw [h3 x (by omega), upd_ne]
      omega
theorem copy_bw (S T n : Nat) (k i k' j : Nat) (hS : 60 * k + i = S) (hT : 60 * k' + j = T) (hSn : S + n ≤ 240) (hTn : T + n ≤ 240) (hn : n ≤ 60) (K : Int32 → (Nat → Int32) → Option (Int32 × Int32 × (Nat → Int32))) : ∀ (m q fl : Nat) (f : Nat → Int32), q + m = n → m < fl → (∀ c c', c' < c → c < m → T + c ≠ S + c') → ∃ g, pX8_copy_L166 (nI k) (nI i) (nI k') (nI j) (nI n) 1 K fl (nI q) f = K (nI n) g ∧ (∀ c, c < m → g (T + c) = f (S + c)) ∧ ∀ x, ¬ (T ≤ x ∧ x < T + m) → g x = f x := by
  intro m
  induction m with
  | zero =>
    intro q fl f hq hf _
    obtain ⟨fl', rfl⟩ : ∃ x, fl = x + 1 := ⟨fl - 1, by omega⟩
    obtain rfl : q = n := by omega
    refine ⟨f, ?_, fun c h1 => by omega, fun x _ => rfl⟩
    rw [pX8_copy_L166_s, if_pos (nI_le (Nat.le_refl q) (by omega))]
  | succ m ih =>
    intro q fl f hq hf hs
    obtain ⟨fl', rfl⟩ : ∃ x, fl = x + 1 := ⟨fl - 1, by omega⟩
    obtain ⟨g, h1, h2, h3⟩ := ih (q + 1) fl' (upd f (T + m) (f (S + m))) (by omega) (by omega) (fun c c' a b => hs c c' a (by omega))
    have em : (nI n - 1) - nI q = nI m := by
      rw [show (1 : Int32) = nI 1 from rfl, pk_sub (by omega), pk_sub (by omega), show n - 1 - q = m by omega]
    refine ⟨g, ?_, fun c hcn => ?_, fun x hx => ?_⟩
    · rw [pX8_copy_L166_s, if_neg (nI_ge (by omega) (by omega))]
      simp only [jn, i10, if_false]
      rw [em, cix, hS, nI_add, ga_nI (by omega) (by decide), Option.bind_some, cix, hT, nI_add, sa_nI (by omega) (by decide), Option.bind_some, show nI q + (1 : Int32) = nI (q + 1) from nI_1 q, h1]
    · by_cases e : c = m
      · subst e
        rw [h3 _ (by omega), upd_at]
      · rw [h2 c (by omega), upd_ne]
        exact fun z => hs m c (by omega) (by omega) z.symm
    · rw [h3 x (by omega), upd_ne]
      omega
/-- the reference's loop, whichever way it goes -/
theorem copy_L (k i k' j n : Nat) (hk : k < 4) (hk' : k' < 4) (hi : i + n ≤ 60) (hj : j + n ≤ 60) (K : Int32 → (Nat → Int32) → Option (Int32 × Int32 × (Nat → Int32))) (f : Nat → Int32) : ∃ g, (if nI j ≤ nI i then pX8_copy_L166 (nI k) (nI i) (nI k') (nI j) (nI n) 0 K fu 0 f else pX8_copy_L166 (nI k) (nI i) (nI k') (nI j) (nI n) 1 K fu 0 f) = K (nI n) g ∧ (∀ c, c < n → g (60 * k' + j + c) = f (60 * k + i + c)) ∧ ∀ x, ¬ (60 * k' + j ≤ x ∧ x < 60 * k' + j + n) → g x = f x := by
  by_cases h : j ≤ i
  · rw [if_pos (nI_le h (by omega))]
    obtain ⟨g, h1, h2, h3⟩ := copy_fw (60 * k + i) (60 * k' + j) n k i k' j rfl rfl (by omega) (by omega) (by omega) K n 0 fu f (by omega) (by unfold fu; omega) (fun c c' _ a b => by
      by_cases e : k = k'
      · subst e; omega
      · omega)
    exact ⟨g, h1, fun c hc => h2 c (by omega) hc, fun x hx => h3 x (by omega)⟩
  · rw [if_neg (nI_ge (by omega) (by omega))]
    obtain ⟨g, h1, h2, h3⟩ := copy_bw (60 * k + i) (60 * k' + j) n k i k' j rfl rfl (by omega) (by omega) (by omega) K n 0 fu f (by omega) (by unfold fu; omega) (fun c c' a b => by
      by_cases e : k = k'
      · subst e; omega
      · omega)
    exact ⟨g, h1, fun c hc => h2 c hc, fun x hx => h3 x hx⟩
theorem cpq_nI {f g : Nat → Int32} {i j n : Nat} (hi : i + n ≤ 60) (hj : j + n ≤ 60) : cpq f g 60 60 (nI i) (nI j) (nI n) = some (va_cpy f g i j n) := by
  unfold cpq
  rw [nI_clamp (by omega), nI_clamp (by omega), nI_clamp (by omega), if_neg]
  rintro (h | h | h | h | h)
  · exact nI_pos (by omega) h
  · exact nI_pos (by omega) h
  · exact nI_pos (by omega) h
  · omega
  · omega
/-- are the cells there, in both rows -/
theorem copy_or {l1 l2 p2 p4 p5 : Int32} {z1 z2 : Nat} (h1 : z1 ≤ 60) (h2 : z2 ≤ 60) (e1 : l1 = nI z1) (e2 : l2 = nI z2) : (∃ i j n, p2 = nI i ∧ p4 = nI j ∧ p5 = nI n ∧ i + n ≤ z1 ∧ j + n ≤ z2) ∨ (p2 < 0 ∨ p4 < 0 ∨ p5 < 0 ∨ l1 < p2 ∨ l2 < p4 ∨ l1 - p2 < p5 ∨ l2 - p4 < p5) := by
  by_cases a : p2 < 0
  · exact Or.inr (Or.inl a)
  by_cases b : p4 < 0
  · exact Or.inr (Or.inr (Or.inl b))
  by_cases c : p5 < 0
  · exact Or.inr (Or.inr (Or.inr (Or.inl c)))
  obtain ⟨i, hi, rfl⟩ := nI_of a
  obtain ⟨j, hj, rfl⟩ := nI_of b
  obtain ⟨n, hn, rfl⟩ := nI_of c
  subst e1 e2
  by_cases d : nI z1 < nI i
  · exact Or.inr (Or.inr (Or.inr (Or.inr (Or.inl d))))
  by_cases e : nI z2 < nI j
  · exact Or.inr (Or.inr (Or.inr (Or.inr (Or.inr (Or.inl e)))))
  rw [nI_ltI (by omega) hi] at d
  rw [nI_ltI (by omega) hj] at e
  by_cases f : nI z1 - nI i < nI n
  · exact Or.inr (Or.inr (Or.inr (Or.inr (Or.inr (Or.inr (Or.inl f))))))
  by_cases g : nI z2 - nI j < nI n
  · exact Or.inr (Or.inr (Or.inr (Or.inr (Or.inr (Or.inr (Or.inr g))))))
  rw [pk_sub (by omega), nI_ltI (by omega) hn] at f g
  exact Or.inl ⟨i, j, n, rfl, rfl, rfl, by omega, by omega⟩
theorem holds_nI {i n z : Nat} (h : i + n ≤ z) (hz : z ≤ 60) : pX2_holds (nI z) (nI i) (nI n) = 1 := by
  unfold pX2_holds
  rw [if_neg (nI_pos (by omega)), if_neg (nI_nlt (by omega) (by omega)), pk_sub (by omega), if_neg (nI_nlt (by omega) (by omega))]
/-- refused: the class's side -/
theorem copy_bad_c {α : Type} {l1 l2 p2 p4 p5 : Int32} {A B : α} (h : p2 < 0 ∨ p4 < 0 ∨ p5 < 0 ∨ l1 < p2 ∨ l2 < p4 ∨ l1 - p2 < p5 ∨ l2 - p4 < p5) : (if p5 < 0 then A else if pX2_holds l1 p2 p5 = 0 then A else if pX2_holds l2 p4 p5 = 0 then A else B) = A := by
  by_cases c : p5 < 0
  · rw [if_pos c]
  rw [if_neg c]
  by_cases c1 : pX2_holds l1 p2 p5 = 0
  · rw [if_pos c1]
  rw [if_neg c1]
  by_cases c2 : pX2_holds l2 p4 p5 = 0
  · rw [if_pos c2]
  exfalso
  rcases h with h | h | h | h | h | h | h
  · exact c1 (by unfold pX2_holds; rw [if_pos h])
  · exact c2 (by unfold pX2_holds; rw [if_pos h])
  · exact c h
  · exact c1 (by unfold pX2_holds; simp [h])
  · exact c2 (by unfold pX2_holds; simp [h])
  · exact c1 (by unfold pX2_holds; simp [h])
  · exact c2 (by unfold pX2_holds; simp [h])
/-- refused: the reference's side -/
theorem copy_bad_m {α : Type} {l1 l2 p2 p4 p5 : Int32} {A B : α} (h : p2 < 0 ∨ p4 < 0 ∨ p5 < 0 ∨ l1 < p2 ∨ l2 < p4 ∨ l1 - p2 < p5 ∨ l2 - p4 < p5) : (if p2 < 0 then A else if p4 < 0 then A else if p5 < 0 then A else if l1 < p2 then A else if l2 < p4 then A else if l1 - p2 < p5 then A else if p5 ≤ l2 - p4 then B else A) = A := by
  by_cases c1 : p2 < 0
  · rw [if_pos c1]
  by_cases c2 : p4 < 0
  · rw [if_neg c1, if_pos c2]
  by_cases c3 : p5 < 0
  · rw [if_neg c1, if_neg c2, if_pos c3]
  by_cases c4 : l1 < p2
  · rw [if_neg c1, if_neg c2, if_neg c3, if_pos c4]
  by_cases c5 : l2 < p4
  · rw [if_neg c1, if_neg c2, if_neg c3, if_neg c4, if_pos c5]
  by_cases c6 : l1 - p2 < p5
  · rw [if_neg c1, if_neg c2, if_neg c3, if_neg c4, if_neg c5, if_pos c6]
  have c7 : l2 - p4 < p5 := by
    rcases h with h | h | h | h | h | h | h
    · exact absurd h c1
    · exact absurd h c2
    · exact absurd h c3
    · exact absurd h c4
    · exact absurd h c5
    · exact absurd h c6
    · exact h
  rw [if_neg c1, if_neg c2, if_neg c3, if_neg c4, if_neg c5, if_neg c6, if_neg (nle_of_lt c7)]
set_option maxRecDepth 20000 in
theorem T_sheet (flt : Int32) (th : Nat → Int32) (la : Nat → Int32) (le : Nat → Int32) (cf : Nat → Nat → Int32) (kind : Nat → Int32) (page : Nat → Int32) (asked : Nat → Int32) (sees : Nat → Int32) (cnt : Int32) (wet : Int32) (which : Nat → Int32) (leaf : Nat → Int32) (rds : Int32) (f_askedUpTo : Nat → Int32) (f_costs : Nat → Int32) (sorts : Nat → Int32) (slong : Nat → Int32) (mcells : Nat → Int32) (k : Nat) (hk : k < 4) (p1 : Int32) (p2 : Int32) (p3 : Int32) (hr4 : vp_in p1 4 → p1 = nI k) (hI : Inv cnt wet kind page asked sees rds which leaf th la le cf sorts slong mcells f_costs f_askedUpTo) : ∃ (r : Int32) (flt' : Int32) (r_cells' : Nat → Int32) (r_there' : Int32) (r_lane' : Int32) (r_length' : Int32) (sorts' : Nat → Int32) (slong' : Nat → Int32) (mcells' : Nat → Int32), pX7_sheet flt (cf k) (th k) (la k) (le k) p1 p2 p3 = some (r, flt', r_cells', r_there', r_lane', r_length') ∧ pX8_sheet flt sorts slong mcells p1 p2 p3 = some (r, flt', sorts', slong', mcells') ∧ Inv cnt wet kind page asked sees rds which leaf (va_up th k r_there') (va_up la k r_lane') (va_up le k r_length') (va_up cf k r_cells') sorts' slong' mcells' f_costs f_askedUpTo := by
  obtain ⟨n, w, r, rfl, rfl, rfl, hB, hR, hW, hT⟩ := hI
  have same : RowsOk (va_up th k (th k)) (va_up la k (la k)) (va_up le k (le k)) (va_up cf k (cf k)) sorts slong mcells := by rw [vu_self, vu_self, vu_self, vu_self]; exact hW
  unfold pX7_sheet pX8_sheet pX7_faulted pX8_fails
  rw [isSheet_eq, isLane_eq]
  rcases sheet_or p1 with ⟨h0, -⟩ | ⟨h1, hin⟩
  · rw [if_pos h0, if_pos h0]
    exact ⟨_, _, _, _, _, _, _, _, _, rfl, rfl, n, w, r, rfl, rfl, rfl, hB, hR, same, hT⟩
  · rw [if_neg (one_ne h1), if_neg (one_ne h1)]
    have e := hr4 hin
    subst e
    by_cases h2 : pX7_isLane p2 = 0
    · rw [if_pos h2, if_pos h2]
      exact ⟨_, _, _, _, _, _, _, _, _, rfl, rfl, n, w, r, rfl, rfl, rfl, hB, hR, same, hT⟩
    · rw [if_neg h2, if_neg h2]
      by_cases h3 : p3 ≤ 60
      · rw [if_pos h3, if_pos h3]
        by_cases h4 : 0 ≤ p3
        · rw [if_pos h4, if_pos h4, gx_nI hk (by decide), Option.bind_some, sa_nI hk (by decide), Option.bind_some, sa_nI hk (by decide), Option.bind_some]
          unfold pX2_renew
          obtain ⟨g, e1, e2⟩ := renew_L (fun _ k2_w_r_cells => some ((k2_w_r_cells, (1 : Int32), p2, p3))) 60 0 fu (cf k) (by omega) (by unfold fu; omega)
          obtain ⟨g', e3, e4⟩ := sheet_L (ρ := Unit) k hk (fun _ k4_w_m_cells => some ((((1 : Int32)), (0 : Int32), upd sorts k p2, upd slong k p3, k4_w_m_cells))) 60 0 fu mcells (by omega) (by unfold fu; omega)
          have e1' := e1
          rw [show nI 0 = (0 : Int32) from rfl] at e1 e3
          rw [e1, e3]
          have hl : p2 = 0 ∨ p2 = 1 ∨ p2 = 2 := by
            rcases win_or p2 2 (by decide) with ⟨q, -⟩ | ⟨a, ha, rfl, -⟩
            · exact absurd (show pX7_isLane p2 = 0 from q) h2
            · rcases (show a = 0 ∨ a = 1 ∨ a = 2 by omega) with rfl | rfl | rfl
              · exact Or.inl rfl
              · exact Or.inr (Or.inl rfl)
              · exact Or.inr (Or.inr rfl)
          obtain ⟨z, hz, ez⟩ := nI_of (x := p3) (fun q => nle_of_lt q h4)
          have hz60 : z ≤ 60 := by
            rw [ez, le_toI, nI_toInt hz, show (60 : Int32).toInt = 60 from rfl] at h3
            omega
          refine ⟨1, 0, g, 1, p2, p3, _, _, g', rfl, rfl, n, w, r, rfl, rfl, rfl, hB, hR, hW.all ⟨Or.inr ⟨rfl, rfl, hl⟩, rfl, z, hz60, ez⟩ ?_ ?_, hT⟩
          · intro j hj
            rw [e2, e4, if_pos (by omega), if_pos (by omega)]
          · intro k' hk' hne j hj
            rw [e4, if_neg (by omega)]
        · rw [if_neg h4, if_neg h4]
          exact ⟨_, _, _, _, _, _, _, _, _, rfl, rfl, n, w, r, rfl, rfl, rfl, hB, hR, same, hT⟩
      · rw [if_neg h3, if_neg h3]
        exact ⟨_, _, _, _, _, _, _, _, _, rfl, rfl, n, w, r, rfl, rfl, rfl, hB, hR, same, hT⟩
set_option maxRecDepth 20000 in
theorem T_lose (th : Nat → Int32) (la : Nat → Int32) (le : Nat → Int32) (cf : Nat → Nat → Int32) (kind : Nat → Int32) (page : Nat → Int32) (asked : Nat → Int32) (sees : Nat → Int32) (cnt : Int32) (wet : Int32) (which : Nat → Int32) (leaf : Nat → Int32) (rds : Int32) (f_askedUpTo : Nat → Int32) (f_costs : Nat → Int32) (sorts : Nat → Int32) (slong : Nat → Int32) (mcells : Nat → Int32) (k : Nat) (hk : k < 4) (p1 : Int32) (hr4 : vp_in p1 4 → p1 = nI k) (hI : Inv cnt wet kind page asked sees rds which leaf th la le cf sorts slong mcells f_costs f_askedUpTo) : ∃ (r : Int32) (r_there' : Int32) (sorts' : Nat → Int32), pX7_lose (th k) p1 = some (r, r_there') ∧ pX8_lose sorts p1 = some (r, sorts') ∧ Inv cnt wet kind page asked sees rds which leaf (va_up th k r_there') la le cf sorts' slong mcells f_costs f_askedUpTo := by
  obtain ⟨n, w, r, rfl, rfl, rfl, hB, hR, hW, hT⟩ := hI
  unfold pX7_lose pX8_lose
  rw [isSheet_eq]
  rcases sheet_or p1 with ⟨h0, -⟩ | ⟨h1, hin⟩
  · rw [if_pos h0, if_pos h0]
    refine ⟨-1, th k, sorts, rfl, rfl, n, w, r, rfl, rfl, rfl, hB, hR, ?_, hT⟩
    rw [vu_self]; exact hW
  · rw [if_neg (one_ne h1), if_neg (one_ne h1)]
    have e := hr4 hin
    subst e
    have g : ∀ f : Nat → Int32, ga f 4 (nI k) = some (f k) := fun f => ga_nI hk (by decide)
    simp only [jn, g, gx_nI hk (show 4 < 2 ^ 31 by decide), Option.bind_some, sa_nI hk (show 4 < 2 ^ 31 by decide)]
    obtain ⟨h1, h2, h3⟩ := (hW k hk).1
    rcases h1 with ⟨e1, e2⟩ | ⟨e1, e2, e3⟩
    · rw [e1, e2, if_pos rfl, if_pos rfl]
      exact ⟨0, 0, _, rfl, rfl, n, w, r, rfl, rfl, rfl, hB, hR, hW.thereOk ⟨Or.inl ⟨rfl, rfl⟩, h2, h3⟩, hT⟩
    · rw [e1, if_neg (by decide), if_neg (show ¬ sorts k = -9 by rw [e2]; exact laM9 e3)]
      exact ⟨1, 0, _, rfl, rfl, n, w, r, rfl, rfl, rfl, hB, hR, hW.thereOk ⟨Or.inl ⟨rfl, rfl⟩, h2, h3⟩, hT⟩
set_option maxRecDepth 20000 in
theorem T_put (flt : Int32) (th : Nat → Int32) (la : Nat → Int32) (le : Nat → Int32) (cf : Nat → Nat → Int32) (kind : Nat → Int32) (page : Nat → Int32) (asked : Nat → Int32) (sees : Nat → Int32) (cnt : Int32) (wet : Int32) (which : Nat → Int32) (leaf : Nat → Int32) (rds : Int32) (f_askedUpTo : Nat → Int32) (f_costs : Nat → Int32) (sorts : Nat → Int32) (slong : Nat → Int32) (mcells : Nat → Int32) (k : Nat) (hk : k < 4) (p1 : Int32) (p2 : Int32) (p3 : Int32) (hr4 : vp_in p1 4 → p1 = nI k) (hI : Inv cnt wet kind page asked sees rds which leaf th la le cf sorts slong mcells f_costs f_askedUpTo) : ∃ (r : Int32) (flt' : Int32) (r_cells' : Nat → Int32) (mcells' : Nat → Int32), pX7_put flt (cf k) (th k) (la k) (le k) p1 p2 p3 = some (r, flt', r_cells') ∧ pX8_put flt sorts slong mcells p1 p2 p3 = some (r, flt', mcells') ∧ Inv cnt wet kind page asked sees rds which leaf th la le (va_up cf k r_cells') sorts slong mcells' f_costs f_askedUpTo := by
  obtain ⟨n, w, r, rfl, rfl, rfl, hB, hR, hW, hT⟩ := hI
  have same : RowsOk th la le (va_up cf k (cf k)) sorts slong mcells := by rw [vu_self]; exact hW
  unfold pX7_put pX8_put pX7_faulted pX8_fails
  rw [isSheet_eq]
  rcases sheet_or p1 with ⟨h0, -⟩ | ⟨h1, hin⟩
  · rw [if_pos h0, if_pos h0]
    exact ⟨_, _, _, _, rfl, rfl, n, w, r, rfl, rfl, rfl, hB, hR, same, hT⟩
  · rw [if_neg (one_ne h1), if_neg (one_ne h1)]
    have e := hr4 hin
    subst e
    have g : ∀ f : Nat → Int32, ga f 4 (nI k) = some (f k) := fun f => ga_nI hk (by decide)
    simp only [jn, g, gx_nI hk (show 4 < 2 ^ 31 by decide), Option.bind_some]
    obtain ⟨h1, h2, z, hz, ez⟩ := (hW k hk).1
    rcases h1 with ⟨e1, e2⟩ | ⟨e1, e2, e3⟩
    · rw [e1, e2, if_pos rfl, if_pos rfl]
      exact ⟨_, _, _, _, rfl, rfl, n, w, r, rfl, rfl, rfl, hB, hR, same, hT⟩
    · rw [e1, if_neg (by decide), if_neg (show ¬ sorts k = -9 by rw [e2]; exact laM9 e3), ← h2, ez]
      rcases in_or p2 z (by omega) with hh | ⟨a, ha, rfl⟩
      · have w0 : pX8_within p2 0 (nI z - 1) = 0 := by
          unfold pX8_within
          by_cases c : p2 < 0
          · rw [if_pos c]
          · rw [if_neg c]
            have c' : ¬ p2.toInt < 0 := fun q => c (lt_toI.mpr q)
            have h3 : (z : Int) ≤ p2.toInt := by omega
            rw [if_pos]
            rw [lt_toI, show nI z - (1 : Int32) = nI z - nI 1 from rfl, pk_sub_toInt (by omega) (by decide)]
            omega
        rw [if_pos w0]
        refine ⟨_, _, _, _, ?_, rfl, n, w, r, rfl, rfl, rfl, hB, hR, same, hT⟩
        by_cases c : p2 < 0
        · rw [if_pos c]
        · rw [if_neg c, if_neg]
          rw [lt_toI, nI_toInt (by omega)]
          have c' : ¬ p2.toInt < 0 := fun q => c (lt_toI.mpr q)
          omega
      · have w1 : pX8_within (nI a) 0 (nI z - 1) = 1 := by
          unfold pX8_within
          rw [if_neg (nI_pos (by omega)), if_neg]
          rw [lt_toI, show nI z - (1 : Int32) = nI z - nI 1 from rfl, pk_sub_toInt (by omega) (by decide), nI_toInt (by omega)]
          omega
        rw [if_neg (one_ne w1), if_neg (nI_pos (by omega)), if_pos (nI_lt ha (by omega)), cix]
        have s1 : ∀ x, sa (cf k) 60 (nI a) x = some (upd (cf k) a x) := fun x => sa_nI (by omega) (by decide)
        have s2 : ∀ x, sa mcells 240 (nI (60 * k + a)) x = some (upd mcells (60 * k + a) x) := fun x => sa_nI (by omega) (by decide)
        have fin : ∀ x : Int32, RowsOk th la le (va_up cf k (upd (cf k) a x)) sorts slong (upd mcells (60 * k + a) x) := by
          intro x
          refine hW.cellsOk ?_ ?_
          · intro j hj
            by_cases c : j = a
            · subst c; rw [upd_at, upd_at]
            · rw [upd_ne c, upd_ne (by omega)]; exact (hW k hk).2 j hj
          · intro k' hk' hne j hj
            rw [upd_ne (by omega)]
        simp only [s1, s2, Option.bind_some]
        unfold pX7_cutTo
        rw [e2]
        rcases e3 with e | e | e
        · rw [e, if_pos rfl, if_pos rfl]
          exact ⟨_, _, _, _, rfl, rfl, n, w, r, rfl, rfl, rfl, hB, hR, fin _, hT⟩
        · rw [e, if_neg (by decide), if_pos rfl, if_neg (by decide), if_pos rfl]
          exact ⟨_, _, _, _, rfl, rfl, n, w, r, rfl, rfl, rfl, hB, hR, fin _, hT⟩
        · rw [e, if_neg (by decide), if_neg (by decide), if_neg (by decide), if_neg (by decide)]
          exact ⟨_, _, _, _, rfl, rfl, n, w, r, rfl, rfl, rfl, hB, hR, fin _, hT⟩
set_option maxRecDepth 20000 in
theorem T_cell (flt : Int32) (th : Nat → Int32) (la : Nat → Int32) (le : Nat → Int32) (cf : Nat → Nat → Int32) (kind : Nat → Int32) (page : Nat → Int32) (asked : Nat → Int32) (sees : Nat → Int32) (cnt : Int32) (wet : Int32) (which : Nat → Int32) (leaf : Nat → Int32) (rds : Int32) (f_askedUpTo : Nat → Int32) (f_costs : Nat → Int32) (sorts : Nat → Int32) (slong : Nat → Int32) (mcells : Nat → Int32) (k : Nat) (hk : k < 4) (p1 : Int32) (p2 : Int32) (p3 : Int32) (hr4 : vp_in p1 4 → p1 = nI k) (hI : Inv cnt wet kind page asked sees rds which leaf th la le cf sorts slong mcells f_costs f_askedUpTo) : ∃ (r : Int64) (flt' : Int32), pX7_cell flt (cf k) (th k) (la k) (le k) p1 p2 p3 = some (r, flt') ∧ pX8_cell flt sorts slong mcells p1 p2 p3 = some (r, flt') ∧ Inv cnt wet kind page asked sees rds which leaf th la le cf sorts slong mcells f_costs f_askedUpTo := by
  obtain ⟨n, w, r, rfl, rfl, rfl, hB, hR, hW, hT⟩ := hI
  have hI : Inv (nI n) (nI w) kind page asked sees (nI r) which leaf th la le cf sorts slong mcells f_costs f_askedUpTo := ⟨n, w, r, rfl, rfl, rfl, hB, hR, hW, hT⟩
  unfold pX7_cell pX8_cell pX8_lost
  rw [isSheet_eq, isLane_eq]
  rcases sheet_or p1 with ⟨h0, -⟩ | ⟨h1, hin⟩
  · rw [if_pos h0, if_pos h0]
    exact ⟨_, _, rfl, rfl, hI⟩
  · rw [if_neg (one_ne h1), if_neg (one_ne h1)]
    have e := hr4 hin
    subst e
    by_cases h2 : pX7_isLane p3 = 0
    · rw [if_pos h2, if_pos h2]
      exact ⟨_, _, rfl, rfl, hI⟩
    · rw [if_neg h2, if_neg h2]
      have g : ∀ f : Nat → Int32, ga f 4 (nI k) = some (f k) := fun f => ga_nI hk (by decide)
      simp only [jn, g, gx_nI hk (show 4 < 2 ^ 31 by decide), Option.bind_some]
      obtain ⟨h1, h2, z, hz, ez⟩ := (hW k hk).1
      rcases h1 with ⟨e1, e2⟩ | ⟨e1, e2, e3⟩
      · have F : pX2_faultAsLane (th k) (la k) (le k) p3 p2 1 = 1 := by
          unfold pX2_faultAsLane
          simp [jn, e1]
        rw [F, e2]
        simp
        exact hI
      · have n9 : ¬ sorts k = -9 := by rw [e2]; exact laM9 e3
        rw [if_neg n9, if_neg n9, e2]
        by_cases c1 : la k = p3
        · rw [if_pos c1, ← h2, ez]
          rcases in_or p2 z (by omega) with hh | ⟨a, ha, rfl⟩
          · have w0 : pX8_within p2 0 (nI z - 1) = 0 := by
              unfold pX8_within
              by_cases c : p2 < 0
              · rw [if_pos c]
              · rw [if_neg c]
                have c' : ¬ p2.toInt < 0 := fun q => c (lt_toI.mpr q)
                have h3 : (z : Int) ≤ p2.toInt := by omega
                rw [if_pos]
                rw [lt_toI, show nI z - (1 : Int32) = nI z - nI 1 from rfl, pk_sub_toInt (by omega) (by decide)]
                omega
            have x3 : pX2_holds (nI z) p2 1 = 0 := by
              unfold pX2_holds
              by_cases c : p2 < 0
              · rw [if_pos c]
              · rw [if_neg c]
                by_cases c2 : nI z < p2
                · rw [if_pos c2]
                · have c' : ¬ p2.toInt < 0 := fun q => c (lt_toI.mpr q)
                  have c3 : ¬ (z : Int) < p2.toInt := fun q => c2 (by rw [lt_toI, nI_toInt (by omega)]; exact q)
                  have e0 : p2 = nI z := by rw [eq_toI, nI_toInt (by omega)]; omega
                  rw [e0, if_neg (by rw [lt_toI]; omega), if_pos]
                  rw [pk_sub (Nat.le_refl z), Nat.sub_self]
                  decide
            have F : pX2_faultAsLane (th k) (la k) (nI z) p3 p2 1 = 3 := by
              unfold pX2_faultAsLane
              simp [jn, e1, c1, x3]
            rw [F, if_pos w0]
            simp
            exact hI
          · have w1 : pX8_within (nI a) 0 (nI z - 1) = 1 := by
              unfold pX8_within
              rw [if_neg (nI_pos (by omega)), if_neg]
              rw [lt_toI, show nI z - (1 : Int32) = nI z - nI 1 from rfl, pk_sub_toInt (by omega) (by decide), nI_toInt (by omega)]
              omega
            have x3 : pX2_holds (nI z) (nI a) 1 = 1 := by
              have q3 : ¬ nI z - nI a < 1 := by
                rw [pk_sub (by omega), show (1 : Int32) = nI 1 from rfl]
                exact nI_nlt (by omega) (by omega)
              unfold pX2_holds
              rw [if_neg (nI_pos (by omega)), if_neg (nI_nlt (by omega) (by omega)), if_neg q3]
            have F : pX2_faultAsLane (th k) (la k) (nI z) p3 (nI a) 1 = 0 := by
              unfold pX2_faultAsLane
              simp [jn, e1, c1, x3]
            rw [F, if_neg (one_ne w1), if_pos rfl, cix, ga_nI (show a < 60 by omega) (by decide), ga_nI (show 60 * k + a < 240 by omega) (by decide), (hW k hk).2 a (by omega)]
            exact ⟨_, _, rfl, rfl, hI⟩
        · have F : pX2_faultAsLane (th k) (la k) (le k) p3 p2 1 = 2 := by
            unfold pX2_faultAsLane
            simp [jn, e1, c1]
          rw [F, if_neg c1]
          simp
          exact hI
set_option maxRecDepth 20000 in
theorem T_copyD (flt : Int32) (th : Nat → Int32) (la : Nat → Int32) (le : Nat → Int32) (cf : Nat → Nat → Int32) (kind : Nat → Int32) (page : Nat → Int32) (asked : Nat → Int32) (sees : Nat → Int32) (cnt : Int32) (wet : Int32) (which : Nat → Int32) (leaf : Nat → Int32) (rds : Int32) (f_askedUpTo : Nat → Int32) (f_costs : Nat → Int32) (sorts : Nat → Int32) (slong : Nat → Int32) (mcells : Nat → Int32) (k : Nat) (hk : k < 4) (k' : Nat) (hk' : k' < 4) (hkk : k ≠ k') (p1 : Int32) (p2 : Int32) (p3 : Int32) (p4 : Int32) (p5 : Int32) (hr4 : vp_in p1 4 → p1 = nI k) (hq4 : vp_in p3 4 → p3 = nI k') (hI : Inv cnt wet kind page asked sees rds which leaf th la le cf sorts slong mcells f_costs f_askedUpTo) : ∃ (r : Int32) (flt' : Int32) (q_cells' : Nat → Int32) (mcells' : Nat → Int32), pX7_copyD flt (cf k) (th k) (la k) (le k) (cf k') (th k') (la k') (le k') p1 p2 p3 p4 p5 = some (r, flt', q_cells') ∧ pX8_copy flt sorts slong mcells p1 p2 p3 p4 p5 = some (r, flt', mcells') ∧ Inv cnt wet kind page asked sees rds which leaf th la le (va_up cf k' q_cells') sorts slong mcells' f_costs f_askedUpTo := by
  obtain ⟨n, w, r, rfl, rfl, rfl, hB, hR, hW, hT⟩ := hI
  have same : RowsOk th la le (va_up cf k' (cf k')) sorts slong mcells := by rw [vu_self]; exact hW
  unfold pX7_copyD pX8_copy pX7_faulted pX8_fails
  rw [isSheet_eq, isSheet_eq]
  rcases sheet_or p1 with ⟨h0, -⟩ | ⟨h1, hin⟩
  · rw [if_pos h0, if_pos h0]
    exact ⟨_, _, _, _, rfl, rfl, n, w, r, rfl, rfl, rfl, hB, hR, same, hT⟩
  rw [if_neg (one_ne h1), if_neg (one_ne h1)]
  rcases sheet_or p3 with ⟨h0, -⟩ | ⟨h3, hin3⟩
  · rw [if_pos h0, if_pos h0]
    exact ⟨_, _, _, _, rfl, rfl, n, w, r, rfl, rfl, rfl, hB, hR, same, hT⟩
  rw [if_neg (one_ne h3), if_neg (one_ne h3)]
  have e := hr4 hin
  subst e
  have e := hq4 hin3
  subst e
  have g : ∀ f : Nat → Int32, ga f 4 (nI k) = some (f k) := fun f => ga_nI hk (by decide)
  have g' : ∀ f : Nat → Int32, ga f 4 (nI k') = some (f k') := fun f => ga_nI hk' (by decide)
  simp only [jn, g, g', gx_nI hk (show 4 < 2 ^ 31 by decide), gx_nI hk' (show 4 < 2 ^ 31 by decide), Option.bind_some]
  obtain ⟨a1, a2, z1, hz1, ez1⟩ := (hW k hk).1
  obtain ⟨b1, b2, z2, hz2, ez2⟩ := (hW k' hk').1
  rcases a1 with ⟨e1, e2⟩ | ⟨e1, e2, e3⟩
  · rw [e1, e2, if_pos rfl, if_pos rfl]
    exact ⟨_, _, _, _, rfl, rfl, n, w, r, rfl, rfl, rfl, hB, hR, same, hT⟩
  rw [e1, if_neg (show ¬ (1 : Int32) = 0 by decide), if_neg (show ¬ sorts k = -9 by rw [e2]; exact laM9 e3)]
  rcases b1 with ⟨d1, d2⟩ | ⟨d1, d2, d3⟩
  · rw [d1, d2, if_pos rfl, if_pos rfl]
    exact ⟨_, _, _, _, rfl, rfl, n, w, r, rfl, rfl, rfl, hB, hR, same, hT⟩
  rw [d1, if_neg (show ¬ (1 : Int32) = 0 by decide), if_neg (show ¬ sorts k' = -9 by rw [d2]; exact laM9 d3), e2, d2]
  by_cases c1 : la k = la k'
  · rw [if_pos c1, if_pos c1, ← a2, ← b2]
    simp only [i10, if_false, if_true]
    rcases copy_or (l1 := le k) (l2 := le k') (p2 := p2) (p4 := p4) (p5 := p5) hz1 hz2 ez1 ez2 with ⟨i, j, nn, rfl, rfl, rfl, q1, q2⟩ | hbad
    · rw [ez1, ez2, holds_nI q1 hz1, holds_nI q2 hz2, if_neg (nI_pos (by omega)), if_neg (by decide), if_neg (by decide), cpq_nI (by omega) (by omega), Option.bind_some, if_neg (nI_pos (by omega)), if_neg (nI_pos (by omega)), if_neg (nI_pos (by omega)), if_neg (nI_nlt (by omega) (by omega)), if_neg (nI_nlt (by omega) (by omega)), pk_sub (by omega), pk_sub (by omega), if_neg (nI_nlt (by omega) (by omega)), if_pos (nI_le (by omega) (by omega))]
      obtain ⟨gg, k1, k2, k3⟩ := copy_L k i k' j nn hk hk' (by omega) (by omega) (fun _ c => some (nI nn, (0 : Int32), c)) mcells
      rw [k1]
      refine ⟨_, _, _, _, rfl, rfl, n, w, r, rfl, rfl, rfl, hB, hR, hW.cellsOk ?_ ?_, hT⟩
      · intro x hx
        by_cases c : j ≤ x ∧ x < j + nn
        · rw [pk_cpy_in c.1 c.2, show 60 * k' + x = 60 * k' + j + (x - j) by omega, k2 (x - j) (by omega), (hW k hk).2 _ (by omega), show 60 * k + (i + (x - j)) = 60 * k + i + (x - j) by omega]
        · rw [pk_cpy_out (by omega), k3 _ (by omega)]
          exact (hW k' hk').2 x hx
      · intro k2' hk2 hne x hx
        rw [k3 _ (by omega)]
    · rw [copy_bad_c hbad, copy_bad_m hbad]
      exact ⟨_, _, _, _, rfl, rfl, n, w, r, rfl, rfl, rfl, hB, hR, same, hT⟩
  · rw [if_neg c1, if_neg c1]
    exact ⟨_, _, _, _, rfl, rfl, n, w, r, rfl, rfl, rfl, hB, hR, same, hT⟩
set_option maxRecDepth 20000 in
theorem T_copyS (flt : Int32) (th : Nat → Int32) (la : Nat → Int32) (le : Nat → Int32) (cf : Nat → Nat → Int32) (kind : Nat → Int32) (page : Nat → Int32) (asked : Nat → Int32) (sees : Nat → Int32) (cnt : Int32) (wet : Int32) (which : Nat → Int32) (leaf : Nat → Int32) (rds : Int32) (f_askedUpTo : Nat → Int32) (f_costs : Nat → Int32) (sorts : Nat → Int32) (slong : Nat → Int32) (mcells : Nat → Int32) (k : Nat) (hk : k < 4) (p1 : Int32) (p2 : Int32) (p3 : Int32) (p4 : Int32) (p5 : Int32) (hr4 : vp_in p1 4 → p1 = nI k) (hq4 : vp_in p3 4 → p3 = nI k) (hI : Inv cnt wet kind page asked sees rds which leaf th la le cf sorts slong mcells f_costs f_askedUpTo) : ∃ (r : Int32) (flt' : Int32) (r_cells' : Nat → Int32) (mcells' : Nat → Int32), pX7_copyS flt (cf k) (th k) (la k) (le k) p1 p2 p3 p4 p5 = some (r, flt', r_cells') ∧ pX8_copy flt sorts slong mcells p1 p2 p3 p4 p5 = some (r, flt', mcells') ∧ Inv cnt wet kind page asked sees rds which leaf th la le (va_up cf k r_cells') sorts slong mcells' f_costs f_askedUpTo := by
  obtain ⟨n, w, r, rfl, rfl, rfl, hB, hR, hW, hT⟩ := hI
  have same : RowsOk th la le (va_up cf k (cf k)) sorts slong mcells := by rw [vu_self]; exact hW
  unfold pX7_copyS pX8_copy pX7_faulted pX8_fails
  rw [isSheet_eq, isSheet_eq]
  rcases sheet_or p1 with ⟨h0, -⟩ | ⟨h1, hin⟩
  · rw [if_pos h0, if_pos h0]
    exact ⟨_, _, _, _, rfl, rfl, n, w, r, rfl, rfl, rfl, hB, hR, same, hT⟩
  rw [if_neg (one_ne h1), if_neg (one_ne h1)]
  rcases sheet_or p3 with ⟨h0, -⟩ | ⟨h3, hin3⟩
  · rw [if_pos h0, if_pos h0]
    exact ⟨_, _, _, _, rfl, rfl, n, w, r, rfl, rfl, rfl, hB, hR, same, hT⟩
  rw [if_neg (one_ne h3), if_neg (one_ne h3)]
  have e := hr4 hin
  subst e
  have e := hq4 hin3
  subst e
  have g : ∀ f : Nat → Int32, ga f 4 (nI k) = some (f k) := fun f => ga_nI hk (by decide)
  simp only [jn, g, gx_nI hk (show 4 < 2 ^ 31 by decide), Option.bind_some, if_true]
  obtain ⟨a1, a2, z1, hz1, ez1⟩ := (hW k hk).1
  rcases a1 with ⟨e1, e2⟩ | ⟨e1, e2, e3⟩
  · rw [e1, e2, if_pos rfl, if_pos rfl]
    exact ⟨_, _, _, _, rfl, rfl, n, w, r, rfl, rfl, rfl, hB, hR, same, hT⟩
  have n9 : ¬ sorts k = -9 := by rw [e2]; exact laM9 e3
  simp only [e1, i10, if_false, n9]
  rw [← a2]
  rcases copy_or (l1 := le k) (l2 := le k) (p2 := p2) (p4 := p4) (p5 := p5) hz1 hz1 ez1 ez1 with ⟨i, j, nn, rfl, rfl, rfl, q1, q2⟩ | hbad
  · rw [ez1, holds_nI q1 hz1, holds_nI q2 hz1, if_neg (nI_pos (by omega)), if_neg (by decide), if_neg (by decide), cpq_nI (by omega) (by omega), Option.bind_some, if_neg (nI_pos (by omega)), if_neg (nI_pos (by omega)), if_neg (nI_pos (by omega)), if_neg (nI_nlt (by omega) (by omega)), if_neg (nI_nlt (by omega) (by omega)), pk_sub (by omega), pk_sub (by omega), if_neg (nI_nlt (by omega) (by omega)), if_pos (nI_le (by omega) (by omega))]
    obtain ⟨gg, k1, k2, k3⟩ := copy_L k i k j nn hk hk (by omega) (by omega) (fun _ c => some (nI nn, (0 : Int32), c)) mcells
    rw [k1]
    refine ⟨_, _, _, _, rfl, rfl, n, w, r, rfl, rfl, rfl, hB, hR, hW.cellsOk ?_ ?_, hT⟩
    · intro x hx
      by_cases c : j ≤ x ∧ x < j + nn
      · rw [pk_cpy_in c.1 c.2, show 60 * k + x = 60 * k + j + (x - j) by omega, k2 (x - j) (by omega), (hW k hk).2 _ (by omega), show 60 * k + (i + (x - j)) = 60 * k + i + (x - j) by omega]
      · rw [pk_cpy_out (by omega), k3 _ (by omega)]
        exact (hW k hk).2 x hx
    · intro k2' hk2 hne x hx
      rw [k3 _ (by omega)]
  · rw [copy_bad_c hbad, copy_bad_m hbad]
    exact ⟨_, _, _, _, rfl, rfl, n, w, r, rfl, rfl, rfl, hB, hR, same, hT⟩
