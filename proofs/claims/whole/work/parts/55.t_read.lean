def Ag (n : Nat) (a b : Nat → Int32) : Prop := ∀ k, k < n → a k = b k
theorem BookOk.ag {n w : Nat} {kind page asked sees kind' page' sees' : Nat → Int32} (h : BookOk n w kind page asked sees) (h1 : Ag n kind' kind) (h2 : Ag n page' page) (h3 : Ag n sees' sees) : BookOk n w kind' page' asked sees' := by
  refine ⟨h.1, h.2.1, fun k hk => ?_⟩
  rw [h1 k hk, h2 k hk, h3 k hk]
  exact h.2.2 k hk
theorem finS_ag {n : Nat} {w : Int32} {sees sees' : Nat → Int32} (hn : n ≤ 7) (hs : seesOk n sees) (h : Ag n sees' sees) : ∀ m k, k < n → finS w sees' m k = finS w sees m k := by
  intro m
  induction m with
  | zero => intro k _; rfl
  | succ m ih =>
    intro k hk
    unfold finS
    rw [h k hk]
    rcases hs k hk with e | ⟨j, hj, e⟩
    · by_cases hw : pX4_isWet w (nI k) = 0
      · rw [if_pos hw, if_pos hw, e, if_pos rfl, if_pos rfl]
      · rw [if_neg hw, if_neg hw]
    · rw [e, nI_clamp (by omega), ih j hj]
theorem leafS_ag {n w : Nat} {kind page asked sees kind' page' sees' : Nat → Int32} (h : BookOk n w kind page asked sees) (h1 : Ag n kind' kind) (h2 : Ag n page' page) (h3 : Ag n sees' sees) {k : Nat} (hk : k < n) : leafS n (nI w) kind' page' sees' k = leafS n (nI w) kind page sees k := by
  unfold leafS
  rw [finS_ag h.1 h.so h3 n k hk]
  cases hf : finS (nI w) sees n k with
  | none => rfl
  | some q =>
    have hq := (finS_lt h.1 h.so n k q hk hf).1
    show ptS kind' page' q.2 = ptS kind page q.2
    unfold ptS
    rw [h1 _ hq, h2 _ hq]
def allS (n : Nat) (w : Int32) (kind page sees which leaf : Nat → Int32) : Nat → Nat → Int32
  | 0, _ => 1
  | m + 1, i => if leafS n w kind page sees (which i).toNatClampNeg = leaf i then allS n w kind page sees which leaf m (i + 1) else 0
theorem allS_ag {n w r : Nat} {kind page asked sees kind' page' sees' which leaf : Nat → Int32} (h : BookOk n w kind page asked sees) (hr : ReadOk n r which) (h1 : Ag n kind' kind) (h2 : Ag n page' page) (h3 : Ag n sees' sees) : ∀ m i, i + m = r → allS n (nI w) kind' page' sees' which leaf m i = allS n (nI w) kind page sees which leaf m i := by
  have hn := h.1
  intro m
  induction m with
  | zero => intro i _; rfl
  | succ m ih =>
    intro i hi
    unfold allS
    obtain ⟨j, hj, e⟩ := hr.2 i (by omega)
    rw [e, nI_clamp (by omega), leafS_ag h h1 h2 h3 hj, ih (i + 1) (by omega)]
theorem all_L {n w r : Nat} {kind page asked sees which leaf : Nat → Int32} (h : BookOk n w kind page asked sees) (hr : ReadOk n r which) : ∀ m i fl, i + m = r → m < fl → pX1_allAreSo_L2 which leaf (nI r) kind page sees (nI n) (nI w) (fun _ => some 1) fl (nI i) = some (allS n (nI w) kind page sees which leaf m i) := by
  have hn := h.1
  have h8 := hr.1
  intro m
  induction m with
  | zero =>
    intro i fl hi hf
    obtain ⟨f, rfl⟩ : ∃ f, fl = f + 1 := ⟨fl - 1, by omega⟩
    rw [pX1_allAreSo_L2_s, if_pos (nI_le (by omega) (by omega))]
    rfl
  | succ m ih =>
    intro i fl hi hf
    obtain ⟨f, rfl⟩ : ∃ f, fl = f + 1 := ⟨fl - 1, by omega⟩
    obtain ⟨j, hj, e⟩ := hr.2 i (by omega)
    rw [pX1_allAreSo_L2_s, if_neg (nI_ge (by omega) (by omega)), ga_nI (by omega) (by decide), Option.bind_some, e, leaf_c h hj, Option.bind_some, ga_nI (by omega) (by decide), Option.bind_some, show nI i + (1 : Int32) = nI (i + 1) from nI_1 i]
    unfold allS
    rw [e, nI_clamp (by omega)]
    by_cases c : leafS n (nI w) kind page sees j = leaf i
    · rw [if_pos c, if_pos c]
      exact ih (i + 1) f (by omega) (by omega)
    · rw [if_neg c, if_neg c]
theorem all_c {n w r : Nat} {kind page asked sees which leaf : Nat → Int32} (h : BookOk n w kind page asked sees) (hr : ReadOk n r which) : pX1_allAreSo which leaf (nI r) kind page sees (nI n) (nI w) = some (allS n (nI w) kind page sees which leaf r 0) := by
  unfold pX1_allAreSo
  exact all_L h hr r 0 fu (by omega) (by have := hr.1; unfold fu; omega)
theorem so_L {n w r : Nat} {kind page asked sees which leaf : Nat → Int32} (h : BookOk n w kind page asked sees) (hr : ReadOk n r which) : ∀ m i fl lk0, i + m = r → m < fl → ∃ lk, pX8_areSo_L2 (nI n) (nI w) kind page sees (nI r) which leaf (fun _ l => some (1, l)) fl (nI i) lk0 = some (allS n (nI w) kind page sees which leaf m i, lk) := by
  have hn := h.1
  have h8 := hr.1
  intro m
  induction m with
  | zero =>
    intro i fl lk0 hi hf
    obtain ⟨f, rfl⟩ : ∃ f, fl = f + 1 := ⟨fl - 1, by omega⟩
    rw [pX8_areSo_L2_s, if_pos (nI_le (by omega) (by omega))]
    exact ⟨lk0, rfl⟩
  | succ m ih =>
    intro i fl lk0 hi hf
    obtain ⟨f, rfl⟩ : ∃ f, fl = f + 1 := ⟨fl - 1, by omega⟩
    obtain ⟨j, hj, e⟩ := hr.2 i (by omega)
    obtain ⟨lk, h2, -⟩ := leaf_m h hj lk0
    rw [pX8_areSo_L2_s, if_neg (nI_ge (by omega) (by omega)), ga_nI (by omega) (by decide), Option.bind_some, e, h2, Option.bind_some, ga_nI (by omega) (by decide), Option.bind_some, show nI i + (1 : Int32) = nI (i + 1) from nI_1 i]
    unfold allS
    rw [e, nI_clamp (by omega)]
    by_cases c : leafS n (nI w) kind page sees j = leaf i
    · rw [if_pos c, if_pos c]
      exact ih (i + 1) f lk (by omega) (by omega)
    · rw [if_neg c, if_neg c]
      exact ⟨lk, rfl⟩
theorem so_m {n w r : Nat} {kind page asked sees which leaf : Nat → Int32} (h : BookOk n w kind page asked sees) (hr : ReadOk n r which) (lk0 : Int32) : ∃ lk, pX8_areSo (nI n) (nI w) kind page sees lk0 (nI r) which leaf = some (allS n (nI w) kind page sees which leaf r 0, lk) := by
  unfold pX8_areSo
  exact so_L h hr r 0 fu lk0 (by omega) (by have := hr.1; unfold fu; omega)
theorem like_L (nk np na ns : Nat → Int32) (K : Int32 → (Nat → Int32) → (Nat → Int32) → (Nat → Int32) → (Nat → Int32) → Option ((Nat → Int32) × (Nat → Int32) × (Nat → Int32) × (Nat → Int32) × Int32 × Int32)) : ∀ (m i fl : Nat) (f1 f2 f3 f4 : Nat → Int32), i + m = 7 → m < fl → (∀ x, x < i → f1 x = nk x ∧ f2 x = np x ∧ f3 x = na x ∧ f4 x = ns x) → ∃ g1 g2 g3 g4, pX4_becomeLike_L18 nk np na ns K fl (nI i) f1 f2 f3 f4 = K (nI 7) g1 g2 g3 g4 ∧ ∀ x, x < 7 → g1 x = nk x ∧ g2 x = np x ∧ g3 x = na x ∧ g4 x = ns x := by
  intro m
  induction m with
  | zero =>
    intro i fl f1 f2 f3 f4 hi hf hx
    obtain ⟨fl', rfl⟩ : ∃ x, fl = x + 1 := ⟨fl - 1, by omega⟩
    obtain rfl : i = 7 := by omega
    refine ⟨f1, f2, f3, f4, ?_, hx⟩
    rw [pX4_becomeLike_L18_s, if_pos (show (7 : Int32) ≤ nI 7 from nI_le (a := 7) (Nat.le_refl 7) (by decide))]
  | succ m ih =>
    intro i fl f1 f2 f3 f4 hi hf hx
    obtain ⟨fl', rfl⟩ : ∃ x, fl = x + 1 := ⟨fl - 1, by omega⟩
    obtain ⟨g1, g2, g3, g4, h1, h2⟩ := ih (i + 1) fl' (upd f1 i (nk i)) (upd f2 i (np i)) (upd f3 i (na i)) (upd f4 i (ns i)) (by omega) (by omega) (fun x hxi => by
      by_cases e : x = i
      · subst e; exact ⟨upd_at _ _ _, upd_at _ _ _, upd_at _ _ _, upd_at _ _ _⟩
      · rw [upd_ne e, upd_ne e, upd_ne e, upd_ne e]; exact hx x (by omega))
    refine ⟨g1, g2, g3, g4, ?_, h2⟩
    have g : ∀ f : Nat → Int32, ga f 7 (nI i) = some (f i) := fun f => ga_nI (by omega) (by decide)
    have s : ∀ (f : Nat → Int32) (x : Int32), sa f 7 (nI i) x = some (upd f i x) := fun f x => sa_nI (by omega) (by decide)
    rw [pX4_becomeLike_L18_s, if_neg (show ¬ (7 : Int32) ≤ nI i from nI_ge (b := 7) (by omega) (by decide))]
    simp only [g, s, Option.bind_some]
    rw [show nI i + (1 : Int32) = nI (i + 1) from nI_1 i, h1]
theorem like_c (f1 f2 f3 f4 : Nat → Int32) (c0 w0 : Int32) (nk np na ns : Nat → Int32) (c w : Int32) : ∃ g1 g2 g3 g4, pX4_becomeLike f1 f2 f3 f4 c0 w0 nk np na ns c w = some (g1, g2, g3, g4, c, w) ∧ ∀ x, x < 7 → g1 x = nk x ∧ g2 x = np x ∧ g3 x = na x ∧ g4 x = ns x := by
  unfold pX4_becomeLike
  obtain ⟨g1, g2, g3, g4, h1, h2⟩ := like_L nk np na ns (fun _ a b c' d => some ((a, b, c', d, c, w))) 7 0 fu f1 f2 f3 f4 (by omega) (by unfold fu; omega) (fun x h => by omega)
  exact ⟨g1, g2, g3, g4, h1, h2⟩
theorem Ag_upd {n j : Nat} {a b : Nat → Int32} {v : Int32} (h : ∀ k, k < n → k ≠ j → a k = b k) : Ag n (upd a j v) (upd b j v) := by
  intro k hk
  by_cases e : k = j
  · subst e; rw [upd_at, upd_at]
  · rw [upd_ne e, upd_ne e]; exact h k hk e
theorem upd_back {f g : Nat → Int32} {j : Nat} (h : ∀ k, k ≠ j → f k = g k) : upd f j (g j) = g := by
  funext k
  by_cases e : k = j
  · subst e; exact upd_at _ _ _
  · rw [upd_ne e]; exact h k e
theorem pages_L {n w r j : Nat} {kind page asked sees which leaf kind' sees' : Nat → Int32} (h : BookOk n w kind page asked sees) (hr : ReadOk n r which) (hj : j < n) (hk : Ag n kind' kind) (hs : Ag n sees' sees) {ρ σ : Type} (K1 : Int32 → Int32 → Int32 → Int32 → (Nat → Int32) → Option (Int32 × Int32 × Int32 × (Nat → Int32) × (Nat → Int32) × (Nat → Int32) × (Nat → Int32) × Int32 × Int32)) (K2 : Int32 → Int32 → Int32 → Int32 → (Nat → Int32) → Int32 → Option (Int32 × (Nat → Int32) × Int32)) : ∀ (m p fl : Nat) (a b c lk0 : Int32) (pc pm : Nat → Int32), p + m = 50 → m < fl → (∀ k, k < n → k ≠ j → pc k = page k) → (∀ k, k ≠ j → pm k = page k) → ∃ A B C pc' pm' lk, pX1_tryPages_L27 (nI j) which leaf (nI r) kind' sees' (nI n) (nI w) K1 fl (nI p) a b c pc = K1 (nI 50) A B C pc' ∧ pX8_pages_L43 (nI j) (nI n) (nI w) kind sees (nI r) which leaf K2 fl a b c (nI p) pm lk0 = K2 A B C (nI 50) pm' lk ∧ ∀ k, k ≠ j → pm' k = page k := by
  have hn := h.1
  intro m
  induction m with
  | zero =>
    intro p fl a b c lk0 pc pm hp hf h1 h2
    obtain ⟨fl', rfl⟩ : ∃ x, fl = x + 1 := ⟨fl - 1, by omega⟩
    obtain rfl : p = 50 := by omega
    refine ⟨a, b, c, pc, pm, lk0, ?_, ?_, h2⟩
    · rw [pX1_tryPages_L27_s, if_pos (show (49 : Int32) < nI 50 from nI_lt (a := 49) (by decide) (by decide))]
    · rw [pX8_pages_L43_s, if_pos (show (49 : Int32) < nI 50 from nI_lt (a := 49) (by decide) (by decide))]
  | succ m ih =>
    intro p fl a b c lk0 pc pm hp hf h1 h2
    obtain ⟨fl', rfl⟩ : ∃ x, fl = x + 1 := ⟨fl - 1, by omega⟩
    have hBm : BookOk n w kind (upd pm j (nI p)) asked sees := by
      have e : upd pm j (nI p) = upd page j (nI p) := by
        funext k
        by_cases e : k = j
        · subst e; rw [upd_at, upd_at]
        · rw [upd_ne e, upd_ne e]; exact h2 k e
      rw [e]
      exact h.page (by omega)
    have agp : Ag n (upd pc j (nI p)) (upd pm j (nI p)) := Ag_upd (fun k hk e => by rw [h1 k hk e, h2 k e])
    have hBc : BookOk n w kind' (upd pc j (nI p)) asked sees' := hBm.ag hk agp hs
    obtain ⟨lk, e2⟩ := so_m (leaf := leaf) hBm hr lk0
    have e1 := all_c (leaf := leaf) hBc hr
    rw [allS_ag (leaf := leaf) hBm hr hk agp hs r 0 (by omega)] at e1
    have nx : ∀ a b c, ∃ A B C pc' pm' lk', pX1_tryPages_L27 (nI j) which leaf (nI r) kind' sees' (nI n) (nI w) K1 fl' (nI (p + 1)) a b c (upd pc j (nI p)) = K1 (nI 50) A B C pc' ∧ pX8_pages_L43 (nI j) (nI n) (nI w) kind sees (nI r) which leaf K2 fl' a b c (nI (p + 1)) (upd pm j (nI p)) lk = K2 A B C (nI 50) pm' lk' ∧ ∀ k, k ≠ j → pm' k = page k := fun a b c => ih (p + 1) fl' a b c lk _ _ (by omega) (by omega) (fun k hk e => by rw [upd_ne e]; exact h1 k hk e) (fun k e => by rw [upd_ne e]; exact h2 k e)
    rw [pX1_tryPages_L27_s, pX8_pages_L43_s, if_neg (show ¬ (49 : Int32) < nI p from nI_nlt (a := 49) (by omega) (by decide)), if_neg (show ¬ (49 : Int32) < nI p from nI_nlt (a := 49) (by omega) (by decide)), sa_nI (by omega) (by decide), Option.bind_some, sa_nI (by omega) (by decide), Option.bind_some, e1, e2, Option.bind_some, Option.bind_some, show nI p + (1 : Int32) = nI (p + 1) from nI_1 p]
    simp only [jn]
    by_cases c1 : allS n (nI w) kind (upd pm j (nI p)) sees which leaf r 0 = 0
    · rw [if_pos c1, if_pos c1]
      exact nx a b c
    · rw [if_neg c1, if_neg c1]
      by_cases c2 : b = -9
      · rw [if_pos c2, if_pos c2]
        exact nx _ _ _
      · rw [if_neg c2, if_neg c2]
        exact nx _ _ _
theorem kinds_L {n w r j : Nat} {kind page asked sees which leaf page' sees' : Nat → Int32} (h : BookOk n w kind page asked sees) (hr : ReadOk n r which) (hj : j < n) (hp : Ag n page' page) (hs : Ag n sees' sees) (K1 : Int32 → Int32 → (Nat → Int32) → Option (Int32 × (Nat → Int32) × (Nat → Int32) × (Nat → Int32) × (Nat → Int32) × Int32 × Int32)) (K2 : Int32 → Int32 → (Nat → Int32) → Int32 → Option (Int32 × (Nat → Int32) × Int32)) : ∀ (m p fl : Nat) (a lk0 : Int32) (pc pm : Nat → Int32), p + m = 3 → m < fl → (∀ k, k < n → k ≠ j → pc k = kind k) → (∀ k, k ≠ j → pm k = kind k) → ∃ A pc' pm' lk, pX1_kindsOf_L13 (nI j) which leaf (nI r) page' sees' (nI n) (nI w) K1 fl a (nI p) pc = K1 A (nI 3) pc' ∧ pX8_kinds_L22 (nI j) (nI n) (nI w) page sees (nI r) which leaf K2 fl a (nI p) pm lk0 = K2 A (nI 3) pm' lk ∧ ∀ k, k ≠ j → pm' k = kind k := by
  have hn := h.1
  intro m
  induction m with
  | zero =>
    intro p fl a lk0 pc pm hp hf h1 h2
    obtain ⟨fl', rfl⟩ : ∃ x, fl = x + 1 := ⟨fl - 1, by omega⟩
    obtain rfl : p = 3 := by omega
    refine ⟨a, pc, pm, lk0, ?_, ?_, h2⟩
    · rw [pX1_kindsOf_L13_s, if_pos (show (2 : Int32) < nI 3 from nI_lt (a := 2) (by decide) (by decide))]
    · rw [pX8_kinds_L22_s, if_pos (show (3 : Int32) ≤ nI 3 from nI_le (a := 3) (by decide) (by decide))]
  | succ m ih =>
    intro p fl a lk0 pc pm hp3 hf h1 h2
    obtain ⟨fl', rfl⟩ : ∃ x, fl = x + 1 := ⟨fl - 1, by omega⟩
    have hv : nI p = 0 ∨ nI p = 1 ∨ nI p = 2 := by
      rcases (show p = 0 ∨ p = 1 ∨ p = 2 by omega) with rfl | rfl | rfl
      · exact Or.inl rfl
      · exact Or.inr (Or.inl rfl)
      · exact Or.inr (Or.inr rfl)
    have hBm : BookOk n w (upd pm j (nI p)) page asked sees := by
      have e : upd pm j (nI p) = upd kind j (nI p) := by
        funext k
        by_cases e : k = j
        · subst e; rw [upd_at, upd_at]
        · rw [upd_ne e, upd_ne e]; exact h2 k e
      rw [e]
      exact h.kind hv
    have agp : Ag n (upd pc j (nI p)) (upd pm j (nI p)) := Ag_upd (fun k hk e => by rw [h1 k hk e, h2 k e])
    have hBc : BookOk n w (upd pc j (nI p)) page' asked sees' := hBm.ag agp hp hs
    obtain ⟨lk, e2⟩ := so_m (leaf := leaf) hBm hr lk0
    have e1 := all_c (leaf := leaf) hBc hr
    rw [allS_ag (leaf := leaf) hBm hr agp hp hs r 0 (by omega)] at e1
    have nx : ∀ a, ∃ A pc' pm' lk', pX1_kindsOf_L13 (nI j) which leaf (nI r) page' sees' (nI n) (nI w) K1 fl' a (nI (p + 1)) (upd pc j (nI p)) = K1 A (nI 3) pc' ∧ pX8_kinds_L22 (nI j) (nI n) (nI w) page sees (nI r) which leaf K2 fl' a (nI (p + 1)) (upd pm j (nI p)) lk = K2 A (nI 3) pm' lk' ∧ ∀ k, k ≠ j → pm' k = kind k := fun a => ih (p + 1) fl' a lk _ _ (by omega) (by omega) (fun k hk e => by rw [upd_ne e]; exact h1 k hk e) (fun k e => by rw [upd_ne e]; exact h2 k e)
    rw [pX1_kindsOf_L13_s, pX8_kinds_L22_s, if_neg (show ¬ (2 : Int32) < nI p from nI_nlt (a := 2) (by omega) (by decide)), if_neg (show ¬ (3 : Int32) ≤ nI p from nI_ge (b := 3) (by omega) (by decide)), sa_nI (by omega) (by decide), Option.bind_some, sa_nI (by omega) (by decide), Option.bind_some, e1, e2, Option.bind_some, Option.bind_some, show nI p + (1 : Int32) = nI (p + 1) from nI_1 p]
    simp only [jn]
    by_cases c1 : allS n (nI w) (upd pm j (nI p)) page sees which leaf r 0 = 0
    · rw [if_pos c1, if_pos c1, show a ||| (0 : Int32) = a from Int32.or_zero]
      exact nx a
    · rw [if_neg c1, if_neg c1]
      exact nx _
theorem seen_L {n w r j : Nat} {kind page asked sees which leaf kind' page' : Nat → Int32} (h : BookOk n w kind page asked sees) (hr : ReadOk n r which) (hj : j < n) (hk : Ag n kind' kind) (hp : Ag n page' page) (K1 : Int32 → Int32 → (Nat → Int32) → Option (Int32 × (Nat → Int32) × (Nat → Int32) × (Nat → Int32) × (Nat → Int32) × Int32 × Int32)) (K2 : Int32 → Int32 → (Nat → Int32) → Int32 → Option (Int32 × (Nat → Int32) × Int32)) : ∀ (m p fl : Nat) (a lk0 : Int32) (pc pm : Nat → Int32), p + m = n → m < fl → (∀ k, k < n → k ≠ j → pc k = sees k) → (∀ k, k ≠ j → pm k = sees k) → ∃ A pc' pm' lk, pX1_seenOf_L13 (nI j) which leaf (nI r) kind' page' (nI n) (nI w) K1 fl a (nI p) pc = K1 A (nI n) pc' ∧ pX8_seen_L22 (nI j) (nI n) (nI w) kind page (nI r) which leaf K2 fl a (nI p) pm lk0 = K2 A (nI n) pm' lk ∧ (∀ k, k < n → k ≠ j → pc' k = sees k) ∧ ∀ k, k ≠ j → pm' k = sees k := by
  have hn := h.1
  intro m
  induction m with
  | zero =>
    intro p fl a lk0 pc pm hp hf h1 h2
    obtain ⟨fl', rfl⟩ : ∃ x, fl = x + 1 := ⟨fl - 1, by omega⟩
    obtain rfl : p = n := by omega
    refine ⟨a, pc, pm, lk0, ?_, ?_, h1, h2⟩
    · rw [pX1_seenOf_L13_s, if_pos (nI_le (Nat.le_refl p) (by omega))]
    · rw [pX8_seen_L22_s, if_pos (nI_le (Nat.le_refl p) (by omega))]
  | succ m ih =>
    intro p fl a lk0 pc pm hp3 hf h1 h2
    obtain ⟨fl', rfl⟩ : ∃ x, fl = x + 1 := ⟨fl - 1, by omega⟩
    have hBm : BookOk n w kind page asked (upd pm j (nI p)) := by
      have e : upd pm j (nI p) = upd sees j (nI p) := by
        funext k
        by_cases e : k = j
        · subst e; rw [upd_at, upd_at]
        · rw [upd_ne e, upd_ne e]; exact h2 k e
      rw [e]
      exact h.sees (Or.inr ⟨p, by omega, rfl⟩)
    have agp : Ag n (upd pc j (nI p)) (upd pm j (nI p)) := Ag_upd (fun k hk e => by rw [h1 k hk e, h2 k e])
    have hBc : BookOk n w kind' page' asked (upd pc j (nI p)) := hBm.ag hk hp agp
    obtain ⟨lk, e2⟩ := so_m (leaf := leaf) hBm hr lk0
    have e1 := all_c (leaf := leaf) hBc hr
    rw [allS_ag (leaf := leaf) hBm hr hk hp agp r 0 (by omega)] at e1
    have nx : ∀ a, ∃ A pc' pm' lk', pX1_seenOf_L13 (nI j) which leaf (nI r) kind' page' (nI n) (nI w) K1 fl' a (nI (p + 1)) (upd pc j (nI p)) = K1 A (nI n) pc' ∧ pX8_seen_L22 (nI j) (nI n) (nI w) kind page (nI r) which leaf K2 fl' a (nI (p + 1)) (upd pm j (nI p)) lk = K2 A (nI n) pm' lk' ∧ (∀ k, k < n → k ≠ j → pc' k = sees k) ∧ ∀ k, k ≠ j → pm' k = sees k := fun a => ih (p + 1) fl' a lk _ _ (by omega) (by omega) (fun k hk e => by rw [upd_ne e]; exact h1 k hk e) (fun k e => by rw [upd_ne e]; exact h2 k e)
    rw [pX1_seenOf_L13_s, pX8_seen_L22_s, if_neg (nI_ge (by omega) (by omega)), if_neg (nI_ge (by omega) (by omega)), sa_nI (by omega) (by decide), Option.bind_some, sa_nI (by omega) (by decide), Option.bind_some, e1, e2, Option.bind_some, Option.bind_some, show nI p + (1 : Int32) = nI (p + 1) from nI_1 p]
    simp only [jn]
    by_cases c1 : allS n (nI w) kind page (upd pm j (nI p)) which leaf r 0 = 0
    · rw [if_pos c1, if_pos c1, show a ||| (0 : Int32) = a from Int32.or_zero]
      exact nx a
    · rw [if_neg c1, if_neg c1]
      exact nx _
theorem odds_tab : ∀ A : Fin 64, ∀ B : Fin 64, B.val ≤ A.val → A.val ≠ 0 → ∀ p : Fin 2, ((pX7_greatestCommon (nI A.val) (nI B.val)).bind fun z7 => if z7 = 0 then (some ((-9223372036854775808 : Int64))) else (if nI p.val = 0 then ((dvq (nI B.val) z7).bind fun z9 => some z9.toInt64) else ((dvq (nI A.val) z7).bind fun z8 => some z8.toInt64))) = pX8_inLeastTerms (nI B.val).toInt64 (nI A.val).toInt64 (nI p.val) := by decide +kernel
theorem odds_some : ∀ A : Fin 64, ∀ B : Fin 64, B.val ≤ A.val → A.val ≠ 0 → ∀ p : Fin 2, (pX8_inLeastTerms (nI B.val).toInt64 (nI A.val).toInt64 (nI p.val)).isSome = true := by decide +kernel
theorem odds_L {n w : Nat} {kind page asked sees : Nat → Int32} (h : BookOk n w kind page asked sees) (v : Int32) (K1 : Int32 → Int32 → Int32 → Option Int64) (K2 : Int32 → Int32 → Int32 → Int32 → Option (Int64 × Int32)) : ∀ (m k fl a b : Nat) (lk0 : Int32), k + m = n → m < fl → b ≤ a → a ≤ 9 * k → ∃ A B lk, B ≤ A ∧ A ≤ 9 * n ∧ pX7_odds_L28 v kind page asked sees (nI n) (nI w) K1 fl (nI a) (nI b) (nI k) = K1 (nI A) (nI B) (nI n) ∧ pX8_odds_L31 v (nI n) (nI w) kind page asked sees K2 fl (nI a) (nI b) (nI k) lk0 = K2 (nI A) (nI B) (nI n) lk := by
  have hn := h.1
  intro m
  induction m with
  | zero =>
    intro k fl a b lk0 hk hf hb ha
    obtain ⟨f, rfl⟩ : ∃ f, fl = f + 1 := ⟨fl - 1, by omega⟩
    obtain rfl : k = n := by omega
    refine ⟨a, b, lk0, hb, ha, ?_, ?_⟩
    · rw [pX7_odds_L28_s, if_pos (nI_le (Nat.le_refl k) (by omega))]
    · rw [pX8_odds_L31_s, if_pos (nI_le (Nat.le_refl k) (by omega))]
  | succ m ih =>
    intro k fl a b lk0 hk hf hb ha
    obtain ⟨f, rfl⟩ : ∃ f, fl = f + 1 := ⟨fl - 1, by omega⟩
    obtain ⟨lk, h2, -⟩ := leaf_m h (show k < n by omega) lk0
    obtain ⟨c, hc, ec⟩ := (h.2.2 k (by omega)).2.2.1
    rw [pX7_odds_L28_s, pX8_odds_L31_s, if_neg (nI_ge (by omega) (by omega)), if_neg (nI_ge (by omega) (by omega)), ga_nI (by omega) (by decide), Option.bind_some, Option.bind_some, leaf_c h (show k < n by omega), h2, Option.bind_some, Option.bind_some, show nI k + (1 : Int32) = nI (k + 1) from nI_1 k, ec, nI_add]
    simp only [jn, Option.bind_some]
    by_cases e : leafS n (nI w) kind page sees k = v
    · rw [if_pos e, if_pos e, nI_add]
      exact ih (k + 1) f (a + c) (b + c) lk (by omega) (by omega) (by omega) (by omega)
    · rw [if_neg e, if_neg e, show nI b + (0 : Int32) = nI b from nI_add b 0]
      exact ih (k + 1) f (a + c) b lk (by omega) (by omega) (by omega) (by omega)
set_option maxRecDepth 20000 in
theorem T_odds (th : Nat → Int32) (la : Nat → Int32) (le : Nat → Int32) (cf : Nat → Nat → Int32) (kind : Nat → Int32) (page : Nat → Int32) (asked : Nat → Int32) (sees : Nat → Int32) (cnt : Int32) (wet : Int32) (which : Nat → Int32) (leaf : Nat → Int32) (rds : Int32) (f_askedUpTo : Nat → Int32) (f_costs : Nat → Int32) (sorts : Nat → Int32) (slong : Nat → Int32) (mcells : Nat → Int32) (m_looked : Int32) (p1 : Int32) (p2 : Int32) (hI : Inv cnt wet kind page asked sees rds which leaf th la le cf sorts slong mcells f_costs f_askedUpTo) : ∃ (r : Int64) (m_looked' : Int32), pX7_odds kind page asked sees cnt wet p1 p2 = some r ∧ pX8_odds cnt wet kind page asked sees m_looked p1 p2 = some (r, m_looked') ∧ Inv cnt wet kind page asked sees rds which leaf th la le cf sorts slong mcells f_costs f_askedUpTo := by
  obtain ⟨n, w, r, rfl, rfl, rfl, hB, hR, hW, hT⟩ := hI
  have hn := hB.1
  have hI : Inv (nI n) (nI w) kind page asked sees (nI r) which leaf th la le cf sorts slong mcells f_costs f_askedUpTo := ⟨n, w, r, rfl, rfl, rfl, hB, hR, hW, hT⟩
  unfold pX7_odds pX8_odds
  simp only [jn]
  rw [isLeaf_eq]
  by_cases h5 : pX7_isLeaf p1 = 0
  · rw [if_pos h5, if_pos h5]; exact ⟨_, _, rfl, rfl, hI⟩
  rw [if_neg h5, if_neg h5]
  rcases win_or p2 1 (by decide) with ⟨h2, h3⟩ | ⟨a, ha, rfl, h2⟩
  · rw [if_pos (show pX8_within p2 0 1 = 0 from h2)]
    have z0 : ¬ p2 = 0 := fun e => by
      rw [e] at h3
      exact absurd h3 (by decide)
    have z1 : ¬ p2 = 1 := fun e => by
      rw [e] at h3
      exact absurd h3 (by decide)
    rw [if_neg z0, if_neg z1]
    exact ⟨_, _, rfl, rfl, hI⟩
  rw [if_neg (one_ne (show pX8_within (nI a) 0 1 = 1 from h2))]
  obtain ⟨A, B, lk, q1, q2, e1, e2⟩ := odds_L hB p1 (fun (k6_v3 : Int32) (k6_v4 : Int32) (k6_v5 : Int32) => if k6_v3 = 0 then (some ((-9223372036854775808 : Int64))) else ((pX7_greatestCommon k6_v3 k6_v4).bind fun z7 => if z7 = 0 then (some ((-9223372036854775808 : Int64))) else (if nI a = 0 then ((dvq k6_v4 z7).bind fun z9 => some z9.toInt64) else ((dvq k6_v3 z7).bind fun z8 => some z8.toInt64)))) (fun (k5_v3 : Int32) (k5_v4 : Int32) (k5_v5 : Int32) (k5_w_m_looked : Int32) => if k5_v3 = 0 then (some (((-9223372036854775808 : Int64), k5_w_m_looked))) else ((pX8_inLeastTerms k5_v4.toInt64 k5_v3.toInt64 (nI a)).bind fun z6 => some ((z6, k5_w_m_looked)))) n 0 fu 0 0 m_looked (by omega) (by unfold fu; omega) (by omega) (by omega)
  rw [show nI 0 = (0 : Int32) from rfl] at e1 e2
  have fin : ∃ (r_1 : Int64) (m_looked' : Int32), (if nI A = 0 then (some ((-9223372036854775808 : Int64))) else ((pX7_greatestCommon (nI A) (nI B)).bind fun z7 => if z7 = 0 then (some ((-9223372036854775808 : Int64))) else (if nI a = 0 then ((dvq (nI B) z7).bind fun z9 => some z9.toInt64) else ((dvq (nI A) z7).bind fun z8 => some z8.toInt64)))) = some r_1 ∧ (if nI A = 0 then (some (((-9223372036854775808 : Int64), lk))) else ((pX8_inLeastTerms (nI B).toInt64 (nI A).toInt64 (nI a)).bind fun z6 => some ((z6, lk)))) = some (r_1, m_looked') := by
    by_cases c : A = 0
    · subst c
      rw [if_pos (show nI 0 = (0 : Int32) from rfl), if_pos (show nI 0 = (0 : Int32) from rfl)]
      exact ⟨_, _, rfl, rfl⟩
    · have nz : ¬ nI A = 0 := nI_ne0 (by omega) (by omega)
      rw [if_neg nz, if_neg nz]
      have t1 := odds_tab ⟨A, by omega⟩ ⟨B, by omega⟩ q1 c ⟨a, by omega⟩
      have t2 := odds_some ⟨A, by omega⟩ ⟨B, by omega⟩ q1 c ⟨a, by omega⟩
      obtain ⟨z, ez⟩ := Option.isSome_iff_exists.mp t2
      have t1' := t1.trans ez
      have ez' : pX8_inLeastTerms (nI B).toInt64 (nI A).toInt64 (nI a) = some z := ez
      rw [ez']
      exact ⟨z, lk, t1', rfl⟩
  obtain ⟨r1, lk1, f1, f2⟩ := fin
  refine ⟨r1, lk1, ?_, e2.trans f2, hI⟩
  rcases (show a = 0 ∨ a = 1 by omega) with rfl | rfl
  · rw [if_pos (show nI 0 = (0 : Int32) from rfl)]
    exact e1.trans f1
  · rw [if_neg (show ¬ nI 1 = (0 : Int32) by decide), if_pos (show nI 1 = (1 : Int32) from rfl)]
    exact e1.trans f1
set_option maxRecDepth 20000 in
theorem T_pages (th : Nat → Int32) (la : Nat → Int32) (le : Nat → Int32) (cf : Nat → Nat → Int32) (kind : Nat → Int32) (page : Nat → Int32) (asked : Nat → Int32) (sees : Nat → Int32) (cnt : Int32) (wet : Int32) (which : Nat → Int32) (leaf : Nat → Int32) (rds : Int32) (d_fittingPages : Int32) (d_leastPage : Int32) (d_greatestPage : Int32) (e_kind : Nat → Int32) (e_page : Nat → Int32) (e_asked : Nat → Int32) (e_sent : Nat → Int32) (e_count : Int32) (e_wetSet : Int32) (f_askedUpTo : Nat → Int32) (f_costs : Nat → Int32) (sorts : Nat → Int32) (slong : Nat → Int32) (mcells : Nat → Int32) (m_looked : Int32) (p1 : Int32) (p2 : Int32) (hI : Inv cnt wet kind page asked sees rds which leaf th la le cf sorts slong mcells f_costs f_askedUpTo) : ∃ (r : Int32) (d_fittingPages' : Int32) (d_leastPage' : Int32) (d_greatestPage' : Int32) (e_kind' : Nat → Int32) (e_page' : Nat → Int32) (e_asked' : Nat → Int32) (e_sent' : Nat → Int32) (e_count' : Int32) (e_wetSet' : Int32) (m_looked' : Int32), pX7_pages kind page asked sees cnt wet which leaf rds d_fittingPages d_leastPage d_greatestPage e_kind e_page e_asked e_sent e_count e_wetSet p1 p2 = some (r, d_fittingPages', d_leastPage', d_greatestPage', e_kind', e_page', e_asked', e_sent', e_count', e_wetSet') ∧ pX8_pages cnt wet kind page sees m_looked rds which leaf p1 p2 = some (r, page, m_looked') ∧ Inv cnt wet kind page asked sees rds which leaf th la le cf sorts slong mcells f_costs f_askedUpTo := by
  obtain ⟨n, w, r, rfl, rfl, rfl, hB, hR, hW, hT⟩ := hI
  have hn := hB.1
  have hI : Inv (nI n) (nI w) kind page asked sees (nI r) which leaf th la le cf sorts slong mcells f_costs f_askedUpTo := ⟨n, w, r, rfl, rfl, rfl, hB, hR, hW, hT⟩
  unfold pX7_pages pX8_pages
  rw [isSlip_has]
  rcases has_nI n (by omega) p1 with ⟨h0, -⟩ | ⟨j, hj, rfl, h1⟩
  · rw [if_pos h0, if_pos h0]
    exact ⟨_, _, _, _, _, _, _, _, _, _, _, rfl, rfl, hI⟩
  rw [if_neg (one_ne h1), if_neg (one_ne h1)]
  rcases win_or p2 2 (by decide) with ⟨h2, h3⟩ | ⟨a, ha, rfl, h2⟩
  · rw [if_pos (show pX8_within p2 0 2 = 0 from h2)]
    by_cases h4 : p2 < 0
    · rw [if_pos h4]
      exact ⟨_, _, _, _, _, _, _, _, _, _, _, rfl, rfl, hI⟩
    · rw [if_neg h4, if_neg (show ¬ p2 ≤ (2 : Int32) from nle_of_lt (h3.resolve_left h4))]
      exact ⟨_, _, _, _, _, _, _, _, _, _, _, rfl, rfl, hI⟩
  rw [if_neg (one_ne (show pX8_within (nI a) 0 2 = 1 from h2)), if_neg (nI_pos (by omega)), if_pos (show nI a ≤ (2 : Int32) from nI_le (b := 2) ha (by decide)), ga_nI (by omega) (by decide), Option.bind_some]
  unfold pX1_tryPages
  obtain ⟨g1, g2, g3, g4, k1, k2⟩ := like_c e_kind e_page e_asked e_sent e_count e_wetSet kind page asked sees (nI n) (nI w)
  rw [k1, Option.bind_some]
  obtain ⟨A, B, C, pc', pm', lk, e1, e2, e3⟩ := pages_L (leaf := leaf) (ρ := Unit) (σ := Unit) hB hR hj (kind' := g1) (sees' := g4) (fun k hk => (k2 k (by omega)).1) (fun k hk => (k2 k (by omega)).2.2.2) (fun _ fp lp gp pg => some (fp, lp, gp, g1, pg, g3, g4, nI n, nI w)) (fun x y z _ pg l => (sa pg 7 (nI j) (page j)).bind fun g7 => if nI a = 0 then some (x, g7, l) else if nI a = 1 then some (y, g7, l) else some (z, g7, l)) 50 0 fu 0 (-9) (-9) m_looked g2 page (by omega) (by unfold fu; omega) (fun k hk _ => (k2 k (by omega)).2.1) (fun k _ => rfl)
  have s1 : sa pm' 7 (nI j) (page j) = some page := by rw [sa_nI (by omega) (by decide), upd_back e3]
  rw [show nI 0 = (0 : Int32) from rfl] at e1 e2
  rw [e1, e2, s1, Option.bind_some, Option.bind_some]
  by_cases c0 : nI a = 0
  · rw [if_pos c0, if_pos c0]
    exact ⟨_, _, _, _, _, _, _, _, _, _, _, rfl, rfl, hI⟩
  · rw [if_neg c0, if_neg c0]
    by_cases c1 : nI a = 1
    · rw [if_pos c1, if_pos c1]
      exact ⟨_, _, _, _, _, _, _, _, _, _, _, rfl, rfl, hI⟩
    · rw [if_neg c1, if_neg c1]
      exact ⟨_, _, _, _, _, _, _, _, _, _, _, rfl, rfl, hI⟩
set_option maxRecDepth 20000 in
theorem T_kinds (th : Nat → Int32) (la : Nat → Int32) (le : Nat → Int32) (cf : Nat → Nat → Int32) (kind : Nat → Int32) (page : Nat → Int32) (asked : Nat → Int32) (sees : Nat → Int32) (cnt : Int32) (wet : Int32) (which : Nat → Int32) (leaf : Nat → Int32) (rds : Int32) (e_kind : Nat → Int32) (e_page : Nat → Int32) (e_asked : Nat → Int32) (e_sent : Nat → Int32) (e_count : Int32) (e_wetSet : Int32) (f_askedUpTo : Nat → Int32) (f_costs : Nat → Int32) (sorts : Nat → Int32) (slong : Nat → Int32) (mcells : Nat → Int32) (m_looked : Int32) (p1 : Int32) (hI : Inv cnt wet kind page asked sees rds which leaf th la le cf sorts slong mcells f_costs f_askedUpTo) : ∃ (r : Int32) (e_kind' : Nat → Int32) (e_page' : Nat → Int32) (e_asked' : Nat → Int32) (e_sent' : Nat → Int32) (e_count' : Int32) (e_wetSet' : Int32) (m_looked' : Int32), pX7_kinds kind page asked sees cnt wet which leaf rds e_kind e_page e_asked e_sent e_count e_wetSet p1 = some (r, e_kind', e_page', e_asked', e_sent', e_count', e_wetSet') ∧ pX8_kinds cnt wet kind page sees m_looked rds which leaf p1 = some (r, kind, m_looked') ∧ Inv cnt wet kind page asked sees rds which leaf th la le cf sorts slong mcells f_costs f_askedUpTo := by
  obtain ⟨n, w, r, rfl, rfl, rfl, hB, hR, hW, hT⟩ := hI
  have hn := hB.1
  have hI : Inv (nI n) (nI w) kind page asked sees (nI r) which leaf th la le cf sorts slong mcells f_costs f_askedUpTo := ⟨n, w, r, rfl, rfl, rfl, hB, hR, hW, hT⟩
  unfold pX7_kinds pX8_kinds
  rw [isSlip_has]
  rcases has_nI n (by omega) p1 with ⟨h0, -⟩ | ⟨j, hj, rfl, h1⟩
  · rw [if_pos h0, if_pos h0]
    exact ⟨_, _, _, _, _, _, _, _, rfl, rfl, hI⟩
  rw [if_neg (one_ne h1), if_neg (one_ne h1), ga_nI (by omega) (by decide), Option.bind_some]
  unfold pX1_kindsOf
  obtain ⟨g1, g2, g3, g4, k1, k2⟩ := like_c e_kind e_page e_asked e_sent e_count e_wetSet kind page asked sees (nI n) (nI w)
  rw [k1, Option.bind_some]
  obtain ⟨A, pc', pm', lk, e1, e2, e3⟩ := kinds_L (leaf := leaf) hB hR hj (page' := g2) (sees' := g4) (fun k hk => (k2 k (by omega)).2.1) (fun k hk => (k2 k (by omega)).2.2.2) (fun x _ kd => some (x, kd, g2, g3, g4, nI n, nI w)) (fun x _ kd l => (sa kd 7 (nI j) (kind j)).bind fun g6 => some (x, g6, l)) 3 0 fu 0 m_looked g1 kind (by omega) (by unfold fu; omega) (fun k hk _ => (k2 k (by omega)).1) (fun k _ => rfl)
  have s1 : sa pm' 7 (nI j) (kind j) = some kind := by rw [sa_nI (by omega) (by decide), upd_back e3]
  rw [show nI 0 = (0 : Int32) from rfl] at e1 e2
  rw [e1, e2, s1, Option.bind_some, Option.bind_some]
  exact ⟨_, _, _, _, _, _, _, _, rfl, rfl, hI⟩
set_option maxRecDepth 20000 in
theorem T_seen (th : Nat → Int32) (la : Nat → Int32) (le : Nat → Int32) (cf : Nat → Nat → Int32) (kind : Nat → Int32) (page : Nat → Int32) (asked : Nat → Int32) (sees : Nat → Int32) (cnt : Int32) (wet : Int32) (which : Nat → Int32) (leaf : Nat → Int32) (rds : Int32) (e_kind : Nat → Int32) (e_page : Nat → Int32) (e_asked : Nat → Int32) (e_sent : Nat → Int32) (e_count : Int32) (e_wetSet : Int32) (f_askedUpTo : Nat → Int32) (f_costs : Nat → Int32) (sorts : Nat → Int32) (slong : Nat → Int32) (mcells : Nat → Int32) (m_looked : Int32) (p1 : Int32) (hI : Inv cnt wet kind page asked sees rds which leaf th la le cf sorts slong mcells f_costs f_askedUpTo) : ∃ (r : Int32) (e_kind' : Nat → Int32) (e_page' : Nat → Int32) (e_asked' : Nat → Int32) (e_sent' : Nat → Int32) (e_count' : Int32) (e_wetSet' : Int32) (m_looked' : Int32), pX7_seen kind page asked sees cnt wet which leaf rds e_kind e_page e_asked e_sent e_count e_wetSet p1 = some (r, e_kind', e_page', e_asked', e_sent', e_count', e_wetSet') ∧ pX8_seen cnt wet kind page sees m_looked rds which leaf p1 = some (r, sees, m_looked') ∧ Inv cnt wet kind page asked sees rds which leaf th la le cf sorts slong mcells f_costs f_askedUpTo := by
  obtain ⟨n, w, r, rfl, rfl, rfl, hB, hR, hW, hT⟩ := hI
  have hn := hB.1
  have hI : Inv (nI n) (nI w) kind page asked sees (nI r) which leaf th la le cf sorts slong mcells f_costs f_askedUpTo := ⟨n, w, r, rfl, rfl, rfl, hB, hR, hW, hT⟩
  unfold pX7_seen pX8_seen
  rw [isSlip_has]
  rcases has_nI n (by omega) p1 with ⟨h0, -⟩ | ⟨j, hj, rfl, h1⟩
  · rw [if_pos h0, if_pos h0]
    exact ⟨_, _, _, _, _, _, _, _, rfl, rfl, hI⟩
  rw [if_neg (one_ne h1), if_neg (one_ne h1), ga_nI (by omega) (by decide), Option.bind_some]
  unfold pX1_seenOf
  obtain ⟨g1, g2, g3, g4, k1, k2⟩ := like_c e_kind e_page e_asked e_sent e_count e_wetSet kind page asked sees (nI n) (nI w)
  rw [k1, Option.bind_some]
  obtain ⟨A, pc', pm', lk, e1, e2, e4, e3⟩ := seen_L (leaf := leaf) hB hR hj (kind' := g1) (page' := g2) (fun k hk => (k2 k (by omega)).1) (fun k hk => (k2 k (by omega)).2.1) (fun (k5_v3 : Int32) (k5_v4 : Int32) (k5_w_e_sent : Nat → Int32) => (sa k5_w_e_sent 7 (nI j) ((-9 : Int32))).bind fun g6 => (pX1_allAreSo which leaf (nI r) g1 g2 g6 (nI n) (nI w)).bind fun z7 => if z7 = 0 then (some ((k5_v3, g1, g2, g3, g6, nI n, nI w))) else (some ((k5_v3 ||| ((128 : Int32)), g1, g2, g3, g6, nI n, nI w)))) (fun (k5_v3 : Int32) (k5_v4 : Int32) (k5_w_m_sees : Nat → Int32) (k5_w_m_looked : Int32) => (sa k5_w_m_sees 7 (nI j) ((-9 : Int32))).bind fun g6 => (pX8_areSo (nI n) (nI w) kind page g6 k5_w_m_looked (nI r) which leaf).bind fun z7 => jn (fun (u8_0 : Int32) => (sa g6 7 (nI j) (sees j)).bind fun g9 => some ((k5_v3 ||| u8_0, g9, z7.2))) (fun J86_8 : Int32 → Option (Int32 × (Nat → Int32) × Int32) => if z7.1 = 0 then (J86_8 ((0 : Int32))) else (J86_8 ((128 : Int32))))) n 0 fu 0 m_looked g4 sees (by omega) (by unfold fu; omega) (fun k hk _ => (k2 k (by omega)).2.2.2) (fun k _ => rfl)
  rw [show nI 0 = (0 : Int32) from rfl] at e1 e2
  rw [e1, e2, sa_nI (by omega) (by decide), Option.bind_some, sa_nI (by omega) (by decide), Option.bind_some]
  have hBm : BookOk n w kind page asked (upd pm' j (-9)) := by
    have e : upd pm' j (-9) = upd sees j (-9) := by
      funext k
      by_cases e : k = j
      · subst e; rw [upd_at, upd_at]
      · rw [upd_ne e, upd_ne e]; exact e3 k e
    rw [e]
    exact hB.sees (Or.inl rfl)
  have agp : Ag n (upd pc' j (-9)) (upd pm' j (-9)) := Ag_upd (fun k hk e => by rw [e4 k hk e, e3 k e])
  have hBc : BookOk n w g1 g2 asked (upd pc' j (-9)) := hBm.ag (fun k hk => (k2 k (by omega)).1) (fun k hk => (k2 k (by omega)).2.1) agp
  obtain ⟨lk', f2⟩ := so_m (leaf := leaf) hBm hR lk
  have f1 := all_c (leaf := leaf) hBc hR
  rw [allS_ag (leaf := leaf) hBm hR (fun k hk => (k2 k (by omega)).1) (fun k hk => (k2 k (by omega)).2.1) agp r 0 (by omega)] at f1
  have s1 : sa (upd pm' j (-9)) 7 (nI j) (sees j) = some sees := by
    rw [sa_nI (by omega) (by decide), upd_back (fun k e => by rw [upd_ne e]; exact e3 k e)]
  rw [f1, f2, Option.bind_some, Option.bind_some]
  simp only [jn, s1, Option.bind_some]
  by_cases c1 : allS n (nI w) kind page (upd pm' j (-9)) which leaf r 0 = 0
  · rw [if_pos c1, if_pos c1, show A ||| (0 : Int32) = A from Int32.or_zero]
    exact ⟨_, _, _, _, _, _, _, _, rfl, rfl, hI⟩
  · rw [if_neg c1, if_neg c1]
    exact ⟨_, _, _, _, _, _, _, _, rfl, rfl, hI⟩
