theorem bq0 : bq 0 = some 0 := rfl
theorem bq1 : bq 1 = some 1 := rfl
theorem nI_sub10 {d : Nat} (h : 10 ≤ d) : nI d - (10 : Int32) = nI (d - 10) := pk_sub (a := d) (b := 10) h
/-- a number from a to b, or not -/
theorem win_or2 (p : Int32) (A B : Nat) (hA : A < 2 ^ 31) (hB : B < 2 ^ 31) : (pX8_within p (nI A) (nI B) = 0 ∧ (p.toInt < A ∨ (B : Int) < p.toInt)) ∨ ∃ a, A ≤ a ∧ a ≤ B ∧ p = nI a ∧ pX8_within p (nI A) (nI B) = 1 := by
  unfold pX8_within
  by_cases h0 : p < nI A
  · refine Or.inl ⟨if_pos h0, Or.inl ?_⟩
    have h0 := lt_toI.mp h0
    rwa [nI_toInt hA] at h0
  · by_cases h1 : nI B < p
    · refine Or.inl ⟨by rw [if_neg h0, if_pos h1], Or.inr ?_⟩
      have h1 := lt_toI.mp h1
      rwa [nI_toInt hB] at h1
    · refine Or.inr ?_
      rw [lt_toI, nI_toInt hA] at h0
      have h1' := h1
      rw [lt_toI, nI_toInt hB] at h1'
      obtain ⟨j, hj, rfl⟩ := nI_of (x := p) (fun q => by have q := lt_toI.mp q; rw [show (0 : Int32).toInt = 0 from rfl] at q; omega)
      rw [nI_toInt hj] at h0 h1'
      refine ⟨j, by omega, by omega, rfl, ?_⟩
      rw [if_neg (nI_nlt (by omega) (by omega)), if_neg h1]
theorem two_or (p : Int32) (A B C : Nat) (hA : A < 2 ^ 31) (hB : B < 2 ^ 31) (hC : C < 2 ^ 31) (hAB : A < B) (hBC : B ≤ C) : ((pX8_within p 0 (nI A) = 0 ∧ pX8_within p (nI B) (nI C) = 0) ∧ (p < 0 ∨ nI A < p) ∧ (p < nI B ∨ nI C < p)) ∨ ∃ d, (d ≤ A ∨ (B ≤ d ∧ d ≤ C)) ∧ p = nI d ∧ ¬ (pX8_within p 0 (nI A) = 0 ∧ pX8_within p (nI B) (nI C) = 0) := by
  rcases win_or p A hA with ⟨h1, h1'⟩ | ⟨a, ha, rfl, h1⟩
  · rcases win_or2 p B C hB hC with ⟨h2, h2'⟩ | ⟨a, ha, hb, rfl, h2⟩
    · refine Or.inl ⟨⟨h1, h2⟩, h1', ?_⟩
      rcases h2' with h | h
      · left; rw [lt_toI, nI_toInt hB]; exact h
      · right; rw [lt_toI, nI_toInt hC]; exact h
    · exact Or.inr ⟨a, Or.inr ⟨ha, hb⟩, rfl, fun q => one_ne h2 q.2⟩
  · exact Or.inr ⟨a, Or.inl ha, rfl, fun q => one_ne h1 q.1⟩
theorem deed_tab : ∀ d : Fin 20, (d.val ≤ 2 ∨ 10 ≤ d.val) → pX6_isDeed (nI d.val) = 1 := by decide +kernel
theorem ans_tab : ∀ d : Fin 17, (d.val ≤ 3 ∨ 10 ≤ d.val) → pX6_answers (nI d.val) = 1 := by decide +kernel
theorem deed_or (p : Int32) : ((pX8_within p 0 2 = 0 ∧ pX8_within p 10 19 = 0) ∧ pX6_isDeed p = 0) ∨ ∃ d, (d ≤ 2 ∨ (10 ≤ d ∧ d ≤ 19)) ∧ p = nI d ∧ ¬ (pX8_within p 0 2 = 0 ∧ pX8_within p 10 19 = 0) ∧ pX6_isDeed p = 1 := by
  rcases two_or p 2 10 19 (by decide) (by decide) (by decide) (by decide) (by decide) with ⟨h, h1, h2⟩ | ⟨d, hd, rfl, h⟩
  · refine Or.inl ⟨h, ?_⟩
    have h1 : p < 0 ∨ (2 : Int32) < p := h1
    have h2 : p < (10 : Int32) ∨ (19 : Int32) < p := h2
    unfold pX6_isDeed
    simp only [jn]
    have e : (if p < (10 : Int32) then (0 : Int32) else (if (19 : Int32) < p then 0 else 1)) = 0 := by
      rcases h2 with h2 | h2
      · rw [if_pos h2]
      · rw [if_pos h2]; split <;> rfl
    rw [e]
    rcases h1 with h1 | h1
    · rw [if_pos h1]
    · rw [if_neg (nle_of_lt h1)]; split <;> rfl
  · exact Or.inr ⟨d, hd, rfl, h, deed_tab ⟨d, by omega⟩ (by show d ≤ 2 ∨ 10 ≤ d; omega)⟩
theorem ans_or (p : Int32) : ((pX8_within p 0 3 = 0 ∧ pX8_within p 10 16 = 0) ∧ pX6_answers p = 0) ∨ ∃ d, (d ≤ 3 ∨ (10 ≤ d ∧ d ≤ 16)) ∧ p = nI d ∧ ¬ (pX8_within p 0 3 = 0 ∧ pX8_within p 10 16 = 0) ∧ pX6_answers p = 1 := by
  rcases two_or p 3 10 16 (by decide) (by decide) (by decide) (by decide) (by decide) with ⟨h, h1, h2⟩ | ⟨d, hd, rfl, h⟩
  · refine Or.inl ⟨h, ?_⟩
    have h1 : p < 0 ∨ (3 : Int32) < p := h1
    have h2 : p < (10 : Int32) ∨ (17 : Int32) ≤ p := by
      rcases h2 with h2 | h2
      · exact Or.inl h2
      · right
        have h2 := lt_toI.mp h2
        rw [nI_toInt (by decide)] at h2
        rw [le_toI, show (17 : Int32).toInt = 17 from rfl]
        omega
    unfold pX6_answers
    simp only [jn]
    have e : (if p < (10 : Int32) then (0 : Int32) else (if (17 : Int32) ≤ p then 0 else 1)) = 0 := by
      rcases h2 with h2 | h2
      · rw [if_pos h2]
      · rw [if_pos h2]; split <;> rfl
    rw [e]
    rcases h1 with h1 | h1
    · rw [if_pos h1]
    · rw [if_neg (nle_of_lt h1)]; split <;> rfl
  · exact Or.inr ⟨d, hd, rfl, h, ans_tab ⟨d, by omega⟩ (by show d ≤ 3 ∨ 10 ≤ d; omega)⟩
theorem refP {n : Nat} (hn : n < 2 ^ 31) (x y : Int32) : (pX8_refusesPair (nI n) x y = -2 ∧ pX6_isDeed y = 0) ∨ (pX8_refusesPair (nI n) x y = -1 ∧ pX6_isDeed y = 1 ∧ pX4_has (nI n) x = 0) ∨ (pX8_refusesPair (nI n) x y = 0 ∧ pX6_isDeed y = 1 ∧ pX4_has (nI n) x = 1 ∧ (∃ j, j < n ∧ x = nI j) ∧ ∃ d, (d ≤ 2 ∨ (10 ≤ d ∧ d ≤ 19)) ∧ y = nI d) := by
  unfold pX8_refusesPair
  simp only [jn]
  rw [isSlip_has]
  rcases deed_or y with ⟨⟨h1, h2⟩, h3⟩ | ⟨d, hd, rfl, h1, h2⟩
  · exact Or.inl ⟨by rw [if_pos h1, if_pos h2], h3⟩
  · have e : ∀ J : Int32, (if pX8_within (nI d) 0 2 = 0 then (if pX8_within (nI d) 10 19 = 0 then (-2 : Int32) else J) else J) = J := by
      intro J
      by_cases c1 : pX8_within (nI d) 0 2 = 0
      · rw [if_pos c1, if_neg (fun c2 => h1 ⟨c1, c2⟩)]
      · rw [if_neg c1]
    rw [e]
    right
    rcases has_nI n hn x with ⟨k0, -⟩ | ⟨j, hj, rfl, k1⟩
    · exact Or.inl ⟨by rw [if_pos k0], h2, k0⟩
    · exact Or.inr ⟨by rw [if_neg (one_ne k1)], h2, k1, ⟨j, hj, rfl⟩, d, hd, rfl⟩
theorem c2q (a q : Nat) : nI a + (2 : Int32) * nI q = nI (a + 2 * q) := by
  show nI a + nI 2 * nI q = _
  rw [pk_mul, nI_add]
def Pairs (n a N : Nat) (c : Nat → Int32) (q : Nat) : Prop := ∀ i, q ≤ i → i < N → (∃ j, j < n ∧ c (a + 2 * i) = nI j) ∧ ∃ d, (d ≤ 2 ∨ (10 ≤ d ∧ d ≤ 19)) ∧ c (a + 2 * i + 1) = nI d
theorem ref_L {n a N F : Nat} {c mc : Nat → Int32} (hn : n ≤ 7) (ha : a + 2 * N ≤ 60) (hF : F + 2 * N ≤ 240) (hc : ∀ x, x < 2 * N → c (a + x) = mc (F + x)) (flt wet : Int32) (sees : Nat → Int32) (lk : Int32) (ks : Nat → Int32) (s1 s2 s3 : Int32) (K2 : Int32 → Option (Int32 × Int32 × Int32 × (Nat → Int32) × Int32 × (Nat → Int32) × Int32 × Int32 × Int32)) : ∀ m q fl, q + m = N → m < fl → (∃ z, z ≠ 0 ∧ pX7_refusalOfPairs_L3 (nI a) (nI N) (nI n) c (fun _ => some 0) fl (nI q) = some z ∧ pX8_years_L103 (nI N) (nI F) flt mc (nI n) wet sees lk ks s1 s2 s3 K2 fl (nI q) = some (z, flt, wet, sees, lk, ks, s1, s2, s3)) ∨ (pX7_refusalOfPairs_L3 (nI a) (nI N) (nI n) c (fun _ => some 0) fl (nI q) = some 0 ∧ pX8_years_L103 (nI N) (nI F) flt mc (nI n) wet sees lk ks s1 s2 s3 K2 fl (nI q) = K2 (nI N) ∧ Pairs n a N c q) := by
  intro m
  induction m with
  | zero =>
    intro q fl hq hf
    obtain ⟨f, rfl⟩ : ∃ f, fl = f + 1 := ⟨fl - 1, by omega⟩
    obtain rfl : q = N := by omega
    right
    rw [pX7_refusalOfPairs_L3_s, pX8_years_L103_s, if_pos (nI_le (Nat.le_refl q) (by omega)), if_pos (nI_le (Nat.le_refl q) (by omega))]
    exact ⟨rfl, rfl, fun i h1 h2 => by omega⟩
  | succ m ih =>
    intro q fl hq hf
    obtain ⟨f, rfl⟩ : ∃ f, fl = f + 1 := ⟨fl - 1, by omega⟩
    rw [pX7_refusalOfPairs_L3_s, pX8_years_L103_s, if_neg (nI_ge (by omega) (by omega)), if_neg (nI_ge (by omega) (by omega)), c2q, c2q, show nI (a + 2 * q) + (1 : Int32) = nI (a + 2 * q + 1) from nI_1 _, show nI (F + 2 * q) + (1 : Int32) = nI (F + 2 * q + 1) from nI_1 _, ga_nI (by omega) (by decide), ga_nI (by omega) (by decide), ga_nI (by omega) (by decide), ga_nI (by omega) (by decide), Option.bind_some, Option.bind_some, Option.bind_some, Option.bind_some, show nI q + (1 : Int32) = nI (q + 1) from nI_1 q]
    have e1 := hc (2 * q) (by omega)
    have e2 := hc (2 * q + 1) (by omega)
    rw [← Nat.add_assoc, ← Nat.add_assoc] at e2
    rw [← e1, ← e2]
    rcases refP (n := n) (by omega) (c (a + 2 * q)) (c (a + 2 * q + 1)) with ⟨h1, h2⟩ | ⟨h1, h2, h3⟩ | ⟨h1, h2, h3, h4, h5⟩
    · left
      refine ⟨-2, by decide, ?_, ?_⟩
      · rw [if_pos h2]
      · rw [h1, if_neg (by decide)]
    · left
      refine ⟨-1, by decide, ?_, ?_⟩
      · rw [if_neg (one_ne h2), if_pos h3]
      · rw [h1, if_neg (by decide)]
    · rw [if_neg (one_ne h2), if_neg (one_ne h3), h1, if_pos rfl]
      rcases ih (q + 1) f (by omega) (by omega) with h | ⟨k1, k2, k3⟩
      · exact Or.inl h
      · refine Or.inr ⟨k1, k2, fun i hi hi2 => ?_⟩
        by_cases e : i = q
        · subst e; exact ⟨h4, h5⟩
        · exact k3 i (by omega) hi2
theorem tog_tab : ∀ w : Fin 128, ∀ j : Fin 7, (pX4_isWet (nI w.val) (nI j.val) = 0 → (nI w.val ||| ((1 : Int32) <<< (nI j.val &&& 31))) = nI w.val ^^^ ((1 : Int32) <<< (nI j.val &&& 31))) ∧ (pX4_isWet (nI w.val) (nI j.val) = 1 → (nI w.val &&& (((1 : Int32) <<< (nI j.val &&& 31)) ^^^ (-1))) = nI w.val ^^^ ((1 : Int32) <<< (nI j.val &&& 31))) := by decide +kernel
theorem step_y {n w j d : Nat} {kind page asked sees kind' page' sees' : Nat → Int32} (h : BookOk n w kind page asked sees) (h1 : Ag n kind' kind) (h2 : Ag n page' page) (h3 : Ag n sees' sees) (hj : j < n) (hd : d ≤ 2 ∨ (10 ≤ d ∧ d ≤ 19)) (s l lk : Int32) : ∃ (did S L : Int32) (t' t : Nat → Int32) (w1 : Nat) (lk1 : Int32), pX6_happens s l kind' page' sees' (nI n) (nI w) (nI j) (nI d) = some (did, S, L, t', nI w1) ∧ pX8_does (nI n) (nI w) kind page sees lk s l (nI j) (nI d) = some (did, nI w1, t, lk1, S, L) ∧ BookOk n w1 kind page asked t ∧ Ag n t' t ∧ ∀ x, n ≤ x → t x = sees x := by
  have hn := h.1
  have hw := p2_7 hn h.2.1
  have hT := tog_tab ⟨w, hw⟩ ⟨j, by omega⟩
  unfold pX6_happens pX8_does
  by_cases c0 : d = 0
  · subst c0
    rw [if_pos (show nI 0 = (0 : Int32) from rfl), if_pos (show nI 0 = (0 : Int32) from rfl)]
    unfold pX6_leadsSomewhere
    have hB' : BookOk n w kind' page' asked sees' := h.ag h1 h2 h3
    obtain ⟨lk1, e2, -⟩ := leaf_m h hj lk
    rw [leaf_c hB' hj, leafS_ag h h1 h2 h3 hj, e2, Option.bind_some, Option.bind_some]
    simp only [jn]
    by_cases c : leafS n (nI w) kind page sees j = -9
    · simp only [if_pos c, Option.bind_some, bq0]
      exact ⟨_, _, _, _, _, w, _, rfl, by rw [Int32.add_zero, Int32.add_zero], h, h3, fun _ _ => rfl⟩
    · simp only [if_neg c, Option.bind_some, bq1]
      exact ⟨_, _, _, _, _, w, _, rfl, rfl, h, h3, fun _ _ => rfl⟩
  · have d0 : ¬ nI d = (0 : Int32) := fun e => c0 ((nI_eq (a := d) (b := 0) (by omega) (by decide)).mp e)
    rw [if_neg d0, if_neg d0]
    by_cases c1 : d ≤ 2
    · rw [if_pos (show nI d < (10 : Int32) from nI_lt (b := 10) (by omega) (by decide))]
      simp only [jn]
      rw [isOf_wet]
      by_cases e1 : d = 1
      · subst e1
        rw [if_pos (show nI 1 = (1 : Int32) from rfl), if_neg (show ¬ nI 1 = (2 : Int32) by decide)]
        unfold pX4_soak
        by_cases c : pX4_isWet (nI w) (nI j) = 0
        · obtain ⟨k1, k2, -⟩ := soak_ok hn h.2.1 hj
          rw [if_pos c, if_pos c, ← hT.1 c, k1, Option.bind_some, bq1]
          exact ⟨_, _, _, _, _, _, _, rfl, rfl, h.wet k2, h3, fun _ _ => rfl⟩
        · rw [if_neg c, if_neg c, Option.bind_some, bq0]
          exact ⟨_, _, _, _, _, w, _, rfl, rfl, h, h3, fun _ _ => rfl⟩
      · obtain rfl : d = 2 := by omega
        rw [if_neg (show ¬ nI 2 = (1 : Int32) by decide), if_pos (show nI 2 = (2 : Int32) from rfl), if_pos (show nI 2 = (2 : Int32) from rfl)]
        unfold pX4_air
        rcases wet01 (nI w) (nI j) with c | c
        · rw [if_pos c, c, if_neg (by decide), Option.bind_some, bq0]
          exact ⟨_, _, _, _, _, w, _, rfl, rfl, h, h3, fun _ _ => rfl⟩
        · obtain ⟨v, k1, k2⟩ := air_ok hn h.2.1 hj
          rw [if_neg (one_ne c), if_pos c, ← hT.2 c, k1, Option.bind_some, bq1]
          exact ⟨_, _, _, _, _, _, _, rfl, rfl, h.wet k2, h3, fun _ _ => rfl⟩
    · have d1 : ¬ nI d = (1 : Int32) := fun e => c1 (by have := (nI_eq (a := d) (b := 1) (by omega) (by decide)).mp e; omega)
      have d2 : ¬ nI d = (2 : Int32) := fun e => c1 (by have := (nI_eq (a := d) (b := 2) (by omega) (by decide)).mp e; omega)
      rw [if_neg d1, if_neg d2, if_neg (show ¬ nI d < (10 : Int32) from nI_nlt (a := d) (b := 10) (by omega) (by omega))]
      rw [nI_sub10 (by omega)]
      unfold pX4_send
      by_cases c : d - 10 < n
      · have hh : pX4_has (nI n) (nI (d - 10)) = 1 := by
          unfold pX4_has
          rw [if_neg (nI_pos (by omega)), if_neg (nI_ge c (by omega))]
        rw [if_neg (one_ne hh), if_neg (nI_ge c (by omega)), sa_nI (by omega) (by decide), sa_nI (by omega) (by decide)]
        refine ⟨_, _, _, _, _, w, _, rfl, rfl, h.sees (Or.inr ⟨_, c, rfl⟩), Ag_upd (fun k hk _ => h3 k hk), fun x hx => upd_ne (by omega)⟩
      · have hh : pX4_has (nI n) (nI (d - 10)) = 0 := by
          unfold pX4_has
          rw [if_neg (nI_pos (by omega)), if_pos (nI_le (by omega) (by omega))]
        rw [if_pos hh, if_pos (nI_le (by omega) (by omega)), sa_nI (by omega) (by decide), sa_nI (by omega) (by decide)]
        refine ⟨_, _, _, _, _, w, _, rfl, rfl, h.sees (Or.inl rfl), Ag_upd (fun k hk _ => h3 k hk), fun x hx => upd_ne (by omega)⟩
theorem go_L {n a N F : Nat} {c mc kind page asked kind' page' : Nat → Int32} (hn : n ≤ 7) (ha : a + 2 * N ≤ 60) (hF : F + 2 * N ≤ 240) (hc : ∀ x, x < 2 * N → c (a + x) = mc (F + x)) (h1 : Ag n kind' kind) (h2 : Ag n page' page) (hP : Pairs n a N c 0) (K1 : Int32 → Int32 → Int32 → Int32 → (Nat → Int32) → Int32 → Option (Int32 × Int32 × Int32 × (Nat → Int32) × (Nat → Int32) × (Nat → Int32) × (Nat → Int32) × Int32 × Int32)) (K2 : Int32 → Int32 → (Nat → Int32) → Int32 → Int32 → Int32 → Int32 → Option (Int32 × (Nat → Int32) × Int32 × Int32 × Int32 × Int32)) : ∀ (m q fl w : Nat) (s l f lk : Int32) (sees' sees : Nat → Int32), q + m = N → m < fl → BookOk n w kind page asked sees → Ag n sees' sees → ∃ (S L FW : Int32) (t' t : Nat → Int32) (w1 : Nat) (lk1 : Int32), pX6_goThrough_L27 (nI a) (nI N) kind' page' (nI n) c K1 fl (nI q) s l f sees' (nI w) = K1 (nI N) S L FW t' (nI w1) ∧ pX8_goYears_L18 (nI F) (nI N) mc (nI n) kind page K2 fl (nI q) (nI w) sees lk s l f = K2 (nI N) (nI w1) t lk1 S L FW ∧ BookOk n w1 kind page asked t ∧ Ag n t' t ∧ ∀ x, n ≤ x → t x = sees x := by
  intro m
  induction m with
  | zero =>
    intro q fl w s l f lk sees' sees hq hf hB h3
    obtain ⟨fl', rfl⟩ : ∃ f, fl = f + 1 := ⟨fl - 1, by omega⟩
    obtain rfl : q = N := by omega
    rw [pX6_goThrough_L27_s, pX8_goYears_L18_s, if_pos (nI_le (Nat.le_refl q) (by omega)), if_pos (nI_le (Nat.le_refl q) (by omega))]
    exact ⟨s, l, f, sees', sees, w, lk, rfl, rfl, hB, h3, fun _ _ => rfl⟩
  | succ m ih =>
    intro q fl w s l f lk sees' sees hq hf hB h3
    obtain ⟨fl', rfl⟩ : ∃ f, fl = f + 1 := ⟨fl - 1, by omega⟩
    rw [pX6_goThrough_L27_s, pX8_goYears_L18_s, if_neg (nI_ge (by omega) (by omega)), if_neg (nI_ge (by omega) (by omega)), c2q, c2q, show nI (a + 2 * q) + (1 : Int32) = nI (a + 2 * q + 1) from nI_1 _, show nI (F + 2 * q) + (1 : Int32) = nI (F + 2 * q + 1) from nI_1 _, ga_nI (by omega) (by decide), ga_nI (by omega) (by decide), ga_nI (by omega) (by decide), ga_nI (by omega) (by decide), Option.bind_some, Option.bind_some, Option.bind_some, Option.bind_some, show nI q + (1 : Int32) = nI (q + 1) from nI_1 q]
    have e1 := hc (2 * q) (by omega)
    have e2 := hc (2 * q + 1) (by omega)
    rw [← Nat.add_assoc, ← Nat.add_assoc] at e2
    rw [← e1, ← e2]
    obtain ⟨⟨j, hj, ej⟩, d, hd, ed⟩ := hP q (by omega) (by omega)
    rw [ej, ed]
    obtain ⟨did, S, L, t', t, w1, lk1, k1, k2, k3, k4, k5⟩ := step_y hB h1 h2 h3 hj hd s l lk
    rw [k1, k2, Option.bind_some, Option.bind_some]
    simp only [jn]
    have nx : ∀ f', ∃ (S' L' FW : Int32) (u' u : Nat → Int32) (w2 : Nat) (lk2 : Int32), pX6_goThrough_L27 (nI a) (nI N) kind' page' (nI n) c K1 fl' (nI (q + 1)) S L f' t' (nI w1) = K1 (nI N) S' L' FW u' (nI w2) ∧ pX8_goYears_L18 (nI F) (nI N) mc (nI n) kind page K2 fl' (nI (q + 1)) (nI w1) t lk1 S L f' = K2 (nI N) (nI w2) u lk2 S' L' FW ∧ BookOk n w2 kind page asked u ∧ Ag n u' u ∧ ∀ x, n ≤ x → u x = sees x := by
      intro f'
      obtain ⟨S', L', FW, u', u, w2, lk2, m1, m2, m3, m4, m5⟩ := ih (q + 1) fl' w1 S L f' lk1 t' t (by omega) (by omega) k3 k4
      exact ⟨S', L', FW, u', u, w2, lk2, m1, m2, m3, m4, fun x hx => by rw [m5 x hx, k5 x hx]⟩
    by_cases c1 : did = 0
    · rw [if_pos c1, if_pos c1]
      by_cases c2 : f = -9
      · rw [if_pos c2, if_pos c2]; exact nx _
      · rw [if_neg c2, if_neg c2]; exact nx _
    · rw [if_neg c1, if_neg c1]
      by_cases c2 : f = -9
      · rw [if_pos c2]; exact nx _
      · rw [if_neg c2]; exact nx _
theorem keep_L {n : Nat} (hn : n ≤ 7) (sees : Nat → Int32) (K : Int32 → (Nat → Int32) → Option (Int32 × Int32 × Int32 × (Nat → Int32) × Int32 × (Nat → Int32) × Int32 × Int32 × Int32)) : ∀ (m i fl : Nat) (f : Nat → Int32), i + m = n → m < fl → (∀ x, x < i → f x = sees x) → ∃ g, pX8_years_L165 (nI n) sees K fl (nI i) f = K (nI n) g ∧ ∀ x, x < n → g x = sees x := by
  intro m
  induction m with
  | zero =>
    intro i fl f hi hf hx
    obtain ⟨fl', rfl⟩ : ∃ f, fl = f + 1 := ⟨fl - 1, by omega⟩
    obtain rfl : i = n := by omega
    rw [pX8_years_L165_s, if_pos (nI_le (Nat.le_refl i) (by omega))]
    exact ⟨f, rfl, hx⟩
  | succ m ih =>
    intro i fl f hi hf hx
    obtain ⟨fl', rfl⟩ : ∃ f, fl = f + 1 := ⟨fl - 1, by omega⟩
    rw [pX8_years_L165_s, if_neg (nI_ge (by omega) (by omega)), ga_nI (by omega) (by decide), Option.bind_some, sa_nI (by omega) (by decide), Option.bind_some, show nI i + (1 : Int32) = nI (i + 1) from nI_1 i]
    refine ih (i + 1) fl' _ (by omega) (by omega) (fun x hx2 => ?_)
    by_cases e : x = i
    · subst e; exact upd_at _ _ _
    · rw [upd_ne e]; exact hx x (by omega)
theorem rest_L {n : Nat} (hn : n ≤ 7) (ks : Nat → Int32) (K : Int32 → (Nat → Int32) → Option (Int32 × Int32 × Int32 × (Nat → Int32) × Int32 × (Nat → Int32) × Int32 × Int32 × Int32)) : ∀ (m i fl : Nat) (f : Nat → Int32), i + m = n → m < fl → ∃ g, pX8_years_L219 (nI n) ks K fl (nI i) f = K (nI n) g ∧ ∀ x, g x = if i ≤ x ∧ x < n then ks x else f x := by
  intro m
  induction m with
  | zero =>
    intro i fl f hi hf
    obtain ⟨fl', rfl⟩ : ∃ f, fl = f + 1 := ⟨fl - 1, by omega⟩
    obtain rfl : i = n := by omega
    rw [pX8_years_L219_s, if_pos (nI_le (Nat.le_refl i) (by omega))]
    exact ⟨f, rfl, fun x => by rw [if_neg (by omega)]⟩
  | succ m ih =>
    intro i fl f hi hf
    obtain ⟨fl', rfl⟩ : ∃ f, fl = f + 1 := ⟨fl - 1, by omega⟩
    rw [pX8_years_L219_s, if_neg (nI_ge (by omega) (by omega)), ga_nI (by omega) (by decide), Option.bind_some, sa_nI (by omega) (by decide), Option.bind_some, show nI i + (1 : Int32) = nI (i + 1) from nI_1 i]
    obtain ⟨g, h1, h2⟩ := ih (i + 1) fl' (upd f i (ks i)) (by omega) (by omega)
    refine ⟨g, h1, fun x => ?_⟩
    rw [h2 x]
    by_cases e : x = i
    · subst e; rw [if_neg (by omega), if_pos (by omega), upd_at]
    · rw [upd_ne e]
      by_cases c : i + 1 ≤ x ∧ x < n
      · rw [if_pos c, if_pos (by omega)]
      · rw [if_neg c, if_neg (by omega)]
theorem tell_y {n w e : Nat} {kind page asked sees kind' page' sees' : Nat → Int32} (h : BookOk n w kind page asked sees) (h1 : Ag n kind' kind) (h2 : Ag n page' page) (h3 : Ag n sees' sees) (he : e ≤ 3 ∨ (10 ≤ e ∧ e ≤ 16)) (s l f lk : Int32) : ∃ r lk1, pX6_answer s l f kind' page' sees' (nI n) (nI w) (nI e) = some r ∧ pX8_tellYears (nI n) (nI w) kind page sees lk s l f (nI e) = some (r, lk1) := by
  have hn := h.1
  unfold pX6_answer pX8_tellYears
  by_cases c : e ≤ 3
  · rw [if_pos (show nI e < (10 : Int32) from nI_lt (b := 10) (by omega) (by decide))]
    rcases (show e = 0 ∨ e = 1 ∨ e = 2 ∨ e = 3 by omega) with rfl | rfl | rfl | rfl
    · exact ⟨_, _, rfl, rfl⟩
    · exact ⟨_, _, rfl, rfl⟩
    · exact ⟨_, _, rfl, rfl⟩
    · exact ⟨_, _, rfl, rfl⟩
  · have d0 : ¬ nI e = (0 : Int32) := fun q => c (by have := (nI_eq (a := e) (b := 0) (by omega) (by decide)).mp q; omega)
    have d1 : ¬ nI e = (1 : Int32) := fun q => c (by have := (nI_eq (a := e) (b := 1) (by omega) (by decide)).mp q; omega)
    have d2 : ¬ nI e = (2 : Int32) := fun q => c (by have := (nI_eq (a := e) (b := 2) (by omega) (by decide)).mp q; omega)
    have d3 : ¬ nI e = (3 : Int32) := fun q => c (by have := (nI_eq (a := e) (b := 3) (by omega) (by decide)).mp q; omega)
    rw [if_neg d0, if_neg d1, if_neg d2, if_neg d3, if_neg (show ¬ nI e < (10 : Int32) from nI_nlt (a := e) (b := 10) (by omega) (by omega)), nI_sub10 (by omega), isSlip_has]
    rcases has_nI n (by omega) (nI (e - 10)) with ⟨k0, -⟩ | ⟨j, hj, ej, k1⟩
    · rw [if_pos k0, if_pos k0]
      exact ⟨_, _, rfl, rfl⟩
    · rw [if_neg (one_ne k1), if_neg (one_ne k1), ej]
      have hB' : BookOk n w kind' page' asked sees' := h.ag h1 h2 h3
      obtain ⟨lk1, e2, -⟩ := leaf_m h hj lk
      rw [leaf_c hB' hj, leafS_ag h h1 h2 h3 hj, e2]
      exact ⟨_, _, rfl, rfl⟩
set_option maxRecDepth 20000 in
theorem T_years (flt : Int32) (th : Nat → Int32) (la : Nat → Int32) (le : Nat → Int32) (cf : Nat → Nat → Int32) (kind : Nat → Int32) (page : Nat → Int32) (asked : Nat → Int32) (sees : Nat → Int32) (cnt : Int32) (wet : Int32) (which : Nat → Int32) (leaf : Nat → Int32) (rds : Int32) (y_leaves : Int32) (y_led : Int32) (y_firstWrong : Int32) (h_kind : Nat → Int32) (h_page : Nat → Int32) (h_asked : Nat → Int32) (h_sent : Nat → Int32) (h_count : Int32) (h_wetSet : Int32) (f_askedUpTo : Nat → Int32) (f_costs : Nat → Int32) (sorts : Nat → Int32) (slong : Nat → Int32) (mcells : Nat → Int32) (m_looked : Int32) (m_keptSees : Nat → Int32) (m_sumOfLeaves : Int32) (m_ledTo : Int32) (m_firstWrong : Int32) (k : Nat) (hk : k < 4) (p1 : Int32) (p2 : Int32) (p3 : Int32) (p4 : Int32) (p5 : Int32) (hr4 : vp_in p1 4 → p1 = nI k) (hI : Inv cnt wet kind page asked sees rds which leaf th la le cf sorts slong mcells f_costs f_askedUpTo) : ∃ (r : Int32) (flt' : Int32) (y_leaves' : Int32) (y_led' : Int32) (y_firstWrong' : Int32) (h_kind' : Nat → Int32) (h_page' : Nat → Int32) (h_asked' : Nat → Int32) (h_sent' : Nat → Int32) (h_count' : Int32) (h_wetSet' : Int32) (m_looked' : Int32) (m_keptSees' : Nat → Int32) (m_sumOfLeaves' : Int32) (m_ledTo' : Int32) (m_firstWrong' : Int32), pX7_years flt (cf k) (th k) (la k) (le k) kind page asked sees cnt wet y_leaves y_led y_firstWrong h_kind h_page h_asked h_sent h_count h_wetSet p1 p2 p3 p4 p5 = some (r, flt', y_leaves', y_led', y_firstWrong', h_kind', h_page', h_asked', h_sent', h_count', h_wetSet') ∧ pX8_years flt sorts slong mcells cnt wet kind page sees m_looked m_keptSees m_sumOfLeaves m_ledTo m_firstWrong p1 p2 p3 p4 p5 = some (r, flt', wet, sees, m_looked', m_keptSees', m_sumOfLeaves', m_ledTo', m_firstWrong') ∧ Inv cnt wet kind page asked sees rds which leaf th la le cf sorts slong mcells f_costs f_askedUpTo := by
  obtain ⟨n, w, r, rfl, rfl, rfl, hB, hR, hW, hT⟩ := hI
  have hn := hB.1
  have hI : Inv (nI n) (nI w) kind page asked sees (nI r) which leaf th la le cf sorts slong mcells f_costs f_askedUpTo := ⟨n, w, r, rfl, rfl, rfl, hB, hR, hW, hT⟩
  unfold pX7_years pX8_years
  rw [isSheet_eq, isLane_eq]
  rcases sheet_or p1 with ⟨h0, -⟩ | ⟨h1, hin⟩
  · rw [if_pos h0, if_pos h0]
    exact ⟨_, _, _, _, _, _, _, _, _, _, _, _, _, _, _, _, rfl, rfl, hI⟩
  rw [if_neg (one_ne h1), if_neg (one_ne h1)]
  have e := hr4 hin
  subst e
  by_cases h2 : pX7_isLane p2 = 0
  · rw [if_pos h2, if_pos h2]
    exact ⟨_, _, _, _, _, _, _, _, _, _, _, _, _, _, _, _, rfl, rfl, hI⟩
  rw [if_neg h2, if_neg h2]
  rcases win_or p4 20 (by decide) with ⟨h3, h4⟩ | ⟨N, hN, rfl, h3⟩
  · have h4 : p4 < 0 ∨ (20 : Int32) < p4 := h4
    have h3 : pX8_within p4 0 20 = 0 := h3
    rw [if_pos h3]
    rcases h4 with h4 | h4
    · rw [if_pos h4]
      exact ⟨_, _, _, _, _, _, _, _, _, _, _, _, _, _, _, _, rfl, rfl, hI⟩
    · by_cases h5 : p4 < 0
      · rw [if_pos h5]
        exact ⟨_, _, _, _, _, _, _, _, _, _, _, _, _, _, _, _, rfl, rfl, hI⟩
      · rw [if_neg h5, if_pos h4]
        exact ⟨_, _, _, _, _, _, _, _, _, _, _, _, _, _, _, _, rfl, rfl, hI⟩
  have h3 : pX8_within (nI N) 0 20 = 1 := h3
  rw [if_neg (one_ne h3), if_neg (nI_pos (by omega)), if_neg (show ¬ (20 : Int32) < nI N from nI_nlt (a := 20) (by omega) (by decide))]
  simp only [jn]
  rcases ans_or p5 with ⟨⟨k1, k2⟩, k3⟩ | ⟨e, he, rfl, k1, k2⟩
  · rw [if_pos k3, if_pos k1, if_pos k2]
    exact ⟨_, _, _, _, _, _, _, _, _, _, _, _, _, _, _, _, rfl, rfl, hI⟩
  have ej : ∀ {α : Type} (J X : α), (if pX8_within (nI e) 0 3 = 0 then (if pX8_within (nI e) 10 16 = 0 then X else J) else J) = J := by
    intro α J X
    by_cases c1 : pX8_within (nI e) 0 3 = 0
    · rw [if_pos c1, if_neg (fun c2 => k1 ⟨c1, c2⟩)]
    · rw [if_neg c1]
  rw [if_neg (one_ne k2), ej, gx_nI hk (by decide), Option.bind_some, against_eq hk (hW k hk).1, Option.bind_some]
  by_cases c0 : pX2_faultAsLane (th k) (la k) (le k) p2 p3 (2 * nI N) = 0
  · rw [if_pos c0, if_pos c0]
    by_cases n0 : nI n = 0
    · rw [if_pos n0, if_pos n0]
      exact ⟨_, _, _, _, _, _, _, _, _, _, _, _, _, _, _, _, rfl, rfl, hI⟩
    rw [if_neg n0, if_neg n0]
    obtain ⟨a, b, rfl, eb, hab, -, -⟩ := fault0 (hW k hk).1 c0
    have eb : b = 2 * N := by
      have eb : nI 2 * nI N = nI b := eb
      rw [pk_mul] at eb
      exact ((nI_eq (by omega) (by omega)).mp eb).symm
    subst eb
    rw [cix]
    have hc : ∀ x, x < 2 * N → cf k (a + x) = mcells (60 * k + a + x) := fun x hx => by
      rw [(hW k hk).2 (a + x) (by omega), Nat.add_assoc]
    unfold pX7_refusalOfPairs
    rcases ref_L hn (show a + 2 * N ≤ 60 by omega) (show 60 * k + a + 2 * N ≤ 240 by omega) hc 0 (nI w) sees m_looked m_keptSees m_sumOfLeaves m_ledTo m_firstWrong (fun (_ : Int32) => pX8_years_L165 (nI n) sees (fun (k8_v9 : Int32) (k8_w_m_keptSees : Nat → Int32) => (pX8_goYears mcells (nI n) (nI w) kind page sees m_looked m_sumOfLeaves m_ledTo m_firstWrong (nI (60 * k + a)) (nI N)).bind fun z9 => (pX8_tellYears (nI n) z9.1 kind page z9.2.1 z9.2.2.1 z9.2.2.2.1 z9.2.2.2.2.1 z9.2.2.2.2.2 (nI e)).bind fun z10 => pX8_years_L219 (nI n) k8_w_m_keptSees (fun (k13_v10 : Int32) (k13_w_m_sees : Nat → Int32) => some ((z10.1, (0 : Int32), nI w, k13_w_m_sees, z10.2, k8_w_m_keptSees, z9.2.2.2.1, z9.2.2.2.2.1, z9.2.2.2.2.2))) fu ((0 : Int32)) z9.2.1) fu ((0 : Int32)) m_keptSees) N 0 fu (by omega) (by unfold fu; omega) with ⟨z, hz, q1, q2⟩ | ⟨q1, q2, q3⟩
    · rw [show nI 0 = (0 : Int32) from rfl] at q1 q2
      rw [q1, q2, Option.bind_some, if_neg hz]
      exact ⟨_, _, _, _, _, _, _, _, _, _, _, _, _, _, _, _, rfl, rfl, hI⟩
    · rw [show nI 0 = (0 : Int32) from rfl] at q1 q2
      rw [q1, q2, Option.bind_some, if_pos rfl]
      obtain ⟨ks, r1, r2⟩ := keep_L hn sees (fun (k8_v9 : Int32) (k8_w_m_keptSees : Nat → Int32) => (pX8_goYears mcells (nI n) (nI w) kind page sees m_looked m_sumOfLeaves m_ledTo m_firstWrong (nI (60 * k + a)) (nI N)).bind fun z9 => (pX8_tellYears (nI n) z9.1 kind page z9.2.1 z9.2.2.1 z9.2.2.2.1 z9.2.2.2.2.1 z9.2.2.2.2.2 (nI e)).bind fun z10 => pX8_years_L219 (nI n) k8_w_m_keptSees (fun (k13_v10 : Int32) (k13_w_m_sees : Nat → Int32) => some ((z10.1, (0 : Int32), nI w, k13_w_m_sees, z10.2, k8_w_m_keptSees, z9.2.2.2.1, z9.2.2.2.2.1, z9.2.2.2.2.2))) fu ((0 : Int32)) z9.2.1) n 0 fu m_keptSees (by omega) (by unfold fu; omega) (fun x hx => by omega)
      rw [show nI 0 = (0 : Int32) from rfl] at r1
      rw [r1]
      unfold pX6_goThrough pX8_goYears
      obtain ⟨g1, g2, g3, g4, l1, l2⟩ := like_c h_kind h_page h_asked h_sent h_count h_wetSet kind page asked sees (nI n) (nI w)
      rw [l1, Option.bind_some]
      have a1 : Ag n g1 kind := fun x hx => (l2 x (by omega)).1
      have a2 : Ag n g2 page := fun x hx => (l2 x (by omega)).2.1
      have a3 : Ag n g4 sees := fun x hx => (l2 x (by omega)).2.2.2
      obtain ⟨S, L, FW, t', t, w1, lk1, m1, m2, m3, m4, m5⟩ := go_L hn (show a + 2 * N ≤ 60 by omega) (show 60 * k + a + 2 * N ≤ 240 by omega) hc a1 a2 q3 (fun (k6_v5 : Int32) (k6_w_y_leaves : Int32) (k6_w_y_led : Int32) (k6_w_y_firstWrong : Int32) (k6_w_h_sent : Nat → Int32) (k6_w_h_wetSet : Int32) => some ((k6_w_y_leaves, k6_w_y_led, k6_w_y_firstWrong, g1, g2, g3, k6_w_h_sent, nI n, k6_w_h_wetSet))) (fun (k6_v3 : Int32) (k6_w_m_wetOnes : Int32) (k6_w_m_sees : Nat → Int32) (k6_w_m_looked : Int32) (k6_w_m_sumOfLeaves : Int32) (k6_w_m_ledTo : Int32) (k6_w_m_firstWrong : Int32) => some ((k6_w_m_wetOnes, k6_w_m_sees, k6_w_m_looked, k6_w_m_sumOfLeaves, k6_w_m_ledTo, k6_w_m_firstWrong))) N 0 fu w 0 0 (-9) m_looked g4 sees (by omega) (by unfold fu; omega) hB a3
      rw [show nI 0 = (0 : Int32) from rfl] at m1 m2
      rw [m1, m2, Option.bind_some, Option.bind_some]
      obtain ⟨rr, lk2, t1, t2⟩ := tell_y m3 a1 a2 m4 he S L FW lk1
      rw [t1, t2, Option.bind_some, Option.bind_some]
      obtain ⟨g, v1, v2⟩ := rest_L hn ks (fun (k13_v10 : Int32) (k13_w_m_sees : Nat → Int32) => some ((rr, (0 : Int32), nI w, k13_w_m_sees, lk2, ks, S, L, FW))) n 0 fu t (by omega) (by unfold fu; omega)
      rw [show nI 0 = (0 : Int32) from rfl] at v1
      have eg : g = sees := by
        funext x
        rw [v2 x]
        by_cases c : x < n
        · rw [if_pos ⟨Nat.zero_le _, c⟩, r2 x c]
        · rw [if_neg (fun q => c q.2), m5 x (by omega)]
      rw [eg] at v1
      exact ⟨_, _, _, _, _, _, _, _, _, _, _, _, _, _, _, _, rfl, v1, hI⟩
  · rw [if_neg c0, if_neg c0]
    unfold pX7_faulted pX8_fails
    exact ⟨_, _, _, _, _, _, _, _, _, _, _, _, _, _, _, _, rfl, rfl, hI⟩
