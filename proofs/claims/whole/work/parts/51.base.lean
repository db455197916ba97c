/-! plain facts on the functions: reads, writes, ranges -/
theorem ga_nI {f : Nat → Int32} {n k : Nat} (h : k < n) (hn : n < 2 ^ 31) : ga f n (nI k) = some (f k) := by
  unfold ga
  rw [if_neg (nI_in h hn), nI_clamp (by omega)]
theorem sa_nI {f : Nat → Int32} {n k : Nat} {x : Int32} (h : k < n) (hn : n < 2 ^ 31) : sa f n (nI k) x = some (upd f k x) := by
  unfold sa
  rw [if_neg (nI_in h hn), nI_clamp (by omega)]
theorem gx_nI {n k : Nat} (h : k < n) (hn : n < 2 ^ 31) : gx n (nI k) = some () := by
  unfold gx
  rw [if_neg (nI_in h hn)]
theorem lt_toI {a b : Int32} : a < b ↔ a.toInt < b.toInt := Int32.lt_iff_toInt_lt
theorem le_toI {a b : Int32} : a ≤ b ↔ a.toInt ≤ b.toInt := Int32.le_iff_toInt_le
theorem eq_toI {a b : Int32} : a = b ↔ a.toInt = b.toInt := Int32.toInt_inj.symm
theorem in_or (p : Int32) (M : Nat) (hM : M < 2 ^ 31) : (p.toInt < 0 ∨ (M : Int) ≤ p.toInt) ∨ ∃ a, a < M ∧ p = nI a := by
  rcases pk_ix p hM with h | h | h
  · exact Or.inl (Or.inl (lt_toI.mp h))
  · refine Or.inl (Or.inr ?_)
    have h2 := le_toI.mp h
    rwa [nI_toInt hM] at h2
  · exact Or.inr h
theorem has_nI (n : Nat) (hn : n < 2 ^ 31) (p : Int32) : (pX4_has (nI n) p = 0 ∧ ∀ j, j < n → p ≠ nI j) ∨ ∃ j, j < n ∧ p = nI j ∧ pX4_has (nI n) p = 1 := by
  rcases in_or p n hn with h | ⟨j, hj, rfl⟩
  · refine Or.inl ⟨?_, fun j hj e => ?_⟩
    · unfold pX4_has
      rcases h with h | h
      · rw [if_pos (lt_toI.mpr h)]
      · rw [if_neg (fun q => by have q := lt_toI.mp q; rw [show (0 : Int32).toInt = 0 from rfl] at q; omega), if_pos (le_toI.mpr (by rw [nI_toInt hn]; exact h))]
    · rw [e, nI_toInt (by omega)] at h
      omega
  · refine Or.inr ⟨j, hj, rfl, ?_⟩
    unfold pX4_has
    rw [if_neg (nI_pos (by omega)), if_neg (nI_ge hj hn)]
theorem isSlip_has (c p : Int32) : pX8_isSlip c p = pX4_has c p := rfl
theorem isOf_wet (w p : Int32) : pX8_isOf w p = pX4_isWet w p := rfl
/-- a number from 0 to M, or not -/
theorem win_or (p : Int32) (M : Nat) (hM : M < 2 ^ 31) : (pX8_within p 0 (nI M) = 0 ∧ (p < 0 ∨ nI M < p)) ∨ ∃ a, a ≤ M ∧ p = nI a ∧ pX8_within p 0 (nI M) = 1 := by
  unfold pX8_within
  by_cases h0 : p < 0
  · exact Or.inl ⟨if_pos h0, Or.inl h0⟩
  · by_cases h1 : nI M < p
    · exact Or.inl ⟨by rw [if_neg h0, if_pos h1], Or.inr h1⟩
    · refine Or.inr ?_
      obtain ⟨j, hj, rfl⟩ := nI_of h0
      refine ⟨j, ?_, rfl, by rw [if_neg h0, if_neg h1]⟩
      rw [lt_toI, nI_toInt hM, nI_toInt hj] at h1
      omega
theorem isSheet_eq (p : Int32) : pX8_isSheet p = pX7_isSheet p := by
  unfold pX8_isSheet pX8_within pX7_isSheet
  by_cases h0 : p < 0
  · rw [if_pos h0, if_pos h0]
  · rw [if_neg h0, if_neg h0]
    by_cases h1 : (3 : Int32) < p
    · have h2 : (4 : Int32) ≤ p := by
        have q := lt_toI.mp h1
        refine le_toI.mpr ?_
        rw [show (3 : Int32).toInt = 3 from rfl] at q
        rw [show (4 : Int32).toInt = 4 from rfl]
        omega
      rw [if_pos h1, if_pos h2]
    · have h2 : ¬ (4 : Int32) ≤ p := by
        intro q
        have q := le_toI.mp q
        refine h1 (lt_toI.mpr ?_)
        rw [show (3 : Int32).toInt = 3 from rfl]
        rw [show (4 : Int32).toInt = 4 from rfl] at q
        omega
      rw [if_neg h1, if_neg h2]
theorem isLane_eq (p : Int32) : pX8_isSort p = pX7_isLane p := rfl
theorem isKind_eq (p : Int32) : pX8_within p 0 2 = pX7_isKind p := rfl
theorem isLeaf_eq (p : Int32) : pX8_within p 0 98 = pX7_isLeaf p := rfl
/-- which row is meant -/
theorem sheet_or (p : Int32) : (pX7_isSheet p = 0 ∧ ¬ vp_in p 4) ∨ (pX7_isSheet p = 1 ∧ vp_in p 4) := by
  rw [← isSheet_eq]
  rcases win_or p 3 (by decide) with ⟨h, h2⟩ | ⟨a, ha, rfl, h⟩
  · refine Or.inl ⟨h, fun q => ?_⟩
    rw [vp_in_iff] at q
    rcases h2 with h2 | h2
    · have h2 := lt_toI.mp h2
      rw [show (0 : Int32).toInt = 0 from rfl] at h2
      omega
    · have h2 := lt_toI.mp h2
      rw [nI_toInt (by decide)] at h2
      omega
  · exact Or.inr ⟨h, vp_in_nI (by omega) (by decide)⟩
theorem upd_at (f : Nat → Int32) (k : Nat) (x : Int32) : upd f k x k = x := by simp [upd]
theorem upd_ne {f : Nat → Int32} {k j : Nat} {x : Int32} (h : j ≠ k) : upd f k x j = f j := by simp [upd, h]
theorem BookOk.asked {n w : Nat} {kind page asked sees : Nat → Int32} (h : BookOk n w kind page asked sees) {j a : Nat} (ha : a ≤ 9) : BookOk n w kind page (upd asked j (nI a)) sees := by
  refine ⟨h.1, h.2.1, fun k hk => ?_⟩
  obtain ⟨h1, h2, h3, h4⟩ := h.2.2 k hk
  refine ⟨h1, h2, ?_, h4⟩
  by_cases e : k = j
  · subst e; exact ⟨a, ha, upd_at _ _ _⟩
  · rw [upd_ne e]; exact h3
theorem BookOk.page {n w : Nat} {kind page asked sees : Nat → Int32} (h : BookOk n w kind page asked sees) {j a : Nat} (ha : a ≤ 49) : BookOk n w kind (upd page j (nI a)) asked sees := by
  refine ⟨h.1, h.2.1, fun k hk => ?_⟩
  obtain ⟨h1, h2, h3, h4⟩ := h.2.2 k hk
  refine ⟨h1, ?_, h3, h4⟩
  by_cases e : k = j
  · subst e; exact ⟨a, ha, upd_at _ _ _⟩
  · rw [upd_ne e]; exact h2
theorem BookOk.kind {n w : Nat} {kind page asked sees : Nat → Int32} (h : BookOk n w kind page asked sees) {j : Nat} {v : Int32} (hv : v = 0 ∨ v = 1 ∨ v = 2) : BookOk n w (upd kind j v) page asked sees := by
  refine ⟨h.1, h.2.1, fun k hk => ?_⟩
  obtain ⟨h1, h2, h3, h4⟩ := h.2.2 k hk
  refine ⟨?_, h2, h3, h4⟩
  by_cases e : k = j
  · subst e; rw [upd_at]; exact hv
  · rw [upd_ne e]; exact h1
theorem BookOk.sees {n w : Nat} {kind page asked sees : Nat → Int32} (h : BookOk n w kind page asked sees) {j : Nat} {v : Int32} (hv : v = -9 ∨ ∃ i, i < n ∧ v = nI i) : BookOk n w kind page asked (upd sees j v) := by
  refine ⟨h.1, h.2.1, fun k hk => ?_⟩
  obtain ⟨h1, h2, h3, h4⟩ := h.2.2 k hk
  refine ⟨h1, h2, h3, ?_⟩
  by_cases e : k = j
  · subst e; rw [upd_at]; exact hv
  · rw [upd_ne e]; exact h4
theorem BookOk.wet {n w w' : Nat} {kind page asked sees : Nat → Int32} (h : BookOk n w kind page asked sees) (hw : w' < 2 ^ n) : BookOk n w' kind page asked sees := ⟨h.1, hw, h.2.2⟩
theorem p2_7 {n w : Nat} (hn : n ≤ 7) (hw : w < 2 ^ n) : w < 128 := Nat.lt_of_lt_of_le hw (Nat.le_trans (Nat.pow_le_pow_right (by decide) hn) (by decide))
