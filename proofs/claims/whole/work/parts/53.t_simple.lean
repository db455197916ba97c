theorem nle_of_lt {a b : Int32} (h : a < b) : ¬ b ≤ a := fun q => by
  have h := lt_toI.mp h
  have q := le_toI.mp q
  omega
theorem le_of_nlt {a b : Int32} (h : ¬ a < b) : b ≤ a := by
  rw [lt_toI] at h
  rw [le_toI]
  omega
theorem size_tab : ∀ w : Fin 128, pX8_size (nI w.val) = some (pX4_howManyWet (nI w.val)) := by decide +kernel
theorem size_ok {w : Nat} (h : w < 128) : pX8_size (nI w) = some (pX4_howManyWet (nI w)) := size_tab ⟨w, h⟩
theorem wet_tab : ∀ w : Fin 128, ∀ j : Fin 7, (nI w.val >>> (nI j.val &&& 31)) &&& 1 = (if pX4_isWet (nI w.val) (nI j.val) = 0 then 0 else 1) := by decide +kernel
theorem wet_bit {w j : Nat} (h : w < 128) (hj : j < 7) : (nI w >>> (nI j &&& 31)) &&& 1 = (if pX4_isWet (nI w) (nI j) = 0 then 0 else 1) := wet_tab ⟨w, h⟩ ⟨j, hj⟩
theorem soak_tab : ∀ w : Fin 128, ∀ j : Fin 7, (nI w.val ||| ((1 : Int32) <<< (nI j.val &&& 31))) = nI (w.val ||| 2 ^ j.val) := by decide +kernel
theorem soak_ok {n w j : Nat} (hn : n ≤ 7) (hw : w < 2 ^ n) (hj : j < n) : (nI w ||| ((1 : Int32) <<< (nI j &&& 31))) = nI (w ||| 2 ^ j) ∧ w ||| 2 ^ j < 2 ^ n ∧ True := by
  refine ⟨soak_tab ⟨w, p2_7 hn hw⟩ ⟨j, by omega⟩, Nat.or_lt_two_pow hw (Nat.pow_lt_pow_right (by decide) hj), trivial⟩
theorem air_tab : ∀ w : Fin 128, ∀ j : Fin 7, (nI w.val &&& (((1 : Int32) <<< (nI j.val &&& 31)) ^^^ (-1))) = nI (w.val &&& (127 ^^^ 2 ^ j.val)) := by decide +kernel
theorem air_ok {n w j : Nat} (hn : n ≤ 7) (hw : w < 2 ^ n) (hj : j < n) : ∃ v, (nI w &&& (((1 : Int32) <<< (nI j &&& 31)) ^^^ (-1))) = nI v ∧ v < 2 ^ n :=
  ⟨w &&& (127 ^^^ 2 ^ j), air_tab ⟨w, p2_7 hn hw⟩ ⟨j, by omega⟩, Nat.lt_of_le_of_lt Nat.and_le_left hw⟩
theorem leads_L {n w : Nat} {kind page asked sees : Nat → Int32} (h : BookOk n w kind page asked sees) (v : Int32) : ∀ (m k fl : Nat) (st lk0 : Int32), k + m = n → m < fl → ∃ r lk, pX7_leads_L27 v kind page sees (nI n) (nI w) (fun a _ => some a) fl st (nI k) = some r ∧ pX8_leads_L27 v (nI n) (nI w) kind page sees (fun a _ l => some (a, l)) fl st (nI k) lk0 = some (r, lk) := by
  have hn := h.1
  intro m
  induction m with
  | zero =>
    intro k fl st lk0 hk hf
    obtain ⟨f, rfl⟩ : ∃ f, fl = f + 1 := ⟨fl - 1, by omega⟩
    rw [pX7_leads_L27_s, pX8_leads_L27_s, if_pos (nI_le (by omega) (by omega)), if_pos (nI_le (by omega) (by omega))]
    exact ⟨st, lk0, rfl, rfl⟩
  | succ m ih =>
    intro k fl st lk0 hk hf
    obtain ⟨f, rfl⟩ : ∃ f, fl = f + 1 := ⟨fl - 1, by omega⟩
    obtain ⟨lk, h2, -⟩ := leaf_m h (show k < n by omega) lk0
    rw [pX7_leads_L27_s, pX8_leads_L27_s, if_neg (nI_ge (by omega) (by omega)), if_neg (nI_ge (by omega) (by omega)), leaf_c h (show k < n by omega), h2, Option.bind_some, Option.bind_some, show nI k + (1 : Int32) = nI (k + 1) from nI_1 k]
    simp only [jn]
    by_cases e : leafS n (nI w) kind page sees k = v
    · rw [if_pos e, if_pos e]
      exact ih (k + 1) f _ lk (by omega) (by omega)
    · rw [if_neg e, if_neg e]
      obtain ⟨r, l2, e1, e2⟩ := ih (k + 1) f st lk (by omega) (by omega)
      refine ⟨r, l2, e1, ?_⟩
      rw [show st ||| (0 : Int32) = st from Int32.or_zero]
      exact e2
set_option maxRecDepth 20000 in
theorem T_want (th : Nat → Int32) (la : Nat → Int32) (le : Nat → Int32) (cf : Nat → Nat → Int32) (kind : Nat → Int32) (page : Nat → Int32) (asked : Nat → Int32) (sees : Nat → Int32) (cnt : Int32) (wet : Int32) (which : Nat → Int32) (leaf : Nat → Int32) (rds : Int32) (f_askedUpTo : Nat → Int32) (f_costs : Nat → Int32) (sorts : Nat → Int32) (slong : Nat → Int32) (mcells : Nat → Int32) (p1 : Int32) (p2 : Int32) (hI : Inv cnt wet kind page asked sees rds which leaf th la le cf sorts slong mcells f_costs f_askedUpTo) : ∃ (r : Int32) (asked' : Nat → Int32), pX7_want asked cnt p1 p2 = some (r, asked') ∧ pX8_want cnt asked p1 p2 = some (r, asked') ∧ Inv cnt wet kind page asked' sees rds which leaf th la le cf sorts slong mcells f_costs f_askedUpTo := by
  obtain ⟨n, w, r, rfl, rfl, rfl, hB, hR, hW, hT⟩ := hI
  have hn := hB.1
  rcases has_nI n (by omega) p1 with ⟨h0, -⟩ | ⟨j, hj, rfl, h1⟩
  · refine ⟨-1, asked, ?_, ?_, n, w, r, rfl, rfl, rfl, hB, hR, hW, hT⟩
    · unfold pX7_want; rw [if_pos h0]
    · unfold pX8_want; rw [isSlip_has, if_pos h0]
  · rcases win_or p2 9 (by decide) with ⟨h2, h3⟩ | ⟨a, ha, rfl, h2⟩
    · refine ⟨-2, asked, ?_, ?_, n, w, r, rfl, rfl, rfl, hB, hR, hW, hT⟩
      · unfold pX7_want
        rw [if_neg (one_ne h1)]
        by_cases h4 : p2 < 0
        · rw [if_pos h4]
        · rw [if_neg h4, if_neg (show ¬ p2 ≤ (9 : Int32) from nle_of_lt (h3.resolve_left h4))]
      · unfold pX8_want
        rw [isSlip_has, if_neg (one_ne h1)]
        exact if_pos h2
    · refine ⟨asked j, upd asked j (nI a), ?_, ?_, n, w, r, rfl, rfl, rfl, hB.asked ha, hR, hW, hT⟩
      · unfold pX7_want
        rw [if_neg (one_ne h1), if_neg (nI_pos (by omega)), if_pos (show nI a ≤ (9 : Int32) from nI_le (b := 9) ha (by decide)), ga_nI (by omega) (by decide), Option.bind_some, sa_nI (by omega) (by decide), Option.bind_some]
      · unfold pX8_want
        rw [isSlip_has, if_neg (one_ne h1), if_neg (one_ne (show pX8_within (nI a) 0 9 = 1 from h2)), ga_nI (by omega) (by decide), Option.bind_some, sa_nI (by omega) (by decide), Option.bind_some]
set_option maxRecDepth 20000 in
theorem T_see (th : Nat → Int32) (la : Nat → Int32) (le : Nat → Int32) (cf : Nat → Nat → Int32) (kind : Nat → Int32) (page : Nat → Int32) (asked : Nat → Int32) (sees : Nat → Int32) (cnt : Int32) (wet : Int32) (which : Nat → Int32) (leaf : Nat → Int32) (rds : Int32) (f_askedUpTo : Nat → Int32) (f_costs : Nat → Int32) (sorts : Nat → Int32) (slong : Nat → Int32) (mcells : Nat → Int32) (p1 : Int32) (p2 : Int32) (hI : Inv cnt wet kind page asked sees rds which leaf th la le cf sorts slong mcells f_costs f_askedUpTo) : ∃ (r : Int32) (sees' : Nat → Int32), pX7_see sees cnt p1 p2 = some (r, sees') ∧ pX8_see cnt sees p1 p2 = some (r, sees') ∧ Inv cnt wet kind page asked sees' rds which leaf th la le cf sorts slong mcells f_costs f_askedUpTo := by
  obtain ⟨n, w, r, rfl, rfl, rfl, hB, hR, hW, hT⟩ := hI
  have hn := hB.1
  rcases has_nI n (by omega) p1 with ⟨h0, -⟩ | ⟨j, hj, rfl, h1⟩
  · refine ⟨-1, sees, ?_, ?_, n, w, r, rfl, rfl, rfl, hB, hR, hW, hT⟩
    · unfold pX7_see; rw [if_pos h0]
    · unfold pX8_see; rw [isSlip_has, if_pos h0]
  · have g : ∀ f : Nat → Int32, ga f 7 (nI j) = some (f j) := fun f => ga_nI (by omega) (by decide)
    have s : ∀ (f : Nat → Int32) (x : Int32), sa f 7 (nI j) x = some (upd f j x) := fun f x => sa_nI (by omega) (by decide)
    by_cases h9 : p2 = -9
    · subst h9
      have h0 : pX4_has (nI n) (-9) = 0 := by
        rcases has_nI n (by omega) (-9) with ⟨h0, -⟩ | ⟨i, hi, e, -⟩
        · exact h0
        · exact absurd e.symm (m9_nI (by omega))
      refine ⟨sees j, upd sees j (-9), ?_, ?_, n, w, r, rfl, rfl, rfl, hB.sees (Or.inl rfl), hR, hW, hT⟩
      · simp [pX7_see, jn, h1, g, s]
      · simp [pX8_see, jn, isSlip_has, h1, h0, g, s]
    · rcases has_nI n (by omega) p2 with ⟨h0, -⟩ | ⟨i, hi, rfl, h2⟩
      · refine ⟨-1, sees, ?_, ?_, n, w, r, rfl, rfl, rfl, hB, hR, hW, hT⟩
        · unfold pX7_see; simp only [jn]; rw [if_neg (one_ne h1), if_neg h9, if_pos h0]
        · unfold pX8_see; simp only [jn]; rw [isSlip_has, if_neg (one_ne h1), isSlip_has, if_pos h0, if_neg h9]
      · refine ⟨sees j, upd sees j (nI i), ?_, ?_, n, w, r, rfl, rfl, rfl, hB.sees (Or.inr ⟨i, hi, rfl⟩), hR, hW, hT⟩
        · unfold pX7_see; simp only [jn]
          rw [if_neg (one_ne h1), if_neg h9, if_neg (one_ne h2), ga_nI (by omega) (by decide), Option.bind_some, sa_nI (by omega) (by decide), Option.bind_some]
        · unfold pX8_see; simp only [jn]
          rw [isSlip_has, if_neg (one_ne h1), isSlip_has, if_neg (one_ne h2), ga_nI (by omega) (by decide), Option.bind_some, sa_nI (by omega) (by decide), Option.bind_some]
set_option maxRecDepth 20000 in
theorem T_ask (ques : Int32) (th : Nat → Int32) (la : Nat → Int32) (le : Nat → Int32) (cf : Nat → Nat → Int32) (kind : Nat → Int32) (page : Nat → Int32) (asked : Nat → Int32) (sees : Nat → Int32) (cnt : Int32) (wet : Int32) (which : Nat → Int32) (leaf : Nat → Int32) (rds : Int32) (f_askedUpTo : Nat → Int32) (f_costs : Nat → Int32) (sorts : Nat → Int32) (slong : Nat → Int32) (mcells : Nat → Int32) (m_looked : Int32) (p1 : Int32) (hI : Inv cnt wet kind page asked sees rds which leaf th la le cf sorts slong mcells f_costs f_askedUpTo) : ∃ (r : Int32) (ques' : Int32) (m_looked' : Int32), pX7_ask ques kind page sees cnt wet p1 = some (r, ques') ∧ pX8_ask cnt ques wet kind page sees m_looked p1 = some (r, ques', m_looked') ∧ Inv cnt wet kind page asked sees rds which leaf th la le cf sorts slong mcells f_costs f_askedUpTo := by
  obtain ⟨n, w, r, rfl, rfl, rfl, hB, hR, hW, hT⟩ := hI
  have hn := hB.1
  rcases has_nI n (by omega) p1 with ⟨h0, -⟩ | ⟨j, hj, rfl, h1⟩
  · refine ⟨-1, ques, m_looked, ?_, ?_, n, w, r, rfl, rfl, rfl, hB, hR, hW, hT⟩
    · unfold pX7_ask; rw [if_pos h0]
    · unfold pX8_ask; rw [isSlip_has, if_pos h0]
  · obtain ⟨lk, h2, -⟩ := leaf_m hB hj m_looked
    refine ⟨leafS n (nI w) kind page sees j, ques + 1, lk, ?_, ?_, n, w, r, rfl, rfl, rfl, hB, hR, hW, hT⟩
    · unfold pX7_ask; rw [if_neg (one_ne h1), leaf_c hB hj, Option.bind_some]
    · unfold pX8_ask; rw [isSlip_has, if_neg (one_ne h1), h2, Option.bind_some]
set_option maxRecDepth 20000 in
theorem T_wet (th : Nat → Int32) (la : Nat → Int32) (le : Nat → Int32) (cf : Nat → Nat → Int32) (kind : Nat → Int32) (page : Nat → Int32) (asked : Nat → Int32) (sees : Nat → Int32) (cnt : Int32) (wet : Int32) (which : Nat → Int32) (leaf : Nat → Int32) (rds : Int32) (f_askedUpTo : Nat → Int32) (f_costs : Nat → Int32) (sorts : Nat → Int32) (slong : Nat → Int32) (mcells : Nat → Int32) (p1 : Int32) (hI : Inv cnt wet kind page asked sees rds which leaf th la le cf sorts slong mcells f_costs f_askedUpTo) : ∃ (r : Int32) (wet' : Int32), pX7_wet cnt wet p1 = some (r, wet') ∧ pX8_wet cnt wet p1 = some (r, wet') ∧ Inv cnt wet' kind page asked sees rds which leaf th la le cf sorts slong mcells f_costs f_askedUpTo := by
  obtain ⟨n, w, r, rfl, rfl, rfl, hB, hR, hW, hT⟩ := hI
  have hn := hB.1
  rcases has_nI n (by omega) p1 with ⟨h0, -⟩ | ⟨j, hj, rfl, h1⟩
  · refine ⟨-1, nI w, ?_, ?_, n, w, r, rfl, rfl, rfl, hB, hR, hW, hT⟩
    · unfold pX7_wet; rw [if_pos h0]
    · unfold pX8_wet; rw [isSlip_has, if_pos h0]
  · obtain ⟨e1, e2, e3⟩ := soak_ok hn hB.2.1 hj
    by_cases h2 : pX4_isWet (nI w) (nI j) = 0
    · refine ⟨pX4_howManyWet (nI (w ||| 2 ^ j)), nI (w ||| 2 ^ j), ?_, ?_, n, w ||| 2 ^ j, r, rfl, rfl, rfl, hB.wet e2, hR, hW, hT⟩
      · unfold pX7_wet pX4_soak
        rw [if_neg (one_ne h1), if_pos h2, Option.bind_some, e1]
        simp
      · unfold pX8_wet
        rw [isSlip_has, if_neg (one_ne h1), isOf_wet, if_pos h2, e1, size_ok (p2_7 hn e2), Option.bind_some]
    · refine ⟨-3, nI w, ?_, ?_, n, w, r, rfl, rfl, rfl, hB, hR, hW, hT⟩
      · unfold pX7_wet pX4_soak
        rw [if_neg (one_ne h1), if_neg h2, Option.bind_some, if_pos rfl]
      · unfold pX8_wet
        rw [isSlip_has, if_neg (one_ne h1), isOf_wet, if_neg h2]
set_option maxRecDepth 20000 in
theorem T_dry (th : Nat → Int32) (la : Nat → Int32) (le : Nat → Int32) (cf : Nat → Nat → Int32) (kind : Nat → Int32) (page : Nat → Int32) (asked : Nat → Int32) (sees : Nat → Int32) (cnt : Int32) (wet : Int32) (which : Nat → Int32) (leaf : Nat → Int32) (rds : Int32) (f_askedUpTo : Nat → Int32) (f_costs : Nat → Int32) (sorts : Nat → Int32) (slong : Nat → Int32) (mcells : Nat → Int32) (p1 : Int32) (hI : Inv cnt wet kind page asked sees rds which leaf th la le cf sorts slong mcells f_costs f_askedUpTo) : ∃ (r : Int32) (wet' : Int32), pX7_dry cnt wet p1 = some (r, wet') ∧ pX8_dry cnt wet p1 = some (r, wet') ∧ Inv cnt wet' kind page asked sees rds which leaf th la le cf sorts slong mcells f_costs f_askedUpTo := by
  obtain ⟨n, w, r, rfl, rfl, rfl, hB, hR, hW, hT⟩ := hI
  have hn := hB.1
  rcases has_nI n (by omega) p1 with ⟨h0, -⟩ | ⟨j, hj, rfl, h1⟩
  · refine ⟨-1, nI w, ?_, ?_, n, w, r, rfl, rfl, rfl, hB, hR, hW, hT⟩
    · unfold pX7_dry; rw [if_pos h0]
    · unfold pX8_dry; rw [isSlip_has, if_pos h0]
  · obtain ⟨w', e1, e2⟩ := air_ok hn hB.2.1 hj
    by_cases h2 : pX4_isWet (nI w) (nI j) = 0
    · refine ⟨-3, nI w, ?_, ?_, n, w, r, rfl, rfl, rfl, hB, hR, hW, hT⟩
      · unfold pX7_dry pX4_air
        rw [if_neg (one_ne h1), if_pos h2, Option.bind_some, if_pos rfl]
      · unfold pX8_dry
        rw [isSlip_has, if_neg (one_ne h1), isOf_wet, if_pos h2]
    · refine ⟨pX4_howManyWet (nI w'), nI w', ?_, ?_, n, w', r, rfl, rfl, rfl, hB.wet e2, hR, hW, hT⟩
      · unfold pX7_dry pX4_air
        rw [if_neg (one_ne h1), if_neg h2, Option.bind_some, e1]
        simp
      · unfold pX8_dry
        rw [isSlip_has, if_neg (one_ne h1), isOf_wet, if_neg h2, e1, size_ok (p2_7 hn e2), Option.bind_some]
set_option maxRecDepth 20000 in
theorem T_ofSlip (th : Nat → Int32) (la : Nat → Int32) (le : Nat → Int32) (cf : Nat → Nat → Int32) (kind : Nat → Int32) (page : Nat → Int32) (asked : Nat → Int32) (sees : Nat → Int32) (cnt : Int32) (wet : Int32) (which : Nat → Int32) (leaf : Nat → Int32) (rds : Int32) (f_askedUpTo : Nat → Int32) (f_costs : Nat → Int32) (sorts : Nat → Int32) (slong : Nat → Int32) (mcells : Nat → Int32) (m_looked : Int32) (p1 : Int32) (p2 : Int32) (hI : Inv cnt wet kind page asked sees rds which leaf th la le cf sorts slong mcells f_costs f_askedUpTo) : ∃ (r : Int32) (m_looked' : Int32), pX7_ofSlip kind page asked sees cnt wet p1 p2 = some r ∧ pX8_ofSlip cnt wet kind page asked sees m_looked p1 p2 = some (r, m_looked') ∧ Inv cnt wet kind page asked sees rds which leaf th la le cf sorts slong mcells f_costs f_askedUpTo := by
  obtain ⟨n, w, r, rfl, rfl, rfl, hB, hR, hW, hT⟩ := hI
  have hn := hB.1
  have hI : Inv (nI n) (nI w) kind page asked sees (nI r) which leaf th la le cf sorts slong mcells f_costs f_askedUpTo := ⟨n, w, r, rfl, rfl, rfl, hB, hR, hW, hT⟩
  rcases has_nI n (by omega) p1 with ⟨h0, -⟩ | ⟨j, hj, rfl, h1⟩
  · refine ⟨-1, m_looked, ?_, ?_, hI⟩
    · unfold pX7_ofSlip; rw [if_pos h0]
    · unfold pX8_ofSlip; rw [isSlip_has, if_pos h0]
  · unfold pX7_ofSlip pX8_ofSlip
    rw [isSlip_has, if_neg (one_ne h1), if_neg (one_ne h1)]
    have g : ∀ f : Nat → Int32, ga f 7 (nI j) = some (f j) := fun f => ga_nI (by omega) (by decide)
    by_cases c0 : p2 = 0
    · rw [if_pos c0, if_pos c0, g]; exact ⟨_, _, rfl, rfl, hI⟩
    rw [if_neg c0, if_neg c0]
    by_cases c1 : p2 = 1
    · rw [if_pos c1, if_pos c1, g]; exact ⟨_, _, rfl, rfl, hI⟩
    rw [if_neg c1, if_neg c1]
    by_cases c2 : p2 = 2
    · rw [if_pos c2, if_pos c2, g]; exact ⟨_, _, rfl, rfl, hI⟩
    rw [if_neg c2, if_neg c2]
    by_cases c3 : p2 = 3
    · rw [if_pos c3, if_pos c3, g]; exact ⟨_, _, rfl, rfl, hI⟩
    rw [if_neg c3, if_neg c3]
    obtain ⟨lk, h2, h3⟩ := leaf_m hB hj m_looked
    by_cases c4 : p2 = 4
    · rw [if_pos c4, if_pos c4, leaf_c hB hj, h2]; exact ⟨_, _, rfl, rfl, hI⟩
    rw [if_neg c4, if_neg c4]
    by_cases c5 : p2 = 5
    · rw [if_pos c5, if_pos c5, looks_c hn hB.so hj]
      unfold pX8_looksOf
      rw [h2]
      rcases leafS_or hB hj with ⟨e1, e2⟩ | ⟨q, v, e1, hv, e2⟩
      · refine ⟨-9, lk, ?_, ?_, hI⟩
        · simp [looksS, e1]
        · simp [e2]
      · refine ⟨lk, lk, ?_, ?_, hI⟩
        · simp [looksS, e1, h3 q e1]
        · have z9 : ¬ leafS n (nI w) kind page sees j = -9 := fun z => m9_nI (by omega) (e2.symm.trans z)
          simp [z9]
    rw [if_neg c5, if_neg c5]
    by_cases c6 : p2 = 6
    · rw [if_pos c6, if_pos c6, wet_bit (p2_7 hn hB.2.1) (show j < 7 by omega)]
      by_cases h4 : pX4_isWet (nI w) (nI j) = 0
      · rw [if_pos h4, if_pos h4]; exact ⟨_, _, rfl, rfl, hI⟩
      · rw [if_neg h4, if_neg h4]; exact ⟨_, _, rfl, rfl, hI⟩
    rw [if_neg c6, if_neg c6]
    by_cases c7 : p2 = 7
    · rw [if_pos c7, if_pos c7, points_c hB hj, points_m hB hj]; exact ⟨_, _, rfl, rfl, hI⟩
    rw [if_neg c7, if_neg c7]
    exact ⟨_, _, rfl, rfl, hI⟩
set_option maxRecDepth 20000 in
theorem T_reading (th : Nat → Int32) (la : Nat → Int32) (le : Nat → Int32) (cf : Nat → Nat → Int32) (kind : Nat → Int32) (page : Nat → Int32) (asked : Nat → Int32) (sees : Nat → Int32) (cnt : Int32) (wet : Int32) (which : Nat → Int32) (leaf : Nat → Int32) (rds : Int32) (f_askedUpTo : Nat → Int32) (f_costs : Nat → Int32) (sorts : Nat → Int32) (slong : Nat → Int32) (mcells : Nat → Int32) (p1 : Int32) (p2 : Int32) (hI : Inv cnt wet kind page asked sees rds which leaf th la le cf sorts slong mcells f_costs f_askedUpTo) : ∃ (r : Int32) (which' : Nat → Int32) (leaf' : Nat → Int32) (rds' : Int32), pX7_reading cnt which leaf rds p1 p2 = some (r, which', leaf', rds') ∧ pX8_reading cnt rds which leaf p1 p2 = some (r, rds', which', leaf') ∧ Inv cnt wet kind page asked sees rds' which' leaf' th la le cf sorts slong mcells f_costs f_askedUpTo := by
  obtain ⟨n, w, r, rfl, rfl, rfl, hB, hR, hW, hT⟩ := hI
  have hn := hB.1
  have hr := hR.1
  have hI : Inv (nI n) (nI w) kind page asked sees (nI r) which leaf th la le cf sorts slong mcells f_costs f_askedUpTo := ⟨n, w, r, rfl, rfl, rfl, hB, hR, hW, hT⟩
  rcases has_nI n (by omega) p1 with ⟨h0, -⟩ | ⟨j, hj, rfl, h1⟩
  · refine ⟨-1, which, leaf, nI r, ?_, ?_, hI⟩
    · unfold pX7_reading; rw [if_pos h0]
    · unfold pX8_reading; rw [isSlip_has, if_pos h0]
  · have main : ∃ (rv : Int32) (which' leaf' : Nat → Int32) (rds' : Int32), (if nI r < (8 : Int32) then ((pX1_note which leaf (nI r) (nI j) p2).bind fun z2 => some ((z2.1, z2.2.1, z2.2.2.1, z2.2.2.2))) else (some (((-4 : Int32), which, leaf, nI r)))) = some (rv, which', leaf', rds') ∧ (if nI r = (8 : Int32) then (some (((-4 : Int32), nI r, which, leaf))) else ((sa which 8 (nI r) (nI j)).bind fun g2 => (sa leaf 8 (nI r) p2).bind fun g3 => some (((nI r + ((1 : Int32))) - ((1 : Int32)), nI r + ((1 : Int32)), g2, g3)))) = some (rv, rds', which', leaf') ∧ Inv (nI n) (nI w) kind page asked sees rds' which' leaf' th la le cf sorts slong mcells f_costs f_askedUpTo := by
      by_cases h8 : r = 8
      · subst h8
        refine ⟨-4, which, leaf, nI 8, ?_, ?_, hI⟩
        · rw [if_neg (by decide)]
        · rw [if_pos (show nI 8 = (8 : Int32) from rfl)]
      · refine ⟨(nI r + 1) - 1, upd which r (nI j), upd leaf r p2, nI r + 1, ?_, ?_, n, w, r + 1, rfl, rfl, nI_1 r, hB, ⟨by omega, fun i hi => ?_⟩, hW, hT⟩
        · rw [if_pos (show nI r < (8 : Int32) from nI_lt (b := 8) (by omega) (by decide))]
          unfold pX1_note
          rw [sa_nI (by omega) (by decide), Option.bind_some, sa_nI (by omega) (by decide)]
          rfl
        · rw [if_neg (show ¬ nI r = (8 : Int32) from fun e => h8 ((nI_eq (by omega) (by decide)).mp (show nI r = nI 8 from e))), sa_nI (by omega) (by decide), Option.bind_some, sa_nI (by omega) (by decide)]
          rfl
        · by_cases e : i = r
          · subst e; exact ⟨j, hj, upd_at _ _ _⟩
          · rw [upd_ne e]; exact hR.2 i (by omega)
    obtain ⟨rv, w1, l1, r1, m1, m2, m3⟩ := main
    unfold pX7_reading pX8_reading; simp only [jn]
    rw [isSlip_has, if_neg (one_ne h1), if_neg (one_ne h1), ← isLeaf_eq]
    by_cases h9 : p2 = -9
    · rw [if_pos h9]
      refine ⟨rv, w1, l1, r1, m1, ?_, m3⟩
      by_cases h5 : pX8_within p2 0 98 = 0
      · rw [if_pos h5, if_pos h9]; exact m2
      · rw [if_neg h5]; exact m2
    · rw [if_neg h9]
      by_cases h5 : pX8_within p2 0 98 = 0
      · rw [if_pos h5, if_pos h5, if_neg h9]
        exact ⟨-2, which, leaf, nI r, rfl, rfl, hI⟩
      · rw [if_neg h5, if_neg h5]
        exact ⟨rv, w1, l1, r1, m1, m2, m3⟩
set_option maxRecDepth 20000 in
theorem T_back (th : Nat → Int32) (la : Nat → Int32) (le : Nat → Int32) (cf : Nat → Nat → Int32) (kind : Nat → Int32) (page : Nat → Int32) (asked : Nat → Int32) (sees : Nat → Int32) (cnt : Int32) (wet : Int32) (which : Nat → Int32) (leaf : Nat → Int32) (rds : Int32) (f_askedUpTo : Nat → Int32) (f_costs : Nat → Int32) (sorts : Nat → Int32) (slong : Nat → Int32) (mcells : Nat → Int32) (p1 : Int32) (hI : Inv cnt wet kind page asked sees rds which leaf th la le cf sorts slong mcells f_costs f_askedUpTo) : ∃ (r : Int32) (rds' : Int32), pX7_back rds p1 = some (r, rds') ∧ pX8_back rds p1 = some (r, rds') ∧ Inv cnt wet kind page asked sees rds' which leaf th la le cf sorts slong mcells f_costs f_askedUpTo := by
  obtain ⟨n, w, r, rfl, rfl, rfl, hB, hR, hW, hT⟩ := hI
  have hr := hR.1
  unfold pX7_back pX8_back
  rcases win_or p1 r (by omega) with ⟨h2, h3⟩ | ⟨a, ha, rfl, h2⟩
  · rw [if_pos h2]
    refine ⟨-2, nI r, ?_, rfl, n, w, r, rfl, rfl, rfl, hB, hR, hW, hT⟩
    by_cases h4 : p1 < 0
    · rw [if_pos h4]
    · rw [if_neg h4, if_neg (nle_of_lt (h3.resolve_left h4))]
  · rw [if_neg (one_ne h2), if_neg (nI_pos (by omega)), if_pos (nI_le ha (by omega))]
    refine ⟨nI r - nI a, nI r - nI a, rfl, rfl, n, w, r - a, rfl, rfl, pk_sub ha, hB, ⟨by omega, fun i hi => hR.2 i (by omega)⟩, hW, hT⟩
set_option maxRecDepth 20000 in
theorem T_tell (trc : Int32) (th : Nat → Int32) (la : Nat → Int32) (le : Nat → Int32) (cf : Nat → Nat → Int32) (kind : Nat → Int32) (page : Nat → Int32) (asked : Nat → Int32) (sees : Nat → Int32) (cnt : Int32) (wet : Int32) (which : Nat → Int32) (leaf : Nat → Int32) (rds : Int32) (f_askedUpTo : Nat → Int32) (f_costs : Nat → Int32) (sorts : Nat → Int32) (slong : Nat → Int32) (mcells : Nat → Int32) (p1 : Int32) (hI : Inv cnt wet kind page asked sees rds which leaf th la le cf sorts slong mcells f_costs f_askedUpTo) : ∃ (r : Int32) (trc' : Int32), pX7_tell trc kind page cnt p1 = some (r, trc') ∧ pX8_tell trc cnt kind page p1 = some (r, trc') ∧ Inv cnt wet kind page asked sees rds which leaf th la le cf sorts slong mcells f_costs f_askedUpTo := by
  obtain ⟨n, w, r, rfl, rfl, rfl, hB, hR, hW, hT⟩ := hI
  have hn := hB.1
  have hI : Inv (nI n) (nI w) kind page asked sees (nI r) which leaf th la le cf sorts slong mcells f_costs f_askedUpTo := ⟨n, w, r, rfl, rfl, rfl, hB, hR, hW, hT⟩
  rcases has_nI n (by omega) p1 with ⟨h0, -⟩ | ⟨j, hj, rfl, h1⟩
  · refine ⟨-1, trc, ?_, ?_, hI⟩
    · unfold pX7_tell; rw [if_pos h0]
    · unfold pX8_tell; rw [isSlip_has, if_pos h0]
  · have g : ∀ f : Nat → Int32, ga f 7 (nI j) = some (f j) := fun f => ga_nI (by omega) (by decide)
    obtain ⟨pp, hp, ep⟩ := (hB.2.2 j hj).2.1
    unfold pX7_tell pX8_tell
    rw [isSlip_has, if_neg (one_ne h1), if_neg (one_ne h1), g, g, Option.bind_some, Option.bind_some, Option.bind_some]
    rcases (hB.2.2 j hj).1 with e | e | e
    · rw [e, if_neg (by decide), if_neg (by decide), if_neg (by decide), if_neg (by decide)]
      unfold pX7_lineBody pX7_leaveInTrace pX8_begins
      rw [Option.bind_some, g]
      exact ⟨_, _, rfl, rfl, hI⟩
    · rw [e, if_pos rfl, if_pos rfl]
      unfold pX7_dashBody pX7_lineBody pX7_leaveInTrace pX8_begins
      simp only [Option.bind_some, g]
      exact ⟨_, _, rfl, rfl, hI⟩
    · rw [e, if_neg (by decide), if_pos rfl, if_neg (by decide), if_pos rfl]
      unfold pX7_boldBody pX7_dashBody pX7_lineBody pX7_leaveInTrace pX8_begins
      simp only [Option.bind_some, g]
      refine ⟨_, _, rfl, ?_, hI⟩
      rw [ep]
      have e2 : (2 : Int32) * nI pp + 100 = nI pp + 100 + nI pp := by
        show nI 2 * nI pp + nI 100 = nI pp + nI 100 + nI pp
        rw [pk_mul, nI_add, nI_add, nI_add, show 2 * pp + 100 = pp + 100 + pp by omega]
      rw [e2]
set_option maxRecDepth 20000 in
theorem T_quote (trc : Int32) (th : Nat → Int32) (la : Nat → Int32) (le : Nat → Int32) (cf : Nat → Nat → Int32) (kind : Nat → Int32) (page : Nat → Int32) (asked : Nat → Int32) (sees : Nat → Int32) (cnt : Int32) (wet : Int32) (which : Nat → Int32) (leaf : Nat → Int32) (rds : Int32) (f_askedUpTo : Nat → Int32) (f_costs : Nat → Int32) (sorts : Nat → Int32) (slong : Nat → Int32) (mcells : Nat → Int32) (p1 : Int32) (hI : Inv cnt wet kind page asked sees rds which leaf th la le cf sorts slong mcells f_costs f_askedUpTo) : ∃ (r : Int32) (trc' : Int32), pX7_quote trc kind cnt p1 = some (r, trc') ∧ pX8_quote trc cnt kind p1 = some (r, trc') ∧ Inv cnt wet kind page asked sees rds which leaf th la le cf sorts slong mcells f_costs f_askedUpTo := by
  obtain ⟨n, w, r, rfl, rfl, rfl, hB, hR, hW, hT⟩ := hI
  have hn := hB.1
  have hI : Inv (nI n) (nI w) kind page asked sees (nI r) which leaf th la le cf sorts slong mcells f_costs f_askedUpTo := ⟨n, w, r, rfl, rfl, rfl, hB, hR, hW, hT⟩
  rcases has_nI n (by omega) p1 with ⟨h0, -⟩ | ⟨j, hj, rfl, h1⟩
  · refine ⟨-1, trc, ?_, ?_, hI⟩
    · unfold pX7_quote; rw [if_pos h0]
    · unfold pX8_quote; rw [isSlip_has, if_pos h0]
  · have g : ∀ f : Nat → Int32, ga f 7 (nI j) = some (f j) := fun f => ga_nI (by omega) (by decide)
    unfold pX7_quote pX8_quote pX7_leaveInTrace pX8_begins; simp only [jn]
    rw [isSlip_has, if_neg (one_ne h1), if_neg (one_ne h1)]
    simp only [g, Option.bind_some]
    by_cases e : kind j = 2
    · rw [if_pos e, if_pos e, if_pos e]; exact ⟨_, _, rfl, rfl, hI⟩
    · rw [if_neg e, if_neg e, if_neg e]; exact ⟨_, _, rfl, rfl, hI⟩
set_option maxRecDepth 20000 in
theorem T_as (flt : Int32) (th : Nat → Int32) (la : Nat → Int32) (le : Nat → Int32) (cf : Nat → Nat → Int32) (kind : Nat → Int32) (page : Nat → Int32) (asked : Nat → Int32) (sees : Nat → Int32) (cnt : Int32) (wet : Int32) (which : Nat → Int32) (leaf : Nat → Int32) (rds : Int32) (f_askedUpTo : Nat → Int32) (f_costs : Nat → Int32) (sorts : Nat → Int32) (slong : Nat → Int32) (mcells : Nat → Int32) (p1 : Int32) (p2 : Int32) (hI : Inv cnt wet kind page asked sees rds which leaf th la le cf sorts slong mcells f_costs f_askedUpTo) : ∃ (r : Int32) (flt' : Int32), pX7_as flt kind cnt p1 p2 = some (r, flt') ∧ pX8_as flt cnt kind p1 p2 = some (r, flt') ∧ Inv cnt wet kind page asked sees rds which leaf th la le cf sorts slong mcells f_costs f_askedUpTo := by
  obtain ⟨n, w, r, rfl, rfl, rfl, hB, hR, hW, hT⟩ := hI
  have hn := hB.1
  have hI : Inv (nI n) (nI w) kind page asked sees (nI r) which leaf th la le cf sorts slong mcells f_costs f_askedUpTo := ⟨n, w, r, rfl, rfl, rfl, hB, hR, hW, hT⟩
  rcases has_nI n (by omega) p1 with ⟨h0, -⟩ | ⟨j, hj, rfl, h1⟩
  · refine ⟨-1, 0, ?_, ?_, hI⟩
    · unfold pX7_as; rw [if_pos h0]
    · unfold pX8_as; rw [isSlip_has, if_pos h0]
  · have g : ∀ f : Nat → Int32, ga f 7 (nI j) = some (f j) := fun f => ga_nI (by omega) (by decide)
    unfold pX7_as pX8_as pX7_faulted pX8_fails
    rw [isSlip_has, if_neg (one_ne h1), if_neg (one_ne h1), isKind_eq]
    by_cases h5 : pX7_isKind p2 = 0
    · rw [if_pos h5, if_pos h5]; exact ⟨_, _, rfl, rfl, hI⟩
    · rw [if_neg h5, if_neg h5]
      simp only [g, Option.bind_some]
      by_cases h6 : kind j < p2
      · rw [if_pos h6, if_neg (nle_of_lt h6)]; exact ⟨_, _, rfl, rfl, hI⟩
      · rw [if_neg h6, if_pos (le_of_nlt h6)]; exact ⟨_, _, rfl, rfl, hI⟩
set_option maxRecDepth 20000 in
theorem T_trace (trc : Int32) (th : Nat → Int32) (la : Nat → Int32) (le : Nat → Int32) (cf : Nat → Nat → Int32) (kind : Nat → Int32) (page : Nat → Int32) (asked : Nat → Int32) (sees : Nat → Int32) (cnt : Int32) (wet : Int32) (which : Nat → Int32) (leaf : Nat → Int32) (rds : Int32) (f_askedUpTo : Nat → Int32) (f_costs : Nat → Int32) (sorts : Nat → Int32) (slong : Nat → Int32) (mcells : Nat → Int32) (hI : Inv cnt wet kind page asked sees rds which leaf th la le cf sorts slong mcells f_costs f_askedUpTo) : ∃ (r : Int32), pX7_trace trc = r ∧ pX8_trace trc = r ∧ Inv cnt wet kind page asked sees rds which leaf th la le cf sorts slong mcells f_costs f_askedUpTo := by
  exact ⟨trc, rfl, rfl, hI⟩
set_option maxRecDepth 20000 in
theorem T_fault (flt : Int32) (th : Nat → Int32) (la : Nat → Int32) (le : Nat → Int32) (cf : Nat → Nat → Int32) (kind : Nat → Int32) (page : Nat → Int32) (asked : Nat → Int32) (sees : Nat → Int32) (cnt : Int32) (wet : Int32) (which : Nat → Int32) (leaf : Nat → Int32) (rds : Int32) (f_askedUpTo : Nat → Int32) (f_costs : Nat → Int32) (sorts : Nat → Int32) (slong : Nat → Int32) (mcells : Nat → Int32) (hI : Inv cnt wet kind page asked sees rds which leaf th la le cf sorts slong mcells f_costs f_askedUpTo) : ∃ (r : Int32), pX7_fault flt = r ∧ pX8_fault flt = r ∧ Inv cnt wet kind page asked sees rds which leaf th la le cf sorts slong mcells f_costs f_askedUpTo := by
  exact ⟨flt, rfl, rfl, hI⟩
set_option maxRecDepth 20000 in
theorem T_many (ques : Int32) (th : Nat → Int32) (la : Nat → Int32) (le : Nat → Int32) (cf : Nat → Nat → Int32) (kind : Nat → Int32) (page : Nat → Int32) (asked : Nat → Int32) (sees : Nat → Int32) (cnt : Int32) (wet : Int32) (which : Nat → Int32) (leaf : Nat → Int32) (rds : Int32) (f_askedUpTo : Nat → Int32) (f_costs : Nat → Int32) (sorts : Nat → Int32) (slong : Nat → Int32) (mcells : Nat → Int32) (p1 : Int32) (hI : Inv cnt wet kind page asked sees rds which leaf th la le cf sorts slong mcells f_costs f_askedUpTo) : ∃ (r : Int32), pX7_many ques cnt wet rds p1 = r ∧ pX8_many cnt ques wet rds p1 = some r ∧ Inv cnt wet kind page asked sees rds which leaf th la le cf sorts slong mcells f_costs f_askedUpTo := by
  obtain ⟨n, w, r, rfl, rfl, rfl, hB, hR, hW, hT⟩ := hI
  have hn := hB.1
  have hI : Inv (nI n) (nI w) kind page asked sees (nI r) which leaf th la le cf sorts slong mcells f_costs f_askedUpTo := ⟨n, w, r, rfl, rfl, rfl, hB, hR, hW, hT⟩
  unfold pX7_many pX8_many
  by_cases c0 : p1 = 0
  · rw [if_pos c0, if_pos c0]; exact ⟨_, rfl, rfl, hI⟩
  rw [if_neg c0, if_neg c0]
  by_cases c1 : p1 = 1
  · rw [if_pos c1, if_pos c1]; exact ⟨_, rfl, rfl, hI⟩
  rw [if_neg c1, if_neg c1]
  by_cases c2 : p1 = 2
  · rw [if_pos c2, if_pos c2, size_ok (p2_7 hn hB.2.1)]; exact ⟨_, rfl, rfl, hI⟩
  rw [if_neg c2, if_neg c2]
  by_cases c3 : p1 = 3
  · rw [if_pos c3, if_pos c3]; exact ⟨_, rfl, rfl, hI⟩
  rw [if_neg c3, if_neg c3]
  exact ⟨_, rfl, rfl, hI⟩
set_option maxRecDepth 20000 in
theorem T_leads (th : Nat → Int32) (la : Nat → Int32) (le : Nat → Int32) (cf : Nat → Nat → Int32) (kind : Nat → Int32) (page : Nat → Int32) (asked : Nat → Int32) (sees : Nat → Int32) (cnt : Int32) (wet : Int32) (which : Nat → Int32) (leaf : Nat → Int32) (rds : Int32) (f_askedUpTo : Nat → Int32) (f_costs : Nat → Int32) (sorts : Nat → Int32) (slong : Nat → Int32) (mcells : Nat → Int32) (m_looked : Int32) (p1 : Int32) (hI : Inv cnt wet kind page asked sees rds which leaf th la le cf sorts slong mcells f_costs f_askedUpTo) : ∃ (r : Int32) (m_looked' : Int32), pX7_leads kind page sees cnt wet p1 = some r ∧ pX8_leads cnt wet kind page sees m_looked p1 = some (r, m_looked') ∧ Inv cnt wet kind page asked sees rds which leaf th la le cf sorts slong mcells f_costs f_askedUpTo := by
  obtain ⟨n, w, r, rfl, rfl, rfl, hB, hR, hW, hT⟩ := hI
  have hn := hB.1
  have hI : Inv (nI n) (nI w) kind page asked sees (nI r) which leaf th la le cf sorts slong mcells f_costs f_askedUpTo := ⟨n, w, r, rfl, rfl, rfl, hB, hR, hW, hT⟩
  unfold pX7_leads pX8_leads
  rw [isLeaf_eq]
  by_cases h5 : pX7_isLeaf p1 = 0
  · rw [if_pos h5, if_pos h5]; exact ⟨_, _, rfl, rfl, hI⟩
  · rw [if_neg h5, if_neg h5]
    by_cases h6 : nI n = 0
    · rw [if_pos h6, if_pos h6]; exact ⟨_, _, rfl, rfl, hI⟩
    · rw [if_neg h6, if_neg h6]
      obtain ⟨r1, lk, e1, e2⟩ := leads_L hB p1 n 0 fu 0 m_looked (by omega) (by unfold fu; omega)
      exact ⟨r1, lk, e1, e2, hI⟩
