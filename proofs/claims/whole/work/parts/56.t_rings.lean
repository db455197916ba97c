def itS (sees : Nat → Int32) : Nat → Nat → Nat
  | 0, k => k
  | t + 1, k => itS sees t (sees k).toNatClampNeg
theorem itS_add (sees : Nat → Int32) : ∀ a b k, itS sees (a + b) k = itS sees b (itS sees a k) := by
  intro a
  induction a with
  | zero => intro b k; rw [Nat.zero_add]; rfl
  | succ a ih => intro b k; rw [Nat.succ_add]; exact ih b _
theorem itS_one (sees : Nat → Int32) (a k : Nat) : itS sees (a + 1) k = (sees (itS sees a k)).toNatClampNeg := by
  rw [itS_add]; rfl
def rgS (sees : Nat → Int32) (k : Nat) : Nat → Nat → List Nat → Option (List Nat)
  | 0, _, _ => none
  | m + 1, q, acc => if sees q = nI k then some (acc ++ [q]) else if sees q = -9 then none else rgS sees k m (sees q).toNatClampNeg (acc ++ [q])
def bitsN (l : List Nat) : Nat := l.foldl (fun s x => s ||| 2 ^ x) 0
def mnN (l : List Nat) : Nat := l.foldl min 7
theorem bitsN_app (l : List Nat) (q : Nat) : bitsN (l ++ [q]) = bitsN l ||| 2 ^ q := by simp [bitsN, List.foldl_append]
theorem mnN_app (l : List Nat) (q : Nat) : mnN (l ++ [q]) = min (mnN l) q := by simp [mnN, List.foldl_append]
/-- a RING: one comes back, and is never sent nowhere -/
def RE (n : Nat) (sees : Nat → Int32) (k : Nat) : Prop := ∃ L, 1 ≤ L ∧ L ≤ n ∧ itS sees L k = k ∧ ∀ t, t < L → sees (itS sees t k) ≠ -9
theorem it_lt {n : Nat} {sees : Nat → Int32} (hn : n ≤ 7) (hs : seesOk n sees) {k : Nat} (hk : k < n) : ∀ t, (∀ i, i < t → sees (itS sees i k) ≠ -9) → itS sees t k < n := by
  intro t
  induction t with
  | zero => intro _; exact hk
  | succ t ih =>
    intro h
    have h1 := ih (fun i hi => h i (by omega))
    rw [itS_one]
    rcases hs _ h1 with e | ⟨j, hj, e⟩
    · exact absurd e (h t (by omega))
    · rw [e, nI_clamp (by omega)]; exact hj
theorem rgS_of {n : Nat} {sees : Nat → Int32} (hn : n ≤ 7) (hs : seesOk n sees) {k : Nat} (hk : k < n) : ∀ (m s : Nat) (acc : List Nat), (∀ i, i < s → sees (itS sees i k) ≠ -9) → (∃ L, s < L ∧ L ≤ s + m ∧ itS sees L k = k ∧ ∀ t, t < L → sees (itS sees t k) ≠ -9) → ∃ l, rgS sees k m (itS sees s k) acc = some l := by
  intro m
  induction m with
  | zero => intro s acc _ ⟨L, h1, h2, _⟩; omega
  | succ m ih =>
    intro s acc h0 ⟨L, h1, h2, h3, h4⟩
    unfold rgS
    by_cases e : sees (itS sees s k) = nI k
    · rw [if_pos e]; exact ⟨_, rfl⟩
    · rw [if_neg e, if_neg (h4 s h1), ← itS_one]
      refine ih (s + 1) _ (fun i hi => h4 i (by omega)) ⟨L, ?_, by omega, h3, h4⟩
      rcases Nat.lt_or_ge (s + 1) L with q | q
      · exact q
      · exfalso
        obtain rfl : L = s + 1 := by omega
        rw [itS_one] at h3
        have h5 := it_lt hn hs hk s h0
        rcases hs _ h5 with e2 | ⟨j, hj, e2⟩
        · exact h4 s (by omega) e2
        · rw [e2, nI_clamp (by omega)] at h3
          exact e (by rw [e2, h3])
theorem rgS_is {n : Nat} {sees : Nat → Int32} (hn : n ≤ 7) (hs : seesOk n sees) {k : Nat} (hk : k < n) : ∀ (m s : Nat) (acc l : List Nat), (∀ i, i < s → sees (itS sees i k) ≠ -9) → rgS sees k m (itS sees s k) acc = some l → (∃ L, s < L ∧ L ≤ s + m ∧ itS sees L k = k ∧ ∀ t, t < L → sees (itS sees t k) ≠ -9) ∧ (∀ x, x ∈ l → x ∈ acc ∨ ∃ t, s ≤ t ∧ x = itS sees t k ∧ x < n) ∧ (∀ x, x ∈ acc → x ∈ l) ∧ itS sees s k ∈ l := by
  intro m
  induction m with
  | zero => intro s acc l _ h; cases h
  | succ m ih =>
    intro s acc l h0 h
    have h5 := it_lt hn hs hk s h0
    unfold rgS at h
    by_cases e : sees (itS sees s k) = nI k
    · rw [if_pos e] at h
      cases h
      have n9 : sees (itS sees s k) ≠ -9 := by rw [e]; exact m9_nI (by omega)
      refine ⟨⟨s + 1, by omega, by omega, ?_, ?_⟩, ?_, ?_, by simp⟩
      · rw [itS_one, e, nI_clamp (by omega)]
      · intro t ht
        rcases Nat.lt_or_ge t s with q | q
        · exact h0 t q
        · obtain rfl : t = s := by omega
          exact n9
      · intro x hx
        rcases List.mem_append.mp hx with q | q
        · exact Or.inl q
        · obtain rfl := List.mem_singleton.mp q
          exact Or.inr ⟨s, Nat.le_refl s, rfl, h5⟩
      · intro x hx
        exact List.mem_append_left _ hx
    · rw [if_neg e] at h
      by_cases e9 : sees (itS sees s k) = -9
      · rw [if_pos e9] at h; cases h
      · rw [if_neg e9, ← itS_one] at h
        obtain ⟨⟨L, a1, a2, a3, a4⟩, b, c, d⟩ := ih (s + 1) _ l (fun i hi => by
          rcases Nat.lt_or_ge i s with q | q
          · exact h0 i q
          · obtain rfl : i = s := by omega
            exact e9) h
        refine ⟨⟨L, by omega, by omega, a3, a4⟩, ?_, ?_, c _ (by simp)⟩
        · intro x hx
          rcases b x hx with q | ⟨t, t1, t2, t3⟩
          · rcases List.mem_append.mp q with q | q
            · exact Or.inl q
            · obtain rfl := List.mem_singleton.mp q
              exact Or.inr ⟨s, Nat.le_refl s, rfl, h5⟩
          · exact Or.inr ⟨t, by omega, t2, t3⟩
        · intro x hx
          exact c x (List.mem_append_left _ hx)
theorem RE_it {n : Nat} {sees : Nat → Int32} {k : Nat} (h : RE n sees k) : ∀ t, RE n sees (itS sees t k) := by
  obtain ⟨L, h1, h2, h3, h4⟩ := h
  have per : ∀ c t, itS sees (t + c * L) k = itS sees t k := by
    intro c
    induction c with
    | zero => intro t; rw [Nat.zero_mul, Nat.add_zero]
    | succ c ih => intro t; rw [Nat.succ_mul, ← Nat.add_assoc, show t + c * L + L = L + (t + c * L) by omega, itS_add, h3, ih]
  have n9 : ∀ t, sees (itS sees t k) ≠ -9 := by
    intro t
    have e : t = t % L + (t / L) * L := by rw [Nat.add_comm, Nat.mul_comm]; exact (Nat.div_add_mod t L).symm
    rw [e, per]
    exact h4 _ (Nat.mod_lt _ (by omega))
  intro t
  refine ⟨L, h1, h2, ?_, ?_⟩
  · rw [← itS_add, Nat.add_comm, itS_add, h3]
  · intro i _
    rw [← itS_add]
    exact n9 _
theorem ring_ex {n : Nat} {sees : Nat → Int32} (hn : n ≤ 7) (hs : seesOk n sees) {k : Nat} (hk : k < n) : (∃ l, rgS sees k n k [] = some l) ↔ RE n sees k := by
  constructor
  · rintro ⟨l, h⟩
    obtain ⟨⟨L, a1, a2, a3, a4⟩, -⟩ := rgS_is hn hs hk n 0 [] l (fun i hi => by omega) h
    exact ⟨L, by omega, by omega, a3, a4⟩
  · rintro ⟨L, a1, a2, a3, a4⟩
    exact rgS_of hn hs hk n 0 [] (fun i hi => by omega) ⟨L, by omega, by omega, a3, a4⟩
theorem tb_pow (a b : Nat) : (2 ^ a).testBit b = decide (a = b) := Nat.testBit_two_pow
theorem bitsN_tb (l : List Nat) (x : Nat) : (bitsN l).testBit x = decide (x ∈ l) := by
  have gen : ∀ (l : List Nat) (s : Nat), (l.foldl (fun s x => s ||| 2 ^ x) s).testBit x = (s.testBit x || decide (x ∈ l)) := by
    intro l
    induction l with
    | nil => intro s; simp
    | cons a l ih =>
      intro s
      rw [List.foldl_cons, ih, Nat.testBit_or, tb_pow]
      by_cases e : a = x
      · subst e; simp
      · have e' : ¬ x = a := fun q => e q.symm
        simp [e, e']
  unfold bitsN
  rw [gen]
  simp
theorem bits_lt {n : Nat} {l : List Nat} (h : ∀ x, x ∈ l → x < n) : bitsN l < 2 ^ n := by
  apply Nat.lt_pow_two_of_testBit
  intro i hi
  rw [bitsN_tb]
  simp only [decide_eq_false_iff_not]
  intro q
  have := h i q
  omega
theorem mn_le (l : List Nat) : ∀ x, x ∈ l → mnN l ≤ x := by
  have gen : ∀ (l : List Nat) (s : Nat), l.foldl min s ≤ s ∧ ∀ x, x ∈ l → l.foldl min s ≤ x := by
    intro l
    induction l with
    | nil => intro s; exact ⟨Nat.le_refl s, fun x h => by cases h⟩
    | cons a l ih =>
      intro s
      rw [List.foldl_cons]
      obtain ⟨h1, h2⟩ := ih (min s a)
      refine ⟨Nat.le_trans h1 (Nat.min_le_left s a), fun x hx => ?_⟩
      rcases List.mem_cons.mp hx with rfl | q
      · exact Nat.le_trans h1 (Nat.min_le_right s x)
      · exact h2 x q
  exact (gen l 7).2
theorem mn_mem (l : List Nat) : mnN l = 7 ∨ mnN l ∈ l := by
  have gen : ∀ (l : List Nat) (s : Nat), l.foldl min s = s ∨ l.foldl min s ∈ l := by
    intro l
    induction l with
    | nil => intro s; exact Or.inl rfl
    | cons a l ih =>
      intro s
      rw [List.foldl_cons]
      rcases ih (min s a) with e | e
      · rw [e]
        rcases Nat.le_total s a with q | q
        · left; exact Nat.min_eq_left q
        · right; rw [Nat.min_eq_right q]; exact List.mem_cons_self
      · exact Or.inr (List.mem_cons_of_mem _ e)
  exact gen l 7
/-- the reference's ring -/
theorem ring_m {n : Nat} {sees : Nat → Int32} (hn : n ≤ 7) (hs : seesOk n sees) {k : Nat} (hk : k < n) : ∀ (m i q fl : Nat) (acc : List Nat), i + m = n → m < fl → q < n → (∀ x, x ∈ acc → x < n) → pX8_ringOf_L7 (nI k) (nI n) sees (fun _ _ _ => some 0) fl (nI (bitsN acc)) (nI q) (nI i) = some (match rgS sees k m q acc with | none => 0 | some l => nI (bitsN l)) := by
  intro m
  induction m with
  | zero =>
    intro i q fl acc hi hf hq ha
    obtain ⟨f, rfl⟩ : ∃ f, fl = f + 1 := ⟨fl - 1, by omega⟩
    rw [pX8_ringOf_L7_s, if_pos (nI_le (by omega) (by omega))]
    rfl
  | succ m ih =>
    intro i q fl acc hi hf hq ha
    obtain ⟨f, rfl⟩ : ∃ f, fl = f + 1 := ⟨fl - 1, by omega⟩
    have ha' : ∀ x, x ∈ acc ++ [q] → x < n := fun x hx => by
      rcases List.mem_append.mp hx with z | z
      · exact ha x z
      · rw [List.mem_singleton.mp z]; exact hq
    have e0 : (nI (bitsN acc) ||| ((1 : Int32) <<< (nI q &&& 31))) = nI (bitsN (acc ++ [q])) := by
      rw [bitsN_app]
      exact (soak_ok hn (bits_lt ha) hq).1
    rw [pX8_ringOf_L7_s, if_neg (nI_ge (by omega) (by omega)), ga_nI (by omega) (by decide), Option.bind_some, e0, show nI i + (1 : Int32) = nI (i + 1) from nI_1 i]
    unfold rgS
    by_cases e : sees q = nI k
    · rw [if_pos e, if_pos e]
    · rw [if_neg e, if_neg e]
      by_cases e9 : sees q = -9
      · rw [if_pos e9, if_pos e9]
      · rw [if_neg e9, if_neg e9]
        rcases hs q hq with z | ⟨j, hj, z⟩
        · exact absurd z e9
        · rw [z, nI_clamp (by omega)]
          exact ih (i + 1) j f _ (by omega) (by omega) hj ha'
theorem ringOf_m {n : Nat} {sees : Nat → Int32} (hn : n ≤ 7) (hs : seesOk n sees) {k : Nat} (hk : k < n) : pX8_ringOf (nI n) sees (nI k) = some (match rgS sees k n k [] with | none => 0 | some l => nI (bitsN l)) := by
  unfold pX8_ringOf
  exact ring_m hn hs hk n 0 k fu [] (by omega) (by unfold fu; omega) hk (fun x h => by cases h)
/-- the class's least of a ring -/
theorem ring_c {n : Nat} {sees : Nat → Int32} (hn : n ≤ 7) (hs : seesOk n sees) {k : Nat} (hk : k < n) : ∀ (m i q fl : Nat) (acc : List Nat), i + m = n → m < fl → q < n → (∀ x, x ∈ acc → x < n) → pX4_leastRoundFrom_L12 (nI k) sees (nI n) (fun _ _ _ => some (-9)) fl (nI (mnN (acc ++ [q]))) (sees q) (nI i) = some (match rgS sees k m q acc with | none => -9 | some l => nI (mnN l)) := by
  intro m
  induction m with
  | zero =>
    intro i q fl acc hi hf hq ha
    obtain ⟨f, rfl⟩ : ∃ f, fl = f + 1 := ⟨fl - 1, by omega⟩
    rw [pX4_leastRoundFrom_L12_s, if_pos (nI_le (by omega) (by omega))]
    rfl
  | succ m ih =>
    intro i q fl acc hi hf hq ha
    obtain ⟨f, rfl⟩ : ∃ f, fl = f + 1 := ⟨fl - 1, by omega⟩
    have ha' : ∀ x, x ∈ acc ++ [q] → x < n := fun x hx => by
      rcases List.mem_append.mp hx with z | z
      · exact ha x z
      · rw [List.mem_singleton.mp z]; exact hq
    rw [pX4_leastRoundFrom_L12_s, if_neg (nI_ge (by omega) (by omega)), show nI i + (1 : Int32) = nI (i + 1) from nI_1 i]
    unfold rgS
    by_cases e9 : sees q = -9
    · rw [if_pos e9, if_neg (fun z => m9_nI (by omega) (z.symm.trans e9)), if_pos e9]
    · rw [if_neg e9]
      by_cases e : sees q = nI k
      · rw [if_pos e, if_pos e]
      · rw [if_neg e, if_neg e, if_neg e9]
        rcases hs q hq with z | ⟨j, hj, z⟩
        · exact absurd z e9
        · rw [z, nI_clamp (by omega), ga_nI (by omega) (by decide), Option.bind_some]
          have hm : mnN (acc ++ [q]) ≤ q := mn_le _ q (by simp)
          have e1 : (if nI j < nI (mnN (acc ++ [q])) then nI j else nI (mnN (acc ++ [q]))) = nI (mnN (acc ++ [q] ++ [j])) := by
            rw [mnN_app (acc ++ [q]) j]
            by_cases c : j < mnN (acc ++ [q])
            · rw [if_pos (nI_lt c (by omega)), Nat.min_eq_right (by omega)]
            · rw [if_neg (nI_nlt (by omega) (by omega)), Nat.min_eq_left (by omega)]
          rw [e1]
          exact ih (i + 1) j f (acc ++ [q]) (by omega) (by omega) hj ha'
theorem leastRound_c {n : Nat} {sees : Nat → Int32} (hn : n ≤ 7) (hs : seesOk n sees) {k : Nat} (hk : k < n) : pX4_leastRoundFrom sees (nI n) (nI k) = some (match rgS sees k n k [] with | none => -9 | some l => nI (mnN l)) := by
  unfold pX4_leastRoundFrom
  rw [ga_nI (by omega) (by decide), Option.bind_some]
  have h := ring_c hn hs hk n 0 k fu [] (by omega) (by unfold fu; omega) hk (fun x h => by cases h)
  have e : mnN ([] ++ [k]) = k := by
    show min 7 k = k
    exact Nat.min_eq_right (by omega)
  rw [e] at h
  exact h
def orF (f : Nat → Nat) : Nat → Nat
  | 0 => 0
  | n + 1 => orF f n ||| f n
theorem orF_s (f : Nat → Nat) (n : Nat) : orF f (n + 1) = orF f n ||| f n := rfl
theorem orF_tb (f : Nat → Nat) (x : Nat) : ∀ n, (orF f n).testBit x = true ↔ ∃ k, k < n ∧ (f k).testBit x = true := by
  intro n
  induction n with
  | zero => unfold orF; simp
  | succ n ih =>
    unfold orF
    rw [Nat.testBit_or, Bool.or_eq_true, ih]
    constructor
    · rintro (⟨k, h1, h2⟩ | h)
      · exact ⟨k, by omega, h2⟩
      · exact ⟨n, by omega, h⟩
    · rintro ⟨k, h1, h2⟩
      by_cases e : k = n
      · subst e; exact Or.inr h2
      · exact Or.inl ⟨k, by omega, h2⟩
theorem orF_lt {f : Nat → Nat} {N : Nat} : ∀ n, (∀ k, k < n → f k < 2 ^ N) → orF f n < 2 ^ N := by
  intro n
  induction n with
  | zero => intro _; exact Nat.two_pow_pos N
  | succ n ih => intro h; exact Nat.or_lt_two_pow (ih (fun k hk => h k (by omega))) (h n (by omega))
def rgB (n : Nat) (sees : Nat → Int32) (k : Nat) : Nat := match rgS sees k n k [] with | none => 0 | some l => bitsN l
def isR (n : Nat) (sees : Nat → Int32) (k : Nat) : Bool := (rgS sees k n k []).isSome
def isLst (n : Nat) (sees : Nat → Int32) (k : Nat) : Bool := match rgS sees k n k [] with | none => false | some l => decide (mnN l = k)
theorem rg_all {n : Nat} {sees : Nat → Int32} (hn : n ≤ 7) (hs : seesOk n sees) {k : Nat} (hk : k < n) {l : List Nat} (h : rgS sees k n k [] = some l) : (∀ x, x ∈ l → x < n ∧ isR n sees x = true) ∧ k ∈ l := by
  obtain ⟨⟨L, a1, a2, a3, a4⟩, b, c, d⟩ := rgS_is hn hs hk n 0 [] l (fun i hi => by omega) h
  refine ⟨fun x hx => ?_, d⟩
  rcases b x hx with q | ⟨t, -, t2, t3⟩
  · cases q
  · refine ⟨t3, ?_⟩
    have hre : RE n sees x := by rw [t2]; exact RE_it ⟨L, by omega, by omega, a3, a4⟩ t
    obtain ⟨l', e⟩ := (ring_ex hn hs t3).mpr hre
    unfold isR
    rw [e]; rfl
theorem rings_eq {n : Nat} {sees : Nat → Int32} (hn : n ≤ 7) (hs : seesOk n sees) : orF (fun k => if isR n sees k then 2 ^ k else 0) n = orF (rgB n sees) n := by
  apply Nat.eq_of_testBit_eq
  intro x
  rw [Bool.eq_iff_iff, orF_tb, orF_tb]
  constructor
  · rintro ⟨k, h1, h2⟩
    by_cases c : isR n sees k = true
    · have h2 : (if isR n sees k = true then 2 ^ k else 0).testBit x = true := h2
      rw [if_pos c, tb_pow, decide_eq_true_eq] at h2
      subst h2
      refine ⟨k, h1, ?_⟩
      unfold isR at c
      obtain ⟨l, e⟩ := Option.isSome_iff_exists.mp c
      unfold rgB
      rw [e]
      show (bitsN l).testBit k = true
      rw [bitsN_tb, decide_eq_true_eq]
      exact (rg_all hn hs h1 e).2
    · have h2 : (if isR n sees k = true then 2 ^ k else 0).testBit x = true := h2
      rw [if_neg c, Nat.zero_testBit] at h2
      cases h2
  · rintro ⟨k, h1, h2⟩
    unfold rgB at h2
    cases e : rgS sees k n k [] with
    | none => rw [e] at h2; simp at h2
    | some l =>
      rw [e] at h2
      have h2 : (bitsN l).testBit x = true := h2
      rw [bitsN_tb, decide_eq_true_eq] at h2
      obtain ⟨z1, z2⟩ := (rg_all hn hs h1 e).1 x h2
      refine ⟨x, z1, ?_⟩
      show (if isR n sees x = true then 2 ^ x else 0).testBit x = true
      rw [if_pos z2, tb_pow, decide_eq_true_eq]
theorem lst_tab : ∀ s : Fin 128, ∀ k : Fin 7, pX8_isLeastOf (nI s.val) (nI k.val) = (if s.val.testBit k.val = true ∧ s.val % 2 ^ k.val = 0 then 1 else 0) := by decide +kernel
theorem isLst_m {n : Nat} {sees : Nat → Int32} (hn : n ≤ 7) (hs : seesOk n sees) {k : Nat} (hk : k < n) : pX8_isLeastOf (nI (rgB n sees k)) (nI k) = (if isLst n sees k then 1 else 0) := by
  unfold rgB isLst
  cases e : rgS sees k n k [] with
  | none =>
    show pX8_isLeastOf (nI 0) (nI k) = _
    rw [lst_tab ⟨0, by omega⟩ ⟨k, by omega⟩]
    simp
  | some l =>
    obtain ⟨h1, h2⟩ := rg_all hn hs hk e
    have hlt : bitsN l < 128 := p2_7 hn (bits_lt (fun x hx => (h1 x hx).1))
    show pX8_isLeastOf (nI (bitsN l)) (nI k) = (if decide (mnN l = k) = true then 1 else 0)
    rw [lst_tab ⟨bitsN l, hlt⟩ ⟨k, by omega⟩]
    have iff : ((bitsN l).testBit k = true ∧ bitsN l % 2 ^ k = 0) ↔ decide (mnN l = k) = true := by
      rw [decide_eq_true_eq, bitsN_tb, decide_eq_true_eq]
      constructor
      · rintro ⟨-, h4⟩
        have hle := mn_le l k h2
        rcases mn_mem l with q | q
        · omega
        · rcases Nat.lt_or_ge (mnN l) k with z | z
          · exfalso
            have t1 : (bitsN l % 2 ^ k).testBit (mnN l) = true := by
              rw [Nat.testBit_mod_two_pow, bitsN_tb]
              simp [z, q]
            rw [h4, Nat.zero_testBit] at t1
            cases t1
          · omega
      · intro h4
        refine ⟨h2, ?_⟩
        apply Nat.eq_of_testBit_eq
        intro x
        rw [Nat.testBit_mod_two_pow, Nat.zero_testBit, bitsN_tb]
        by_cases c : x < k
        · have : ¬ x ∈ l := fun q => by have := mn_le l x q; omega
          simp [this]
        · simp [c]
    by_cases c : (bitsN l).testBit k = true ∧ bitsN l % 2 ^ k = 0
    · rw [if_pos c, if_pos (iff.mp c)]
    · rw [if_neg c, if_neg (fun q => c (iff.mpr q))]
def cntF (p : Nat → Bool) : Nat → Nat
  | 0 => 0
  | n + 1 => cntF p n + (if p n then 1 else 0)
theorem cntF_s (p : Nat → Bool) (n : Nat) : cntF p (n + 1) = cntF p n + (if p n then 1 else 0) := rfl
theorem pop_tab : ∀ s : Fin 128, pJ6_bitCount_0f7a4 (nI s.val) = nI (cntF (fun k => s.val.testBit k) 7) := by decide +kernel
theorem cntF_ext {p q : Nat → Bool} : ∀ n, (∀ k, k < n → p k = q k) → cntF p n = cntF q n := by
  intro n
  induction n with
  | zero => intro _; rfl
  | succ n ih => intro h; unfold cntF; rw [ih (fun k hk => h k (by omega)), h n (by omega)]
theorem cntF_out {p : Nat → Bool} {n : Nat} : ∀ m, (∀ k, n ≤ k → k < n + m → p k = false) → cntF p (n + m) = cntF p n := by
  intro m
  induction m with
  | zero => intro _; rfl
  | succ m ih =>
    intro h
    rw [← Nat.add_assoc, cntF_s, ih (fun k a b => h k a (by omega)), h (n + m) (by omega) (by omega)]
    rfl
theorem pop_or {p : Nat → Bool} {n : Nat} (hn : n ≤ 7) : pJ6_bitCount_0f7a4 (nI (orF (fun k => if p k then 2 ^ k else 0) n)) = nI (cntF p n) := by
  have hlt : orF (fun k => if p k then 2 ^ k else 0) n < 2 ^ n := orF_lt n (fun k hk => by
    show (if p k = true then 2 ^ k else 0) < 2 ^ n
    by_cases c : p k = true
    · rw [if_pos c]; exact Nat.pow_lt_pow_right (by decide) hk
    · rw [if_neg c]; exact Nat.two_pow_pos n)
  rw [pop_tab ⟨_, p2_7 hn hlt⟩]
  have tb : ∀ x, (orF (fun k => if p k then 2 ^ k else 0) n).testBit x = (decide (x < n) && p x) := by
    intro x
    rw [Bool.eq_iff_iff, orF_tb, Bool.and_eq_true, decide_eq_true_eq]
    constructor
    · rintro ⟨k, h1, h2⟩
      have h2 : (if p k = true then 2 ^ k else 0).testBit x = true := h2
      by_cases c : p k = true
      · rw [if_pos c, tb_pow, decide_eq_true_eq] at h2
        subst h2
        exact ⟨h1, c⟩
      · rw [if_neg c, Nat.zero_testBit] at h2; cases h2
    · rintro ⟨h1, h2⟩
      refine ⟨x, h1, ?_⟩
      show (if p x = true then 2 ^ x else 0).testBit x = true
      rw [if_pos h2, tb_pow, decide_eq_true_eq]
  have e1 : cntF (fun k => (orF (fun k => if p k then 2 ^ k else 0) n).testBit k) 7 = cntF p n := by
    obtain ⟨m, em⟩ : ∃ m, 7 = n + m := ⟨7 - n, by omega⟩
    rw [em, cntF_out m (fun k a _ => by rw [tb]; simp; omega)]
    exact cntF_ext n (fun k hk => by rw [tb]; simp [hk])
  rw [show (⟨orF (fun k => if p k then 2 ^ k else 0) n, p2_7 hn hlt⟩ : Fin 128).val = orF (fun k => if p k then 2 ^ k else 0) n from rfl, e1]
theorem inR_L {n : Nat} {sees : Nat → Int32} (hn : n ≤ 7) (hs : seesOk n sees) : ∀ (m k fl : Nat), k + m = n → m < fl → pX4_inRings_L4 sees (nI n) (fun a _ => some a) fl (nI (orF (fun k => if isR n sees k then 2 ^ k else 0) k)) (nI k) = some (nI (orF (fun k => if isR n sees k then 2 ^ k else 0) n)) := by
  intro m
  induction m with
  | zero =>
    intro k fl hk hf
    obtain ⟨f, rfl⟩ : ∃ f, fl = f + 1 := ⟨fl - 1, by omega⟩
    obtain rfl : k = n := by omega
    rw [pX4_inRings_L4_s, if_pos (nI_le (Nat.le_refl k) (by omega))]
  | succ m ih =>
    intro k fl hk hf
    obtain ⟨f, rfl⟩ : ∃ f, fl = f + 1 := ⟨fl - 1, by omega⟩
    have hlt : orF (fun k => if isR n sees k then 2 ^ k else 0) k < 2 ^ n := orF_lt k (fun i hi => by
      show (if isR n sees i = true then 2 ^ i else 0) < 2 ^ n
      by_cases c : isR n sees i = true
      · rw [if_pos c]; exact Nat.pow_lt_pow_right (by decide) (by omega)
      · rw [if_neg c]; exact Nat.two_pow_pos n)
    have h := ih (k + 1) f (by omega) (by omega)
    rw [pX4_inRings_L4_s, if_neg (nI_ge (by omega) (by omega)), leastRound_c hn hs (show k < n by omega), Option.bind_some, show nI k + (1 : Int32) = nI (k + 1) from nI_1 k]
    simp only [jn]
    rw [orF_s] at h
    cases e : rgS sees k n k [] with
    | none =>
      have c : isR n sees k = false := by unfold isR; rw [e]; rfl
      rw [if_pos rfl]
      rw [c] at h
      simpa using h
    | some l =>
      have c : isR n sees k = true := by unfold isR; rw [e]; rfl
      have hl : mnN l < 7 := by
        have := mn_le l k (rg_all hn hs (show k < n by omega) e).2
        omega
      rw [if_neg (m9_nI (by omega)), (soak_ok hn hlt (show k < n by omega)).1]
      rw [c] at h
      simpa using h
theorem lsR_L {n : Nat} {sees : Nat → Int32} (hn : n ≤ 7) (hs : seesOk n sees) : ∀ (m k fl : Nat), k + m = n → m < fl → pX4_leastOfRings_L4 sees (nI n) (fun a _ => some a) fl (nI (orF (fun k => if isLst n sees k then 2 ^ k else 0) k)) (nI k) = some (nI (orF (fun k => if isLst n sees k then 2 ^ k else 0) n)) := by
  intro m
  induction m with
  | zero =>
    intro k fl hk hf
    obtain ⟨f, rfl⟩ : ∃ f, fl = f + 1 := ⟨fl - 1, by omega⟩
    obtain rfl : k = n := by omega
    rw [pX4_leastOfRings_L4_s, if_pos (nI_le (Nat.le_refl k) (by omega))]
  | succ m ih =>
    intro k fl hk hf
    obtain ⟨f, rfl⟩ : ∃ f, fl = f + 1 := ⟨fl - 1, by omega⟩
    have hlt : orF (fun k => if isLst n sees k then 2 ^ k else 0) k < 2 ^ n := orF_lt k (fun i hi => by
      show (if isLst n sees i = true then 2 ^ i else 0) < 2 ^ n
      by_cases c : isLst n sees i = true
      · rw [if_pos c]; exact Nat.pow_lt_pow_right (by decide) (by omega)
      · rw [if_neg c]; exact Nat.two_pow_pos n)
    have h := ih (k + 1) f (by omega) (by omega)
    rw [pX4_leastOfRings_L4_s, if_neg (nI_ge (by omega) (by omega)), leastRound_c hn hs (show k < n by omega), Option.bind_some, show nI k + (1 : Int32) = nI (k + 1) from nI_1 k]
    simp only [jn]
    rw [orF_s] at h
    cases e : rgS sees k n k [] with
    | none =>
      have c : isLst n sees k = false := by unfold isLst; rw [e]
      rw [if_neg (fun z => m9_nI (by omega) z.symm)]
      rw [c] at h
      simpa using h
    | some l =>
      have hl : mnN l < 7 := by
        have := mn_le l k (rg_all hn hs (show k < n by omega) e).2
        omega
      by_cases z : mnN l = k
      · have c : isLst n sees k = true := by unfold isLst; rw [e]; simp [z]
        show (if nI (mnN l) = nI k then _ else _) = _
        rw [if_pos (by rw [z]), (soak_ok hn hlt (show k < n by omega)).1]
        rw [c] at h
        simpa using h
      · have c : isLst n sees k = false := by unfold isLst; rw [e]; simp [z]
        show (if nI (mnN l) = nI k then _ else _) = _
        rw [if_neg (fun q => z ((nI_eq (by omega) (by omega)).mp q))]
        rw [c] at h
        simpa using h
theorem rgB_lt {n : Nat} {sees : Nat → Int32} (hn : n ≤ 7) (hs : seesOk n sees) {k : Nat} (hk : k < n) : rgB n sees k < 2 ^ n := by
  unfold rgB
  cases e : rgS sees k n k [] with
  | none => exact Nat.two_pow_pos n
  | some l => exact bits_lt (fun x hx => ((rg_all hn hs hk e).1 x hx).1)
theorem ringOf_B {n : Nat} {sees : Nat → Int32} (hn : n ≤ 7) (hs : seesOk n sees) {k : Nat} (hk : k < n) : pX8_ringOf (nI n) sees (nI k) = some (nI (rgB n sees k)) := by
  rw [ringOf_m hn hs hk]
  unfold rgB
  cases rgS sees k n k [] with
  | none => rfl
  | some l => rfl
theorem or_tab : ∀ a : Fin 128, ∀ b : Fin 128, nI a.val ||| nI b.val = nI (a.val ||| b.val) := by
  intro a b
  apply Int32.toBitVec_inj.mp
  rw [Int32.toBitVec_or]
  show BitVec.ofNat 32 a.val ||| BitVec.ofNat 32 b.val = BitVec.ofNat 32 (a.val ||| b.val)
  rw [BitVec.ofNat_or]
theorem rings_m {n : Nat} {sees : Nat → Int32} (hn : n ≤ 7) (hs : seesOk n sees) (K : Int32 → Int32 → Int32 → Option Int32) : ∀ (m k fl : Nat), k + m = n → m < fl → pX8_rings_L29 (nI n) sees K fl (nI (orF (rgB n sees) k)) (nI (cntF (isLst n sees) k)) (nI k) = K (nI (orF (rgB n sees) n)) (nI (cntF (isLst n sees) n)) (nI n) := by
  intro m
  induction m with
  | zero =>
    intro k fl hk hf
    obtain ⟨f, rfl⟩ : ∃ f, fl = f + 1 := ⟨fl - 1, by omega⟩
    obtain rfl : k = n := by omega
    rw [pX8_rings_L29_s, if_pos (nI_le (Nat.le_refl k) (by omega))]
  | succ m ih =>
    intro k fl hk hf
    obtain ⟨f, rfl⟩ : ∃ f, fl = f + 1 := ⟨fl - 1, by omega⟩
    have hlt : orF (rgB n sees) k < 2 ^ n := orF_lt k (fun i hi => rgB_lt hn hs (by omega))
    have h := ih (k + 1) f (by omega) (by omega)
    rw [pX8_rings_L29_s, if_neg (nI_ge (by omega) (by omega)), ringOf_B hn hs (show k < n by omega), Option.bind_some, Option.bind_some, isLst_m hn hs (show k < n by omega), show nI k + (1 : Int32) = nI (k + 1) from nI_1 k, or_tab ⟨_, p2_7 hn hlt⟩ ⟨_, p2_7 hn (rgB_lt hn hs (show k < n by omega))⟩]
    simp only [jn]
    rw [orF_s, cntF_s] at h
    by_cases c : isLst n sees k = true
    · rw [c] at h ⊢
      simp only [if_true] at h ⊢
      rw [if_neg (by decide), show nI (cntF (isLst n sees) k) + (1 : Int32) = nI (cntF (isLst n sees) k + 1) from nI_1 _]
      exact h
    · have c : isLst n sees k = false := by simpa using c
      rw [c] at h ⊢
      simp only [Bool.false_eq_true, if_false, if_true] at h ⊢
      rw [show nI (cntF (isLst n sees) k) + (0 : Int32) = nI (cntF (isLst n sees) k + 0) from nI_add _ 0]
      exact h
theorem cuts_m {n : Nat} {sees : Nat → Int32} (hn : n ≤ 7) (hs : seesOk n sees) : ∀ (m k fl : Nat), k + m = n → m < fl → pX8_cuts_L14 (nI n) sees (fun a _ => some a) fl (nI (orF (fun k => if isLst n sees k then 2 ^ k else 0) k)) (nI k) = some (nI (orF (fun k => if isLst n sees k then 2 ^ k else 0) n)) := by
  intro m
  induction m with
  | zero =>
    intro k fl hk hf
    obtain ⟨f, rfl⟩ : ∃ f, fl = f + 1 := ⟨fl - 1, by omega⟩
    obtain rfl : k = n := by omega
    rw [pX8_cuts_L14_s, if_pos (nI_le (Nat.le_refl k) (by omega))]
  | succ m ih =>
    intro k fl hk hf
    obtain ⟨f, rfl⟩ : ∃ f, fl = f + 1 := ⟨fl - 1, by omega⟩
    have hlt : orF (fun k => if isLst n sees k then 2 ^ k else 0) k < 2 ^ n := orF_lt k (fun i hi => by
      show (if isLst n sees i = true then 2 ^ i else 0) < 2 ^ n
      by_cases c : isLst n sees i = true
      · rw [if_pos c]; exact Nat.pow_lt_pow_right (by decide) (by omega)
      · rw [if_neg c]; exact Nat.two_pow_pos n)
    have h := ih (k + 1) f (by omega) (by omega)
    rw [pX8_cuts_L14_s, if_neg (nI_ge (by omega) (by omega)), ringOf_B hn hs (show k < n by omega), Option.bind_some, isLst_m hn hs (show k < n by omega), show nI k + (1 : Int32) = nI (k + 1) from nI_1 k]
    simp only [jn]
    rw [orF_s] at h
    by_cases c : isLst n sees k = true
    · rw [c] at h ⊢
      simp only [if_true] at h ⊢
      rw [if_neg (by decide), (soak_ok hn hlt (show k < n by omega)).1]
      exact h
    · have c : isLst n sees k = false := by simpa using c
      rw [c] at h ⊢
      simp only [Bool.false_eq_true, if_false, if_true, Nat.or_zero] at h ⊢
      rw [Int32.or_zero]
      exact h
set_option maxRecDepth 20000 in
theorem T_rings (th : Nat → Int32) (la : Nat → Int32) (le : Nat → Int32) (cf : Nat → Nat → Int32) (kind : Nat → Int32) (page : Nat → Int32) (asked : Nat → Int32) (sees : Nat → Int32) (cnt : Int32) (wet : Int32) (which : Nat → Int32) (leaf : Nat → Int32) (rds : Int32) (f_askedUpTo : Nat → Int32) (f_costs : Nat → Int32) (sorts : Nat → Int32) (slong : Nat → Int32) (mcells : Nat → Int32) (p1 : Int32) (hI : Inv cnt wet kind page asked sees rds which leaf th la le cf sorts slong mcells f_costs f_askedUpTo) : ∃ (r : Int32), pX7_rings sees cnt p1 = some r ∧ pX8_rings cnt sees p1 = some r ∧ Inv cnt wet kind page asked sees rds which leaf th la le cf sorts slong mcells f_costs f_askedUpTo := by
  obtain ⟨n, w, r, rfl, rfl, rfl, hB, hR, hW, hT⟩ := hI
  have hn := hB.1
  have hI : Inv (nI n) (nI w) kind page asked sees (nI r) which leaf th la le cf sorts slong mcells f_costs f_askedUpTo := ⟨n, w, r, rfl, rfl, rfl, hB, hR, hW, hT⟩
  unfold pX7_rings pX8_rings
  simp only [jn]
  rcases win_or p1 1 (by decide) with ⟨h2, h3⟩ | ⟨a, ha, rfl, h2⟩
  · rw [if_pos (show pX8_within p1 0 1 = 0 from h2)]
    have z0 : ¬ p1 = 0 := fun e => by
      rw [e] at h3
      exact absurd h3 (by decide)
    have z1 : ¬ p1 = 1 := fun e => by
      rw [e] at h3
      exact absurd h3 (by decide)
    rw [if_neg z0, if_neg z1]
    exact ⟨_, rfl, rfl, hI⟩
  rw [if_neg (one_ne (show pX8_within (nI a) 0 1 = 1 from h2))]
  by_cases h6 : nI n = 0
  · rw [if_pos h6, if_pos h6]
    refine ⟨-3, ?_, rfl, hI⟩
    rcases (show a = 0 ∨ a = 1 by omega) with rfl | rfl
    · rw [if_pos (show nI 0 = (0 : Int32) from rfl)]
    · rw [if_neg (show ¬ nI 1 = (0 : Int32) by decide), if_pos (show nI 1 = (1 : Int32) from rfl)]
  rw [if_neg h6, if_neg h6]
  have e0 := inR_L hn hB.so n 0 fu (by omega) (by unfold fu; omega)
  have e1 := lsR_L hn hB.so n 0 fu (by omega) (by unfold fu; omega)
  have e2 := rings_m hn hB.so (fun (k4_v2 : Int32) (k4_v3 : Int32) (k4_v4 : Int32) => if nI a = 0 then (some k4_v2) else (some k4_v3)) n 0 fu (by omega) (by unfold fu; omega)
  rw [show nI (orF (fun k => if isLst n sees k then 2 ^ k else 0) 0) = (0 : Int32) from rfl, show nI 0 = (0 : Int32) from rfl] at e1
  rw [show nI (orF (fun k => if isR n sees k then 2 ^ k else 0) 0) = (0 : Int32) from rfl, show nI 0 = (0 : Int32) from rfl] at e0
  rw [show nI (orF (rgB n sees) 0) = (0 : Int32) from rfl, show nI (cntF (isLst n sees) 0) = (0 : Int32) from rfl, show nI 0 = (0 : Int32) from rfl] at e2
  unfold pX4_inRings pX4_leastOfRings
  rw [e0, e1, e2]
  simp only [Option.bind_some]
  rcases (show a = 0 ∨ a = 1 by omega) with rfl | rfl
  · refine ⟨nI (orF (rgB n sees) n), ?_, ?_, hI⟩
    · rw [if_pos (show nI 0 = (0 : Int32) from rfl), if_pos (show nI 0 = (0 : Int32) from rfl), rings_eq hn hB.so]
    · rw [if_pos (show nI 0 = (0 : Int32) from rfl)]
  · refine ⟨nI (cntF (isLst n sees) n), ?_, ?_, hI⟩
    · rw [if_neg (show ¬ nI 1 = (0 : Int32) by decide), if_pos (show nI 1 = (1 : Int32) from rfl), if_neg (show ¬ nI 1 = (0 : Int32) by decide), pop_or hn]
    · rw [if_neg (show ¬ nI 1 = (0 : Int32) by decide)]
set_option maxRecDepth 20000 in
theorem T_cuts (th : Nat → Int32) (la : Nat → Int32) (le : Nat → Int32) (cf : Nat → Nat → Int32) (kind : Nat → Int32) (page : Nat → Int32) (asked : Nat → Int32) (sees : Nat → Int32) (cnt : Int32) (wet : Int32) (which : Nat → Int32) (leaf : Nat → Int32) (rds : Int32) (f_askedUpTo : Nat → Int32) (f_costs : Nat → Int32) (sorts : Nat → Int32) (slong : Nat → Int32) (mcells : Nat → Int32) (hI : Inv cnt wet kind page asked sees rds which leaf th la le cf sorts slong mcells f_costs f_askedUpTo) : ∃ (r : Int32), pX7_cuts sees cnt = some r ∧ pX8_cuts cnt sees = some r ∧ Inv cnt wet kind page asked sees rds which leaf th la le cf sorts slong mcells f_costs f_askedUpTo := by
  obtain ⟨n, w, r, rfl, rfl, rfl, hB, hR, hW, hT⟩ := hI
  have hn := hB.1
  have hI : Inv (nI n) (nI w) kind page asked sees (nI r) which leaf th la le cf sorts slong mcells f_costs f_askedUpTo := ⟨n, w, r, rfl, rfl, rfl, hB, hR, hW, hT⟩
  unfold pX7_cuts pX8_cuts
  by_cases h6 : nI n = 0
  · rw [if_pos h6, if_pos h6]; exact ⟨_, rfl, rfl, hI⟩
  · rw [if_neg h6, if_neg h6]
    unfold pX4_leastOfRings
    have e1 := lsR_L hn hB.so n 0 fu (by omega) (by unfold fu; omega)
    have e2 := cuts_m hn hB.so n 0 fu (by omega) (by unfold fu; omega)
    rw [show nI (orF (fun k => if isLst n sees k then 2 ^ k else 0) 0) = (0 : Int32) from rfl, show nI 0 = (0 : Int32) from rfl] at e1 e2
    rw [e1, e2]
    exact ⟨_, rfl, rfl, hI⟩
