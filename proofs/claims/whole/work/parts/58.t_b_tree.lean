def DryOk (w : Int32) (asked : Nat → Int32) (i s : Nat) (d A : Nat → Nat) (dc dm au : Nat → Int32) : Prop := (∀ x, x < s → dc x = nI (d x) ∧ dm x = nI (d x) ∧ d x < i ∧ pX4_isWet w (nI (d x)) = 0 ∧ A x ≤ A (x + 1) ∧ A (x + 1) ≤ A x + 9 ∧ asked (d x) = nI (A (x + 1) - A x)) ∧ (∀ x y, x < y → y < s → d x < d y) ∧ (∀ j, j < i → pX4_isWet w (nI j) = 0 → ∃ x, x < s ∧ d x = j) ∧ (∀ x, x ≤ s → au x = nI (A x)) ∧ A 0 = 0
theorem dry_L {n w : Nat} {kind page asked sees : Nat → Int32} (h : BookOk n w kind page asked sees) (K1 : Int32 → (Nat → Int32) → (Nat → Int32) → Int32 → Option ((Nat → Int32) × (Nat → Int32) × (Nat → Int32) × (Nat → Int32) × Int32)) (K2 : Int32 → (Nat → Int32) → Int32 → Option (Int32 × (Nat → Int32) × Int32 × (Nat → Int32) × (Nat → Int32) × (Nat → Int32))) : ∀ (m i s fl : Nat) (dc dm au : Nat → Int32) (d A : Nat → Nat), i + m = n → m < fl → s ≤ i → DryOk (nI w) asked i s d A dc dm au → ∃ (D : Nat) (dc' dm' au' : Nat → Int32) (d' A' : Nat → Nat), D ≤ n ∧ pX3_grow_L7 asked (nI n) (nI w) K1 fl (nI i) dc au (nI s) = K1 (nI n) dc' au' (nI D) ∧ pX8_tree_L30 (nI n) (nI w) K2 fl (nI i) dm (nI s) = K2 (nI n) dm' (nI D) ∧ DryOk (nI w) asked n D d' A' dc' dm' au' := by
  have hn := h.1
  intro m
  induction m with
  | zero =>
    intro i s fl dc dm au d A hi hf hs hD
    obtain ⟨f, rfl⟩ : ∃ f, fl = f + 1 := ⟨fl - 1, by omega⟩
    obtain rfl : i = n := by omega
    rw [pX3_grow_L7_s, pX8_tree_L30_s, if_pos (nI_le (Nat.le_refl i) (by omega)), if_pos (nI_le (Nat.le_refl i) (by omega))]
    exact ⟨s, dc, dm, au, d, A, hs, rfl, rfl, hD⟩
  | succ m ih =>
    intro i s fl dc dm au d A hi hf hs hD
    obtain ⟨f, rfl⟩ : ∃ f, fl = f + 1 := ⟨fl - 1, by omega⟩
    obtain ⟨h1, h2, h3, h4, h5⟩ := hD
    rw [pX3_grow_L7_s, pX8_tree_L30_s, if_neg (nI_ge (by omega) (by omega)), if_neg (nI_ge (by omega) (by omega))]
    simp only [jn]
    rw [isOf_wet, show nI i + (1 : Int32) = nI (i + 1) from nI_1 i]
    by_cases c : pX4_isWet (nI w) (nI i) = 0
    · obtain ⟨a, ha, ea⟩ := (h.2.2 i (by omega)).2.2.1
      rw [if_pos c, if_pos c, sa_nI (by omega) (by decide), sa_nI (by omega) (by decide), ga_nI (by omega) (by decide), ga_nI (by omega) (by decide), show nI s + (1 : Int32) = nI (s + 1) from nI_1 s, Option.bind_some, Option.bind_some, Option.bind_some, Option.bind_some, sa_nI (by omega) (by decide), Option.bind_some, ea, h4 s (Nat.le_refl s), nI_add]
      refine ih (i + 1) (s + 1) f _ _ _ (fun x => if x = s then i else d x) (fun x => if x = s + 1 then A s + a else A x) (by omega) (by omega) (by omega) ⟨fun x hx => ?_, fun x y hxy hy => ?_, fun j hj hjw => ?_, fun x hx => ?_, ?_⟩
      · by_cases e : x = s
        · subst e
          dsimp only
          rw [upd_at, upd_at, if_pos rfl, if_neg (show ¬ x = x + 1 by omega), if_pos rfl]
          exact ⟨rfl, rfl, by omega, c, by omega, by omega, by rw [ea, show A x + a - A x = a by omega]⟩
        · obtain ⟨q1, q2, q3, q4, q5, q6, q7⟩ := h1 x (by omega)
          dsimp only
          rw [upd_ne e, upd_ne e, if_neg e, if_neg (show ¬ x = s + 1 by omega), if_neg (show ¬ x + 1 = s + 1 by omega)]
          exact ⟨q1, q2, by omega, q4, q5, q6, q7⟩
      · by_cases e : y = s
        · subst e
          show (if x = y then i else d x) < (if y = y then i else d y)
          rw [if_neg (by omega), if_pos rfl]
          have := (h1 x (by omega)).2.2.1
          omega
        · show (if x = s then i else d x) < (if y = s then i else d y)
          rw [if_neg (by omega), if_neg e]
          exact h2 x y hxy (by omega)
      · by_cases e : j = i
        · exact ⟨s, by omega, by show (if s = s then i else d s) = j; rw [if_pos rfl, e]⟩
        · obtain ⟨x, hx, ex⟩ := h3 j (by omega) hjw
          exact ⟨x, by omega, by show (if x = s then i else d x) = j; rw [if_neg (by omega), ex]⟩
      · by_cases e : x = s + 1
        · subst e
          rw [upd_at]
          show _ = nI (if s + 1 = s + 1 then A s + a else A (s + 1))
          rw [if_pos rfl]
        · rw [upd_ne e]
          show _ = nI (if x = s + 1 then A s + a else A x)
          rw [if_neg e]
          exact h4 x (by omega)
      · show (if 0 = s + 1 then A s + a else A 0) = 0
        rw [if_neg (by omega), h5]
    · rw [if_neg c, if_neg c]
      refine ih (i + 1) s f _ _ _ d A (by omega) (by omega) (by omega) ⟨fun x hx => ?_, h2, fun j hj hjw => ?_, h4, h5⟩
      · obtain ⟨q1, q2, q3, q4, q5, q6, q7⟩ := h1 x hx
        exact ⟨q1, q2, by omega, q4, q5, q6, q7⟩
      · by_cases e : j = i
        · subst e; exact absurd hjw c
        · exact h3 j (by omega) hjw
theorem DryOk.mono {w : Int32} {asked : Nat → Int32} {i s : Nat} {d A : Nat → Nat} {dc dm au : Nat → Int32} (h : DryOk w asked i s d A dc dm au) : ∀ m x, x + m ≤ s → A x ≤ A (x + m) ∧ A (x + m) ≤ A x + 9 * m := by
  intro m
  induction m with
  | zero => intro x _; exact ⟨Nat.le_refl _, Nat.le_refl _⟩
  | succ m ih =>
    intro x hx
    have := ih x (by omega)
    have h2 := h.1 (x + m) (by omega)
    have h3 := h2.2.2.2.2.1
    have h4 := h2.2.2.2.2.2.1
    rw [show x + (m + 1) = x + m + 1 by omega]
    omega
theorem part_nI (b e : Nat) : pX3_partOf (nI b) (nI e) = nI (8 * b + e) := by
  unfold pX3_partOf
  rw [show nI b * (8 : Int32) = nI (b * 8) from pk_mul b 8, nI_add, Nat.mul_comm]
theorem part8 (b e : Nat) : (8 : Int32) * nI b + nI e = nI (8 * b + e) := by
  rw [show (8 : Int32) * nI b = nI (8 * b) from pk_mul 8 b, nI_add]
def CellOk (fc mc fr mr : Nat → Int32) (b e : Nat) : Prop := ∃ C, fc (8 * b + e) = nI C ∧ mc (8 * b + e) = nI C ∧ C ≤ 63 * (e - b) ∧ (b < e → ∃ R, b ≤ R ∧ R < e ∧ fr (8 * b + e) = nI R ∧ mr (8 * b + e) = nI R)
theorem pick_L {b e al : Nat} {fc mc fr mr : Nat → Int32} (he : e ≤ 7) (hal : al ≤ 63) (hC : ∀ x y, b ≤ x → x ≤ y → y ≤ e → y - x < e - b → CellOk fc mc fr mr x y) (K1 : Int32 → Int32 → Int32 → Option ((Nat → Int32) × (Nat → Int32))) (K2 : Int32 → Int32 → Int32 → Option ((Nat → Int32) × (Nat → Int32))) : ∀ (m q fl R l : Nat), q + m = e → m < fl → b ≤ q → b ≤ R → R < e → l ≤ 63 * (e - b - 1) → ∃ R' l', pX3_chooseRoot_L9 (nI b) (nI e) fc K1 fl (nI R) (nI l) (nI q) = K1 (nI R') (nI l') (nI e) ∧ pX8_findRoot_L42 (nI b) (nI e) (nI al) mc K2 fl (nI R) (nI (al + l)) (nI q) = K2 (nI R') (nI (al + l')) (nI e) ∧ b ≤ R' ∧ R' < e ∧ l' ≤ 63 * (e - b - 1) := by
  intro m
  induction m with
  | zero =>
    intro q fl R l hq hf hbq h1 h2 h3
    obtain ⟨f, rfl⟩ : ∃ f, fl = f + 1 := ⟨fl - 1, by omega⟩
    obtain rfl : q = e := by omega
    rw [pX3_chooseRoot_L9_s, pX8_findRoot_L42_s, if_pos (nI_le (Nat.le_refl q) (by omega)), if_pos (nI_le (Nat.le_refl q) (by omega))]
    exact ⟨R, l, rfl, rfl, h1, h2, h3⟩
  | succ m ih =>
    intro q fl R l hq hf hbq h1 h2 h3
    obtain ⟨f, rfl⟩ : ∃ f, fl = f + 1 := ⟨fl - 1, by omega⟩
    obtain ⟨C1, a1, a2, a3, -⟩ := hC b q (by omega) (by omega) (by omega) (by omega)
    obtain ⟨C2, b1, b2, b3, -⟩ := hC (q + 1) e (by omega) (by omega) (by omega) (by omega)
    rw [pX3_chooseRoot_L9_s, pX8_findRoot_L42_s, if_neg (nI_ge (by omega) (by omega)), if_neg (nI_ge (by omega) (by omega)), show nI q + (1 : Int32) = nI (q + 1) from nI_1 q, part_nI, part_nI, part8, part8, ga_nI (by omega) (by decide), ga_nI (by omega) (by decide), ga_nI (by omega) (by decide), ga_nI (by omega) (by decide), Option.bind_some, Option.bind_some, Option.bind_some, Option.bind_some, a1, a2, b1, b2, nI_add, nI_add, nI_add]
    simp only [jn]
    rw [if_neg (m9_nI (show R < 2 ^ 31 by omega))]
    by_cases c : l ≤ C1 + C2
    · rw [if_pos (nI_le c (by omega)), if_pos (nI_le (show al + l ≤ al + C1 + C2 by omega) (by omega))]
      exact ih (q + 1) f R l (by omega) (by omega) (by omega) h1 h2 h3
    · rw [if_neg (nI_ge (by omega) (by omega)), if_neg (nI_ge (show al + C1 + C2 < al + l by omega) (by omega)), Nat.add_assoc]
      exact ih (q + 1) f q (C1 + C2) (by omega) (by omega) (by omega) (by omega) (by omega) (by omega)
theorem sum_L {n D b e : Nat} {w : Int32} {asked : Nat → Int32} {d A : Nat → Nat} {dc dm au : Nat → Int32} (hn : n ≤ 7) (hDn : D ≤ n) (h : DryOk w asked n D d A dc dm au) (hbe : b ≤ e) (heD : e ≤ D) (K : Int32 → Int32 → Option ((Nat → Int32) × (Nat → Int32))) : ∀ (m q fl : Nat), q + m = e → m < fl → b ≤ q → pX8_findRoot_L5 (nI e) asked dm K fl (nI (A q - A b)) (nI q) = K (nI (A e - A b)) (nI e) := by
  intro m
  induction m with
  | zero =>
    intro q fl hq hf hb
    obtain ⟨f, rfl⟩ : ∃ f, fl = f + 1 := ⟨fl - 1, by omega⟩
    obtain rfl : q = e := by omega
    rw [pX8_findRoot_L5_s, if_pos (nI_le (Nat.le_refl q) (by omega))]
  | succ m ih =>
    intro q fl hq hf hb
    obtain ⟨f, rfl⟩ : ∃ f, fl = f + 1 := ⟨fl - 1, by omega⟩
    obtain ⟨q1, q2, q3, q4, q5, q6, q7⟩ := h.1 q (by omega)
    have mo := (h.mono (q - b) b (by omega)).1
    rw [show b + (q - b) = q by omega] at mo
    rw [pX8_findRoot_L5_s, if_neg (nI_ge (by omega) (by omega)), ga_nI (by omega) (by decide), Option.bind_some, q2, ga_nI (by omega) (by decide), Option.bind_some, q7, nI_add, show nI q + (1 : Int32) = nI (q + 1) from nI_1 q, show A q - A b + (A (q + 1) - A q) = A (q + 1) - A b by omega]
    exact ih (q + 1) f (by omega) (by omega) (by omega)
theorem root_step {n D b e : Nat} {w : Int32} {asked : Nat → Int32} {d A : Nat → Nat} {dc dm au fc mc fr mr : Nat → Int32} (hn : n ≤ 7) (hDn : D ≤ n) (h : DryOk w asked n D d A dc dm au) (hbe : b < e) (heD : e ≤ D) (hC : ∀ x y, b ≤ x → x ≤ y → y ≤ e → y - x < e - b → CellOk fc mc fr mr x y) : ∃ C R, C ≤ 63 * (e - b) ∧ b ≤ R ∧ R < e ∧ pX3_chooseRoot au fc fr (nI b) (nI e) = some (upd fc (8 * b + e) (nI C), upd fr (8 * b + e) (nI R)) ∧ pX8_findRoot asked dm mc mr (nI b) (nI e) = some (upd mc (8 * b + e) (nI C), upd mr (8 * b + e) (nI R)) := by
  obtain ⟨C1, a1, a2, a3, -⟩ := hC b b (by omega) (by omega) (by omega) (by omega)
  obtain ⟨C2, b1, b2, b3, -⟩ := hC (b + 1) e (by omega) (by omega) (by omega) (by omega)
  have mo := h.mono (e - b) b (by omega)
  rw [show b + (e - b) = e by omega] at mo
  have hal : A e - A b ≤ 63 := by omega
  have mb := (h.mono b 0 (by omega)).2
  rw [Nat.zero_add, h.2.2.2.2] at mb
  unfold pX3_chooseRoot pX8_findRoot
  have sl := sum_L hn hDn h (Nat.le_of_lt hbe) heD (fun (k3_v3 : Int32) (k3_v4 : Int32) => pX8_findRoot_L42 (nI b) (nI e) k3_v3 mc (fun (k8_v4 : Int32) (k8_v5 : Int32) (k8_v6 : Int32) => (sa mc 64 ((((8 : Int32)) * nI b) + nI e) k8_v5).bind fun g9 => (sa mr 64 ((((8 : Int32)) * nI b) + nI e) k8_v4).bind fun g10 => some ((g9, g10))) fu ((-9 : Int32)) ((0 : Int32)) (nI b)) (e - b) b fu (by omega) (by unfold fu; omega) (Nat.le_refl b)
  rw [Nat.sub_self, show nI 0 = (0 : Int32) from rfl] at sl
  rw [sl]
  have fe : fu = 5999 + 1 := rfl
  have gf : ∀ x, x < 64 → ga fc 64 (nI x) = some (fc x) := fun x hx => ga_nI hx (by decide)
  have gm : ∀ x, x < 64 → ga mc 64 (nI x) = some (mc x) := fun x hx => ga_nI hx (by decide)
  rw [fe, pX3_chooseRoot_L9_s, pX8_findRoot_L42_s, if_neg (nI_ge (by omega) (by omega)), if_neg (nI_ge (by omega) (by omega)), show nI b + (1 : Int32) = nI (b + 1) from nI_1 b]
  simp only [part_nI, part8]
  rw [gf _ (show 8 * b + b < 64 by omega), gf _ (show 8 * (b + 1) + e < 64 by omega), gm _ (show 8 * b + b < 64 by omega), gm _ (show 8 * (b + 1) + e < 64 by omega), Option.bind_some, Option.bind_some, Option.bind_some, Option.bind_some, a1, a2, b1, b2, nI_add, nI_add, nI_add]
  simp only [jn]
  rw [if_pos True.intro, if_neg (show ¬ (2147483647 : Int32) ≤ nI (C1 + C2) from nI_ge (b := 2147483647) (by omega) (by decide)), Nat.add_assoc]
  obtain ⟨R', l', r1, r2, r3, r4, r5⟩ := pick_L (show e ≤ 7 by omega) hal hC (fun (k4_v3 : Int32) (k4_v4 : Int32) (k4_v5 : Int32) => (sa fr 64 (pX3_partOf (nI b) (nI e)) k4_v3).bind fun g5 => (ga au 8 (nI e)).bind fun x6 => (ga au 8 (nI b)).bind fun x7 => (sa fc 64 (pX3_partOf (nI b) (nI e)) ((k4_v4 + x6) - x7)).bind fun g8 => some ((g8, g5))) (fun (k8_v4 : Int32) (k8_v5 : Int32) (k8_v6 : Int32) => (sa mc 64 ((((8 : Int32)) * nI b) + nI e) k8_v5).bind fun g9 => (sa mr 64 ((((8 : Int32)) * nI b) + nI e) k8_v4).bind fun g10 => some ((g9, g10))) (e - b - 1) (b + 1) 5999 b (C1 + C2) (by omega) (by omega) (by omega) (by omega) (by omega) (by omega)
  simp only [part_nI] at r1
  simp only [part8] at r2
  rw [r1, r2, sa_nI (by omega) (by decide), sa_nI (by omega) (by decide), sa_nI (by omega) (by decide), ga_nI (by omega) (by decide), ga_nI (by omega) (by decide), Option.bind_some, Option.bind_some, Option.bind_some, Option.bind_some, Option.bind_some, h.2.2.2.1 e heD, h.2.2.2.1 b (by omega), nI_add, pk_sub (by omega), sa_nI (by omega) (by decide)]
  refine ⟨l' + A e - A b, R', by omega, r3, r4, rfl, ?_⟩
  rw [show A e - A b + l' = l' + A e - A b by omega]
def AllOk (D L B : Nat) (fc mc fr mr : Nat → Int32) : Prop := ∀ b e, b ≤ e → e ≤ D → (e - b < L ∨ (e - b = L ∧ b < B)) → CellOk fc mc fr mr b e
def DiagOk (fc : Nat → Int32) : Prop := ∀ b, b < 8 → fc (8 * b + b) = 0
theorem row_L {n D L : Nat} {w : Int32} {asked : Nat → Int32} {d A : Nat → Nat} {dc dm au : Nat → Int32} (hn : n ≤ 7) (hDn : D ≤ n) (h : DryOk w asked n D d A dc dm au) (hL : 1 ≤ L) (hLD : L ≤ D) (K1 : Int32 → (Nat → Int32) → (Nat → Int32) → Option ((Nat → Int32) × (Nat → Int32) × (Nat → Int32) × (Nat → Int32) × Int32)) (K2 : Int32 → (Nat → Int32) → (Nat → Int32) → Option ((Nat → Int32) × (Nat → Int32))) : ∀ (m B fl : Nat) (fc mc fr mr : Nat → Int32), B + m = D - L + 1 → m < fl → AllOk D L B fc mc fr mr → DiagOk fc → ∃ (v : Int32) (fc' mc' fr' mr' : Nat → Int32), pX3_grow_L88 (nI L) au (nI D) K1 fl (nI B) fc fr = K1 v fc' fr' ∧ pX8_findCosts_L33 (nI L) asked dm (nI D) K2 fl (nI B) mc mr = K2 v mc' mr' ∧ AllOk D (L + 1) 0 fc' mc' fr' mr' ∧ DiagOk fc' := by
  intro m
  induction m with
  | zero =>
    intro B fl fc mc fr mr hB hf hA hG
    obtain ⟨f, rfl⟩ : ∃ f, fl = f + 1 := ⟨fl - 1, by omega⟩
    rw [pX3_grow_L88_s, pX8_findCosts_L33_s, nI_add, if_pos (nI_lt (by omega) (by omega)), if_pos (nI_lt (by omega) (by omega))]
    exact ⟨_, fc, mc, fr, mr, rfl, rfl, fun b e hb he hbe => hA b e hb he (by omega), hG⟩
  | succ m ih =>
    intro B fl fc mc fr mr hB hf hA hG
    obtain ⟨f, rfl⟩ : ∃ f, fl = f + 1 := ⟨fl - 1, by omega⟩
    obtain ⟨C, R, c1, c2, c3, c4, c5⟩ := root_step (b := B) (e := B + L) hn hDn h (by omega) (by omega) (fun x y hx hxy hy hyx => hA x y hxy (by omega) (by omega))
    rw [pX3_grow_L88_s, pX8_findCosts_L33_s, nI_add, if_neg (nI_nlt (by omega) (by omega)), if_neg (nI_nlt (by omega) (by omega)), c4, c5, Option.bind_some, Option.bind_some, show nI B + (1 : Int32) = nI (B + 1) from nI_1 B]
    refine ih (B + 1) f _ _ _ _ (by omega) (by omega) (fun b e hb he hbe => ?_) (fun b hb => ?_)
    · by_cases q : b = B ∧ e = B + L
      · obtain ⟨rfl, rfl⟩ := q
        exact ⟨C, upd_at _ _ _, upd_at _ _ _, c1, fun _ => ⟨R, c2, c3, upd_at _ _ _, upd_at _ _ _⟩⟩
      · have ne : 8 * b + e ≠ 8 * B + (B + L) := by omega
        obtain ⟨C', u1, u2, u3, u4⟩ := hA b e hb he (by omega)
        exact ⟨C', by dsimp only; rw [upd_ne ne]; exact u1, by dsimp only; rw [upd_ne ne]; exact u2, u3, fun hlt => by
          obtain ⟨R', v1, v2, v3, v4⟩ := u4 hlt
          exact ⟨R', v1, v2, by dsimp only; rw [upd_ne ne]; exact v3, by dsimp only; rw [upd_ne ne]; exact v4⟩⟩
    · dsimp only
      rw [upd_ne (by omega)]
      exact hG b hb
theorem len_L {n D : Nat} {w : Int32} {asked : Nat → Int32} {d A : Nat → Nat} {dc dm au : Nat → Int32} (hn : n ≤ 7) (hDn : D ≤ n) (h : DryOk w asked n D d A dc dm au) (K1 : Int32 → (Nat → Int32) → (Nat → Int32) → Option ((Nat → Int32) × (Nat → Int32) × (Nat → Int32) × (Nat → Int32) × Int32)) (K2 : Int32 → (Nat → Int32) → (Nat → Int32) → Option ((Nat → Int32) × (Nat → Int32))) : ∀ (m L fl : Nat) (fc mc fr mr : Nat → Int32), L + m = D + 1 → 1 ≤ L → m < fl → AllOk D L 0 fc mc fr mr → DiagOk fc → ∃ (v : Int32) (fc' mc' fr' mr' : Nat → Int32), pX3_grow_L78 au (nI D) K1 fl (nI L) fc fr = K1 v fc' fr' ∧ pX8_findCosts_L23 asked dm (nI D) K2 fl (nI L) mc mr = K2 v mc' mr' ∧ AllOk D (D + 1) 0 fc' mc' fr' mr' ∧ DiagOk fc' := by
  intro m
  induction m with
  | zero =>
    intro L fl fc mc fr mr hL h1 hf hA hG
    obtain ⟨f, rfl⟩ : ∃ f, fl = f + 1 := ⟨fl - 1, by omega⟩
    obtain rfl : L = D + 1 := by omega
    rw [pX3_grow_L78_s, pX8_findCosts_L23_s, if_pos (nI_lt (by omega) (by omega)), if_pos (nI_lt (by omega) (by omega))]
    exact ⟨_, fc, mc, fr, mr, rfl, rfl, hA, hG⟩
  | succ m ih =>
    intro L fl fc mc fr mr hL h1 hf hA hG
    obtain ⟨f, rfl⟩ : ∃ f, fl = f + 1 := ⟨fl - 1, by omega⟩
    rw [pX3_grow_L78_s, pX8_findCosts_L23_s, if_neg (nI_nlt (by omega) (by omega)), if_neg (nI_nlt (by omega) (by omega)), show nI L + (1 : Int32) = nI (L + 1) from nI_1 L]
    obtain ⟨v, fc', mc', fr', mr', r1, r2, r3, r4⟩ := row_L (L := L) hn hDn h h1 (by omega) (fun (_ : Int32) (a : Nat → Int32) (b : Nat → Int32) => pX3_grow_L78 au (nI D) K1 f (nI (L + 1)) a b) (fun (_ : Int32) (a : Nat → Int32) (b : Nat → Int32) => pX8_findCosts_L23 asked dm (nI D) K2 f (nI (L + 1)) a b) (D - L + 1) 0 fu fc mc fr mr (by omega) (by unfold fu; omega) hA hG
    rw [show nI 0 = (0 : Int32) from rfl] at r1 r2
    rw [r1, r2]
    exact ih (L + 1) f fc' mc' fr' mr' (by omega) (by omega) (by omega) r3 r4
theorem zero_L (K : Int32 → (Nat → Int32) → Option ((Nat → Int32) × (Nat → Int32))) : ∀ (m i fl : Nat) (f : Nat → Int32), i + m = 64 → m < fl → (∀ x, x < i → f x = 0) → ∃ g, pX8_findCosts_L2 K fl (nI i) f = K (nI 64) g ∧ ∀ x, x < 64 → g x = 0 := by
  intro m
  induction m with
  | zero =>
    intro i fl f hi hf hx
    obtain ⟨fl', rfl⟩ : ∃ x, fl = x + 1 := ⟨fl - 1, by omega⟩
    obtain rfl : i = 64 := by omega
    refine ⟨f, ?_, hx⟩
    rw [pX8_findCosts_L2_s, if_pos (show (64 : Int32) ≤ nI 64 from nI_le (a := 64) (Nat.le_refl 64) (by decide))]
  | succ m ih =>
    intro i fl f hi hf hx
    obtain ⟨fl', rfl⟩ : ∃ x, fl = x + 1 := ⟨fl - 1, by omega⟩
    obtain ⟨g, h1, h2⟩ := ih (i + 1) fl' (upd f i 0) (by omega) (by omega) (fun x hx2 => by
      by_cases e : x = i
      · subst e; exact upd_at _ _ _
      · rw [upd_ne e]; exact hx x (by omega))
    refine ⟨g, ?_, h2⟩
    rw [pX8_findCosts_L2_s, if_neg (show ¬ (64 : Int32) ≤ nI i from nI_ge (b := 64) (by omega) (by decide)), sa_nI (by omega) (by decide), Option.bind_some, show nI i + (1 : Int32) = nI (i + 1) from nI_1 i, h1]
/-- how deep one comes to it -/
def depS (R : Nat → Nat → Nat) (q : Nat) : Nat → Nat → Nat → Nat → Nat
  | 0, _, _, t => t
  | m + 1, b, e, t => if R b e = q then t else if q < R b e then depS R q m b (R b e) (t + 1) else depS R q m (R b e + 1) e (t + 1)
def rootsOk (D : Nat) (R : Nat → Nat → Nat) (fr : Nat → Int32) : Prop := ∀ b e, b < e → e ≤ D → b ≤ R b e ∧ R b e < e ∧ fr (8 * b + e) = nI (R b e)
theorem depM {D q : Nat} {R : Nat → Nat → Nat} {mr : Nat → Int32} (hD : D ≤ 7) (hR : rootsOk D R mr) (K : Int32 → Int32 → Int32 → Int32 → Option (Nat → Int32)) : ∀ (m b e t fl : Nat), e - b ≤ m → b ≤ q → q < e → e ≤ D → m < fl → ∃ x y, pX8_findDepths_L33 (nI q) mr K fl (nI b) (nI e) (nI t) (nI (R b e)) = K x y (nI (depS R q m b e t)) (nI q) := by
  intro m
  induction m with
  | zero => intro b e t fl h1 h2 h3; omega
  | succ m ih =>
    intro b e t fl h1 h2 h3 h4 hf
    obtain ⟨f, rfl⟩ : ∃ f, fl = f + 1 := ⟨fl - 1, by omega⟩
    obtain ⟨r1, r2, r3⟩ := hR b e (by omega) h4
    rw [pX8_findDepths_L33_s]
    unfold depS
    by_cases c : R b e = q
    · rw [if_pos (by rw [c]), if_pos c, c]
      exact ⟨_, _, rfl⟩
    · rw [if_neg (fun k => c ((nI_eq (by omega) (by omega)).mp k)), if_neg c]
      simp only [jn]
      rw [show nI t + (1 : Int32) = nI (t + 1) from nI_1 t]
      by_cases c2 : q < R b e
      · rw [if_pos c2, if_pos (nI_le (Nat.le_of_lt c2) (by omega)), if_neg (nI_ge c2 (by omega)), part8, ga_nI (by omega) (by decide), Option.bind_some, (hR b (R b e) (by omega) (by omega)).2.2]
        exact ih b (R b e) (t + 1) f (by omega) (by omega) c2 (by omega) (by omega)
      · rw [if_neg c2, if_neg (nI_ge (by omega) (by omega)), if_pos (nI_le (by omega) (by omega)), show nI (R b e) + (1 : Int32) = nI (R b e + 1) from nI_1 _, part8, ga_nI (by omega) (by decide), Option.bind_some, (hR (R b e + 1) e (by omega) (by omega)).2.2]
        exact ih (R b e + 1) e (t + 1) f (by omega) (by omega) (by omega) (by omega) (by omega)
theorem depC {D q : Nat} {R : Nat → Nat → Nat} {fr dc : Nat → Int32} {d : Nat → Nat} (hD : D ≤ 7) (hR : rootsOk D R fr) (hd : ∀ x, x < D → dc x = nI (d x) ∧ d x < 7) (hinc : ∀ x y, x < y → y < D → d x < d y) : ∀ (m b e t fl : Nat), e - b ≤ m → b ≤ q → q < e → e ≤ D → m < fl → t + (e - b) ≤ D + 1 → pX3_depthOf_L10 (nI (d q)) dc fr (nI D) (fun _ _ _ => some (-9)) fl (nI b) (nI e) (nI t) = some (nI (depS R q m b e t)) := by
  intro m
  induction m with
  | zero => intro b e t fl h1 h2 h3; omega
  | succ m ih =>
    intro b e t fl h1 h2 h3 h4 hf ht
    obtain ⟨f, rfl⟩ : ∃ f, fl = f + 1 := ⟨fl - 1, by omega⟩
    obtain ⟨r1, r2, r3⟩ := hR b e (by omega) h4
    obtain ⟨d1, d2⟩ := hd (R b e) (by omega)
    obtain ⟨d3, d4⟩ := hd q (by omega)
    rw [pX3_depthOf_L10_s, if_neg (nI_nlt (by omega) (by omega)), if_neg (nI_ge (by omega) (by omega)), part_nI, ga_nI (by omega) (by decide), Option.bind_some, r3, ga_nI (by omega) (by decide), Option.bind_some, d1]
    unfold depS
    by_cases c : R b e = q
    · rw [if_pos (by rw [c]), if_pos c]
    · have ne : d (R b e) ≠ d q := by
        intro k
        rcases Nat.lt_or_gt_of_ne c with c' | c'
        · have := hinc _ _ c' (by omega); omega
        · have := hinc _ _ c' (by omega); omega
      rw [if_neg (fun k => ne ((nI_eq (by omega) (by omega)).mp k)), if_neg c, Option.bind_some]
      simp only [jn]
      rw [show nI t + (1 : Int32) = nI (t + 1) from nI_1 t]
      by_cases c2 : q < R b e
      · have := hinc _ _ c2 (by omega)
        rw [if_pos c2, if_neg (nI_ge this (by omega))]
        exact ih b (R b e) (t + 1) f (by omega) (by omega) c2 (by omega) (by omega) (by omega)
      · have := hinc (R b e) q (by omega) (by omega)
        rw [if_neg c2, if_pos (nI_le (Nat.le_of_lt this) (by omega)), show nI (R b e) + (1 : Int32) = nI (R b e + 1) from nI_1 _]
        exact ih (R b e + 1) e (t + 1) f (by omega) (by omega) (by omega) (by omega) (by omega) (by omega)
theorem depN {D : Nat} {R : Nat → Nat → Nat} {fr dc : Nat → Int32} {d : Nat → Nat} {p : Int32} (hD : D ≤ 7) (hR : rootsOk D R fr) (hd : ∀ x, x < D → dc x = nI (d x) ∧ d x < 7) (hp : ∀ x, x < D → p ≠ nI (d x)) : ∀ (m b e t fl : Nat), e - b ≤ m → b ≤ e → e ≤ D → m < fl → pX3_depthOf_L10 p dc fr (nI D) (fun _ _ _ => some (-9)) fl (nI b) (nI e) (nI t) = some (-9) := by
  intro m
  induction m with
  | zero =>
    intro b e t fl h1 h0 h2 hf
    obtain ⟨f, rfl⟩ : ∃ f, fl = f + 1 := ⟨fl - 1, by omega⟩
    rw [pX3_depthOf_L10_s, if_pos (show nI e ≤ nI b from nI_le (by omega) (by omega))]
    split <;> rfl
  | succ m ih =>
    intro b e t fl h1 h0 h2 hf
    obtain ⟨f, rfl⟩ : ∃ f, fl = f + 1 := ⟨fl - 1, by omega⟩
    rw [pX3_depthOf_L10_s]
    by_cases c0 : nI D < nI t
    · rw [if_pos c0]
    rw [if_neg c0]
    by_cases c1 : e ≤ b
    · rw [if_pos (nI_le c1 (by omega))]
    obtain ⟨r1, r2, r3⟩ := hR b e (by omega) h2
    obtain ⟨d1, d2⟩ := hd (R b e) (by omega)
    rw [if_neg (nI_ge (by omega) (by omega)), part_nI, ga_nI (by omega) (by decide), Option.bind_some, r3, ga_nI (by omega) (by decide), Option.bind_some, d1, if_neg (fun k => hp _ (by omega) k.symm), Option.bind_some]
    simp only [jn]
    rw [show nI t + (1 : Int32) = nI (t + 1) from nI_1 t]
    by_cases c2 : nI (d (R b e)) ≤ p
    · rw [if_pos c2, show nI (R b e) + (1 : Int32) = nI (R b e + 1) from nI_1 _]
      exact ih (R b e + 1) e (t + 1) f (by omega) (by omega) (by omega) (by omega)
    · rw [if_neg c2]
      exact ih b (R b e) (t + 1) f (by omega) (by omega) (by omega) (by omega)
theorem deps_L {D : Nat} {R : Nat → Nat → Nat} {mr dm : Nat → Int32} {d : Nat → Nat} (hD : D ≤ 7) (hR : rootsOk D R mr) (hd : ∀ x, x < D → dm x = nI (d x) ∧ d x < 7) (hinc : ∀ x y, x < y → y < D → d x < d y) (K : Int32 → (Nat → Int32) → Option (Nat → Int32)) : ∀ (m q fl : Nat) (dp : Nat → Int32), q + m = D → m < fl → (∀ x, x < q → dp (d x) = nI (depS R x D 0 D 1)) → ∃ dp', pX8_findDepths_L2 dm (nI D) mr K fl (nI q) dp = K (nI D) dp' ∧ ∀ x, x < D → dp' (d x) = nI (depS R x D 0 D 1) := by
  intro m
  induction m with
  | zero =>
    intro q fl dp hq hf hx
    obtain ⟨f, rfl⟩ : ∃ f, fl = f + 1 := ⟨fl - 1, by omega⟩
    obtain rfl : q = D := by omega
    rw [pX8_findDepths_L2_s, if_pos (nI_le (Nat.le_refl q) (by omega))]
    exact ⟨dp, rfl, hx⟩
  | succ m ih =>
    intro q fl dp hq hf hx
    obtain ⟨f, rfl⟩ : ∃ f, fl = f + 1 := ⟨fl - 1, by omega⟩
    obtain ⟨d1, d2⟩ := hd q (by omega)
    obtain ⟨x, y, e1⟩ := depM (q := q) hD hR (fun (_ : Int32) (_ : Int32) (v4 : Int32) (_ : Int32) => (ga dm 7 (nI q)).bind fun x6 => (sa dp 7 x6 v4).bind fun g7 => pX8_findDepths_L2 dm (nI D) mr K f (nI q + (1 : Int32)) g7) D 0 D 1 fu (by omega) (by omega) (by omega) (Nat.le_refl D) (by unfold fu; omega)
    rw [show nI 0 = (0 : Int32) from rfl, show nI 1 = (1 : Int32) from rfl, ← (hR 0 D (by omega) (Nat.le_refl D)).2.2] at e1
    have p8 : (8 : Int32) * (0 : Int32) + nI D = nI (8 * 0 + D) := part8 0 D
    rw [pX8_findDepths_L2_s, if_neg (nI_ge (by omega) (by omega)), p8, ga_nI (by omega) (by decide), Option.bind_some, e1, ga_nI (by omega) (by decide), Option.bind_some, d1, sa_nI (by omega) (by decide), Option.bind_some, show nI q + (1 : Int32) = nI (q + 1) from nI_1 q]
    refine ih (q + 1) f _ (by omega) (by omega) (fun z hz => ?_)
    by_cases ez : z = q
    · subst ez; exact upd_at _ _ _
    · have := hinc z q (by omega) (by omega)
      rw [upd_ne (by omega)]
      exact hx z (by omega)
theorem tree_or (p : Int32) : (pX8_within p (-1) 6 = 0 ∧ (p < -1 ∨ (¬ p < -1 ∧ ¬ p < 7))) ∨ ((p = -1 ∨ ∃ j, j ≤ 6 ∧ p = nI j) ∧ ¬ pX8_within p (-1) 6 = 0 ∧ ¬ p < -1 ∧ p < 7) := by
  have t1 : (-1 : Int32).toInt = -1 := rfl
  have t6 : (6 : Int32).toInt = 6 := rfl
  have t7 : (7 : Int32).toInt = 7 := rfl
  unfold pX8_within
  by_cases h0 : p < -1
  · exact Or.inl ⟨if_pos h0, Or.inl h0⟩
  · rw [if_neg h0]
    have h0' := h0
    rw [lt_toI, t1] at h0'
    by_cases h1 : (6 : Int32) < p
    · refine Or.inl ⟨if_pos h1, Or.inr ⟨h0, ?_⟩⟩
      rw [lt_toI, t6] at h1
      rw [lt_toI, t7]
      omega
    · rw [if_neg h1]
      have h1' := h1
      rw [lt_toI, t6] at h1'
      refine Or.inr ⟨?_, by decide, h0, by rw [lt_toI, t7]; omega⟩
      by_cases e : p = -1
      · exact Or.inl e
      · right
        have ne : ¬ p.toInt = -1 := fun q => e (by rw [eq_toI, t1]; exact q)
        obtain ⟨j, hj, rfl⟩ := nI_of (x := p) (fun q => by have q := lt_toI.mp q; rw [show (0 : Int32).toInt = 0 from rfl] at q; omega)
        rw [nI_toInt hj] at h1'
        exact ⟨j, by omega, rfl⟩
set_option maxRecDepth 20000 in
theorem T_tree (th : Nat → Int32) (la : Nat → Int32) (le : Nat → Int32) (cf : Nat → Nat → Int32) (kind : Nat → Int32) (page : Nat → Int32) (asked : Nat → Int32) (sees : Nat → Int32) (cnt : Int32) (wet : Int32) (which : Nat → Int32) (leaf : Nat → Int32) (rds : Int32) (f_dry : Nat → Int32) (f_askedUpTo : Nat → Int32) (f_costs : Nat → Int32) (f_roots : Nat → Int32) (f_size : Int32) (sorts : Nat → Int32) (slong : Nat → Int32) (mcells : Nat → Int32) (m_dryOnes : Nat → Int32) (m_dryMany : Int32) (m_costs : Nat → Int32) (m_roots : Nat → Int32) (m_depth : Nat → Int32) (p1 : Int32) (hI : Inv cnt wet kind page asked sees rds which leaf th la le cf sorts slong mcells f_costs f_askedUpTo) : ∃ (r : Int32) (f_dry' : Nat → Int32) (f_askedUpTo' : Nat → Int32) (f_costs' : Nat → Int32) (f_roots' : Nat → Int32) (f_size' : Int32) (m_dryOnes' : Nat → Int32) (m_dryMany' : Int32) (m_costs' : Nat → Int32) (m_roots' : Nat → Int32) (m_depth' : Nat → Int32), pX7_tree asked cnt wet f_dry f_askedUpTo f_costs f_roots f_size p1 = some (r, f_dry', f_askedUpTo', f_costs', f_roots', f_size') ∧ pX8_tree cnt wet asked m_dryOnes m_dryMany m_costs m_roots m_depth p1 = some (r, m_dryOnes', m_dryMany', m_costs', m_roots', m_depth') ∧ Inv cnt wet kind page asked sees rds which leaf th la le cf sorts slong mcells f_costs' f_askedUpTo' := by
  obtain ⟨n, w, r, rfl, rfl, rfl, hB, hR, hW, hT⟩ := hI
  have hn := hB.1
  have hI : Inv (nI n) (nI w) kind page asked sees (nI r) which leaf th la le cf sorts slong mcells f_costs f_askedUpTo := ⟨n, w, r, rfl, rfl, rfl, hB, hR, hW, hT⟩
  unfold pX7_tree pX8_tree
  rcases tree_or p1 with ⟨h1, h2⟩ | ⟨h0, h1, h2, h3⟩
  · rw [if_pos h1]
    rcases h2 with h2 | ⟨h2, h3⟩
    · rw [if_pos h2]
      exact ⟨_, _, _, _, _, _, _, _, _, _, _, rfl, rfl, hI⟩
    · rw [if_neg h2, if_neg h3]
      exact ⟨_, _, _, _, _, _, _, _, _, _, _, rfl, rfl, hI⟩
  rw [if_neg h1, if_neg h2, if_pos h3]
  by_cases n0 : nI n = 0
  · rw [if_pos n0, if_pos n0]
    exact ⟨_, _, _, _, _, _, _, _, _, _, _, rfl, rfl, hI⟩
  rw [if_neg n0, if_neg n0]
  unfold pX3_grow
  obtain ⟨D, dc, dm, au, d, A, hD, g1, g2, hDry⟩ := dry_L hB (fun (k6_v2 : Int32) (k6_w_f_dry : Nat → Int32) (k6_w_f_askedUpTo : Nat → Int32) (k6_w_f_size : Int32) => pX3_grow_L78 k6_w_f_askedUpTo k6_w_f_size (fun (k11_v2 : Int32) (k11_w_f_costs : Nat → Int32) (k11_w_f_roots : Nat → Int32) => some ((k6_w_f_dry, k6_w_f_askedUpTo, k11_w_f_costs, k11_w_f_roots, k6_w_f_size))) fu ((1 : Int32)) f_costs f_roots) (fun (k3_v2 : Int32) (k3_w_m_dryOnes : Nat → Int32) (k3_w_m_dryMany : Int32) => (pX8_findCosts asked k3_w_m_dryOnes k3_w_m_dryMany m_costs m_roots).bind fun z4 => (pX8_findDepths k3_w_m_dryOnes k3_w_m_dryMany z4.2 m_depth).bind fun z5 => if p1 = ((-1 : Int32)) then ((ga z4.1 64 k3_w_m_dryMany).bind fun x7 => some ((x7, k3_w_m_dryOnes, k3_w_m_dryMany, z4.1, z4.2, z5))) else (if (pX8_isSlip (nI n) p1) = 0 then (some (((-9 : Int32), k3_w_m_dryOnes, k3_w_m_dryMany, z4.1, z4.2, z5))) else (if (pX8_isOf (nI w) p1) = 0 then ((ga z5 7 p1).bind fun x6 => some ((x6, k3_w_m_dryOnes, k3_w_m_dryMany, z4.1, z4.2, z5))) else (some (((-9 : Int32), k3_w_m_dryOnes, k3_w_m_dryMany, z4.1, z4.2, z5)))))) n 0 0 fu f_dry m_dryOnes f_askedUpTo (fun _ => 0) (fun _ => 0) (by omega) (by unfold fu; omega) (Nat.le_refl 0) ⟨fun x hx => by omega, fun x y _ hy => by omega, fun j hj => by omega, fun x hx => by
      obtain rfl : x = 0 := by omega
      exact hT.2, rfl⟩
  rw [show nI 0 = (0 : Int32) from rfl] at g1 g2
  rw [g1, g2]
  unfold pX8_findCosts
  obtain ⟨zc, z1, z2⟩ := zero_L (fun (k2_v1 : Int32) (k2_w_m_costs : Nat → Int32) => pX8_findCosts_L23 asked dm (nI D) (fun (k7_v1 : Int32) (k7_w_m_costs : Nat → Int32) (k7_w_m_roots : Nat → Int32) => some ((k7_w_m_costs, k7_w_m_roots))) fu ((1 : Int32)) k2_w_m_costs m_roots) 64 0 fu m_costs (by omega) (by unfold fu; omega) (fun x hx => by omega)
  rw [show nI 0 = (0 : Int32) from rfl] at z1
  rw [z1]
  obtain ⟨v, fc', mc', fr', mr', l1, l2, hA, hG⟩ := len_L hn hD hDry (fun (k11_v2 : Int32) (k11_w_f_costs : Nat → Int32) (k11_w_f_roots : Nat → Int32) => some ((dc, au, k11_w_f_costs, k11_w_f_roots, nI D))) (fun (k7_v1 : Int32) (k7_w_m_costs : Nat → Int32) (k7_w_m_roots : Nat → Int32) => some ((k7_w_m_costs, k7_w_m_roots))) D 1 fu f_costs zc f_roots m_roots (by omega) (Nat.le_refl 1) (by unfold fu; omega) (fun b e hb he hbe => by
      obtain rfl : b = e := by omega
      exact ⟨0, hT.1 b (by omega), z2 _ (by omega), Nat.zero_le _, fun q => absurd q (Nat.lt_irrefl _)⟩) hT.1
  rw [show nI 1 = (1 : Int32) from rfl] at l1 l2
  rw [l1, l2, Option.bind_some, Option.bind_some]
  have hT' : TreeOk fc' au := ⟨hG, by rw [hDry.2.2.2.1 0 (Nat.zero_le _), hDry.2.2.2.2]; rfl⟩
  have hI' : Inv (nI n) (nI w) kind page asked sees (nI r) which leaf th la le cf sorts slong mcells fc' au := ⟨n, w, r, rfl, rfl, rfl, hB, hR, hW, hT'⟩
  have hRc : rootsOk D (fun b e => (fr' (8 * b + e)).toNatClampNeg) fr' := by
    intro b e hbe he
    obtain ⟨-, -, -, -, q⟩ := hA b e (by omega) he (by omega)
    obtain ⟨R, q1, q2, q3, q4⟩ := q hbe
    show b ≤ (fr' (8 * b + e)).toNatClampNeg ∧ (fr' (8 * b + e)).toNatClampNeg < e ∧ fr' (8 * b + e) = nI (fr' (8 * b + e)).toNatClampNeg
    rw [q3, nI_clamp (by omega)]
    exact ⟨q1, q2, rfl⟩
  have hRm : rootsOk D (fun b e => (fr' (8 * b + e)).toNatClampNeg) mr' := by
    intro b e hbe he
    obtain ⟨-, -, -, -, q⟩ := hA b e (by omega) he (by omega)
    obtain ⟨R, q1, q2, q3, q4⟩ := q hbe
    show b ≤ (fr' (8 * b + e)).toNatClampNeg ∧ (fr' (8 * b + e)).toNatClampNeg < e ∧ mr' (8 * b + e) = nI (fr' (8 * b + e)).toNatClampNeg
    rw [q4, q3, nI_clamp (by omega)]
    exact ⟨q1, q2, rfl⟩
  have hdc : ∀ x, x < D → dc x = nI (d x) ∧ d x < 7 := fun x hx => ⟨(hDry.1 x hx).1, by have := (hDry.1 x hx).2.2.1; omega⟩
  have hdm : ∀ x, x < D → dm x = nI (d x) ∧ d x < 7 := fun x hx => ⟨(hDry.1 x hx).2.1, by have := (hDry.1 x hx).2.2.1; omega⟩
  unfold pX8_findDepths
  obtain ⟨dp, y1, y2⟩ := deps_L (show D ≤ 7 by omega) hRm hdm hDry.2.1 (fun (_ : Int32) (a : Nat → Int32) => some a) D 0 fu m_depth (by omega) (by unfold fu; omega) (fun x hx => by omega)
  rw [show nI 0 = (0 : Int32) from rfl] at y1
  rw [y1, Option.bind_some]
  rcases h0 with h0 | ⟨kk, hkk, rfl⟩
  · rw [if_pos h0, if_pos h0]
    unfold pX3_leastCost
    obtain ⟨C, u1, u2, -, -⟩ := hA 0 D (Nat.zero_le _) (Nat.le_refl _) (by omega)
    have p0 : pX3_partOf 0 (nI D) = nI (8 * 0 + D) := part_nI 0 D
    rw [p0, ga_nI (by omega) (by decide), ga_nI (show D < 64 by omega) (by decide)]
    dsimp only
    rw [u1, show mc' D = nI C from by rw [show D = 8 * 0 + D by omega]; exact u2]
    exact ⟨_, _, _, _, _, _, _, _, _, _, _, rfl, rfl, hI'⟩
  · have nm : ¬ nI kk = (-1 : Int32) := fun q => by
      have q := congrArg Int32.toInt q
      rw [nI_toInt (by omega), show (-1 : Int32).toInt = -1 from rfl] at q
      omega
    rw [if_neg nm, if_neg nm]
    unfold pX3_depthOf
    rw [isSlip_has, isOf_wet]
    by_cases c : ∃ x, x < D ∧ d x = kk
    · obtain ⟨x, hx, rfl⟩ := c
      have q := (hDry.1 x hx)
      have hh : pX4_has (nI n) (nI (d x)) = 1 := by
        unfold pX4_has
        rw [if_neg (nI_pos (by omega)), if_neg (nI_ge q.2.2.1 (by omega))]
      have dcx := depC (q := x) (show D ≤ 7 by omega) hRc hdc hDry.2.1 D 0 D 1 fu (by omega) (by omega) hx (Nat.le_refl D) (by unfold fu; omega) (by omega)
      rw [show nI 0 = (0 : Int32) from rfl, show nI 1 = (1 : Int32) from rfl] at dcx
      rw [dcx, if_neg (one_ne hh), if_pos q.2.2.2.1, ga_nI (by omega) (by decide), y2 x hx]
      exact ⟨_, _, _, _, _, _, _, _, _, _, _, rfl, rfl, hI'⟩
    · have dcn := depN (p := nI kk) (show D ≤ 7 by omega) hRc hdc (fun x hx e => c ⟨x, hx, ((nI_eq (by omega) (by have := (hdc x hx).2; omega)).mp e).symm⟩) D 0 D 1 fu (by omega) (by omega) (Nat.le_refl D) (by unfold fu; omega)
      rw [show nI 0 = (0 : Int32) from rfl, show nI 1 = (1 : Int32) from rfl] at dcn
      rw [dcn]
      by_cases ch : pX4_has (nI n) (nI kk) = 0
      · rw [if_pos ch]
        exact ⟨_, _, _, _, _, _, _, _, _, _, _, rfl, rfl, hI'⟩
      · rw [if_neg ch]
        have hkn : kk < n := by
          rcases has_nI n (by omega) (nI kk) with ⟨q, -⟩ | ⟨j, hj, e, -⟩
          · exact absurd q ch
          · have := (nI_eq (by omega) (by omega)).mp e
            omega
        rw [if_neg (fun q => c (hDry.2.2.1 kk hkn q))]
        exact ⟨_, _, _, _, _, _, _, _, _, _, _, rfl, rfl, hI'⟩
