theorem nI_s1 {x y : Nat} (h : x + 1 = y) : nI x + (1 : Int32) = nI y := by rw [nI_1, h]
theorem nI_s2 (x : Nat) : nI x + (2 : Int32) = nI (x + 2) := nI_add x 2
theorem nI_s3 (x : Nat) : nI x + (3 : Int32) = nI (x + 3) := nI_add x 3
theorem nI_s4 (x : Nat) : nI x + (4 : Int32) = nI (x + 4) := nI_add x 4
theorem q4 (s : Nat) : (4 : Int32) * nI s = nI (4 * s) := pk_mul 4 s
theorem goes01 (v p : Int32) : pX5_goesOn v p = some 0 ∨ pX5_goesOn v p = some 1 := by
  unfold pX5_goesOn rmq
  rw [if_neg (show ¬ (6 : Int32) = 0 by decide), Option.bind_some]
  repeat' split
  all_goals simp
theorem go_tab : ∀ s : Fin 7, ∀ r : Fin 6, rmq (nI (1 + 6 * s.val + r.val) - 1) 6 = some (nI r.val) := by decide +kernel
theorem end_tab : ∀ N : Fin 61, pX5_mayEnd (nI N.val) = some (if 13 ≤ N.val ∧ (N.val - 1) % 6 = 0 then 1 else 0) := by decide +kernel
theorem in_tab : ∀ N : Fin 61, pX5_slipsIn (nI N.val) = some (nI ((N.val - 1) / 6)) := by decide +kernel
def goR (v : Int32) (r : Nat) : Int32 := if r = 0 then (if v = 59 then 1 else 0) else if r = 1 then (if v = 108 then 1 else if v = 100 then 1 else if v = 98 then 1 else 0) else if r = 2 then pX8_within v 48 52 else pX8_within v 48 57
theorem go_r {s r : Nat} (hs : s < 7) (hr : r < 6) (v : Int32) : pX5_goesOn v (nI (1 + 6 * s + r)) = some (goR v r) := by
  have h := go_tab ⟨s, hs⟩ ⟨r, hr⟩
  have h : rmq (nI (1 + 6 * s + r) - 1) 6 = some (nI r) := h
  have n0 : ¬ nI (1 + 6 * s + r) = (0 : Int32) := fun e => by have := (nI_eq (a := 1 + 6 * s + r) (b := 0) (by omega) (by decide)).mp e; omega
  unfold pX5_goesOn
  rw [if_neg n0, if_pos (show nI (1 + 6 * s + r) ≤ (42 : Int32) from nI_le (b := 42) (by omega) (by decide)), h, Option.bind_some]
  unfold goR pX8_within
  rcases (show r = 0 ∨ r = 1 ∨ r = 2 ∨ r = 3 ∨ r = 4 ∨ r = 5 by omega) with rfl | rfl | rfl | rfl | rfl | rfl
  · rw [if_pos (show nI 0 = (0 : Int32) from rfl), if_pos (rfl : (0 : Nat) = 0)]; split <;> rfl
  · rw [if_neg (show ¬ nI 1 = (0 : Int32) by decide), if_pos (show nI 1 = (1 : Int32) from rfl), if_neg (show ¬ (1 : Nat) = 0 by decide), if_pos (rfl : (1 : Nat) = 1)]; repeat' split
    all_goals rfl
  · rw [if_neg (show ¬ nI 2 = (0 : Int32) by decide), if_neg (show ¬ nI 2 = (1 : Int32) by decide), if_pos (show nI 2 = (2 : Int32) from rfl), if_neg (show ¬ (2 : Nat) = 0 by decide), if_neg (show ¬ (2 : Nat) = 1 by decide), if_pos (rfl : (2 : Nat) = 2)]; repeat' split
    all_goals rfl
  · rw [if_neg (show ¬ nI 3 = (0 : Int32) by decide), if_neg (show ¬ nI 3 = (1 : Int32) by decide), if_neg (show ¬ nI 3 = (2 : Int32) by decide), if_neg (show ¬ (3 : Nat) = 0 by decide), if_neg (show ¬ (3 : Nat) = 1 by decide), if_neg (show ¬ (3 : Nat) = 2 by decide)]; repeat' split
    all_goals rfl
  · rw [if_neg (show ¬ nI 4 = (0 : Int32) by decide), if_neg (show ¬ nI 4 = (1 : Int32) by decide), if_neg (show ¬ nI 4 = (2 : Int32) by decide), if_neg (show ¬ (4 : Nat) = 0 by decide), if_neg (show ¬ (4 : Nat) = 1 by decide), if_neg (show ¬ (4 : Nat) = 2 by decide)]; repeat' split
    all_goals rfl
  · rw [if_neg (show ¬ nI 5 = (0 : Int32) by decide), if_neg (show ¬ nI 5 = (1 : Int32) by decide), if_neg (show ¬ nI 5 = (2 : Int32) by decide), if_neg (show ¬ (5 : Nat) = 0 by decide), if_neg (show ¬ (5 : Nat) = 1 by decide), if_neg (show ¬ (5 : Nat) = 2 by decide)]; repeat' split
    all_goals rfl
def FF (a N : Nat) (c : Nat → Int32) (fl p : Nat) : Option Int32 := pX5_firstFault_L2 (nI a) (nI N) c (fun _ => (pX5_mayEnd (nI N)).bind fun z4 => if z4 = 0 then some (nI N) else some (-9)) fl (nI p)
theorem FF_end {a N : Nat} {c : Nat → Int32} (hN : a + N ≤ 60) (fl : Nat) : FF a N c (fl + 1) N = some (if 13 ≤ N ∧ (N - 1) % 6 = 0 then -9 else nI N) := by
  have h := end_tab ⟨N, by omega⟩
  have h : pX5_mayEnd (nI N) = some (if 13 ≤ N ∧ (N - 1) % 6 = 0 then 1 else 0) := h
  unfold FF
  rw [pX5_firstFault_L2_s, if_pos (nI_le (Nat.le_refl N) (by omega)), h, Option.bind_some]
  by_cases c : 13 ≤ N ∧ (N - 1) % 6 = 0
  · rw [if_pos c, if_pos c, if_neg (by decide)]
  · rw [if_neg c, if_neg c, if_pos rfl]
theorem FF_bad {a N p : Nat} {c : Nat → Int32} (hN : a + N ≤ 60) (hp : p < N) (h : pX5_goesOn (c (a + p)) (nI p) = some 0) (fl : Nat) : FF a N c (fl + 1) p = some (nI p) := by
  unfold FF
  rw [pX5_firstFault_L2_s, if_neg (nI_ge hp (by omega)), nI_add, ga_nI (by omega) (by decide), Option.bind_some, h, Option.bind_some, if_pos rfl]
theorem FF_good {a N p : Nat} {c : Nat → Int32} (hN : a + N ≤ 60) (hp : p < N) {z : Int32} (hz : ¬ z = 0) (h : pX5_goesOn (c (a + p)) (nI p) = some z) (fl : Nat) : FF a N c (fl + 1) p = FF a N c fl (p + 1) := by
  unfold FF
  rw [pX5_firstFault_L2_s, if_neg (nI_ge hp (by omega)), nI_add, ga_nI (by omega) (by decide), Option.bind_some, h, Option.bind_some, if_neg hz, show nI p + (1 : Int32) = nI (p + 1) from nI_1 p]
theorem dig_or {a N F s r M p : Nat} {c mc : Nat → Int32} (hN : a + N ≤ 60) (hF : F + N ≤ 240) (hc : ∀ x, x < N → c (a + x) = mc (F + x)) (hs : s < 7) (hr : (r = 2 ∧ M = 4) ∨ (3 ≤ r ∧ r ≤ 5 ∧ M = 9)) (ep : p = 1 + 6 * s + r) (hp : p ≤ N) (fl : Nat) {M' : Int32} (eM : M' = nI M) : (FF a N c (fl + 1) p = some (nI p) ∧ pX8_digit mc (nI (F + p)) (nI (F + N)) M' = some (-9, nI (F + p))) ∨ ∃ d, d ≤ M ∧ p < N ∧ c (a + p) = nI (48 + d) ∧ FF a N c (fl + 1) p = FF a N c fl (p + 1) ∧ pX8_digit mc (nI (F + p)) (nI (F + N)) M' = some (nI d, nI (F + (p + 1))) := by
  subst eM
  unfold pX8_digit
  rcases Nat.lt_or_ge p N with h | h
  · rw [if_neg (nI_ge (by omega) (by omega)), ga_nI (by omega) (by decide), Option.bind_some, show (48 : Int32) + nI M = nI (48 + M) from nI_add 48 M, show nI (F + p) + (1 : Int32) = nI (F + p + 1) from nI_1 _, show nI (F + p + 1) - (1 : Int32) = nI (F + p) from pk_sub (a := F + p + 1) (b := 1) (by omega), ga_nI (by omega) (by decide), Option.bind_some, ← hc p h]
    have g : pX5_goesOn (c (a + p)) (nI p) = some (pX8_within (c (a + p)) 48 (nI (48 + M))) := by
      rw [ep, go_r hs (by omega)]
      unfold goR
      rcases hr with ⟨rfl, rfl⟩ | ⟨h1, h2, rfl⟩
      · rw [if_neg (by decide), if_neg (by decide), if_pos rfl]; rfl
      · rw [if_neg (by omega), if_neg (by omega), if_neg (by omega)]; rfl
    rcases win_or2 (c (a + p)) 48 (48 + M) (by decide) (by omega) with ⟨h0, -⟩ | ⟨d, hd1, hd2, ed, h1⟩
    · have h0 : pX8_within (c (a + p)) 48 (nI (48 + M)) = 0 := h0
      left
      rw [h0] at g
      exact ⟨FF_bad hN h g fl, by rw [if_pos h0]⟩
    · have h1 : pX8_within (c (a + p)) 48 (nI (48 + M)) = 1 := h1
      right
      rw [h1] at g
      refine ⟨d - 48, by omega, h, by rw [ed, show 48 + (d - 48) = d by omega], FF_good hN h (by decide) g fl, ?_⟩
      rw [if_neg (one_ne h1), ed, show nI d - (48 : Int32) = nI (d - 48) from pk_sub (a := d) (b := 48) hd1]
      rfl
  · obtain rfl : p = N := by omega
    left
    rw [if_pos (nI_le (Nat.le_refl _) (by omega))]
    refine ⟨?_, rfl⟩
    rw [FF_end hN, if_neg (by omega)]
def RD (a : Nat) (c rd : Nat → Int32) (i : Nat) : Prop := ∃ κ t o q e : Nat, κ ≤ 2 ∧ t ≤ 4 ∧ o ≤ 9 ∧ q ≤ 9 ∧ e ≤ 9 ∧ pX5_kindOf (c (a + (2 + 6 * i))) = nI κ ∧ c (a + (3 + 6 * i)) = nI (48 + t) ∧ c (a + (4 + 6 * i)) = nI (48 + o) ∧ c (a + (5 + 6 * i)) = nI (48 + q) ∧ c (a + (6 + 6 * i)) = nI (48 + e) ∧ rd (4 * i) = nI κ ∧ rd (4 * i + 1) = nI (10 * t + o) ∧ rd (4 * i + 2) = nI q ∧ rd (4 * i + 3) = nI e
theorem jn_u1 {β : Type} {k : Int32 → Option β} {e a v : Int32} {mc : Nat → Int32} (h : ¬ e ≤ a) (g : ga mc 240 a = some v) : jn k (fun J : Int32 → Option β => if e ≤ a then (J ((0 : Int32))) else ((ga mc 240 a).bind fun x14 => J x14)) = k v := by
  simp only [jn]
  rw [if_neg h, g]; rfl
theorem jn_u0 {β : Type} {k : Int32 → Option β} {e a : Int32} {mc : Nat → Int32} (h : e ≤ a) : jn k (fun J : Int32 → Option β => if e ≤ a then (J ((0 : Int32))) else ((ga mc 240 a).bind fun x14 => J x14)) = k 0 := by
  simp only [jn]
  rw [if_pos h]
theorem jn_u2 {β : Type} {k : Int32 → Option β} (v : Int32) : (goR v 1 = 0 ∧ jn k (fun J : Int32 → Option β => if v = ((108 : Int32)) then (J ((0 : Int32))) else (if v = ((100 : Int32)) then (J ((1 : Int32))) else (if v = ((98 : Int32)) then (J ((2 : Int32))) else (J ((-9 : Int32)))))) = k (-9)) ∨ (goR v 1 = 1 ∧ ∃ κ, κ ≤ 2 ∧ pX5_kindOf v = nI κ ∧ jn k (fun J : Int32 → Option β => if v = ((108 : Int32)) then (J ((0 : Int32))) else (if v = ((100 : Int32)) then (J ((1 : Int32))) else (if v = ((98 : Int32)) then (J ((2 : Int32))) else (J ((-9 : Int32)))))) = k (nI κ)) := by
  simp only [jn]
  by_cases h1 : v = 108
  · subst h1
    exact Or.inr ⟨by decide, 0, by decide, by decide, rfl⟩
  · by_cases h2 : v = 100
    · subst h2
      exact Or.inr ⟨by decide, 1, by decide, by decide, rfl⟩
    · by_cases h3 : v = 98
      · subst h3
        exact Or.inr ⟨by decide, 2, by decide, by decide, rfl⟩
      · left
        unfold goR
        rw [if_neg (show ¬ (1 : Nat) = 0 by decide), if_pos rfl, if_neg h1, if_neg h2, if_neg h3, if_neg h1, if_neg h2, if_neg h3]
        exact ⟨rfl, rfl⟩
theorem rs_or {a N F s : Nat} {c mc rd : Nat → Int32} (hN : a + N ≤ 60) (hF : F + N ≤ 240) (hc : ∀ x, x < N → c (a + x) = mc (F + x)) (hs : s < 7) (hp : 2 + 6 * s ≤ N) (fl : Nat) : (∃ p rs rd', p ≤ N ∧ FF a N c (fl + 5) (2 + 6 * s) = some (nI p) ∧ pX8_readSlip mc (nI (F + (2 + 6 * s))) (nI s) rd (nI (F + N)) = some (0, nI (F + p), rs, rd')) ∨ (7 + 6 * s ≤ N ∧ ∃ rd', FF a N c (fl + 5) (2 + 6 * s) = FF a N c fl (7 + 6 * s) ∧ pX8_readSlip mc (nI (F + (2 + 6 * s))) (nI s) rd (nI (F + N)) = some (1, nI (F + (7 + 6 * s)), nI (s + 1), rd') ∧ RD a c rd' s ∧ ∀ x, x < 4 * s → rd' x = rd x) := by
  unfold pX8_readSlip
  rcases Nat.lt_or_ge (2 + 6 * s) N with h | h
  · rw [jn_u1 (v := c (a + (2 + 6 * s))) (nI_ge (by omega) (by omega)) (by rw [ga_nI (by omega) (by decide), hc _ h])]
    have g := go_r hs (show 1 < 6 by decide) (c (a + (2 + 6 * s)))
    rw [show 1 + 6 * s + 1 = 2 + 6 * s by omega] at g
    rcases jn_u2 (k := fun (u2_0 : Int32) => (sa rd 28 (((4 : Int32)) * nI s) u2_0).bind fun g3 => (ga g3 28 (((4 : Int32)) * nI s)).bind fun x4 => if x4 = ((-9 : Int32)) then (some (((0 : Int32), nI (F + (2 + 6 * s)), nI s, g3))) else ((pX8_digit mc (nI (F + (2 + 6 * s)) + ((1 : Int32))) (nI (F + N)) ((4 : Int32))).bind fun z5 => if z5.1 = ((-9 : Int32)) then (some (((0 : Int32), z5.2, nI s, g3))) else ((pX8_digit mc z5.2 (nI (F + N)) ((9 : Int32))).bind fun z6 => if z6.1 = ((-9 : Int32)) then (some (((0 : Int32), z6.2, nI s, g3))) else ((sa g3 28 ((((4 : Int32)) * nI s) + ((1 : Int32))) ((((10 : Int32)) * z5.1) + z6.1)).bind fun g7 => (pX8_digit mc z6.2 (nI (F + N)) ((9 : Int32))).bind fun z8 => (sa g7 28 ((((4 : Int32)) * nI s) + ((2 : Int32))) z8.1).bind fun g9 => (ga g9 28 ((((4 : Int32)) * nI s) + ((2 : Int32)))).bind fun x10 => if x10 = ((-9 : Int32)) then (some (((0 : Int32), z8.2, nI s, g9))) else ((pX8_digit mc z8.2 (nI (F + N)) ((9 : Int32))).bind fun z11 => (sa g9 28 ((((4 : Int32)) * nI s) + ((3 : Int32))) z11.1).bind fun g12 => (ga g12 28 ((((4 : Int32)) * nI s) + ((3 : Int32)))).bind fun x13 => if x13 = ((-9 : Int32)) then (some (((0 : Int32), z11.2, nI s + ((1 : Int32)), g12))) else (some (((1 : Int32), z11.2, nI s + ((1 : Int32)), g12)))))))) (c (a + (2 + 6 * s))) with ⟨k1, k2⟩ | ⟨k1, κ, hκ, k2, k3⟩
    · left
      rw [k2, q4, sa_nI (by omega) (by decide), Option.bind_some, ga_nI (by omega) (by decide), Option.bind_some, upd_at, if_pos rfl]
      rw [k1] at g
      exact ⟨2 + 6 * s, _, _, by omega, FF_bad hN h g (fl + 4), rfl⟩
    · rw [k1] at g
      have f1 := FF_good hN h (by decide) g (fl + 4)
      rw [k3, q4, sa_nI (by omega) (by decide), Option.bind_some, ga_nI (by omega) (by decide), Option.bind_some, upd_at, if_neg (m9_nI (by omega)), nI_s1 (show F + (2 + 6 * s) + 1 = F + (3 + 6 * s) by omega), f1, show 2 + 6 * s + 1 = 3 + 6 * s by omega, show nI (4 * s) + (1 : Int32) = nI (4 * s + 1) from nI_1 _, nI_s2, nI_s3, show nI s + (1 : Int32) = nI (s + 1) from nI_1 s]
      rcases dig_or hN hF hc hs (r := 2) (M := 4) (p := 3 + 6 * s) (Or.inl ⟨rfl, rfl⟩) (by omega) (by omega) (fl + 3) (M' := 4) rfl with ⟨d1, d2⟩ | ⟨t, ht, hp1, et, d1, d2⟩
      · left
        rw [d1, d2, Option.bind_some, if_pos rfl]
        exact ⟨_, _, _, by omega, rfl, rfl⟩
      rw [d1, d2, Option.bind_some, if_neg (m9_nI (show t < 2 ^ 31 by omega)), show 3 + 6 * s + 1 = 4 + 6 * s by omega]
      rcases dig_or hN hF hc hs (r := 3) (M := 9) (p := 4 + 6 * s) (Or.inr ⟨by decide, by decide, rfl⟩) (by omega) (by omega) (fl + 2) (M' := 9) rfl with ⟨d3, d4⟩ | ⟨o, ho, hp2, eo, d3, d4⟩
      · left
        rw [d3, d4, Option.bind_some, if_pos rfl]
        exact ⟨_, _, _, by omega, rfl, rfl⟩
      rw [d3, d4, Option.bind_some, if_neg (m9_nI (show o < 2 ^ 31 by omega)), show 4 + 6 * s + 1 = 5 + 6 * s by omega, sa_nI (by omega) (by decide), Option.bind_some]
      rcases dig_or hN hF hc hs (r := 4) (M := 9) (p := 5 + 6 * s) (Or.inr ⟨by decide, by decide, rfl⟩) (by omega) (by omega) (fl + 1) (M' := 9) rfl with ⟨d5, d6⟩ | ⟨q, hq, hp3, eq, d5, d6⟩
      · left
        rw [d5, d6, Option.bind_some, sa_nI (by omega) (by decide), Option.bind_some, ga_nI (by omega) (by decide), Option.bind_some, upd_at, if_pos rfl]
        exact ⟨_, _, _, by omega, rfl, rfl⟩
      rw [d5, d6, Option.bind_some, sa_nI (by omega) (by decide), Option.bind_some, ga_nI (by omega) (by decide), Option.bind_some, upd_at, if_neg (m9_nI (show q < 2 ^ 31 by omega)), show 5 + 6 * s + 1 = 6 + 6 * s by omega]
      rcases dig_or hN hF hc hs (r := 5) (M := 9) (p := 6 + 6 * s) (Or.inr ⟨by decide, by decide, rfl⟩) (by omega) (by omega) fl (M' := 9) rfl with ⟨d7, d8⟩ | ⟨e, he, hp4, ee, d7, d8⟩
      · left
        rw [d7, d8, Option.bind_some, sa_nI (by omega) (by decide), Option.bind_some, ga_nI (by omega) (by decide), Option.bind_some, upd_at, if_pos rfl]
        exact ⟨_, _, _, by omega, rfl, rfl⟩
      rw [d7, d8, Option.bind_some, sa_nI (by omega) (by decide), Option.bind_some, ga_nI (by omega) (by decide), Option.bind_some, upd_at, if_neg (m9_nI (show e < 2 ^ 31 by omega)), show 6 + 6 * s + 1 = 7 + 6 * s by omega]
      right
      refine ⟨by omega, _, rfl, rfl, ⟨κ, t, o, q, e, hκ, ht, ho, hq, he, k2, et, eo, eq, ee, ?_, ?_, ?_, ?_⟩, fun x hx => ?_⟩
      · rw [upd_ne (by omega), upd_ne (by omega), upd_ne (by omega), upd_at]
      · rw [upd_ne (by omega), upd_ne (by omega), upd_at, show (10 : Int32) * nI t = nI (10 * t) from pk_mul 10 t, nI_add]
      · rw [upd_ne (by omega), upd_at]
      · rw [upd_at]
      · rw [upd_ne (by omega), upd_ne (by omega), upd_ne (by omega), upd_ne (by omega)]
  · have h' : 2 + 6 * s = N := by omega
    left
    rw [jn_u0 (nI_le (by omega) (by omega))]
    simp only [jn]
    rw [if_neg (by decide), if_neg (by decide), if_neg (by decide), q4, sa_nI (by omega) (by decide), Option.bind_some, ga_nI (by omega) (by decide), Option.bind_some, upd_at, if_pos rfl]
    have fe := FF_end (c := c) hN (fl + 4)
    rw [if_neg (by omega)] at fe
    exact ⟨N, _, _, Nat.le_refl _, by rw [h']; exact fe, by rw [h']⟩
/-- a sign at its place -/
theorem sign_or {a N F s : Nat} {c mc : Nat → Int32} (hN : a + N ≤ 60) (hF : F + N ≤ 240) (hc : ∀ x, x < N → c (a + x) = mc (F + x)) (hs : s < 7) (hp : 1 + 6 * s ≤ N) (h2 : s < 2 ∨ 1 + 6 * s < N) (fl : Nat) : (FF a N c (fl + 1) (1 + 6 * s) = some (nI (1 + 6 * s)) ∧ pX8_isSign mc (nI (F + (1 + 6 * s))) (nI (F + N)) 59 = some (0, nI (F + (1 + 6 * s)))) ∨ (2 + 6 * s ≤ N ∧ FF a N c (fl + 1) (1 + 6 * s) = FF a N c fl (2 + 6 * s) ∧ pX8_isSign mc (nI (F + (1 + 6 * s))) (nI (F + N)) 59 = some (1, nI (F + (2 + 6 * s)))) := by
  unfold pX8_isSign
  rcases Nat.lt_or_ge (1 + 6 * s) N with h | h
  · have g := go_r hs (show 0 < 6 by decide) (c (a + (1 + 6 * s)))
    rw [Nat.add_zero] at g
    unfold goR at g
    rw [if_pos rfl] at g
    rw [if_neg (nI_ge (by omega) (by omega)), ga_nI (by omega) (by decide), Option.bind_some, ← hc _ h]
    by_cases e : c (a + (1 + 6 * s)) = 59
    · right
      rw [if_pos e] at g
      rw [if_pos e, nI_s1 (show F + (1 + 6 * s) + 1 = F + (2 + 6 * s) by omega)]
      refine ⟨by omega, ?_, rfl⟩
      rw [FF_good hN h (by decide) g fl, show 1 + 6 * s + 1 = 2 + 6 * s by omega]
    · left
      rw [if_neg e] at g
      rw [if_neg e]
      exact ⟨FF_bad hN h g fl, rfl⟩
  · have h' : N = 1 + 6 * s := by omega
    left
    rw [if_pos (nI_le (by omega) (by omega))]
    refine ⟨?_, rfl⟩
    subst h'
    rw [FF_end hN, if_neg (by omega)]
def rbK (F N : Nat) (A R : Int32) (rd : Nat → Int32) : Option (Int32 × Int32 × Int32 × (Nat → Int32)) := if A = nI (F + N) then (some (((1 : Int32), A, R, rd))) else (some (((0 : Int32), A, R, rd)))
theorem rb_L {a N F : Nat} {c mc : Nat → Int32} (hN : a + N ≤ 60) (hF : F + N ≤ 240) (hc : ∀ x, x < N → c (a + x) = mc (F + x)) : ∀ (m s fl fl2 : Nat) (rd : Nat → Int32), s + m = 7 → 6 * m < fl → m < fl2 → 1 + 6 * s ≤ N → (∀ i, i < s → RD a c rd i) → (∃ p rs rd', p ≤ N ∧ FF a N c fl (1 + 6 * s) = some (nI p) ∧ pX8_readBook_L17 (nI (F + N)) mc (rbK F N) fl2 (nI (F + (1 + 6 * s))) (nI s) rd = some (0, nI (F + p), rs, rd')) ∨ ∃ S rd', 2 ≤ S ∧ S ≤ 7 ∧ N = 1 + 6 * S ∧ FF a N c fl (1 + 6 * s) = some (-9) ∧ pX8_readBook_L17 (nI (F + N)) mc (rbK F N) fl2 (nI (F + (1 + 6 * s))) (nI s) rd = some (1, nI (F + N), nI S, rd') ∧ ∀ i, i < S → RD a c rd' i := by
  intro m
  induction m with
  | zero =>
    intro s fl fl2 rd hs hf hf2 hp hRD
    obtain ⟨f, rfl⟩ : ∃ f, fl = f + 1 := ⟨fl - 1, by omega⟩
    obtain ⟨f2, rfl⟩ : ∃ f, fl2 = f + 1 := ⟨fl2 - 1, by omega⟩
    obtain rfl : s = 7 := by omega
    rw [pX8_readBook_L17_s]
    simp only [jn]
    rw [if_neg (show ¬ nI 7 < (2 : Int32) by decide), if_pos (show (7 : Int32) ≤ nI 7 by decide)]
    unfold rbK
    by_cases e : N = 43
    · subst e
      right
      rw [if_pos rfl]
      refine ⟨7, rd, by decide, by decide, rfl, ?_, rfl, hRD⟩
      exact (FF_end hN f).trans (by rw [if_pos (by decide)])
    · left
      rw [if_neg (fun q => e (by have := (nI_eq (by omega) (by omega)).mp q; omega))]
      refine ⟨43, _, _, by omega, ?_, rfl⟩
      refine FF_bad hN (show 1 + 6 * 7 < N by omega) ?_ f
      unfold pX5_goesOn
      rw [if_neg (by decide), if_neg (by decide)]
  | succ m ih =>
    intro s fl fl2 rd hs hf hf2 hp hRD
    obtain ⟨f, rfl⟩ : ∃ f, fl = f + 6 := ⟨fl - 6, by omega⟩
    obtain ⟨f2, rfl⟩ : ∃ f, fl2 = f + 1 := ⟨fl2 - 1, by omega⟩
    rw [pX8_readBook_L17_s]
    simp only [jn]
    by_cases h2 : s < 2 ∨ 1 + 6 * s < N
    · have ej : ∀ (J X : Option (Int32 × Int32 × Int32 × (Nat → Int32))), (if nI s < (2 : Int32) then J else (if (7 : Int32) ≤ nI s then X else (if nI (F + N) ≤ nI (F + (1 + 6 * s)) then X else J))) = J := by
        intro J X
        by_cases q : s < 2
        · rw [if_pos (show nI s < (2 : Int32) from nI_lt (b := 2) q (by decide))]
        · rw [if_neg (show ¬ nI s < (2 : Int32) from nI_nlt (b := 2) (by omega) (by omega)), if_neg (show ¬ (7 : Int32) ≤ nI s from nI_ge (b := 7) (by omega) (by decide)), if_neg (nI_ge (by omega) (by omega))]
      rw [ej]
      rcases sign_or hN hF hc (show s < 7 by omega) hp h2 (f + 5) with ⟨s1, s2⟩ | ⟨s0, s1, s2⟩
      · left
        rw [s2, Option.bind_some, if_pos rfl]
        exact ⟨_, _, _, hp, s1, rfl⟩
      · rw [s1, s2, Option.bind_some, if_neg (show ¬ (1 : Int32) = 0 by decide)]
        rcases rs_or (rd := rd) hN hF hc (show s < 7 by omega) s0 f with ⟨p, rs, rd', hp', r1, r2⟩ | ⟨r0, rd', r1, r2, r3, r4⟩
        · left
          rw [r1, r2, Option.bind_some, if_pos rfl]
          exact ⟨_, _, _, hp', rfl, rfl⟩
        · rw [r1, r2, Option.bind_some, if_neg (show ¬ (1 : Int32) = 0 by decide)]
          have := ih (s + 1) f f2 rd' (by omega) (by omega) (by omega) (by omega) (fun i hi => by
            by_cases e : i = s
            · subst e; exact r3
            · obtain ⟨κ, t, o, q, e', u1, u2, u3, u4, u5, u6, u7, u8, u9, u10, u11, u12, u13, u14⟩ := hRD i (by omega)
              exact ⟨κ, t, o, q, e', u1, u2, u3, u4, u5, u6, u7, u8, u9, u10, by rw [r4 _ (by omega)]; exact u11, by rw [r4 _ (by omega)]; exact u12, by rw [r4 _ (by omega)]; exact u13, by rw [r4 _ (by omega)]; exact u14⟩)
          rw [show 1 + 6 * (s + 1) = 7 + 6 * s by omega] at this
          exact this
    · have h3 : N = 1 + 6 * s := by omega
      right
      rw [if_neg (show ¬ nI s < (2 : Int32) from nI_nlt (b := 2) (by omega) (by omega)), if_neg (show ¬ (7 : Int32) ≤ nI s from nI_ge (b := 7) (by omega) (by decide)), if_pos (nI_le (by omega) (by omega))]
      unfold rbK
      rw [if_pos (by rw [h3])]
      refine ⟨s, rd, by omega, by omega, h3, ?_, by rw [h3], hRD⟩
      subst h3
      rw [show f + 6 = (f + 5) + 1 from rfl, FF_end hN, if_pos (by omega)]
theorem bookIn {a N F : Nat} {c mc : Nat → Int32} (hN : a + N ≤ 60) (hF : F + N ≤ 240) (hc : ∀ x, x < N → c (a + x) = mc (F + x)) (rs0 : Int32) (rd : Nat → Int32) : (∃ p rs rd', p ≤ N ∧ pX5_firstFault c (nI a) (nI N) = some (nI p) ∧ pX8_readBook mc (nI F) rs0 rd (nI (F + N)) = some (0, nI (F + p), rs, rd')) ∨ ∃ S rd', 2 ≤ S ∧ S ≤ 7 ∧ N = 1 + 6 * S ∧ pX5_firstFault c (nI a) (nI N) = some (-9) ∧ pX8_readBook mc (nI F) rs0 rd (nI (F + N)) = some (1, nI (F + N), nI S, rd') ∧ ∀ i, i < S → RD a c rd' i := by
  have e1 : pX5_firstFault c (nI a) (nI N) = FF a N c (5999 + 1) 0 := rfl
  rw [e1]
  unfold pX8_readBook pX8_isSign
  rcases Nat.eq_zero_or_pos N with h | h
  · subst h
    left
    rw [if_pos (nI_le (by omega) (by omega)), Option.bind_some, if_pos rfl]
    exact ⟨0, _, _, Nat.le_refl _, FF_end hN 5999, rfl⟩
  · rw [if_neg (nI_ge (by omega) (by omega)), ga_nI (by omega) (by decide), Option.bind_some, show nI F + (1 : Int32) = nI (F + 1) from nI_1 F]
    have e2 := hc 0 h
    have g : pX5_goesOn (c (a + 0)) (nI 0) = some (if c (a + 0) = 105 then 1 else 0) := by
      unfold pX5_goesOn
      rw [if_pos (by decide)]
      split <;> rfl
    rw [Nat.add_zero, Nat.add_zero] at e2
    rw [Nat.add_zero] at g
    rw [← e2]
    by_cases e : c a = 105
    · rw [if_pos e] at g
      rw [if_pos e, Option.bind_some, if_neg (show ¬ (1 : Int32) = 0 by decide), FF_good hN h (show ¬ (1 : Int32) = 0 by decide) g 5999]
      exact rb_L hN hF hc 7 0 5999 fu rd (by decide) (by decide) (by unfold fu; decide) (by omega) (fun i hi => by omega)
    · left
      rw [if_neg e] at g
      rw [if_neg e, Option.bind_some, if_pos rfl]
      exact ⟨0, _, _, Nat.zero_le _, FF_bad hN h g 5999, rfl⟩
theorem fix (a i : Nat) : nI a + (2 : Int32) + nI i * (6 : Int32) = nI (a + (2 + 6 * i)) := by
  rw [nI_s2, show nI i * (6 : Int32) = nI (i * 6) from pk_mul i 6, nI_add]
  congr 1
  omega
theorem nI_sx {x y z : Nat} {k : Int32} (hk : k = nI z) (h : x + z = y) : nI x + k = nI y := by rw [hk, nI_add, h]
def Slip (n : Nat) (kind page asked sees : Nat → Int32) (k : Nat) : Prop := (kind k = 0 ∨ kind k = 1 ∨ kind k = 2) ∧ (∃ p, p ≤ 49 ∧ page k = nI p) ∧ (∃ a, a ≤ 9 ∧ asked k = nI a) ∧ (sees k = -9 ∨ ∃ j, j < n ∧ sees k = nI j)
theorem fill_L {a S : Nat} {c rd : Nat → Int32} (hS : S ≤ 7) (hN : a + (1 + 6 * S) ≤ 60) (hRD : ∀ i, i < S → RD a c rd i) (K1 : Int32 → (Nat → Int32) → (Nat → Int32) → (Nat → Int32) → (Nat → Int32) → Option ((Nat → Int32) × (Nat → Int32) × (Nat → Int32) × (Nat → Int32) × Int32 × Int32)) (K2 : Int32 → (Nat → Int32) → (Nat → Int32) → (Nat → Int32) → (Nat → Int32) → Option (Int32 × Int32 × Int32 × (Nat → Int32) × (Nat → Int32) × (Nat → Int32) × (Nat → Int32) × Int32)) : ∀ (m i fl : Nat) (kd pg as se : Nat → Int32), i + m = S → m < fl → (∀ x, x < i → Slip S kd pg as se x) → ∃ g1 g2 g3 g4, pX4_fill_L16 (nI a) (nI S) c K1 fl (nI i) kd pg as se = K1 (nI S) g1 g2 g3 g4 ∧ pX8_takeBook_L10 (nI S) rd K2 fl (nI i) kd pg as se = K2 (nI S) g1 g2 g3 g4 ∧ ∀ x, x < S → Slip S g1 g2 g3 g4 x := by
  intro m
  induction m with
  | zero =>
    intro i fl kd pg as se hi hf hx
    obtain ⟨f, rfl⟩ : ∃ f, fl = f + 1 := ⟨fl - 1, by omega⟩
    obtain rfl : i = S := by omega
    rw [pX4_fill_L16_s, pX8_takeBook_L10_s, if_pos (nI_le (Nat.le_refl i) (by omega)), if_pos (nI_le (Nat.le_refl i) (by omega))]
    exact ⟨_, _, _, _, rfl, rfl, hx⟩
  | succ m ih =>
    intro i fl kd pg as se hi hf hx
    obtain ⟨f, rfl⟩ : ∃ f, fl = f + 1 := ⟨fl - 1, by omega⟩
    obtain ⟨κ, t, o, q, e, u1, u2, u3, u4, u5, u6, u7, u8, u9, u10, u11, u12, u13, u14⟩ := hRD i (by omega)
    rw [pX4_fill_L16_s, pX8_takeBook_L10_s, if_neg (nI_ge (by omega) (by omega)), if_neg (nI_ge (by omega) (by omega)), fix, q4, show nI i + (1 : Int32) = nI (i + 1) from nI_1 i]
    rw [nI_sx (z := 1) (k := 1) rfl (show a + (2 + 6 * i) + 1 = a + (3 + 6 * i) by omega), nI_sx (z := 2) (k := 2) rfl (show a + (2 + 6 * i) + 2 = a + (4 + 6 * i) by omega), nI_sx (z := 3) (k := 3) rfl (show a + (2 + 6 * i) + 3 = a + (5 + 6 * i) by omega), nI_sx (z := 4) (k := 4) rfl (show a + (2 + 6 * i) + 4 = a + (6 + 6 * i) by omega), show nI (4 * i) + (1 : Int32) = nI (4 * i + 1) from nI_1 _, nI_s2, nI_s3]
    have gc : ∀ x, x < 60 → ga c 60 (nI x) = some (c x) := fun x hx => ga_nI hx (by decide)
    have gr : ∀ x, x < 28 → ga rd 28 (nI x) = some (rd x) := fun x hx => ga_nI hx (by decide)
    have s7 : ∀ (f : Nat → Int32) (x : Int32), sa f 7 (nI i) x = some (upd f i x) := fun f x => sa_nI (by omega) (by decide)
    rw [gc _ (by omega), gc _ (by omega), gc _ (by omega), gc _ (by omega), gc _ (by omega), gr _ (by omega), gr _ (by omega), gr _ (by omega), gr _ (by omega)]
    simp only [Option.bind_some, s7, jn]
    rw [u6, u7, u8, u9, u10, u11, u12, u13, u14]
    rw [show nI (48 + t) - (48 : Int32) = nI (48 + t - 48) from pk_sub (b := 48) (by omega), show nI (48 + q) - (48 : Int32) = nI (48 + q - 48) from pk_sub (b := 48) (by omega), show nI (48 + e) - (48 : Int32) = nI (48 + e - 48) from pk_sub (b := 48) (by omega), show (10 : Int32) * nI (48 + t - 48) = nI (10 * (48 + t - 48)) from pk_mul 10 _, nI_add, show nI (10 * (48 + t - 48) + (48 + o)) - (48 : Int32) = nI (10 * (48 + t - 48) + (48 + o) - 48) from pk_sub (b := 48) (by omega), show 10 * (48 + t - 48) + (48 + o) - 48 = 10 * t + o by omega, show 48 + q - 48 = q by omega, show 48 + e - 48 = e by omega]
    have sl : ∀ v, (v = -9 ∨ ∃ j, j < S ∧ v = nI j) → ∀ x, x < i + 1 → Slip S (upd kd i (nI κ)) (upd pg i (nI (10 * t + o))) (upd as i (nI q)) (upd se i v) x := by
      intro v hv x hxi
      by_cases ex : x = i
      · subst ex
        unfold Slip
        rw [upd_at, upd_at, upd_at, upd_at]
        refine ⟨?_, ⟨_, by omega, rfl⟩, ⟨_, u4, rfl⟩, hv⟩
        rcases (show κ = 0 ∨ κ = 1 ∨ κ = 2 by omega) with rfl | rfl | rfl
        · exact Or.inl rfl
        · exact Or.inr (Or.inl rfl)
        · exact Or.inr (Or.inr rfl)
      · unfold Slip
        rw [upd_ne ex, upd_ne ex, upd_ne ex, upd_ne ex]
        exact hx x (by omega)
    unfold pX4_send
    by_cases ce : e < S
    · have hh : pX4_has (nI S) (nI e) = 1 := by
        unfold pX4_has
        rw [if_neg (nI_pos (by omega)), if_neg (nI_ge ce (by omega))]
      rw [if_neg (one_ne hh), if_neg (nI_ge ce (by omega))]
      simp only [Option.bind_some, s7]
      exact ih (i + 1) f _ _ _ _ (by omega) (by omega) (sl _ (Or.inr ⟨e, ce, rfl⟩))
    · have hh : pX4_has (nI S) (nI e) = 0 := by
        unfold pX4_has
        rw [if_neg (nI_pos (by omega)), if_pos (nI_le (by omega) (by omega))]
      rw [if_pos hh, if_pos (nI_le (by omega) (by omega))]
      simp only [Option.bind_some, s7]
      exact ih (i + 1) f _ _ _ _ (by omega) (by omega) (sl _ (Or.inl rfl))
set_option maxRecDepth 20000 in
theorem T_book (ques : Int32) (flt : Int32) (th : Nat → Int32) (la : Nat → Int32) (le : Nat → Int32) (cf : Nat → Nat → Int32) (kind : Nat → Int32) (page : Nat → Int32) (asked : Nat → Int32) (sees : Nat → Int32) (cnt : Int32) (wet : Int32) (which : Nat → Int32) (leaf : Nat → Int32) (rds : Int32) (f_askedUpTo : Nat → Int32) (f_costs : Nat → Int32) (sorts : Nat → Int32) (slong : Nat → Int32) (mcells : Nat → Int32) (m_at : Int32) (m_readSlips : Int32) (m_read : Nat → Int32) (k : Nat) (hk : k < 4) (p1 : Int32) (p2 : Int32) (p3 : Int32) (p4 : Int32) (hr4 : vp_in p1 4 → p1 = nI k) (hI : Inv cnt wet kind page asked sees rds which leaf th la le cf sorts slong mcells f_costs f_askedUpTo) : ∃ (r : Int32) (ques' : Int32) (flt' : Int32) (kind' : Nat → Int32) (page' : Nat → Int32) (asked' : Nat → Int32) (sees' : Nat → Int32) (cnt' : Int32) (wet' : Int32) (rds' : Int32) (m_at' : Int32) (m_readSlips' : Int32) (m_read' : Nat → Int32), pX7_book ques flt (cf k) (th k) (la k) (le k) kind page asked sees cnt wet rds p1 p2 p3 p4 = some (r, ques', flt', kind', page', asked', sees', cnt', wet', rds') ∧ pX8_book flt sorts slong mcells cnt ques wet kind page asked sees m_at m_readSlips m_read rds p1 p2 p3 p4 = some (r, flt', cnt', ques', wet', kind', page', asked', sees', m_at', m_readSlips', m_read', rds') ∧ Inv cnt' wet' kind' page' asked' sees' rds' which leaf th la le cf sorts slong mcells f_costs f_askedUpTo := by
  obtain ⟨n, w, r, rfl, rfl, rfl, hB, hR, hW, hT⟩ := hI
  have hn := hB.1
  have hI : Inv (nI n) (nI w) kind page asked sees (nI r) which leaf th la le cf sorts slong mcells f_costs f_askedUpTo := ⟨n, w, r, rfl, rfl, rfl, hB, hR, hW, hT⟩
  unfold pX7_book pX8_book
  rw [isSheet_eq, isLane_eq]
  rcases sheet_or p1 with ⟨h0, -⟩ | ⟨h1, hin⟩
  · rw [if_pos h0, if_pos h0]
    exact ⟨_, _, _, _, _, _, _, _, _, _, _, _, _, rfl, rfl, hI⟩
  rw [if_neg (one_ne h1), if_neg (one_ne h1)]
  have e := hr4 hin
  subst e
  by_cases h2 : pX7_isLane p2 = 0
  · rw [if_pos h2, if_pos h2]
    exact ⟨_, _, _, _, _, _, _, _, _, _, _, _, _, rfl, rfl, hI⟩
  rw [if_neg h2, if_neg h2, gx_nI hk (by decide), Option.bind_some, against_eq hk (hW k hk).1, Option.bind_some]
  by_cases c0 : pX2_faultAsLane (th k) (la k) (le k) p2 p3 p4 = 0
  · rw [if_pos c0, if_pos c0]
    obtain ⟨a, N, rfl, rfl, hab, -, -⟩ := fault0 (hW k hk).1 c0
    rw [cix, nI_add]
    have hc : ∀ x, x < N → cf k (a + x) = mcells (60 * k + a + x) := fun x hx => by
      rw [(hW k hk).2 (a + x) (by omega), Nat.add_assoc]
    rcases bookIn (show a + N ≤ 60 by omega) (show 60 * k + a + N ≤ 240 by omega) hc m_readSlips m_read with ⟨p, rs, rd', hp, e1, e2⟩ | ⟨S, rd', hS2, hS7, eN, e1, e2, hRD⟩
    · rw [e1, e2, Option.bind_some, Option.bind_some, if_neg (m9_nI (show p < 2 ^ 31 by omega)), if_pos rfl, pk_sub (by omega), show 60 * k + a + p - (60 * k + a) = p by omega]
      exact ⟨_, _, _, _, _, _, _, _, _, _, _, _, _, rfl, rfl, hI⟩
    · rw [e1, e2, Option.bind_some, Option.bind_some, if_pos rfl, if_neg (show ¬ (1 : Int32) = 0 by decide)]
      unfold pX4_fill pX8_takeBook
      have e3 := in_tab ⟨N, by omega⟩
      have e3 : pX5_slipsIn (nI N) = some (nI ((N - 1) / 6)) := e3
      rw [e3, show (N - 1) / 6 = S by omega, Option.bind_some]
      obtain ⟨g1, g2, g3, g4, f1, f2, f3⟩ := fill_L hS7 (show a + (1 + 6 * S) ≤ 60 by omega) hRD (fun (k11_v4 : Int32) (k11_w_s_kind : Nat → Int32) (k11_w_s_page : Nat → Int32) (k11_w_s_asked : Nat → Int32) (k11_w_s_sent : Nat → Int32) => some ((k11_w_s_kind, k11_w_s_page, k11_w_s_asked, k11_w_s_sent, nI S, (0 : Int32)))) (fun (k11_v1 : Int32) (k11_w_m_kind : Nat → Int32) (k11_w_m_page : Nat → Int32) (k11_w_m_asked : Nat → Int32) (k11_w_m_sees : Nat → Int32) => some ((nI S, (0 : Int32), (0 : Int32), k11_w_m_kind, k11_w_m_page, k11_w_m_asked, k11_w_m_sees, (0 : Int32)))) S 0 fu kind page asked sees (by omega) (by unfold fu; omega) (fun x hx => by omega)
      rw [show nI 0 = (0 : Int32) from rfl] at f1 f2
      rw [f1, f2]
      refine ⟨_, _, _, _, _, _, _, _, _, _, _, _, _, rfl, rfl, S, 0, 0, rfl, rfl, rfl, ⟨hS7, Nat.pow_pos (by decide), f3⟩, ⟨by omega, fun i hi => by omega⟩, hW, hT⟩
  · rw [if_neg c0, if_neg c0]
    unfold pX7_faulted pX8_fails
    exact ⟨_, _, _, _, _, _, _, _, _, _, _, _, _, rfl, rfl, hI⟩
