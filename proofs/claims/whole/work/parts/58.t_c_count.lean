/-! sets of SLIPS as numbers; counting of ORDERS -/
def mB (U q : Nat) : Bool := U.testBit q
def insB (U q : Nat) : Nat := U ||| 2 ^ q
def delB (U q : Nat) : Nat := U &&& (127 ^^^ 2 ^ q)
def pcB (U : Nat) : Nat := U % 2 + U / 2 % 2 + U / 4 % 2 + U / 8 % 2 + U / 16 % 2 + U / 32 % 2 + U / 64 % 2
theorem ins_tab : ∀ U : Fin 128, ∀ q : Fin 7, mB U.val q.val = false → mB (insB U.val q.val) q.val = true ∧ delB (insB U.val q.val) q.val = U.val ∧ pcB (insB U.val q.val) = pcB U.val + 1 := by decide +kernel
theorem del_tab : ∀ U : Fin 128, ∀ q : Fin 7, mB U.val q.val = true → mB (delB U.val q.val) q.val = false ∧ insB (delB U.val q.val) q.val = U.val ∧ pcB (delB U.val q.val) + 1 = pcB U.val ∧ delB U.val q.val < U.val := by decide +kernel
theorem mem_tab : ∀ U : Fin 128, ∀ q : Fin 7, ∀ r : Fin 7, mB (insB U.val q.val) r.val = (decide (r.val = q.val) || mB U.val r.val) ∧ insB (insB U.val q.val) r.val = insB (insB U.val r.val) q.val := by decide +kernel
theorem all_tab : ∀ n : Fin 8, ∀ U : Fin 128, U.val < 2 ^ n.val → (pcB U.val = n.val → U.val = 2 ^ n.val - 1) ∧ ∀ q : Fin 7, q.val < n.val → mB (2 ^ n.val - 1) q.val = true := by decide +kernel
def nthF (U : Nat) : Nat → Nat → Nat → Nat
  | 0, q, _ => q
  | m + 1, q, s => if mB U q = true then nthF U m (q + 1) s else if s = 0 then q else nthF U m (q + 1) (s - 1)
def nth (U s : Nat) : Nat := nthF U 7 0 s
theorem nth_tab : ∀ n : Fin 8, ∀ U : Fin 128, U.val < 2 ^ n.val → (List.range' 0 (n.val - pcB U.val)).map (nth U.val) = (List.range n.val).filter (fun q => !mB U.val q) := by decide +kernel
theorem nth_lt : ∀ n : Fin 8, ∀ U : Fin 128, U.val < 2 ^ n.val → ∀ s : Fin 7, s.val < n.val - pcB U.val → nth U.val s.val < n.val ∧ mB U.val (nth U.val s.val) = false := by decide +kernel
def sumL (f : Nat → Nat) : List Nat → Nat
  | [] => 0
  | q :: l => f q + sumL f l
theorem sumL_congr {f g : Nat → Nat} : ∀ l : List Nat, (∀ q, q ∈ l → f q = g q) → sumL f l = sumL g l := by
  intro l
  induction l with
  | nil => intro _; rfl
  | cons q l ih =>
    intro h
    show f q + sumL f l = g q + sumL g l
    rw [h q (List.mem_cons_self ..), ih (fun r hr => h r (List.mem_cons_of_mem _ hr))]
theorem sumL_add {f g : Nat → Nat} : ∀ l : List Nat, sumL (fun q => f q + g q) l = sumL f l + sumL g l := by
  intro l
  induction l with
  | nil => rfl
  | cons q l ih =>
    show f q + g q + sumL (fun q => f q + g q) l = f q + sumL f l + (g q + sumL g l)
    rw [ih]; omega
theorem sumL_zero : ∀ l : List Nat, sumL (fun _ => 0) l = 0 := by
  intro l
  induction l with
  | nil => rfl
  | cons q l ih => show 0 + sumL (fun _ => 0) l = 0; rw [ih]
theorem sumL_swap {f : Nat → Nat → Nat} (l' : List Nat) : ∀ l : List Nat, sumL (fun q => sumL (fun r => f q r) l') l = sumL (fun r => sumL (fun q => f q r) l) l' := by
  intro l
  induction l with
  | nil => exact (sumL_zero l').symm
  | cons q l ih =>
    show sumL (fun r => f q r) l' + sumL (fun q => sumL (fun r => f q r) l') l = sumL (fun r => f q r + sumL (fun q => f q r) l) l'
    rw [ih, sumL_add]
theorem sumL_if {c : Bool} {f : Nat → Nat} (l : List Nat) : (if c = true then sumL f l else 0) = sumL (fun q => if c = true then f q else 0) l := by
  cases c with
  | true => rfl
  | false => rw [if_neg (by decide)]; exact (sumL_zero l).symm
theorem sumL_map {h f : Nat → Nat} : ∀ l : List Nat, sumL f (l.map h) = sumL (fun s => f (h s)) l := by
  intro l
  induction l with
  | nil => rfl
  | cons q l ih => show f (h q) + sumL f (l.map h) = f (h q) + _; rw [ih]
theorem sumL_filter {p : Nat → Bool} {f : Nat → Nat} : ∀ l : List Nat, sumL f (l.filter p) = sumL (fun s => if p s = true then f s else 0) l := by
  intro l
  induction l with
  | nil => rfl
  | cons q l ih =>
    rw [List.filter_cons]
    show _ = (if p q = true then f q else 0) + sumL (fun s => if p s = true then f s else 0) l
    by_cases c : p q = true
    · rw [if_pos c, if_pos c, ← ih]; rfl
    · rw [if_neg c, if_neg c, ← ih, Nat.zero_add]
theorem sumL_ne {f : Nat → Nat} : ∀ l : List Nat, sumL f l ≠ 0 → ∃ q, q ∈ l ∧ f q ≠ 0 := by
  intro l
  induction l with
  | nil => intro h; exact absurd rfl h
  | cons q l ih =>
    intro h
    by_cases c : f q = 0
    · have h : f q + sumL f l ≠ 0 := h
      obtain ⟨r, hr, h2⟩ := ih (by omega)
      exact ⟨r, List.mem_cons_of_mem _ hr, h2⟩
    · exact ⟨q, List.mem_cons_self .., c⟩
theorem sumL_pos {f : Nat → Nat} : ∀ (l : List Nat) (q : Nat), q ∈ l → f q ≠ 0 → sumL f l ≠ 0 := by
  intro l
  induction l with
  | nil => intro q h; cases h
  | cons r l ih =>
    intro q h h2
    show f r + sumL f l ≠ 0
    rcases List.mem_cons.mp h with rfl | h
    · omega
    · have := ih q h h2; omega
def MP (n : Nat) (ok : Nat → Nat → Bool) : Nat → Nat → Nat → Nat
  | 0, S, T => if S = T then 1 else 0
  | m + 1, S, T => sumL (fun q => if ok q S = true then MP n ok m (insB S q) T else 0) (List.range n)
def okOk (ok : Nat → Nat → Bool) : Prop := (∀ q U, ok q U = true → mB U q = false) ∧ ∀ q r U, U < 128 → q < 7 → r < 7 → q ≠ r → ok q U = true → ok q (insB U r) = true
theorem p128 {n U : Nat} (hn : n ≤ 7) (h : U < 2 ^ n) : U < 128 := p2_7 hn h
theorem ins_lt {n U q : Nat} (h : U < 2 ^ n) (hq : q < n) : insB U q < 2 ^ n := Nat.or_lt_two_pow h (Nat.pow_lt_pow_right (by decide) hq)
theorem del_lt {n U q : Nat} (h : U < 2 ^ n) : delB U q < 2 ^ n := Nat.lt_of_le_of_lt Nat.and_le_left h
theorem MP_back {n : Nat} {ok : Nat → Nat → Bool} (hn : n ≤ 7) (hok : okOk ok) : ∀ (m S T : Nat), S < 2 ^ n → T < 2 ^ n → MP n ok (m + 1) S T = sumL (fun q => if (mB T q && ok q (delB T q)) = true then MP n ok m S (delB T q) else 0) (List.range n) := by
  intro m
  induction m with
  | zero =>
    intro S T hS hT
    refine sumL_congr _ (fun q hq => ?_)
    have hq := List.mem_range.mp hq
    have i1 := ins_tab ⟨S, p128 hn hS⟩ ⟨q, by omega⟩
    have d1 := del_tab ⟨T, p128 hn hT⟩ ⟨q, by omega⟩
    have i1 : mB S q = false → mB (insB S q) q = true ∧ delB (insB S q) q = S ∧ pcB (insB S q) = pcB S + 1 := i1
    have d1 : mB T q = true → mB (delB T q) q = false ∧ insB (delB T q) q = T ∧ pcB (delB T q) + 1 = pcB T ∧ delB T q < T := d1
    show (if ok q S = true then (if insB S q = T then 1 else 0) else 0) = (if (mB T q && ok q (delB T q)) = true then (if S = delB T q then 1 else 0) else 0)
    by_cases c1 : ok q S = true ∧ insB S q = T
    · obtain ⟨c1, rfl⟩ := c1
      obtain ⟨e1, e2, e3⟩ := i1 (hok.1 q S c1)
      rw [if_pos c1, if_pos rfl, e1, e2, if_pos (by rw [c1]; rfl), if_pos rfl]
    · by_cases c2 : mB T q = true ∧ ok q (delB T q) = true ∧ S = delB T q
      · obtain ⟨c3, c4, rfl⟩ := c2
        exact absurd ⟨c4, (d1 c3).2.1⟩ c1
      · have e1 : (if ok q S = true then (if insB S q = T then 1 else 0) else 0) = 0 := by
          by_cases c3 : ok q S = true
          · rw [if_pos c3, if_neg (fun c4 => c1 ⟨c3, c4⟩)]
          · rw [if_neg c3]
        rw [e1]
        by_cases c3 : (mB T q && ok q (delB T q)) = true
        · rw [if_pos c3]
          rw [Bool.and_eq_true] at c3
          rw [if_neg (fun c4 => c2 ⟨c3.1, c3.2, c4⟩)]
        · rw [if_neg c3]
  | succ m ih =>
    intro S T hS hT
    have e1 : MP n ok (m + 1 + 1) S T = sumL (fun q => sumL (fun r => if ok q S = true then (if (mB T r && ok r (delB T r)) = true then MP n ok m (insB S q) (delB T r) else 0) else 0) (List.range n)) (List.range n) := by
      refine sumL_congr _ (fun q hq => ?_)
      have hq := List.mem_range.mp hq
      rw [← sumL_if, ih (insB S q) T (ins_lt hS hq) hT]
    rw [e1, sumL_swap]
    refine sumL_congr _ (fun r hr => ?_)
    show _ = (if (mB T r && ok r (delB T r)) = true then sumL (fun q => if ok q S = true then MP n ok m (insB S q) (delB T r) else 0) (List.range n) else 0)
    rw [sumL_if]
    refine sumL_congr _ (fun q _ => ?_)
    by_cases c1 : ok q S = true
    · rw [if_pos c1, if_pos c1]
    · rw [if_neg c1, if_neg c1]; split <;> rfl
/-- who may follow now shuts out nothing -/
theorem MP_ex {n : Nat} {ok : Nat → Nat → Bool} (hn : n ≤ 7) (hok : okOk ok) : ∀ (m U q : Nat), U < 2 ^ n → q < n → MP n ok m U (2 ^ n - 1) ≠ 0 → ok q U = true → ∃ m', m = m' + 1 ∧ MP n ok m' (insB U q) (2 ^ n - 1) ≠ 0 := by
  intro m
  induction m with
  | zero =>
    intro U q hU hq h ho
    have e : U = 2 ^ n - 1 := by
      by_cases c : U = 2 ^ n - 1
      · exact c
      · exact absurd (show MP n ok 0 U (2 ^ n - 1) = 0 from if_neg c) h
    have a1 := (all_tab ⟨n, by omega⟩ ⟨U, p128 hn hU⟩ hU).2 ⟨q, by omega⟩ hq
    have a1 : mB (2 ^ n - 1) q = true := a1
    rw [← e, hok.1 q U ho] at a1
    cases a1
  | succ m ih =>
    intro U q hU hq h ho
    refine ⟨m, rfl, ?_⟩
    obtain ⟨r, hr, h2⟩ := sumL_ne _ h
    have hr := List.mem_range.mp hr
    by_cases cr : ok r U = true
    · rw [if_pos cr] at h2
      by_cases e : r = q
      · subst e; exact h2
      · obtain ⟨m', rfl, h3⟩ := ih (insB U r) q (ins_lt hU hr) hq h2 (hok.2 q r U (p128 hn hU) (by omega) (by omega) (fun k => e k.symm) ho)
        refine sumL_pos _ r (List.mem_range.mpr hr) ?_
        rw [if_pos (hok.2 r q U (p128 hn hU) (by omega) (by omega) e cr)]
        have cm := (mem_tab ⟨U, p128 hn hU⟩ ⟨q, by omega⟩ ⟨r, by omega⟩).2
        have cm : insB (insB U q) r = insB (insB U r) q := cm
        rw [cm]
        exact h3
    · rw [if_neg cr] at h2
      exact absurd rfl h2
def fac : Nat → Nat
  | 0 => 1
  | m + 1 => (m + 1) * fac m
theorem fac_pos : ∀ m, 0 < fac m := by
  intro m
  induction m with
  | zero => decide
  | succ m ih => exact Nat.mul_pos (by omega) ih
def cntR (P : Nat → Bool) : Nat → Nat → Nat
  | 0, _ => 0
  | l + 1, a => (if P a = true then 1 else 0) + cntR P l (a + 1)
def fsv (P : Nat → Bool) (f : Nat → Nat) : Nat → Nat → Option Nat
  | 0, _ => none
  | l + 1, a => if P a = true then some (f a) else fsv P f l (a + 1)
theorem cntR_add {P : Nat → Bool} : ∀ (l1 l2 a : Nat), cntR P (l1 + l2) a = cntR P l1 a + cntR P l2 (a + l1) := by
  intro l1
  induction l1 with
  | zero => intro l2 a; rw [Nat.zero_add, Nat.add_zero]; show _ = 0 + _; rw [Nat.zero_add]
  | succ l1 ih =>
    intro l2 a
    rw [show l1 + 1 + l2 = (l1 + l2) + 1 by omega]
    show (if P a = true then 1 else 0) + cntR P (l1 + l2) (a + 1) = (if P a = true then 1 else 0) + cntR P l1 (a + 1) + _
    rw [ih, show a + 1 + l1 = a + (l1 + 1) by omega, Nat.add_assoc]
theorem cntR_le {P : Nat → Bool} : ∀ (l a : Nat), cntR P l a ≤ l := by
  intro l
  induction l with
  | zero => intro a; exact Nat.le_refl 0
  | succ l ih =>
    intro a
    have := ih (a + 1)
    show (if P a = true then 1 else 0) + cntR P l (a + 1) ≤ l + 1
    split <;> omega
theorem cntR_congr {P Q : Nat → Bool} : ∀ (l a b : Nat), (∀ r, r < l → P (a + r) = Q (b + r)) → cntR P l a = cntR Q l b := by
  intro l
  induction l with
  | zero => intro a b _; rfl
  | succ l ih =>
    intro a b h
    show (if P a = true then 1 else 0) + cntR P l (a + 1) = (if Q b = true then 1 else 0) + cntR Q l (b + 1)
    have h0 := h 0 (by omega)
    rw [Nat.add_zero, Nat.add_zero] at h0
    rw [h0, ih (a + 1) (b + 1) (fun r hr => by
      have := h (r + 1) (by omega)
      rw [show a + 1 + r = a + (r + 1) by omega, show b + 1 + r = b + (r + 1) by omega]
      exact this)]
theorem fsv_congr {P Q : Nat → Bool} {f g : Nat → Nat} : ∀ (l a b : Nat), (∀ r, r < l → P (a + r) = Q (b + r) ∧ f (a + r) = g (b + r)) → fsv P f l a = fsv Q g l b := by
  intro l
  induction l with
  | zero => intro a b _; rfl
  | succ l ih =>
    intro a b h
    show (if P a = true then some (f a) else fsv P f l (a + 1)) = (if Q b = true then some (g b) else fsv Q g l (b + 1))
    have h0 := h 0 (by omega)
    rw [Nat.add_zero, Nat.add_zero] at h0
    rw [h0.1, h0.2, ih (a + 1) (b + 1) (fun r hr => by
      have := h (r + 1) (by omega)
      rw [show a + 1 + r = a + (r + 1) by omega, show b + 1 + r = b + (r + 1) by omega]
      exact this)]
theorem cntR_none : ∀ (l a : Nat), cntR (fun _ => false) l a = 0 := by
  intro l
  induction l with
  | zero => intro a; rfl
  | succ l ih => intro a; show 0 + cntR (fun _ => false) l (a + 1) = 0; rw [ih]
theorem fsv_none {f : Nat → Nat} : ∀ (l a : Nat), fsv (fun _ => false) f l a = none := by
  intro l
  induction l with
  | zero => intro a; rfl
  | succ l ih => intro a; show fsv (fun _ => false) f l (a + 1) = none; exact ih _
theorem fsv_zero {P : Nat → Bool} {f : Nat → Nat} : ∀ (l a : Nat), cntR P l a = 0 → fsv P f l a = none := by
  intro l
  induction l with
  | zero => intro a _; rfl
  | succ l ih =>
    intro a h
    have h : (if P a = true then 1 else 0) + cntR P l (a + 1) = 0 := h
    show (if P a = true then some (f a) else fsv P f l (a + 1)) = none
    by_cases c : P a = true
    · rw [if_pos c] at h; omega
    · rw [if_neg c] at h ⊢
      exact ih _ (by omega)
theorem fsv_some {P : Nat → Bool} {f : Nat → Nat} : ∀ (l a : Nat), cntR P l a ≠ 0 → ∃ y, fsv P f l a = some (f y) := by
  intro l
  induction l with
  | zero => intro a h; exact absurd rfl h
  | succ l ih =>
    intro a h
    have h : (if P a = true then 1 else 0) + cntR P l (a + 1) ≠ 0 := h
    show ∃ y, (if P a = true then some (f a) else fsv P f l (a + 1)) = some (f y)
    by_cases c : P a = true
    · rw [if_pos c]; exact ⟨a, rfl⟩
    · rw [if_neg c] at h ⊢
      exact ih _ (by omega)
def fiL (g : Nat → Option Nat) : List Nat → Option Nat
  | [] => none
  | q :: l => match g q with
    | some v => some v
    | none => fiL g l
theorem fsv_add {P : Nat → Bool} {f : Nat → Nat} : ∀ (l1 l2 a : Nat), fsv P f (l1 + l2) a = (match fsv P f l1 a with | some v => some v | none => fsv P f l2 (a + l1)) := by
  intro l1
  induction l1 with
  | zero => intro l2 a; rw [Nat.zero_add, Nat.add_zero]; rfl
  | succ l1 ih =>
    intro l2 a
    rw [show l1 + 1 + l2 = (l1 + l2) + 1 by omega]
    show (if P a = true then some (f a) else fsv P f (l1 + l2) (a + 1)) = (match (if P a = true then some (f a) else fsv P f l1 (a + 1)) with | some v => some v | none => fsv P f l2 (a + (l1 + 1)))
    by_cases c : P a = true
    · rw [if_pos c, if_pos c]
    · rw [if_neg c, if_neg c, ih, show a + 1 + l1 = a + (l1 + 1) by omega]
theorem cnt_blocks {P : Nat → Bool} (L : Nat) : ∀ (t s0 : Nat), cntR P (t * L) (s0 * L) = sumL (fun s => cntR P L (s * L)) (List.range' s0 t) := by
  intro t
  induction t with
  | zero => intro s0; rw [Nat.zero_mul]; rfl
  | succ t ih =>
    intro s0
    rw [show (t + 1) * L = L + t * L by rw [Nat.succ_mul, Nat.add_comm], cntR_add, show s0 * L + L = (s0 + 1) * L by rw [Nat.succ_mul], ih (s0 + 1), List.range'_succ]
    rfl
theorem fsv_blocks {P : Nat → Bool} {f : Nat → Nat} (L : Nat) : ∀ (t s0 : Nat), fsv P f (t * L) (s0 * L) = fiL (fun s => fsv P f L (s * L)) (List.range' s0 t) := by
  intro t
  induction t with
  | zero => intro s0; rw [Nat.zero_mul]; rfl
  | succ t ih =>
    intro s0
    rw [show (t + 1) * L = L + t * L by rw [Nat.succ_mul, Nat.add_comm], fsv_add, show s0 * L + L = (s0 + 1) * L by rw [Nat.succ_mul], ih (s0 + 1), List.range'_succ]
    rfl
theorem fiL_map {h : Nat → Nat} {g : Nat → Option Nat} : ∀ l : List Nat, fiL g (l.map h) = fiL (fun s => g (h s)) l := by
  intro l
  induction l with
  | nil => rfl
  | cons q l ih =>
    show (match g (h q) with | some v => some v | none => fiL g (l.map h)) = (match g (h q) with | some v => some v | none => fiL (fun s => g (h s)) l)
    rw [ih]
theorem fiL_filter {p : Nat → Bool} {g : Nat → Option Nat} : ∀ l : List Nat, fiL g (l.filter p) = fiL (fun s => if p s = true then g s else none) l := by
  intro l
  induction l with
  | nil => rfl
  | cons q l ih =>
    rw [List.filter_cons]
    show _ = (match (if p q = true then g q else none) with | some v => some v | none => fiL (fun s => if p s = true then g s else none) l)
    by_cases c : p q = true
    · rw [if_pos c, if_pos c, ← ih]; rfl
    · rw [if_neg c, if_neg c, ← ih]
theorem fiL_congr {f g : Nat → Option Nat} : ∀ l : List Nat, (∀ q, q ∈ l → f q = g q) → fiL f l = fiL g l := by
  intro l
  induction l with
  | nil => intro _; rfl
  | cons q l ih =>
    intro h
    show (match f q with | some v => some v | none => fiL f l) = (match g q with | some v => some v | none => fiL g l)
    rw [h q (List.mem_cons_self ..), ih (fun r hr => h r (List.mem_cons_of_mem _ hr))]
theorem fiL_bind {p : Nat → Bool} {X : Nat → Option Nat} : ∀ l : List Nat, (∀ q, q ∈ l → p q = true → ∃ v, X q = some v) → fiL (fun q => if p q = true then X q else none) l = (fiL (fun q => if p q = true then some q else none) l).bind X := by
  intro l
  induction l with
  | nil => intro _; rfl
  | cons q l ih =>
    intro h
    show (match (if p q = true then X q else none) with | some v => some v | none => fiL (fun q => if p q = true then X q else none) l) = (match (if p q = true then some q else none) with | some v => some v | none => fiL (fun q => if p q = true then some q else none) l).bind X
    by_cases c : p q = true
    · obtain ⟨v, hv⟩ := h q (List.mem_cons_self ..) c
      rw [if_pos c, if_pos c, hv]
      exact hv.symm
    · rw [if_neg c, if_neg c]
      exact ih (fun r hr => h r (List.mem_cons_of_mem _ hr))
def vld (ok : Nat → Nat → Bool) : Nat → Nat → Nat → Bool
  | 0, _, _ => true
  | m + 1, U, y => ok (nth U (y / fac m)) U && vld ok m (insB U (nth U (y / fac m))) (y % fac m)
def pkA : Nat → Nat → Nat → Nat → Nat
  | 0, _, _, _ => 0
  | m + 1, U, y, 0 => nth U (y / fac m)
  | m + 1, U, y, j + 1 => pkA m (insB U (nth U (y / fac m))) (y % fac m) j
def pkN (q m U r : Nat) : Nat → Nat
  | 0 => q
  | j + 1 => pkA m U r j
theorem blk {L s r : Nat} (hr : r < L) : (s * L + r) / L = s ∧ (s * L + r) % L = r := by
  have hL : 0 < L := by omega
  refine ⟨?_, ?_⟩
  · rw [Nat.add_comm, Nat.add_mul_div_right _ _ hL, Nat.div_eq_of_lt hr, Nat.zero_add]
  · rw [Nat.add_comm, Nat.add_mul_mod_self_right, Nat.mod_eq_of_lt hr]
theorem C_M {n : Nat} {ok : Nat → Nat → Bool} (hn : n ≤ 7) (hok : okOk ok) : ∀ (m U : Nat), U < 2 ^ n → pcB U + m = n → cntR (vld ok m U) (fac m) 0 = MP n ok m U (2 ^ n - 1) := by
  intro m
  induction m with
  | zero =>
    intro U hU hp
    have e := (all_tab ⟨n, by omega⟩ ⟨U, p128 hn hU⟩ hU).1 (show pcB U = n by omega)
    have e : U = 2 ^ n - 1 := e
    show 1 + 0 = if U = 2 ^ n - 1 then 1 else 0
    rw [if_pos e]
  | succ m ih =>
    intro U hU hp
    have b1 : ∀ s, cntR (vld ok (m + 1) U) (fac m) (s * fac m) = (fun q => if ok q U = true then cntR (vld ok m (insB U q)) (fac m) 0 else 0) (nth U s) := by
      intro s
      show _ = if ok (nth U s) U = true then cntR (vld ok m (insB U (nth U s))) (fac m) 0 else 0
      by_cases c : ok (nth U s) U = true
      · rw [if_pos c]
        refine cntR_congr _ _ _ (fun r hr => ?_)
        show (ok (nth U ((s * fac m + r) / fac m)) U && vld ok m (insB U (nth U ((s * fac m + r) / fac m))) ((s * fac m + r) % fac m)) = _
        rw [(blk hr).1, (blk hr).2, c, Nat.zero_add, Bool.true_and]
      · rw [if_neg c, ← cntR_none (fac m) 0]
        refine cntR_congr _ _ _ (fun r hr => ?_)
        show (ok (nth U ((s * fac m + r) / fac m)) U && vld ok m (insB U (nth U ((s * fac m + r) / fac m))) ((s * fac m + r) % fac m)) = _
        rw [(blk hr).1, (Bool.not_eq_true _).mp c, Bool.false_and]
    have h1 := cnt_blocks (P := vld ok (m + 1) U) (fac m) (m + 1) 0
    rw [Nat.zero_mul] at h1
    have nt := nth_tab ⟨n, by omega⟩ ⟨U, p128 hn hU⟩ hU
    have nt : (List.range' 0 (n - pcB U)).map (nth U) = (List.range n).filter (fun q => !mB U q) := nt
    rw [show n - pcB U = m + 1 by omega] at nt
    show cntR (vld ok (m + 1) U) ((m + 1) * fac m) 0 = _
    rw [h1, sumL_congr _ (fun s _ => b1 s), ← sumL_map (h := nth U) (f := fun q => if ok q U = true then cntR (vld ok m (insB U q)) (fac m) 0 else 0), nt, sumL_filter]
    refine sumL_congr _ (fun q hq => ?_)
    have hq := List.mem_range.mp hq
    by_cases c : ok q U = true
    · have i1 := ins_tab ⟨U, p128 hn hU⟩ ⟨q, by omega⟩ (hok.1 q U c)
      have i1 : mB (insB U q) q = true ∧ delB (insB U q) q = U ∧ pcB (insB U q) = pcB U + 1 := i1
      rw [if_pos c, if_pos c, if_pos (by rw [hok.1 q U c]; rfl), ih (insB U q) (ins_lt hU hq) (by omega)]
    · rw [if_neg c, if_neg c]; split <;> rfl
def least (n : Nat) (ok : Nat → Nat → Bool) (U : Nat) : Option Nat := fiL (fun q => if ok q U = true then some q else none) (List.range n)
def grd (n : Nat) (ok : Nat → Nat → Bool) : Nat → Nat → Option Nat
  | 0, U => least n ok U
  | j + 1, U => (least n ok U).bind fun q => grd n ok j (insB U q)
theorem F_G {n : Nat} {ok : Nat → Nat → Bool} (hn : n ≤ 7) (hok : okOk ok) : ∀ (m U j : Nat), U < 2 ^ n → pcB U + m = n → j < m → MP n ok m U (2 ^ n - 1) ≠ 0 → fsv (vld ok m U) (fun y => pkA m U y j) (fac m) 0 = grd n ok j U := by
  intro m
  induction m with
  | zero => intro U j _ _ h; omega
  | succ m ih =>
    intro U j hU hp hj hM
    have b1 : ∀ s, fsv (vld ok (m + 1) U) (fun y => pkA (m + 1) U y j) (fac m) (s * fac m) = (fun q => if ok q U = true then fsv (vld ok m (insB U q)) (fun r => pkN q m (insB U q) r j) (fac m) 0 else none) (nth U s) := by
      intro s
      show _ = if ok (nth U s) U = true then fsv (vld ok m (insB U (nth U s))) (fun r => pkN (nth U s) m (insB U (nth U s)) r j) (fac m) 0 else none
      by_cases c : ok (nth U s) U = true
      · rw [if_pos c]
        refine fsv_congr _ _ _ (fun r hr => ⟨?_, ?_⟩)
        · show (ok (nth U ((s * fac m + r) / fac m)) U && vld ok m (insB U (nth U ((s * fac m + r) / fac m))) ((s * fac m + r) % fac m)) = _
          rw [(blk hr).1, (blk hr).2, c, Nat.zero_add, Bool.true_and]
        · cases j with
          | zero => show nth U ((s * fac m + r) / fac m) = nth U s; rw [(blk hr).1]
          | succ j =>
            show pkA m (insB U (nth U ((s * fac m + r) / fac m))) ((s * fac m + r) % fac m) j = pkA m (insB U (nth U s)) (0 + r) j
            rw [(blk hr).1, (blk hr).2, Nat.zero_add]
      · rw [if_neg c, ← fsv_none (f := fun _ => 0) (fac m) 0]
        rw [show fsv (vld ok (m + 1) U) (fun y => pkA (m + 1) U y j) (fac m) (s * fac m) = fsv (fun _ => false) (fun y => pkA (m + 1) U (s * fac m + y) j) (fac m) 0 from fsv_congr _ _ _ (fun r hr => ⟨by
          show (ok (nth U ((s * fac m + r) / fac m)) U && vld ok m (insB U (nth U ((s * fac m + r) / fac m))) ((s * fac m + r) % fac m)) = _
          rw [(blk hr).1, (Bool.not_eq_true _).mp c, Bool.false_and], by rw [Nat.zero_add]⟩), fsv_none, fsv_none]
    have h1 := fsv_blocks (P := vld ok (m + 1) U) (f := fun y => pkA (m + 1) U y j) (fac m) (m + 1) 0
    rw [Nat.zero_mul] at h1
    have nt := nth_tab ⟨n, by omega⟩ ⟨U, p128 hn hU⟩ hU
    have nt : (List.range' 0 (n - pcB U)).map (nth U) = (List.range n).filter (fun q => !mB U q) := nt
    rw [show n - pcB U = m + 1 by omega] at nt
    show fsv (vld ok (m + 1) U) (fun y => pkA (m + 1) U y j) ((m + 1) * fac m) 0 = _
    rw [h1, fiL_congr _ (fun s _ => b1 s), ← fiL_map (h := nth U) (g := fun q => if ok q U = true then fsv (vld ok m (insB U q)) (fun r => pkN q m (insB U q) r j) (fac m) 0 else none), nt, fiL_filter]
    have key : ∀ q, q < n → ok q U = true → MP n ok m (insB U q) (2 ^ n - 1) ≠ 0 ∧ pcB (insB U q) + m = n := by
      intro q hq c
      have i1 := ins_tab ⟨U, p128 hn hU⟩ ⟨q, by omega⟩ (hok.1 q U c)
      have i1 : mB (insB U q) q = true ∧ delB (insB U q) q = U ∧ pcB (insB U q) = pcB U + 1 := i1
      obtain ⟨m', e, h⟩ := MP_ex hn hok (m + 1) U q hU hq hM c
      obtain rfl : m = m' := by omega
      exact ⟨h, by omega⟩
    cases j with
    | zero =>
      refine fiL_congr _ (fun q hq => ?_)
      have hq := List.mem_range.mp hq
      by_cases c : ok q U = true
      · obtain ⟨k1, k2⟩ := key q hq c
        rw [if_pos c, if_pos c, if_pos (by rw [hok.1 q U c]; rfl)]
        obtain ⟨y, hy⟩ := fsv_some (P := vld ok m (insB U q)) (f := fun _ => q) (fac m) 0 (by rw [C_M hn hok m _ (ins_lt hU hq) k2]; exact k1)
        exact hy
      · rw [if_neg c, if_neg c]; split <;> rfl
    | succ j =>
      have e1 : fiL (fun q => if (!mB U q) = true then (if ok q U = true then fsv (vld ok m (insB U q)) (fun r => pkA m (insB U q) r j) (fac m) 0 else none) else none) (List.range n) = fiL (fun q => if ok q U = true then grd n ok j (insB U q) else none) (List.range n) := by
        refine fiL_congr _ (fun q hq => ?_)
        have hq := List.mem_range.mp hq
        by_cases c : ok q U = true
        · obtain ⟨k1, k2⟩ := key q hq c
          rw [if_pos c, if_pos c, if_pos (by rw [hok.1 q U c]; rfl), ih (insB U q) j (ins_lt hU hq) k2 (by omega) k1]
        · rw [if_neg c, if_neg c]; split <;> rfl
      refine e1.trans ?_
      refine fiL_bind (p := fun q => ok q U) _ (fun q hq c => ?_)
      have hq := List.mem_range.mp hq
      obtain ⟨k1, k2⟩ := key q hq c
      obtain ⟨y, hy⟩ := fsv_some (P := vld ok m (insB U q)) (f := fun y => pkA m (insB U q) y j) (fac m) 0 (by rw [C_M hn hok m _ (ins_lt hU hq) k2]; exact k1)
      rw [ih (insB U q) j (ins_lt hU hq) k2 (by omega) k1] at hy
      exact ⟨_, hy⟩
