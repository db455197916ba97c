/-! what holds of class and reference together, between two calls -/
def BookOk (n w : Nat) (kind page asked sees : Nat → Int32) : Prop := n ≤ 7 ∧ w < 2 ^ n ∧ ∀ k, k < n → (kind k = 0 ∨ kind k = 1 ∨ kind k = 2) ∧ (∃ p, p ≤ 49 ∧ page k = nI p) ∧ (∃ a, a ≤ 9 ∧ asked k = nI a) ∧ (sees k = -9 ∨ ∃ j, j < n ∧ sees k = nI j)
def RowOk (th la le sorts slong : Int32) : Prop := ((th = 0 ∧ sorts = -9) ∨ (th = 1 ∧ sorts = la ∧ (la = 0 ∨ la = 1 ∨ la = 2))) ∧ le = slong ∧ ∃ z, z ≤ 60 ∧ le = nI z
def RowsOk (th la le : Nat → Int32) (cf : Nat → Nat → Int32) (sorts slong mcells : Nat → Int32) : Prop := ∀ k, k < 4 → RowOk (th k) (la k) (le k) (sorts k) (slong k) ∧ ∀ j, j < 60 → cf k j = mcells (60 * k + j)
def ReadOk (n r : Nat) (which : Nat → Int32) : Prop := r ≤ 8 ∧ ∀ i, i < r → ∃ j, j < n ∧ which i = nI j
def TreeOk (costs asku : Nat → Int32) : Prop := (∀ b, b < 8 → costs (8 * b + b) = 0) ∧ asku 0 = 0
def Inv (cnt wet : Int32) (kind page asked sees : Nat → Int32) (rds : Int32) (which leaf th la le : Nat → Int32) (cf : Nat → Nat → Int32) (sorts slong mcells costs asku : Nat → Int32) : Prop := ∃ n w r : Nat, cnt = nI n ∧ wet = nI w ∧ rds = nI r ∧ BookOk n w kind page asked sees ∧ ReadOk n r which ∧ RowsOk th la le cf sorts slong mcells ∧ TreeOk costs asku
