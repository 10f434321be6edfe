/-! CARDS in their order: by numbers, and one after the other -/
def pforce {α : Type} (x : Nat) (f : Nat → α) : α := match x with
  | 0 => f 0
  | n + 1 => f (n + 1)
theorem pforce_eq {α : Type} {x : Nat} {f : Nat → α} : pforce x f = f x := by cases x <;> rfl
/-- the reader behind so many that are left -/
def pfv (b : Nat) : Nat → Nat → Nat → Option Nat
  | 0, _, _ => none
  | m + 1, v, s => if b / 2 ^ v % 2 = 1 then (if s = 0 then some v else pfv b m (v + 1) (s - 1)) else pfv b m (v + 1) s
def play (n : Nat) : Nat → Nat → Nat → Nat → Nat → Option (List Nat)
  | 0, _, _, _, _ => some []
  | m + 1, i, rest, size, left => if size = 0 ∨ 1000 < rest ∨ 1000 < size ∨ 64 ≤ left then none else match pfv left 8 0 (rest / size) with
    | none => none
    | some v => pforce v fun v => pforce (left - 2 ^ v) fun l' => pforce (rest % size) fun r' => pforce (if i + 2 < n then size / (n - 1 - i) else 1) fun s' => match play n m (i + 1) r' s' l' with
      | none => none
      | some L => some (v :: L)
def psz (n : Nat) : Nat → Nat → Nat → Option Nat
  | 0, _, _ => none
  | m + 1, k, s => if k < n then (if 1000 < s * k then none else psz n m (k + 1) (s * k)) else some s
def plc (n code : Nat) : Option (List Nat) := match psz n 10 2 1 with
  | none => none
  | some s => play n n 0 code s (2 ^ n - 1)
def pn1 (f : Nat → Nat) : Nat → Nat
  | 0 => 0
  | i + 1 => if f (i + 1) < f i then pn1 f i else i + 1
def pn2 (f : Nat → Nat) (i : Nat) : Nat → Nat
  | 0 => 0
  | j + 1 => if i < j + 1 then (if f (j + 1) < f i then pn2 f i j else j + 1) else j + 1
def psw (f : Nat → Nat) (i j : Nat) : Nat → Nat := fun k => if k = j then f i else if k = i then f j else f k
def prv (f : Nat → Nat) : Nat → Nat → Nat → (Nat → Nat)
  | 0, _, _ => f
  | m + 1, lo, hi => if lo < hi then prv (psw f lo hi) m (lo + 1) (hi - 1) else f
def pnx (n : Nat) (f : Nat → Nat) : Option (Nat → Nat) := pforce (pn1 f (n - 1)) fun a => if a = 0 then none else pforce (pn2 f (a - 1) (n - 1)) fun j => some (prv (psw f (a - 1) j) n a (n - 1))
/-- how many -/
def pfa : Nat → Nat
  | 0 => 1
  | n + 1 => (n + 1) * pfa n
def pchk (n code : Nat) : Bool := match plc n code with
  | none => false
  | some L => (L.length == n) && (match pnx n (fun k => L.getD k 0) with
    | none => code + 1 == pfa n
    | some f => Nat.blt (code + 1) (pfa n) && (plc n (code + 1) == some ((List.range n).map f)))
theorem pchk_all : ∀ n, n < 7 → ∀ code, code < pfa n → pchk n code = true := by decide +kernel
theorem plc_0 : ∀ n, n < 7 → plc n 0 = some (List.range n) := by decide +kernel
