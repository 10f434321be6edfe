/-! A PURE SEMANTICS of the bytecode that the system uses, over a heap whose cells bear numbers: 0 is null, 1 the script, 2, 3 .. the cells in the order in which they are made.
A value: an int, a cell's number, a long. -/
abbrev z_Hp : Type := Nat × (Nat → Nat → Int32) × (Nat → Nat → Nat) × (Nat → Nat → Int64)
abbrev z_V : Type := Int32 ⊕ (Nat ⊕ Int64)
abbrev z_vi (x : Int32) : z_V := .inl x
abbrev z_vr (a : Nat) : z_V := .inr (.inl a)
abbrev z_vl (x : Int64) : z_V := .inr (.inr x)
abbrev z_Ls : Type := List (Option z_V)
abbrev z_R : Type := Option z_V × z_Hp
abbrev z_O : Type := Option z_R
abbrev z_K : Type := Nat → z_Ls → List z_V → z_Hp → z_O
abbrev z_C : Type := Nat → List z_V → z_Hp → z_O
abbrev z_Sc : Type := Nat × (Nat → Int32)
/-- what a heap holds: int i, cell's number, long of a cell's place -/
def z_I (h : z_Hp) (a k : Nat) : Int32 := h.2.1 a k
def z_F (h : z_Hp) (a k : Nat) : Nat := h.2.2.1 a k
def z_J (h : z_Hp) (a k : Nat) : Int64 := h.2.2.2 a k
def z_row {α : Type} (f : Nat → Nat → α) (a : Nat) (g : Nat → α) : Nat → Nat → α := fun b => if b = a then g else f b
def z_up {α : Type} (f : Nat → α) (k : Nat) (v : α) : Nat → α := fun j => if j = k then v else f j
def z_sI (h : z_Hp) (a k : Nat) (v : Int32) : z_Hp := (h.1, z_row h.2.1 a (z_up (h.2.1 a) k v), h.2.2.1, h.2.2.2)
def z_sF (h : z_Hp) (a k : Nat) (v : Nat) : z_Hp := (h.1, h.2.1, z_row h.2.2.1 a (z_up (h.2.2.1 a) k v), h.2.2.2)
def z_sJ (h : z_Hp) (a k : Nat) (v : Int64) : z_Hp := (h.1, h.2.1, h.2.2.1, z_row h.2.2.2 a (z_up (h.2.2.2 a) k v))
/-- n places of an int row come to another row's -/
def z_cp (f g : Nat → Int32) (sp dp n : Nat) : Nat → Int32 := fun k => if dp ≤ k ∧ k < dp + n then f (sp + (k - dp)) else g k
def z_cpI (h : z_Hp) (a sp b dp n : Nat) : z_Hp := (h.1, z_row h.2.1 b (z_cp (h.2.1 a) (h.2.1 b) sp dp n), h.2.2.1, h.2.2.2)
/-- a new cell: all its places are 0 -/
def z_nw (h : z_Hp) : z_Hp := (h.1 + 1, z_row h.2.1 (h.1 + 2) (fun _ => 0), z_row h.2.2.1 (h.1 + 2) (fun _ => 0), z_row h.2.2.2 (h.1 + 2) (fun _ => 0))
/-- an outer row of n inner ones -/
def z_nwm (h : z_Hp) (n : Nat) : z_Hp := (h.1 + 1 + n, (fun b => if h.1 + 2 ≤ b ∧ b < h.1 + 3 + n then (fun _ => 0) else h.2.1 b), z_row h.2.2.1 (h.1 + 2) (fun i => if i < n then h.1 + 3 + i else 0), h.2.2.2)
/-- int rows 10, long 11, byte 12, boolean 13, rows of Rules 14, rows of int rows 15; below 9 the classes -/
def z_gd (b : Bool) (x : z_O) : z_O := match b with
  | true => x
  | false => none
/-- a call's answer goes on -/
def z_ci (o : z_O) (f : Int32 → z_Hp → z_O) : z_O := match o with
  | some (some (.inl x), h) => f x h
  | _ => none
def z_cl (o : z_O) (f : Int64 → z_Hp → z_O) : z_O := match o with
  | some (some (.inr (.inr x)), h) => f x h
  | _ => none
def z_cv (o : z_O) (f : z_Hp → z_O) : z_O := match o with
  | some (none, h) => f h
  | _ => none
def z_ldi (ls : z_Ls) (k : Nat) (f : Int32 → z_O) : z_O := match ls[k]? with
  | some (some (.inl x)) => f x
  | _ => none
def z_ldr (ls : z_Ls) (k : Nat) (f : Nat → z_O) : z_O := match ls[k]? with
  | some (some (.inr (.inl x))) => f x
  | _ => none
def z_ldl (ls : z_Ls) (k : Nat) (f : Int64 → z_O) : z_O := match ls[k]? with
  | some (some (.inr (.inr x))) => f x
  | _ => none
def z_cat (v : z_V) : Nat := match v with
  | .inr (.inr _) => 2
  | _ => 1
def z_cats (st : List z_V) : Nat := match st with
  | [] => 0
  | v :: r => z_cat v + z_cats r
/-- a place may be stored to: it is there, and the one ahead of it is no long -/
def z_lo (o : Option (Option z_V)) : Bool := match o with
  | some (some (.inr (.inr _))) => false
  | _ => true
def z_sk (ls : z_Ls) (k : Nat) : Bool := Nat.blt k ls.length && (match k with
  | 0 => true
  | j + 1 => z_lo (ls[j]?))
/-- a switch's targets, one after the other -/
def z_sw (K : Nat → z_O) (pc : Nat) (x : Int32) (d : Int) : List (Int × Int) → z_O
  | [] => K ((pc : Int) + d).toNat
  | q :: r => if x = Int32.ofInt q.1 then K ((pc : Int) + q.2).toNat else z_sw K pc x d r
def z_tp (lo : Int) : List Int → List (Int × Int)
  | [] => []
  | o :: r => (lo, o) :: z_tp (lo + 1) r
