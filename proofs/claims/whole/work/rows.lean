section
/-! A PURE SEMANTICS of the bytecode that the system uses, over a heap whose cells bear numbers: 0 is null, 1 the script, 2, 3 .. the cells in the order in which they are made.
A value: an int, a cell's number, a long. -/
abbrev z_Hp : Type := Nat × (Nat → Nat → Int32) × (Nat → Nat → Nat) × (Nat → Nat → Int64)
abbrev z_V : Type := Int32 ⊕ (Nat ⊕ Int64)
abbrev z_vi (x : Int32) : z_V := .inl x
abbrev z_vr (a : Nat) : z_V := .inr (.inl a)
abbrev z_vl (x : Int64) : z_V := .inr (.inr x)
abbrev z_Ls : Type := List (Option z_V)
abbrev z_R : Type := Option z_V × z_Hp
abbrev z_O : Type := Option z_R
abbrev z_K : Type := Nat → z_Ls → List z_V → z_Hp → z_O
abbrev z_C : Type := Nat → List z_V → z_Hp → z_O
abbrev z_Sc : Type := Nat × (Nat → Int32)
/-- what a heap holds: int i, cell's number, long of a cell's place -/
def z_I (h : z_Hp) (a k : Nat) : Int32 := h.2.1 a k
def z_F (h : z_Hp) (a k : Nat) : Nat := h.2.2.1 a k
def z_J (h : z_Hp) (a k : Nat) : Int64 := h.2.2.2 a k
def z_row {α : Type} (f : Nat → Nat → α) (a : Nat) (g : Nat → α) : Nat → Nat → α := fun b => if b = a then g else f b
def z_up {α : Type} (f : Nat → α) (k : Nat) (v : α) : Nat → α := fun j => if j = k then v else f j
def z_sI (h : z_Hp) (a k : Nat) (v : Int32) : z_Hp := (h.1, z_row h.2.1 a (z_up (h.2.1 a) k v), h.2.2.1, h.2.2.2)
def z_sF (h : z_Hp) (a k : Nat) (v : Nat) : z_Hp := (h.1, h.2.1, z_row h.2.2.1 a (z_up (h.2.2.1 a) k v), h.2.2.2)
def z_sJ (h : z_Hp) (a k : Nat) (v : Int64) : z_Hp := (h.1, h.2.1, h.2.2.1, z_row h.2.2.2 a (z_up (h.2.2.2 a) k v))
/-- n places of an int row come to another row's -/
def z_cp (f g : Nat → Int32) (sp dp n : Nat) : Nat → Int32 := fun k => if dp ≤ k ∧ k < dp + n then f (sp + (k - dp)) else g k
def z_cpI (h : z_Hp) (a sp b dp n : Nat) : z_Hp := (h.1, z_row h.2.1 b (z_cp (h.2.1 a) (h.2.1 b) sp dp n), h.2.2.1, h.2.2.2)
/-- a new cell: all its places are 0 -/
def z_nw (h : z_Hp) : z_Hp := (h.1 + 1, z_row h.2.1 (h.1 + 2) (fun _ => 0), z_row h.2.2.1 (h.1 + 2) (fun _ => 0), z_row h.2.2.2 (h.1 + 2) (fun _ => 0))
/-- an outer row of n inner ones -/
def z_nwm (h : z_Hp) (n : Nat) : z_Hp := (h.1 + 1 + n, (fun b => if h.1 + 2 ≤ b ∧ b < h.1 + 3 + n then (fun _ => 0) else h.2.1 b), z_row h.2.2.1 (h.1 + 2) (fun i => if i < n then h.1 + 3 + i else 0), h.2.2.2)
/-- int rows 10, long 11, byte 12, boolean 13, rows of Rules 14, rows of int rows 15; below 9 the classes -/
def z_gd (b : Bool) (x : z_O) : z_O := match b with
  | true => x
  | false => none
/-- a call's answer goes on -/
def z_ci (o : z_O) (f : Int32 → z_Hp → z_O) : z_O := match o with
  | some (some (.inl x), h) => f x h
  | _ => none
def z_cl (o : z_O) (f : Int64 → z_Hp → z_O) : z_O := match o with
  | some (some (.inr (.inr x)), h) => f x h
  | _ => none
def z_cv (o : z_O) (f : z_Hp → z_O) : z_O := match o with
  | some (none, h) => f h
  | _ => none
def z_ldi (ls : z_Ls) (k : Nat) (f : Int32 → z_O) : z_O := match ls[k]? with
  | some (some (.inl x)) => f x
  | _ => none
def z_ldr (ls : z_Ls) (k : Nat) (f : Nat → z_O) : z_O := match ls[k]? with
  | some (some (.inr (.inl x))) => f x
  | _ => none
def z_ldl (ls : z_Ls) (k : Nat) (f : Int64 → z_O) : z_O := match ls[k]? with
  | some (some (.inr (.inr x))) => f x
  | _ => none
def z_cat (v : z_V) : Nat := match v with
  | .inr (.inr _) => 2
  | _ => 1
def z_cats (st : List z_V) : Nat := match st with
  | [] => 0
  | v :: r => z_cat v + z_cats r
/-- a place may be stored to: it is there, and the one ahead of it is no long -/
def z_lo (o : Option (Option z_V)) : Bool := match o with
  | some (some (.inr (.inr _))) => false
  | _ => true
def z_sk (ls : z_Ls) (k : Nat) : Bool := Nat.blt k ls.length && (match k with
  | 0 => true
  | j + 1 => z_lo (ls[j]?))
/-- a switch's targets, one after the other -/
def z_sw (K : Nat → z_O) (pc : Nat) (x : Int32) (d : Int) : List (Int × Int) → z_O
  | [] => K ((pc : Int) + d).toNat
  | q :: r => if x = Int32.ofInt q.1 then K ((pc : Int) + q.2).toNat else z_sw K pc x d r
def z_tp (lo : Int) : List Int → List (Int × Int)
  | [] => []
  | o :: r => (lo, o) :: z_tp (lo + 1) r
end
section
/-! TABLES of the program, written by wip/whole/gen/tab.py -/
/-- each cell's kind and length, by its number -/
def z_kdl : List (Nat × Nat) := [(99, 0), (98, 0), (7, 14), (6, 2), (15, 6), (10, 48), (10, 48), (10, 48), (10, 48), (10, 48), (10, 48), (10, 6), (6, 2), (15, 4), (10, 120), (10, 120), (10, 120), (10, 120), (10, 4), (1, 7), (2, 1), (10, 24), (2, 1), (10, 24), (14, 6), (4, 2), (10, 8), (4, 2), (10, 8), (4, 2), (10, 8), (4, 2), (10, 8), (4, 2), (10, 8), (4, 2), (10, 8), (4, 2), (10, 8), (3, 7), (10, 8), (10, 12), (10, 12), (5, 17), (10, 24), (10, 8), (15, 9), (10, 8), (10, 8), (10, 8), (10, 8), (10, 8), (10, 8), (10, 8), (10, 8), (10, 8), (10, 8), (10, 8), (10, 24), (10, 8), (10, 12), (10, 6), (0, 19), (10, 6), (10, 6), (10, 6), (11, 6), (10, 8), (10, 8), (10, 8), (13, 8), (10, 24), (10, 24), (10, 24), (10, 24), (10, 24), (10, 24), (10, 24), (0, 19), (10, 6), (10, 6), (10, 6), (11, 6), (10, 8), (10, 8), (10, 8), (13, 8), (10, 24), (10, 24), (10, 24), (10, 24), (10, 24), (10, 24), (10, 24), (8, 48), (10, 6), (10, 6), (10, 288), (10, 48), (10, 4), (12, 480), (10, 18), (10, 24), (10, 96), (10, 24), (10, 24), (10, 18), (10, 24), (10, 96), (10, 24), (10, 24), (10, 24), (10, 6), (10, 48), (10, 8), (10, 24), (10, 24), (10, 24), (10, 9)]
def z_kd (a : Nat) : Nat × Nat := match z_kdl[a]? with
  | some q => q
  | none => (99, 0)
/-- each method: its answer (0 int, 1 long, 2 none), its class, its arguments (the object too), its places -/
def z_mtl : List (Nat × Nat × Nat × Nat) := [(2, 0, 1, 1), (2, 0, 1, 1), (0, 0, 2, 2), (0, 0, 2, 2), (0, 0, 2, 2), (0, 0, 3, 3), (0, 0, 3, 3), (0, 0, 3, 3), (2, 0, 4, 4), (2, 0, 4, 4), (2, 0, 4, 5), (2, 0, 4, 6), (2, 0, 4, 5), (0, 0, 3, 4), (0, 0, 3, 3), (0, 0, 3, 6), (0, 0, 4, 6), (0, 0, 2, 2), (2, 1, 1, 1), (0, 1, 4, 6), (0, 1, 1, 1), (0, 1, 2, 2), (0, 1, 1, 2), (0, 1, 3, 3), (0, 1, 3, 4), (0, 1, 1, 1), (0, 1, 1, 4), (0, 1, 1, 4), (0, 1, 1, 3), (0, 1, 1, 3), (0, 1, 1, 3), (2, 2, 1, 2), (2, 2, 1, 2), (2, 2, 3, 4), (0, 2, 3, 3), (0, 2, 3, 5), (0, 2, 4, 4), (0, 2, 3, 5), (0, 2, 2, 4), (0, 2, 3, 3), (0, 2, 2, 4), (0, 2, 3, 6), (0, 2, 3, 6), (0, 2, 3, 5), (2, 3, 1, 1), (2, 3, 4, 8), (0, 3, 2, 2), (0, 3, 2, 4), (0, 3, 2, 6), (0, 3, 2, 5), (0, 3, 2, 5), (0, 3, 3, 4), (0, 3, 3, 4), (0, 3, 2, 2), (0, 3, 3, 4), (2, 3, 3, 5), (2, 3, 2, 3), (2, 4, 1, 1), (0, 4, 1, 1), (0, 4, 2, 2), (2, 4, 2, 3), (0, 4, 2, 6), (2, 4, 3, 4), (2, 5, 1, 1), (2, 5, 4, 5), (2, 5, 3, 3), (2, 5, 2, 2), (0, 5, 2, 2), (2, 5, 2, 9), (2, 5, 2, 4), (0, 5, 2, 9), (0, 5, 1, 3), (0, 5, 2, 3), (0, 5, 2, 7), (0, 5, 2, 3), (2, 5, 4, 4), (2, 5, 3, 3), (2, 5, 3, 3), (2, 6, 3, 4), (0, 6, 2, 2), (0, 6, 2, 2), (0, 6, 3, 3), (0, 6, 4, 4), (2, 6, 4, 5), (0, 6, 1, 3), (1, 6, 2, 7), (2, 7, 1, 2), (0, 7, 3, 3), (0, 7, 4, 5), (0, 7, 3, 4), (0, 7, 2, 2), (0, 7, 6, 6), (0, 7, 2, 6), (0, 7, 3, 3), (0, 7, 4, 6), (0, 7, 2, 2), (0, 7, 2, 4), (0, 7, 3, 3), (0, 7, 3, 3), (0, 7, 3, 3), (0, 7, 3, 4), (0, 7, 4, 4), (0, 7, 4, 4), (0, 7, 3, 4), (0, 7, 1, 1), (0, 7, 2, 2), (0, 7, 3, 5), (0, 7, 3, 5), (0, 7, 2, 2), (0, 7, 2, 3), (0, 7, 4, 5), (0, 7, 3, 4), (0, 7, 2, 2), (0, 7, 2, 6), (0, 7, 1, 2), (0, 7, 2, 3), (0, 7, 1, 2), (0, 7, 1, 2), (0, 7, 1, 4), (0, 7, 1, 4), (0, 7, 1, 5), (0, 7, 1, 1), (0, 7, 2, 2), (0, 7, 1, 1), (0, 7, 2, 2), (1, 7, 1, 5), (0, 7, 2, 2), (0, 7, 1, 1), (0, 7, 3, 3), (0, 7, 2, 5), (0, 7, 2, 5), (0, 7, 2, 3), (0, 7, 2, 3), (2, 7, 2, 4), (1, 7, 2, 7), (2, 8, 1, 2), (0, 8, 3, 3), (0, 8, 2, 2), (0, 8, 1, 3), (0, 8, 2, 2), (0, 8, 2, 2), (0, 8, 1, 1), (0, 8, 2, 2), (0, 8, 3, 3), (0, 8, 1, 1), (0, 8, 1, 1), (0, 8, 3, 3), (0, 8, 3, 4), (0, 8, 4, 5), (0, 8, 3, 3), (0, 8, 2, 2), (0, 8, 6, 7), (0, 8, 2, 5), (0, 8, 1, 1), (0, 8, 3, 4), (0, 8, 4, 5), (0, 8, 3, 3), (0, 8, 3, 4), (0, 8, 4, 5), (0, 8, 4, 6), (0, 8, 2, 3), (0, 8, 2, 3), (0, 8, 2, 7), (0, 8, 3, 4), (0, 8, 2, 3), (0, 8, 2, 3), (0, 8, 2, 2), (0, 8, 2, 2), (0, 8, 2, 2), (0, 8, 2, 3), (0, 8, 2, 2), (0, 8, 2, 2), (0, 8, 2, 2), (0, 8, 2, 2), (0, 8, 2, 2), (0, 8, 2, 2), (0, 8, 2, 2), (0, 8, 2, 2), (0, 8, 2, 2), (0, 8, 2, 2), (0, 8, 2, 2), (0, 8, 4, 6), (0, 8, 4, 6), (0, 8, 3, 3), (0, 8, 3, 5), (0, 8, 3, 3), (0, 8, 3, 5), (0, 8, 3, 3), (0, 8, 3, 4), (0, 8, 4, 4), (0, 8, 4, 4), (0, 8, 2, 2), (0, 8, 2, 2), (0, 8, 3, 3), (0, 8, 3, 4), (0, 8, 3, 5), (0, 8, 4, 6), (0, 8, 3, 5), (0, 8, 3, 6), (0, 8, 3, 7), (0, 8, 1, 3), (0, 8, 1, 1), (0, 8, 3, 3), (0, 8, 2, 5), (0, 8, 2, 2), (0, 8, 3, 5), (0, 8, 3, 5), (0, 8, 2, 3), (0, 8, 2, 4), (0, 8, 1, 1), (0, 8, 4, 8), (0, 8, 3, 3), (0, 8, 3, 4), (0, 8, 3, 5), (0, 8, 4, 7), (0, 8, 4, 8), (0, 8, 4, 5), (0, 8, 2, 4), (0, 8, 3, 7), (2, 8, 2, 4), (0, 8, 2, 3), (2, 8, 2, 3), (2, 8, 2, 3), (2, 8, 2, 8), (0, 8, 2, 7), (0, 8, 3, 5), (0, 8, 2, 2), (0, 8, 2, 4), (0, 8, 3, 6), (0, 8, 2, 7), (0, 8, 1, 3), (0, 8, 1, 3), (0, 8, 1, 3), (2, 8, 2, 4), (2, 8, 2, 4), (0, 8, 2, 3), (0, 8, 1, 1), (0, 8, 1, 1), (0, 8, 2, 5), (0, 8, 1, 1), (0, 8, 1, 1), (0, 8, 1, 5), (0, 8, 2, 4), (0, 8, 1, 4), (0, 8, 1, 4), (0, 8, 2, 4), (0, 8, 2, 2), (2, 8, 2, 3), (2, 8, 1, 3), (1, 8, 1, 3), (0, 9, 1, 4)]
def z_mt (x : Nat) : Nat × Nat × Nat × Nat := match z_mtl[x]? with
  | some q => q
  | none => (9, 99, 0, 0)
abbrev z_mr (x : Nat) : Nat := (z_mt x).1
abbrev z_mc (x : Nat) : Nat := (z_mt x).2.1
abbrev z_mn (x : Nat) : Nat := (z_mt x).2.2.1
abbrev z_ml (x : Nat) : Nat := (z_mt x).2.2.2
def z_sn (x y : Nat) : Int := match y with
  | 0 => (x : Int)
  | _ => -(x : Int)
/-- the kind of each class's fields: 0 int, 1 cell, 2 long, 3 boolean -/
def z_fkl : List (List Nat) := [[0, 0, 0, 0, 1, 1, 1, 1, 1, 1, 1, 1, 1, 1, 1, 1, 1, 1, 1], [1, 0, 0, 0, 0, 0, 1], [1], [1, 1, 1, 0, 1, 1, 1], [0, 1], [0, 1, 1, 0, 0, 3, 0, 0, 0, 0, 1, 1, 1, 1, 1, 1, 1], [1, 1], [1, 1, 1, 1, 1, 1, 1, 1, 1, 1, 1, 1, 0, 0], [0, 1, 0, 1, 1, 1, 1, 1, 0, 0, 0, 0, 0, 0, 1, 1, 1, 1, 1, 0, 0, 0, 0, 0, 0, 0, 0, 1, 1, 1, 1, 1, 1, 1, 1, 1, 1, 1, 1, 0, 0, 3, 0, 0, 0, 0, 1, 2]]
def z_fk (c k : Nat) : Nat := match z_fkl[c]? with
  | some l => l.getD k 9
  | none => 9
end
section
/-! ONE INSTRUCTION, in the style of what goes on behind it (K), with the calls' answers (C). Beside the instruction stand three numbers x, y, z: what it links to.
getfield, putfield: class, field, kind of the field (0 int, 1 cell, 2 long, 3 boolean); rows: the row's kind (1: the script); calls: method, arguments (the object too), kind (0 virtual, 1 static, 2 constructor, 10 max, 11 min, 12 arraycopy, 13 Object's constructor) -/
def z_pi (st : List z_V) (f : Int32 → List z_V → z_O) : z_O := match st with
  | .inl x :: r => f x r
  | _ => none
def z_pr (st : List z_V) (f : Nat → List z_V → z_O) : z_O := match st with
  | .inr (.inl x) :: r => f x r
  | _ => none
def z_pl (st : List z_V) (f : Int64 → List z_V → z_O) : z_O := match st with
  | .inr (.inr x) :: r => f x r
  | _ => none
/-- a guard that its own text decides -/
def z_sg (b : Bool) (x : z_O) : z_O := match b with
  | true => x
  | false => none
def z_ob (h : z_Hp) (a c : Nat) : Bool := Nat.beq (z_kd a).1 c && Nat.blt a (h.1 + 2)
def z_in (i : Int32) (n : Nat) : Bool := !(decide (i < 0)) && Nat.blt i.toNatClampNeg n
def z_ar (h : z_Hp) (a t : Nat) (i : Int32) : Bool := Nat.beq (z_kd a).1 t && Nat.blt a (h.1 + 2) && z_in i (z_kd a).2
def z_bo (v : Int32) : Bool := decide (v = 0) || decide (v = 1)
def z_i0 (K : z_K) (ins : Jvm.ClassFile.Instr) (x y : Nat) (pc : Nat) (ls : z_Ls) (st : List z_V) (h : z_Hp) : z_O := match ins with
  | .iload k => z_ldi ls k (fun v => K (pc + 2) ls (z_vi v :: st) h)
  | .iload_n k => z_ldi ls k.val (fun v => K (pc + 1) ls (z_vi v :: st) h)
  | .aload_n k => z_ldr ls k.val (fun v => K (pc + 1) ls (z_vr v :: st) h)
  | .lload_n k => z_ldl ls k.val (fun v => K (pc + 1) ls (z_vl v :: st) h)
  | .istore k => z_pi st (fun v r => z_sg (z_sk ls k) (K (pc + 2) (ls.set k (some (z_vi v))) r h))
  | .istore_n k => z_pi st (fun v r => z_sg (z_sk ls k.val) (K (pc + 1) (ls.set k.val (some (z_vi v))) r h))
  | .astore_n k => z_pr st (fun v r => z_sg (z_sk ls k.val) (K (pc + 1) (ls.set k.val (some (z_vr v))) r h))
  | .lstore_n k => z_pl st (fun v r => z_sg (z_sk ls k.val && Nat.blt (k.val + 1) ls.length) (K (pc + 1) ((ls.set k.val (some (z_vl v))).set (k.val + 1) none) r h))
  | .iinc k n => z_ldi ls k (fun v => z_sg (z_sk ls k) (K (pc + 3) (ls.set k (some (z_vi (v + Int32.ofInt n)))) st h))
  | .iconst n => K (pc + 1) ls (z_vi (Int32.ofInt n) :: st) h
  | .bipush n => K (pc + 2) ls (z_vi (Int8.ofInt n).toInt32 :: st) h
  | .sipush n => K (pc + 3) ls (z_vi (Int16.ofInt n).toInt32 :: st) h
  | .lconst n => K (pc + 1) ls (z_vl (Int64.ofNat n.val) :: st) h
  | .ldc _ => K (pc + 2) ls (z_vi (Int32.ofInt (z_sn x y)) :: st) h
  | .ldc2_w _ => K (pc + 3) ls (z_vl (Int64.ofInt (z_sn x y)) :: st) h
  | .pop => match st with
    | v :: r => z_sg (Nat.beq (z_cat v) 1) (K (pc + 1) ls r h)
    | [] => none
  | .dup => match st with
    | v :: r => z_sg (Nat.beq (z_cat v) 1) (K (pc + 1) ls (v :: v :: r) h)
    | [] => none
  | .dup2 => match st with
    | .inr (.inr v) :: r => K (pc + 1) ls (z_vl v :: z_vl v :: r) h
    | v :: w :: r => z_sg (Nat.beq (z_cat v) 1 && Nat.beq (z_cat w) 1) (K (pc + 1) ls (v :: w :: v :: w :: r) h)
    | _ => none
  | _ => none
def z_i1 (K : z_K) (ins : Jvm.ClassFile.Instr) (pc : Nat) (ls : z_Ls) (st : List z_V) (h : z_Hp) : z_O := match ins with
  | .iadd => z_pi st (fun w r => z_pi r (fun v r => K (pc + 1) ls (z_vi (v + w) :: r) h))
  | .isub => z_pi st (fun w r => z_pi r (fun v r => K (pc + 1) ls (z_vi (v - w) :: r) h))
  | .imul => z_pi st (fun w r => z_pi r (fun v r => K (pc + 1) ls (z_vi (v * w) :: r) h))
  | .iand => z_pi st (fun w r => z_pi r (fun v r => K (pc + 1) ls (z_vi (v &&& w) :: r) h))
  | .ior => z_pi st (fun w r => z_pi r (fun v r => K (pc + 1) ls (z_vi (v ||| w) :: r) h))
  | .ixor => z_pi st (fun w r => z_pi r (fun v r => K (pc + 1) ls (z_vi (v ^^^ w) :: r) h))
  | .ishl => z_pi st (fun w r => z_pi r (fun v r => K (pc + 1) ls (z_vi (v <<< (w &&& 31)) :: r) h))
  | .ishr => z_pi st (fun w r => z_pi r (fun v r => K (pc + 1) ls (z_vi (v >>> (w &&& 31)) :: r) h))
  | .idiv => z_pi st (fun w r => z_pi r (fun v r => z_gd (!(decide (w = 0))) (K (pc + 1) ls (z_vi (v / w) :: r) h)))
  | .irem => z_pi st (fun w r => z_pi r (fun v r => z_gd (!(decide (w = 0))) (K (pc + 1) ls (z_vi (v - v / w * w) :: r) h)))
  | .ineg => z_pi st (fun v r => K (pc + 1) ls (z_vi (-v) :: r) h)
  | .i2l => z_pi st (fun v r => K (pc + 1) ls (z_vl v.toInt64 :: r) h)
  | .i2b => z_pi st (fun v r => K (pc + 1) ls (z_vi v.toInt8.toInt32 :: r) h)
  | .l2i => z_pl st (fun v r => K (pc + 1) ls (z_vi v.toInt32 :: r) h)
  | .ladd => z_pl st (fun w r => z_pl r (fun v r => K (pc + 1) ls (z_vl (v + w) :: r) h))
  | .lmul => z_pl st (fun w r => z_pl r (fun v r => K (pc + 1) ls (z_vl (v * w) :: r) h))
  | .land => z_pl st (fun w r => z_pl r (fun v r => K (pc + 1) ls (z_vl (v &&& w) :: r) h))
  | .lor => z_pl st (fun w r => z_pl r (fun v r => K (pc + 1) ls (z_vl (v ||| w) :: r) h))
  | .ldiv => z_pl st (fun w r => z_pl r (fun v r => z_gd (!(decide (w = 0))) (K (pc + 1) ls (z_vl (v / w) :: r) h)))
  | .lshl => z_pi st (fun w r => z_pl r (fun v r => K (pc + 1) ls (z_vl (v <<< (w.toInt64 &&& 63)) :: r) h))
  | .lshr => z_pi st (fun w r => z_pl r (fun v r => K (pc + 1) ls (z_vl (v >>> (w.toInt64 &&& 63)) :: r) h))
  | .lcmp => z_pl st (fun w r => z_pl r (fun v r => K (pc + 1) ls (z_vi (lg_cmp v w) :: r) h))
  | _ => none
def z_br (c : Jvm.ClassFile.Cond) (x y : Int32) (A B : z_O) : z_O := match c with
  | .eq => if x = y then A else B
  | .ne => if x = y then B else A
  | .lt => if x < y then A else B
  | .ge => if x < y then B else A
  | .gt => if y < x then A else B
  | .le => if y < x then B else A
def z_tg (pc : Nat) (o : Int) : Nat := ((pc : Int) + o).toNat
def z_i2 (K : z_K) (ins : Jvm.ClassFile.Instr) (z : Nat) (pc : Nat) (ls : z_Ls) (st : List z_V) (h : z_Hp) : z_O := match ins with
  | .if_icmp c o => z_pi st (fun w r => z_pi r (fun v r => z_br c v w (K (z_tg pc o) ls r h) (K (pc + 3) ls r h)))
  | .ifCond c o => z_pi st (fun v r => z_br c v 0 (K (z_tg pc o) ls r h) (K (pc + 3) ls r h))
  | .goto o => K (z_tg pc o) ls st h
  | .tableswitch d lo _ os => z_pi st (fun v r => z_sw (fun p => K p ls r h) pc v d (z_tp lo os.toList))
  | .lookupswitch d ps => z_pi st (fun v r => z_sw (fun p => K p ls r h) pc v d ps.toList)
  | .ireturn => match st with
    | [.inl v] => match z with
      | 3 => z_gd (z_bo v) (some (some (z_vi v), h))
      | _ => some (some (z_vi v), h)
    | _ => none
  | .lreturn => match st with
    | [.inr (.inr v)] => some (some (z_vl v), h)
    | _ => none
  | .return_ => match st with
    | [] => some (none, h)
    | _ => none
  | _ => none
def z_gv (h : z_Hp) (a y z : Nat) : z_V := match z with
  | 1 => z_vr (z_F h a y)
  | 2 => z_vl (z_J h a y)
  | _ => z_vi (z_I h a y)
def z_i3 (sc : z_Sc) (K : z_K) (ins : Jvm.ClassFile.Instr) (x y z : Nat) (pc : Nat) (ls : z_Ls) (st : List z_V) (h : z_Hp) : z_O := match ins with
  | .getfield _ => z_pr st (fun a r => z_gd (z_ob h a x) (K (pc + 3) ls (z_gv h a y z :: r) h))
  | .putfield _ => match z with
    | 0 => z_pi st (fun v r => z_pr r (fun a r => z_gd (z_ob h a x) (K (pc + 3) ls r (z_sI h a y v))))
    | 1 => z_pr st (fun v r => z_pr r (fun a r => z_gd (z_ob h a x) (K (pc + 3) ls r (z_sF h a y v))))
    | 2 => z_pl st (fun v r => z_pr r (fun a r => z_gd (z_ob h a x) (K (pc + 3) ls r (z_sJ h a y v))))
    | _ => z_pi st (fun v r => z_pr r (fun a r => z_gd (z_ob h a x && z_bo v) (K (pc + 3) ls r (z_sI h a y v))))
  | .iaload => match x with
    | 1 => z_pi st (fun i r => z_pr r (fun a r => z_gd (Nat.beq a 1 && z_in i sc.1) (K (pc + 1) ls (z_vi (sc.2 i.toNatClampNeg) :: r) h)))
    | _ => z_pi st (fun i r => z_pr r (fun a r => z_gd (z_ar h a 10 i) (K (pc + 1) ls (z_vi (z_I h a i.toNatClampNeg) :: r) h)))
  | .baload => z_pi st (fun i r => z_pr r (fun a r => z_gd (z_ar h a x i) (K (pc + 1) ls (z_vi (z_I h a i.toNatClampNeg) :: r) h)))
  | .laload => z_pi st (fun i r => z_pr r (fun a r => z_gd (z_ar h a 11 i) (K (pc + 1) ls (z_vl (z_J h a i.toNatClampNeg) :: r) h)))
  | .aaload => z_pi st (fun i r => z_pr r (fun a r => z_gd (z_ar h a x i) (K (pc + 1) ls (z_vr (z_F h a i.toNatClampNeg) :: r) h)))
  | .iastore => z_pi st (fun v r => z_pi r (fun i r => z_pr r (fun a r => z_gd (z_ar h a 10 i) (K (pc + 1) ls r (z_sI h a i.toNatClampNeg v)))))
  | .bastore => match x with
    | 12 => z_pi st (fun v r => z_pi r (fun i r => z_pr r (fun a r => z_gd (z_ar h a 12 i) (K (pc + 1) ls r (z_sI h a i.toNatClampNeg v.toInt8.toInt32)))))
    | _ => z_pi st (fun v r => z_pi r (fun i r => z_pr r (fun a r => z_gd (z_ar h a 13 i && z_bo v) (K (pc + 1) ls r (z_sI h a i.toNatClampNeg v)))))
  | .lastore => z_pl st (fun v r => z_pi r (fun i r => z_pr r (fun a r => z_gd (z_ar h a 11 i) (K (pc + 1) ls r (z_sJ h a i.toNatClampNeg v)))))
  | .aastore => z_pr st (fun v r => z_pi r (fun i r => z_pr r (fun a r => z_gd (z_ar h a 14 i && z_ob h v 4) (K (pc + 1) ls r (z_sF h a i.toNatClampNeg v)))))
  | .arraylength => match x with
    | 1 => z_pr st (fun a r => z_gd (Nat.beq a 1) (K (pc + 1) ls (z_vi (Int32.ofNat sc.1) :: r) h))
    | _ => z_pr st (fun a r => z_gd (Nat.beq (z_kd a).1 x && Nat.blt a (h.1 + 2)) (K (pc + 1) ls (z_vi (Int32.ofNat (z_kd a).2) :: r) h))
  | .new _ => z_gd (Nat.beq (z_kd (h.1 + 2)).1 x) (K (pc + 3) ls (z_vr (h.1 + 2) :: st) (z_nw h))
  | .newarray _ => z_pi st (fun n r => z_gd (Nat.beq (z_kd (h.1 + 2)).1 x && (!(decide (n < 0)) && Nat.beq (z_kd (h.1 + 2)).2 n.toNatClampNeg)) (K (pc + 2) ls (z_vr (h.1 + 2) :: r) (z_nw h)))
  | .anewarray _ => z_pi st (fun n r => z_gd (Nat.beq (z_kd (h.1 + 2)).1 14 && (!(decide (n < 0)) && Nat.beq (z_kd (h.1 + 2)).2 n.toNatClampNeg)) (K (pc + 3) ls (z_vr (h.1 + 2) :: r) (z_nw h)))
  | .multianewarray _ _ => z_pi st (fun k r => z_pi r (fun n r => z_gd ((Nat.beq (z_kd (h.1 + 2)).1 15 && (!(decide (n < 0)) && Nat.beq (z_kd (h.1 + 2)).2 n.toNatClampNeg)) && (!(decide (k < 0)) && (List.range n.toNatClampNeg).all (fun i => Nat.beq (z_kd (h.1 + 3 + i)).1 10 && Nat.beq (z_kd (h.1 + 3 + i)).2 k.toNatClampNeg))) (K (pc + 4) ls (z_vr (h.1 + 2) :: r) (z_nwm h n.toNatClampNeg))))
  | _ => none
/-- a call's answer by its kind: 0 int, 1 long, 2 nothing -/
def z_rt (q : Nat) (o : z_O) (K : z_K) (pc : Nat) (ls : z_Ls) (r : List z_V) : z_O := match q with
  | 0 => z_ci o (fun v h => K (pc + 3) ls (z_vi v :: r) h)
  | 1 => z_cl o (fun v h => K (pc + 3) ls (z_vl v :: r) h)
  | _ => z_cv o (fun h => K (pc + 3) ls r h)
def z_rc (h : z_Hp) (as : List z_V) (c : Nat) (x : z_O) : z_O := match as with
  | .inr (.inl a) :: _ => z_gd (z_ob h a c) x
  | _ => none
def z_i4 (C : z_C) (K : z_K) (x y z : Nat) (pc : Nat) (ls : z_Ls) (st : List z_V) (h : z_Hp) : z_O := match z with
  | 1 => z_sg (Nat.ble y st.length && Nat.ble (z_cats (st.drop y)) 8) (z_rt (z_mr x) (C x (st.take y).reverse h) K pc ls (st.drop y))
  | 10 => z_pi st (fun w r => z_pi r (fun v r => z_sg (Nat.ble (z_cats r) 8) (K (pc + 3) ls (z_vi (if v < w then w else v) :: r) h)))
  | 11 => z_pi st (fun w r => z_pi r (fun v r => z_sg (Nat.ble (z_cats r) 8) (K (pc + 3) ls (z_vi (if w < v then w else v) :: r) h)))
  | 12 => z_pi st (fun n r => z_pi r (fun dp r => z_pr r (fun b r => z_pi r (fun sp r => z_pr r (fun a r => z_sg (Nat.ble (z_cats r) 8) (z_gd ((Nat.beq (z_kd a).1 10 && Nat.blt a (h.1 + 2)) && (Nat.beq (z_kd b).1 10 && Nat.blt b (h.1 + 2)) && (!(decide (sp < 0)) && !(decide (dp < 0)) && !(decide (n < 0))) && (Nat.ble (sp.toNatClampNeg + n.toNatClampNeg) (z_kd a).2 && Nat.ble (dp.toNatClampNeg + n.toNatClampNeg) (z_kd b).2)) (K (pc + 3) ls r (z_cpI h a sp.toNatClampNeg b dp.toNatClampNeg n.toNatClampNeg))))))))
  | 13 => z_pr st (fun a r => z_sg (Nat.ble (z_cats r) 8) (z_gd (!(Nat.beq a 0)) (K (pc + 3) ls r h)))
  | _ => z_sg (Nat.ble y st.length && Nat.ble (z_cats (st.drop y)) 8) (z_rc h (st.take y).reverse (z_mc x) (z_rt (z_mr x) (C x (st.take y).reverse h) K pc ls (st.drop y)))
/-- a row of the program: group, instruction, what it links to (x, y, z), where its word stands in the tables (t, i) -/
abbrev z_En : Type := Nat × Jvm.ClassFile.Instr × Nat × Nat × Nat × Nat × Nat
def z_st (sc : z_Sc) (C : z_C) (K : z_K) (en : Option z_En) (pc : Nat) (ls : z_Ls) (st : List z_V) (h : z_Hp) : z_O := match en with
  | some (g, ins, x, y, z, _, _) => match g with
    | 0 => z_i0 K ins x y pc ls st h
    | 1 => z_i1 K ins pc ls st h
    | 2 => z_i2 K ins z pc ls st h
    | 3 => z_i3 sc K ins x y z pc ls st h
    | _ => z_i4 C K x y z pc ls st h
  | none => none
end
section
/-! RUNS: so many steps, calls so deep; their limit; its equation; unfolding by a bounded number of steps -/
abbrev z_Pg : Type := List (Nat × Nat × z_En)
def z_gt : z_Pg → Nat → Option z_En
  | [], _ => none
  | q :: r, pc => match Nat.beq q.1 pc with
    | true => some q.2.2
    | false => z_gt r pc
def z_rn (sc : z_Sc) (C : z_C) (L : z_Pg) : Nat → z_K
  | 0 => fun _ _ _ _ => none
  | n + 1 => fun pc ls st h => z_st sc C (z_rn sc C L n) (z_gt L pc) pc ls st h
def z_lay : List z_V → z_Ls
  | [] => []
  | .inr (.inr v) :: r => some (z_vl v) :: none :: z_lay r
  | v :: r => some v :: z_lay r
def z_ent (as : List z_V) (n : Nat) : z_Ls := z_lay as ++ List.replicate (n - (z_lay as).length) none
def z_ca (P : Nat → z_Pg) (sc : z_Sc) (n : Nat) : Nat → z_C
  | 0 => fun _ _ _ => none
  | d + 1 => fun M as h => z_rn sc (z_ca P sc n d) (P M) n 0 (z_ent as (z_ml M)) [] h
noncomputable def z_lim (f : Nat → z_O) : z_O := @dite _ (∃ n r, f n = some r) (Classical.propDecidable _) (fun h => some h.choose_spec.choose) (fun _ => none)
/-- what a call so deep answers; what a run of a method's rows, its calls so deep, comes to -/
noncomputable def z_se (P : Nat → z_Pg) (sc : z_Sc) (d : Nat) : z_C := fun M as h => z_lim (fun n => z_ca P sc n d M as h)
noncomputable def z_ev (P : Nat → z_Pg) (sc : z_Sc) (d : Nat) (L : z_Pg) : z_K := fun pc ls st h => z_lim (fun n => z_rn sc (z_ca P sc n d) L n pc ls st h)
theorem z_mono_add {f : Nat → z_O} (hm : ∀ n r, f n = some r → f (n + 1) = some r) : ∀ (k n : Nat) (r : z_R), f n = some r → f (n + k) = some r
  | 0, _, _, h => h
  | k + 1, n, r, h => hm _ _ (z_mono_add hm k n r h)
theorem z_mono_le {f : Nat → z_O} (hm : ∀ n r, f n = some r → f (n + 1) = some r) {n k : Nat} {r : z_R} (hk : n ≤ k) (h : f n = some r) : f k = some r := by
  have := z_mono_add hm (k - n) n r h
  rwa [show n + (k - n) = k by omega] at this
theorem z_lim_some {f : Nat → z_O} (hm : ∀ n r, f n = some r → f (n + 1) = some r) (r : z_R) : z_lim f = some r ↔ ∃ n, f n = some r := by
  unfold z_lim
  by_cases h : ∃ n r, f n = some r
  · rw [dif_pos h]
    have h1 := h.choose_spec.choose_spec
    constructor
    · intro e
      cases e
      exact ⟨_, h1⟩
    · rintro ⟨n, hn⟩
      have a := z_mono_le hm (Nat.le_max_left n h.choose) hn
      have b := z_mono_le hm (Nat.le_max_right n h.choose) h1
      rw [a] at b
      cases b
      rfl
  · rw [dif_neg h]
    constructor
    · intro e
      cases e
    · rintro ⟨n, hn⟩
      exact absurd ⟨n, r, hn⟩ h
/-! what an instruction does, whatever goes on behind it -/
abbrev z_A : Type := Option ((Nat × z_Ls × List z_V × z_Hp) ⊕ (z_R ⊕ (Nat × List z_V × z_Hp × Nat × Nat × z_Ls × List z_V)))
def z_do (a : z_A) (C : z_C) (K : z_K) : z_O := match a with
  | none => none
  | some (.inl s) => K s.1 s.2.1 s.2.2.1 s.2.2.2
  | some (.inr (.inl r)) => some r
  | some (.inr (.inr s)) => z_rt s.2.2.2.1 (C s.1 s.2.1 s.2.2.1) K s.2.2.2.2.1 s.2.2.2.2.2.1 s.2.2.2.2.2.2
def z_ge (h : z_Hp) (a : z_A) : Prop := match a with
  | none => True
  | some (.inl s) => h.1 ≤ s.2.2.2.1
  | some (.inr (.inl r)) => h.1 ≤ r.2.1
  | some (.inr (.inr s)) => h.1 ≤ s.2.2.1.1
def z_Fm (h : z_Hp) (f : z_C → z_K → z_O) : Prop := ∃ a : z_A, (∀ C K, f C K = z_do a C K) ∧ z_ge h a
theorem fm_none {h : z_Hp} : z_Fm h (fun _ _ => none) := ⟨none, fun _ _ => rfl, trivial⟩
theorem fm_some {h : z_Hp} {r : z_R} (hr : h.1 ≤ r.2.1) : z_Fm h (fun _ _ => some r) := ⟨some (.inr (.inl r)), fun _ _ => rfl, hr⟩
theorem fm_K {h h' : z_Hp} {pc : Nat} {ls : z_Ls} {st : List z_V} (hh : h.1 ≤ h'.1) : z_Fm h (fun _ K => K pc ls st h') := ⟨some (.inl (pc, ls, st, h')), fun _ _ => rfl, hh⟩
theorem fm_rt {h h' : z_Hp} {q x pc : Nat} {as : List z_V} {ls : z_Ls} {r : List z_V} (hh : h.1 ≤ h'.1) : z_Fm h (fun C K => z_rt q (C x as h') K pc ls r) := ⟨some (.inr (.inr (x, as, h', q, pc, ls, r))), fun _ _ => rfl, hh⟩
theorem fm_gd {h : z_Hp} {b : Bool} {f : z_C → z_K → z_O} (hf : z_Fm h f) : z_Fm h (fun C K => z_gd b (f C K)) := by
  cases b
  · exact fm_none
  · exact hf
theorem fm_sg {h : z_Hp} {b : Bool} {f : z_C → z_K → z_O} (hf : z_Fm h f) : z_Fm h (fun C K => z_sg b (f C K)) := by
  cases b
  · exact fm_none
  · exact hf
theorem fm_ite {h : z_Hp} {c : Prop} [i : Decidable c] {f g : z_C → z_K → z_O} (hf : z_Fm h f) (hg : z_Fm h g) : z_Fm h (fun C K => if c then f C K else g C K) := by
  by_cases q : c
  · simp only [if_pos q]
    exact hf
  · simp only [if_neg q]
    exact hg
theorem fm_ldi {h : z_Hp} {ls : z_Ls} {k : Nat} {f : Int32 → z_C → z_K → z_O} (hf : ∀ x, z_Fm h (f x)) : z_Fm h (fun C K => z_ldi ls k (fun x => f x C K)) := by
  unfold z_ldi
  rcases ls[k]? with _ | _ | x | x | x
  · exact fm_none
  · exact fm_none
  · exact hf x
  · exact fm_none
  · exact fm_none
theorem fm_ldr {h : z_Hp} {ls : z_Ls} {k : Nat} {f : Nat → z_C → z_K → z_O} (hf : ∀ x, z_Fm h (f x)) : z_Fm h (fun C K => z_ldr ls k (fun x => f x C K)) := by
  unfold z_ldr
  rcases ls[k]? with _ | _ | x | x | x
  · exact fm_none
  · exact fm_none
  · exact fm_none
  · exact hf x
  · exact fm_none
theorem fm_ldl {h : z_Hp} {ls : z_Ls} {k : Nat} {f : Int64 → z_C → z_K → z_O} (hf : ∀ x, z_Fm h (f x)) : z_Fm h (fun C K => z_ldl ls k (fun x => f x C K)) := by
  unfold z_ldl
  rcases ls[k]? with _ | _ | x | x | x
  · exact fm_none
  · exact fm_none
  · exact fm_none
  · exact fm_none
  · exact hf x
theorem fm_pi {h : z_Hp} {st : List z_V} {f : Int32 → List z_V → z_C → z_K → z_O} (hf : ∀ x r, z_Fm h (f x r)) : z_Fm h (fun C K => z_pi st (fun x r => f x r C K)) := by
  unfold z_pi
  rcases st with _ | ⟨x | x | x, r⟩
  · exact fm_none
  · exact hf x r
  · exact fm_none
  · exact fm_none
theorem fm_pr {h : z_Hp} {st : List z_V} {f : Nat → List z_V → z_C → z_K → z_O} (hf : ∀ x r, z_Fm h (f x r)) : z_Fm h (fun C K => z_pr st (fun x r => f x r C K)) := by
  unfold z_pr
  rcases st with _ | ⟨x | x | x, r⟩
  · exact fm_none
  · exact fm_none
  · exact hf x r
  · exact fm_none
theorem fm_pl {h : z_Hp} {st : List z_V} {f : Int64 → List z_V → z_C → z_K → z_O} (hf : ∀ x r, z_Fm h (f x r)) : z_Fm h (fun C K => z_pl st (fun x r => f x r C K)) := by
  unfold z_pl
  rcases st with _ | ⟨x | x | x, r⟩
  · exact fm_none
  · exact fm_none
  · exact fm_none
  · exact hf x r
theorem fm_rc {h h' : z_Hp} {as : List z_V} {c : Nat} {f : z_C → z_K → z_O} (hf : z_Fm h f) : z_Fm h (fun C K => z_rc h' as c (f C K)) := by
  unfold z_rc
  rcases as with _ | ⟨x | x | x, r⟩
  · exact fm_none
  · exact fm_none
  · exact fm_gd hf
  · exact fm_none
theorem fm_br {h : z_Hp} {c : Jvm.ClassFile.Cond} {x y : Int32} {f g : z_C → z_K → z_O} (hf : z_Fm h f) (hg : z_Fm h g) : z_Fm h (fun C K => z_br c x y (f C K) (g C K)) := by
  unfold z_br
  cases c
  · exact fm_ite hf hg
  · exact fm_ite hg hf
  · exact fm_ite hf hg
  · exact fm_ite hg hf
  · exact fm_ite hf hg
  · exact fm_ite hg hf
theorem fm_sw {h : z_Hp} {ls : z_Ls} {st : List z_V} {pc : Nat} {x : Int32} {d : Int} : ∀ l : List (Int × Int), z_Fm h (fun _ K => z_sw (fun p => K p ls st h) pc x d l)
  | [] => fm_K (Nat.le_refl _)
  | q :: r => by
    unfold z_sw
    exact fm_ite (fm_K (Nat.le_refl _)) (fm_sw r)
theorem z_fm0 (ins : Jvm.ClassFile.Instr) (x y pc : Nat) (ls : z_Ls) (st : List z_V) (h : z_Hp) : z_Fm h (fun _ K => z_i0 K ins x y pc ls st h) := by
  unfold z_i0
  split
  all_goals first
    | exact fm_none
    | exact fm_K (Nat.le_refl _)
    | exact fm_ldi fun _ => fm_K (Nat.le_refl _)
    | exact fm_ldi fun _ => fm_sg (fm_K (Nat.le_refl _))
    | exact fm_ldr fun _ => fm_K (Nat.le_refl _)
    | exact fm_ldl fun _ => fm_K (Nat.le_refl _)
    | exact fm_pi fun _ _ => fm_sg (fm_K (Nat.le_refl _))
    | exact fm_pr fun _ _ => fm_sg (fm_K (Nat.le_refl _))
    | exact fm_pl fun _ _ => fm_sg (fm_K (Nat.le_refl _))
    | (split <;> first | exact fm_none | exact fm_K (Nat.le_refl _) | exact fm_sg (fm_K (Nat.le_refl _)))
theorem z_fm1 (ins : Jvm.ClassFile.Instr) (pc : Nat) (ls : z_Ls) (st : List z_V) (h : z_Hp) : z_Fm h (fun _ K => z_i1 K ins pc ls st h) := by
  unfold z_i1
  split
  all_goals first
    | exact fm_none
    | exact fm_pi fun _ _ => fm_K (Nat.le_refl _)
    | exact fm_pl fun _ _ => fm_K (Nat.le_refl _)
    | exact fm_pi fun _ _ => fm_pi fun _ _ => fm_K (Nat.le_refl _)
    | exact fm_pi fun _ _ => fm_pi fun _ _ => fm_gd (fm_K (Nat.le_refl _))
    | exact fm_pl fun _ _ => fm_pl fun _ _ => fm_K (Nat.le_refl _)
    | exact fm_pl fun _ _ => fm_pl fun _ _ => fm_gd (fm_K (Nat.le_refl _))
    | exact fm_pi fun _ _ => fm_pl fun _ _ => fm_K (Nat.le_refl _)
theorem z_fm2 (ins : Jvm.ClassFile.Instr) (z pc : Nat) (ls : z_Ls) (st : List z_V) (h : z_Hp) : z_Fm h (fun _ K => z_i2 K ins z pc ls st h) := by
  unfold z_i2
  split
  all_goals first
    | exact fm_none
    | exact fm_K (Nat.le_refl _)
    | exact fm_pi fun _ _ => fm_pi fun _ _ => fm_br (fm_K (Nat.le_refl _)) (fm_K (Nat.le_refl _))
    | exact fm_pi fun _ _ => fm_br (fm_K (Nat.le_refl _)) (fm_K (Nat.le_refl _))
    | exact fm_pi fun _ _ => fm_sw _
    | (split <;> first | exact fm_none | exact fm_some (Nat.le_refl _) | (split <;> first | exact fm_gd (fm_some (Nat.le_refl _)) | exact fm_some (Nat.le_refl _)))
theorem z_fm3 (sc : z_Sc) (ins : Jvm.ClassFile.Instr) (x y z pc : Nat) (ls : z_Ls) (st : List z_V) (h : z_Hp) : z_Fm h (fun _ K => z_i3 sc K ins x y z pc ls st h) := by
  have hn : h.1 ≤ (z_nw h).1 := Nat.le_succ _
  have hm : ∀ n, h.1 ≤ (z_nwm h n).1 := fun n => by show h.1 ≤ h.1 + 1 + n; omega
  unfold z_i3
  split
  all_goals first
    | exact fm_none
    | exact fm_gd (fm_K hn)
    | exact fm_pr fun _ _ => fm_gd (fm_K (Nat.le_refl _))
    | exact fm_pi fun _ _ => fm_gd (fm_K hn)
    | exact fm_pi fun _ _ => fm_pr fun _ _ => fm_gd (fm_K (Nat.le_refl _))
    | exact fm_pi fun _ _ => fm_pi fun _ _ => fm_pr fun _ _ => fm_gd (fm_K (Nat.le_refl _))
    | exact fm_pl fun _ _ => fm_pi fun _ _ => fm_pr fun _ _ => fm_gd (fm_K (Nat.le_refl _))
    | exact fm_pr fun _ _ => fm_pi fun _ _ => fm_pr fun _ _ => fm_gd (fm_K (Nat.le_refl _))
    | exact fm_pi fun _ _ => fm_pi fun _ _ => fm_gd (fm_K (hm _))
    | (split <;> first
        | exact fm_pi fun _ _ => fm_pr fun _ _ => fm_gd (fm_K (Nat.le_refl _))
        | exact fm_pr fun _ _ => fm_pr fun _ _ => fm_gd (fm_K (Nat.le_refl _))
        | exact fm_pl fun _ _ => fm_pr fun _ _ => fm_gd (fm_K (Nat.le_refl _))
        | exact fm_pi fun _ _ => fm_pi fun _ _ => fm_pr fun _ _ => fm_gd (fm_K (Nat.le_refl _))
        | exact fm_pr fun _ _ => fm_gd (fm_K (Nat.le_refl _)))
theorem z_fm4 (x y z pc : Nat) (ls : z_Ls) (st : List z_V) (h : z_Hp) : z_Fm h (fun C K => z_i4 C K x y z pc ls st h) := by
  unfold z_i4
  split
  · exact fm_sg (fm_rt (Nat.le_refl _))
  · exact fm_pi fun _ _ => fm_pi fun _ _ => fm_sg (fm_K (Nat.le_refl _))
  · exact fm_pi fun _ _ => fm_pi fun _ _ => fm_sg (fm_K (Nat.le_refl _))
  · exact fm_pi fun _ _ => fm_pi fun _ _ => fm_pr fun _ _ => fm_pi fun _ _ => fm_pr fun _ _ => fm_sg (fm_gd (fm_K (Nat.le_refl _)))
  · exact fm_pr fun _ _ => fm_sg (fm_gd (fm_K (Nat.le_refl _)))
  · exact fm_sg (fm_rc (fm_rt (Nat.le_refl _)))
theorem z_fm (sc : z_Sc) (en : Option z_En) (pc : Nat) (ls : z_Ls) (st : List z_V) (h : z_Hp) : z_Fm h (fun C K => z_st sc C K en pc ls st h) := by
  unfold z_st
  rcases en with _ | ⟨g, ins, x, y, z, t, i⟩
  · exact fm_none
  · dsimp only
    split
    · exact z_fm0 ins x y pc ls st h
    · exact z_fm1 ins pc ls st h
    · exact z_fm2 ins z pc ls st h
    · exact z_fm3 sc ins x y z pc ls st h
    · exact z_fm4 x y z pc ls st h
end
section
/-! the runs grow with their steps; the limit's equation -/
def z_leC (C D : z_C) : Prop := ∀ M as h r, C M as h = some r → D M as h = some r
def z_leK (C D : z_K) : Prop := ∀ pc ls st h r, C pc ls st h = some r → D pc ls st h = some r
theorem z_rt_le {q pc : Nat} {o o' : z_O} {K K' : z_K} {ls : z_Ls} {st : List z_V} (ho : ∀ r, o = some r → o' = some r) (hK : z_leK K K') {r : z_R} (h : z_rt q o K pc ls st = some r) : z_rt q o' K' pc ls st = some r := by
  unfold z_rt z_ci z_cl z_cv at h ⊢
  rcases o with _ | ⟨_ | x | x | x, h1⟩
  · split at h <;> cases h
  · rw [ho _ rfl]
    split at h
    · cases h
    · cases h
    · exact hK _ _ _ _ _ h
  · rw [ho _ rfl]
    split at h
    · exact hK _ _ _ _ _ h
    · cases h
    · cases h
  · rw [ho _ rfl]
    split at h <;> cases h
  · rw [ho _ rfl]
    split at h
    · cases h
    · exact hK _ _ _ _ _ h
    · cases h
theorem z_do_le {a : z_A} {C C' : z_C} {K K' : z_K} (hC : z_leC C C') (hK : z_leK K K') {r : z_R} (h : z_do a C K = some r) : z_do a C' K' = some r := by
  rcases a with _ | ⟨s | s | s⟩
  · exact h
  · exact hK _ _ _ _ _ h
  · exact h
  · exact z_rt_le (fun r hr => hC _ _ _ _ hr) hK h
theorem z_st_le {sc : z_Sc} {en : Option z_En} {C C' : z_C} {K K' : z_K} (hC : z_leC C C') (hK : z_leK K K') {pc : Nat} {ls : z_Ls} {st : List z_V} {h : z_Hp} {r : z_R} (hr : z_st sc C K en pc ls st h = some r) : z_st sc C' K' en pc ls st h = some r := by
  obtain ⟨a, ha, -⟩ := z_fm sc en pc ls st h
  have h1 := ha C K
  have h2 := ha C' K'
  dsimp only at h1 h2
  rw [h1] at hr
  rw [h2]
  exact z_do_le hC hK hr
theorem z_rn_C {sc : z_Sc} {C C' : z_C} (hC : z_leC C C') (L : z_Pg) : ∀ n, z_leK (z_rn sc C L n) (z_rn sc C' L n)
  | 0 => fun _ _ _ _ _ h => h
  | n + 1 => fun _ _ _ _ _ h => z_st_le hC (z_rn_C hC L n) h
theorem z_rn_s {sc : z_Sc} {C : z_C} (L : z_Pg) : ∀ n, z_leK (z_rn sc C L n) (z_rn sc C L (n + 1))
  | 0 => fun _ _ _ _ _ h => by cases h
  | n + 1 => fun _ _ _ _ _ h => z_st_le (fun _ _ _ _ h => h) (z_rn_s L n) h
theorem z_ca_s {P : Nat → z_Pg} {sc : z_Sc} (n : Nat) : ∀ d, z_leC (z_ca P sc n d) (z_ca P sc (n + 1) d)
  | 0 => fun _ _ _ _ h => h
  | d + 1 => fun _ _ _ _ h => z_rn_C (z_ca_s n d) _ _ _ _ _ _ _ (z_rn_s _ n _ _ _ _ _ h)
theorem z_run_s {P : Nat → z_Pg} {sc : z_Sc} {d : Nat} {L : z_Pg} (n : Nat) : z_leK (z_rn sc (z_ca P sc n d) L n) (z_rn sc (z_ca P sc (n + 1) d) L (n + 1)) := fun _ _ _ _ _ h => z_rn_C (z_ca_s n d) L _ _ _ _ _ _ (z_rn_s L n _ _ _ _ _ h)
theorem z_se_iff {P : Nat → z_Pg} {sc : z_Sc} {d M : Nat} {as : List z_V} {h : z_Hp} {r : z_R} : z_se P sc d M as h = some r ↔ ∃ n, z_ca P sc n d M as h = some r := z_lim_some (fun n r hr => z_ca_s n d _ _ _ _ hr) r
theorem z_ev_iff {P : Nat → z_Pg} {sc : z_Sc} {d : Nat} {L : z_Pg} {pc : Nat} {ls : z_Ls} {st : List z_V} {h : z_Hp} {r : z_R} : z_ev P sc d L pc ls st h = some r ↔ ∃ n, z_rn sc (z_ca P sc n d) L n pc ls st h = some r := z_lim_some (fun n r hr => z_run_s n _ _ _ _ _ hr) r
theorem z_o_ext {a b : z_O} (h : ∀ r, a = some r ↔ b = some r) : a = b := by
  rcases a with _ | a
  · rcases b with _ | b
    · rfl
    · exact ((h b).mpr rfl)
  · exact ((h a).mp rfl).symm
theorem z_ca_le {P : Nat → z_Pg} {sc : z_Sc} {n k d : Nat} (hk : n ≤ k) : z_leC (z_ca P sc n d) (z_ca P sc k d) := fun M as h r hr => z_mono_le (f := fun n => z_ca P sc n d M as h) (fun n r hr => z_ca_s n d _ _ _ _ hr) hk hr
theorem z_rn_le {P : Nat → z_Pg} {sc : z_Sc} {L : z_Pg} {n k d : Nat} (hk : n ≤ k) : z_leK (z_rn sc (z_ca P sc n d) L n) (z_rn sc (z_ca P sc k d) L k) := fun pc ls st h r hr => z_mono_le (f := fun n => z_rn sc (z_ca P sc n d) L n pc ls st h) (fun n r hr => z_run_s n _ _ _ _ _ hr) hk hr
/-- what is reached in the limit of the calls and of what goes on is reached at some number of steps -/
theorem z_do_lim {P : Nat → z_Pg} {sc : z_Sc} {d : Nat} {L : z_Pg} {a : z_A} {r : z_R} (h : z_do a (z_se P sc d) (z_ev P sc d L) = some r) : ∃ n, z_do a (z_ca P sc n d) (z_rn sc (z_ca P sc n d) L n) = some r := by
  rcases a with _ | ⟨s | s | s⟩
  · cases h
  · exact z_ev_iff.mp h
  · exact ⟨0, h⟩
  · obtain ⟨x, as, h0, q, pc, ls, st⟩ := s
    show ∃ n, z_rt q (z_ca P sc n d x as h0) (z_rn sc (z_ca P sc n d) L n) pc ls st = some r
    have h' : z_rt q (z_se P sc d x as h0) (z_ev P sc d L) pc ls st = some r := h
    rcases ho : z_se P sc d x as h0 with _ | ⟨v, h1⟩
    · rw [ho] at h'
      unfold z_rt z_ci z_cl z_cv at h'
      split at h' <;> cases h'
    · obtain ⟨n1, hn1⟩ := z_se_iff.mp ho
      rw [ho] at h'
      have key : ∃ n2, z_rt q (some (v, h1)) (z_rn sc (z_ca P sc n2 d) L n2) pc ls st = some r := by
        unfold z_rt z_ci z_cl z_cv at h' ⊢
        split at h' <;> split at h' <;> first | exact z_ev_iff.mp h' | cases h' | skip
        all_goals (rename_i he; cases he; exact z_ev_iff.mp h')
      obtain ⟨n2, hn2⟩ := key
      refine ⟨max n1 n2, ?_⟩
      refine z_rt_le (o := some (v, h1)) (fun r hr => ?_) (z_rn_le (Nat.le_max_right n1 n2)) hn2
      rw [← hr]
      exact z_ca_le (Nat.le_max_left n1 n2) _ _ _ _ hn1
/-- THE EQUATION -/
theorem z_ev_eq (P : Nat → z_Pg) (sc : z_Sc) (d : Nat) (L : z_Pg) (pc : Nat) (ls : z_Ls) (st : List z_V) (h : z_Hp) : z_ev P sc d L pc ls st h = z_st sc (z_se P sc d) (z_ev P sc d L) (z_gt L pc) pc ls st h := by
  obtain ⟨a, ha, -⟩ := z_fm sc (z_gt L pc) pc ls st h
  have e : ∀ C K, z_st sc C K (z_gt L pc) pc ls st h = z_do a C K := ha
  refine z_o_ext fun r => ⟨fun hr => ?_, fun hr => ?_⟩
  · obtain ⟨n, hn⟩ := z_ev_iff.mp hr
    cases n with
    | zero => cases hn
    | succ n =>
      have h1 : z_st sc (z_ca P sc (n + 1) d) (z_rn sc (z_ca P sc (n + 1) d) L n) (z_gt L pc) pc ls st h = some r := hn
      refine z_st_le (fun _ _ _ _ q => z_se_iff.mpr ⟨_, q⟩) (fun pc ls st h r q => z_ev_iff.mpr ⟨n + 1, z_rn_s L n _ _ _ _ _ q⟩) h1
  · rw [e] at hr
    obtain ⟨n, hn⟩ := z_do_lim hr
    refine z_ev_iff.mpr ⟨n + 1, ?_⟩
    show z_st sc (z_ca P sc (n + 1) d) (z_rn sc (z_ca P sc (n + 1) d) L n) (z_gt L pc) pc ls st h = some r
    rw [e]
    exact z_do_le (z_ca_s n d) (z_rn_C (z_ca_s n d) L n) hn
theorem z_se_eq (P : Nat → z_Pg) (sc : z_Sc) (d M : Nat) (as : List z_V) (h : z_Hp) : z_se P sc (d + 1) M as h = z_ev P sc d (P M) 0 (z_ent as (z_ml M)) [] h := rfl
/-- so many steps unfolded, but not beyond the places that are named -/
def z_has (l : List Nat) (k : Nat) : Bool := match l with
  | [] => false
  | x :: r => match Nat.beq x k with
    | true => true
    | false => z_has r k
def z_un (sc : z_Sc) (C : z_C) (E : z_K) (L : z_Pg) (stops : List Nat) : Nat → z_K
  | 0 => E
  | k + 1 => fun pc ls st h => z_st sc C (fun pc' ls' st' h' => match z_has stops pc' with
    | true => E pc' ls' st' h'
    | false => z_un sc C E L stops k pc' ls' st' h') (z_gt L pc) pc ls st h
theorem z_un_eq (P : Nat → z_Pg) (sc : z_Sc) (d : Nat) (L : z_Pg) (stops : List Nat) : ∀ (k pc : Nat) (ls : z_Ls) (st : List z_V) (h : z_Hp), z_ev P sc d L pc ls st h = z_un sc (z_se P sc d) (z_ev P sc d L) L stops k pc ls st h
  | 0, _, _, _, _ => rfl
  | k + 1, pc, ls, st, h => by
    rw [z_ev_eq]
    unfold z_un
    congr 1
    funext pc' ls' st' h'
    split
    · rfl
    · exact z_un_eq P sc d L stops k pc' ls' st' h'
/-- the cells' number never falls -/
theorem z_do_ge {h0 : z_Hp} {a : z_A} (hg : z_ge h0 a) {C : z_C} {K : z_K} (hC : ∀ M as h r, C M as h = some r → h.1 ≤ r.2.1) (hK : ∀ pc ls st h r, K pc ls st h = some r → h.1 ≤ r.2.1) {r : z_R} (h : z_do a C K = some r) : h0.1 ≤ r.2.1 := by
  rcases a with _ | ⟨s | s | s⟩
  · cases h
  · exact Nat.le_trans hg (hK _ _ _ _ _ h)
  · cases h
    exact hg
  · obtain ⟨x, as, h1, q, pc, ls, st⟩ := s
    have h' : z_rt q (C x as h1) K pc ls st = some r := h
    have hg' : h0.1 ≤ h1.1 := hg
    rcases ho : C x as h1 with _ | ⟨v, h2⟩
    · rw [ho] at h'
      unfold z_rt z_ci z_cl z_cv at h'
      split at h' <;> cases h'
    · have h3 : h1.1 ≤ h2.1 := hC _ _ _ _ ho
      rw [ho] at h'
      have h4 : h2.1 ≤ r.2.1 := by
        unfold z_rt z_ci z_cl z_cv at h'
        split at h' <;> split at h' <;> first | exact hK _ _ _ _ _ h' | cases h' | skip
        all_goals (rename_i he; cases he; exact hK _ _ _ _ _ h')
      omega
theorem z_rn_ge {sc : z_Sc} {C : z_C} {L : z_Pg} (hC : ∀ M as h r, C M as h = some r → h.1 ≤ r.2.1) : ∀ n pc ls st h r, z_rn sc C L n pc ls st h = some r → h.1 ≤ r.2.1
  | 0, _, _, _, _, _, q => by cases q
  | n + 1, pc, ls, st, h, r, q => by
    obtain ⟨a, ha, hg⟩ := z_fm sc (z_gt L pc) pc ls st h
    have e : ∀ C K, z_st sc C K (z_gt L pc) pc ls st h = z_do a C K := ha
    have q' : z_st sc C (z_rn sc C L n) (z_gt L pc) pc ls st h = some r := q
    rw [e] at q'
    exact z_do_ge hg hC (z_rn_ge hC n) q'
theorem z_ca_ge {P : Nat → z_Pg} {sc : z_Sc} {n : Nat} : ∀ d M as h r, z_ca P sc n d M as h = some r → h.1 ≤ r.2.1
  | 0, _, _, _, _, q => by cases q
  | d + 1, _, _, _, _, q => z_rn_ge (z_ca_ge d) _ _ _ _ _ _ q
end
