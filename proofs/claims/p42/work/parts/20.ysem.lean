/-! THE SAME OVER WHOLE NUMBERS, behind the constructors: what is added, taken away or multiplied stays within 32 bits, or there is no answer; final references are the layout's -/
abbrev y_Hp : Type := (Nat → Nat → Int) × (Nat → Nat → Nat) × (Nat → Nat → Int64)
abbrev y_V : Type := Int ⊕ (Nat ⊕ Int64)
abbrev y_vi (x : Int) : y_V := .inl x
abbrev y_vr (a : Nat) : y_V := .inr (.inl a)
abbrev y_vl (x : Int64) : y_V := .inr (.inr x)
abbrev y_Ls : Type := List (Option y_V)
abbrev y_R : Type := Option y_V × y_Hp
abbrev y_O : Type := Option y_R
abbrev y_K : Type := Nat → y_Ls → List y_V → y_Hp → y_O
abbrev y_C : Type := Nat → List y_V → y_Hp → y_O
def y_I (h : y_Hp) (a k : Nat) : Int := h.1 a k
def y_F (h : y_Hp) (a k : Nat) : Nat := h.2.1 a k
def y_J (h : y_Hp) (a k : Nat) : Int64 := h.2.2 a k
def y_sI (h : y_Hp) (a k : Nat) (v : Int) : y_Hp := (z_row h.1 a (z_up (h.1 a) k v), h.2.1, h.2.2)
def y_sF (h : y_Hp) (a k : Nat) (v : Nat) : y_Hp := (h.1, z_row h.2.1 a (z_up (h.2.1 a) k v), h.2.2)
def y_sJ (h : y_Hp) (a k : Nat) (v : Int64) : y_Hp := (h.1, h.2.1, z_row h.2.2 a (z_up (h.2.2 a) k v))
def y_cp (f g : Nat → Int) (sp dp n : Nat) : Nat → Int := fun k => if dp ≤ k ∧ k < dp + n then f (sp + (k - dp)) else g k
def y_cpI (h : y_Hp) (a sp b dp n : Nat) : y_Hp := (z_row h.1 b (y_cp (h.1 a) (h.1 b) sp dp n), h.2.1, h.2.2)
/-- guards -/
def y_kt (a t : Nat) (x : y_O) : y_O := match Nat.beq (z_kd a).1 t with
  | true => x
  | false => none
def y_in (i : Int) (n : Nat) (x : y_O) : y_O := if 0 ≤ i ∧ i < (n : Int) then x else none
def y_rg (v : Int) (x : y_O) : y_O := if -2147483648 ≤ v ∧ v < 2147483648 then x else none
def y_b1 (v : Int) (x : y_O) : y_O := if v = 0 ∨ v = 1 then x else none
def y_nz (v : Int) (x : y_O) : y_O := if v = 0 then none else x
def y_nl (v : Int64) (x : y_O) : y_O := if v = 0 then none else x
def y_sg (b : Bool) (x : y_O) : y_O := match b with
  | true => x
  | false => none
/-- n places from sp, from dp on, of rows of so many -/
def y_cg (sp dp n : Int) (p q : Nat) (x : y_O) : y_O := if (0 ≤ sp ∧ 0 ≤ dp ∧ 0 ≤ n) ∧ (sp + n ≤ (p : Int) ∧ dp + n ≤ (q : Int)) then x else none
/-- bits, casts, long numbers -/
def y_and (v w : Int) : Int := (Int32.ofInt v &&& Int32.ofInt w).toInt
def y_or (v w : Int) : Int := (Int32.ofInt v ||| Int32.ofInt w).toInt
def y_xor (v w : Int) : Int := (Int32.ofInt v ^^^ Int32.ofInt w).toInt
def y_shl (v w : Int) : Int := (Int32.ofInt v <<< (Int32.ofInt w &&& 31)).toInt
def y_shr (v w : Int) : Int := (Int32.ofInt v >>> (Int32.ofInt w &&& 31)).toInt
def y_i2l (v : Int) : Int64 := (Int32.ofInt v).toInt64
def y_l2i (v : Int64) : Int := v.toInt32.toInt
def y_i2b (v : Int) : Int := (Int32.ofInt v).toInt8.toInt32.toInt
def y_lcmp (v w : Int64) : Int := (lg_cmp v w).toInt
def y_lshl (v : Int64) (w : Int) : Int64 := v <<< ((Int32.ofInt w).toInt64 &&& 63)
def y_lshr (v : Int64) (w : Int) : Int64 := v >>> ((Int32.ofInt w).toInt64 &&& 63)
/-- a call's answer goes on -/
def y_ci (o : y_O) (f : Int → y_Hp → y_O) : y_O := match o with
  | some (some (.inl x), h) => f x h
  | _ => none
def y_cl (o : y_O) (f : Int64 → y_Hp → y_O) : y_O := match o with
  | some (some (.inr (.inr x)), h) => f x h
  | _ => none
def y_cv (o : y_O) (f : y_Hp → y_O) : y_O := match o with
  | some (none, h) => f h
  | _ => none
def y_ldi (ls : y_Ls) (k : Nat) (f : Int → y_O) : y_O := match ls[k]? with
  | some (some (.inl x)) => f x
  | _ => none
def y_ldr (ls : y_Ls) (k : Nat) (f : Nat → y_O) : y_O := match ls[k]? with
  | some (some (.inr (.inl x))) => f x
  | _ => none
def y_ldl (ls : y_Ls) (k : Nat) (f : Int64 → y_O) : y_O := match ls[k]? with
  | some (some (.inr (.inr x))) => f x
  | _ => none
def y_cat (v : y_V) : Nat := match v with
  | .inr (.inr _) => 2
  | _ => 1
def y_cats (st : List y_V) : Nat := match st with
  | [] => 0
  | v :: r => y_cat v + y_cats r
def y_lo (o : Option (Option y_V)) : Bool := match o with
  | some (some (.inr (.inr _))) => false
  | _ => true
def y_sk (ls : y_Ls) (k : Nat) : Bool := Nat.blt k ls.length && (match k with
  | 0 => true
  | j + 1 => y_lo (ls[j]?))
def y_pi (st : List y_V) (f : Int → List y_V → y_O) : y_O := match st with
  | .inl x :: r => f x r
  | _ => none
def y_pr (st : List y_V) (f : Nat → List y_V → y_O) : y_O := match st with
  | .inr (.inl x) :: r => f x r
  | _ => none
def y_pl (st : List y_V) (f : Int64 → List y_V → y_O) : y_O := match st with
  | .inr (.inr x) :: r => f x r
  | _ => none
/-- which references change: of x house, draft; of the text's reader bytes, house; of the round house, rule, begins; of the search house -/
def z_dy (c k : Nat) : Bool := match c with
  | 7 => Nat.beq k 10 || Nat.beq k 11
  | 1 => Nat.beq k 0 || Nat.beq k 6
  | 3 => Nat.ble k 2
  | 5 => Nat.beq k 2
  | _ => false
def z_of7 : List Nat := [3, 12, 19, 20, 22, 24, 37, 39, 43, 61, 0, 0, 0, 0]
def z_of5 : List Nat := [0, 44, 0, 0, 0, 0, 0, 0, 0, 0, 45, 46, 56, 57, 58, 59, 60]
def z_of8 : List Nat := [0, 95, 0, 96, 97, 98, 99, 100, 0, 0, 0, 0, 0, 0, 101, 102, 103, 104, 105, 0, 0, 0, 0, 0, 0, 0, 0, 106, 107, 108, 109, 110, 111, 112, 113, 114, 115, 116, 117, 0, 0, 0, 0, 0, 0, 0, 118, 0]
/-- the second one of x's kind lies 117 places behind the first -/
def z_rel (a v : Nat) : Nat := match v with
  | 0 => 0
  | w + 1 => (match Nat.blt 118 a with
    | true => w + 118
    | false => w + 1)
/-- all others: where the layout has them -/
def z_of (c k a : Nat) : Nat := match c with
  | 0 => a + (k - 3)
  | 2 => a + 1
  | 3 => a + (k - 3)
  | 4 => a + 1
  | 5 => z_rel a (z_of5.getD k 0)
  | 6 => (match k with
    | 0 => a + 1
    | _ => (match a with
      | 3 => 11
      | 12 => 18
      | 120 => 128
      | _ => 135))
  | 7 => z_rel a (z_of7.getD k 0)
  | 8 => z_rel a (z_of8.getD k 0)
  | 14 => a + 1 + 2 * k
  | 15 => a + 1 + k
  | _ => 0
def y_i0 (K : y_K) (ins : Jvm.ClassFile.Instr) (x y : Nat) (pc : Nat) (ls : y_Ls) (st : List y_V) (h : y_Hp) : y_O := match ins with
  | .iload k => y_ldi ls k (fun v => K (pc + 2) ls (y_vi v :: st) h)
  | .iload_n k => y_ldi ls k.val (fun v => K (pc + 1) ls (y_vi v :: st) h)
  | .aload_n k => y_ldr ls k.val (fun v => K (pc + 1) ls (y_vr v :: st) h)
  | .aload k => y_ldr ls k (fun v => K (pc + 2) ls (y_vr v :: st) h)
  | .lload_n k => y_ldl ls k.val (fun v => K (pc + 1) ls (y_vl v :: st) h)
  | .istore k => y_pi st (fun v r => y_sg (y_sk ls k) (K (pc + 2) (ls.set k (some (y_vi v))) r h))
  | .istore_n k => y_pi st (fun v r => y_sg (y_sk ls k.val) (K (pc + 1) (ls.set k.val (some (y_vi v))) r h))
  | .astore_n k => y_pr st (fun v r => y_sg (y_sk ls k.val) (K (pc + 1) (ls.set k.val (some (y_vr v))) r h))
  | .astore k => y_pr st (fun v r => y_sg (y_sk ls k) (K (pc + 2) (ls.set k (some (y_vr v))) r h))
  | .lstore_n k => y_pl st (fun v r => y_sg (y_sk ls k.val && Nat.blt (k.val + 1) ls.length) (K (pc + 1) ((ls.set k.val (some (y_vl v))).set (k.val + 1) none) r h))
  | .iinc k n => y_ldi ls k (fun v => y_sg (y_sk ls k) (y_rg (v + n) (K (pc + 3) (ls.set k (some (y_vi (v + n)))) st h)))
  | .iconst n => K (pc + 1) ls (y_vi n :: st) h
  | .bipush n => K (pc + 2) ls (y_vi n :: st) h
  | .sipush n => K (pc + 3) ls (y_vi n :: st) h
  | .lconst n => K (pc + 1) ls (y_vl (Int64.ofNat n.val) :: st) h
  | .ldc _ => K (pc + 2) ls (y_vi (z_sn x y) :: st) h
  | .ldc2_w _ => K (pc + 3) ls (y_vl (Int64.ofInt (z_sn x y)) :: st) h
  | .pop => match st with
    | v :: r => y_sg (Nat.beq (y_cat v) 1) (K (pc + 1) ls r h)
    | [] => none
  | .dup => match st with
    | v :: r => y_sg (Nat.beq (y_cat v) 1) (K (pc + 1) ls (v :: v :: r) h)
    | [] => none
  | .dup2 => match st with
    | .inr (.inr v) :: r => K (pc + 1) ls (y_vl v :: y_vl v :: r) h
    | v :: w :: r => y_sg (Nat.beq (y_cat v) 1 && Nat.beq (y_cat w) 1) (K (pc + 1) ls (v :: w :: v :: w :: r) h)
    | _ => none
  | _ => none
def y_i1 (K : y_K) (ins : Jvm.ClassFile.Instr) (pc : Nat) (ls : y_Ls) (st : List y_V) (h : y_Hp) : y_O := match ins with
  | .iadd => y_pi st (fun w r => y_pi r (fun v r => y_rg (v + w) (K (pc + 1) ls (y_vi (v + w) :: r) h)))
  | .isub => y_pi st (fun w r => y_pi r (fun v r => y_rg (v - w) (K (pc + 1) ls (y_vi (v - w) :: r) h)))
  | .imul => y_pi st (fun w r => y_pi r (fun v r => y_rg (v * w) (K (pc + 1) ls (y_vi (v * w) :: r) h)))
  | .iand => y_pi st (fun w r => y_pi r (fun v r => K (pc + 1) ls (y_vi (y_and v w) :: r) h))
  | .ior => y_pi st (fun w r => y_pi r (fun v r => K (pc + 1) ls (y_vi (y_or v w) :: r) h))
  | .ixor => y_pi st (fun w r => y_pi r (fun v r => K (pc + 1) ls (y_vi (y_xor v w) :: r) h))
  | .ishl => y_pi st (fun w r => y_pi r (fun v r => K (pc + 1) ls (y_vi (y_shl v w) :: r) h))
  | .ishr => y_pi st (fun w r => y_pi r (fun v r => K (pc + 1) ls (y_vi (y_shr v w) :: r) h))
  | .idiv => y_pi st (fun w r => y_pi r (fun v r => y_nz w (y_rg (v.tdiv w) (K (pc + 1) ls (y_vi (v.tdiv w) :: r) h))))
  | .irem => y_pi st (fun w r => y_pi r (fun v r => y_nz w (y_rg (v.tdiv w) (y_rg (v - v.tdiv w * w) (K (pc + 1) ls (y_vi (v - v.tdiv w * w) :: r) h)))))
  | .ineg => y_pi st (fun v r => y_rg (-v) (K (pc + 1) ls (y_vi (-v) :: r) h))
  | .i2l => y_pi st (fun v r => K (pc + 1) ls (y_vl (y_i2l v) :: r) h)
  | .i2b => y_pi st (fun v r => K (pc + 1) ls (y_vi (y_i2b v) :: r) h)
  | .l2i => y_pl st (fun v r => K (pc + 1) ls (y_vi (y_l2i v) :: r) h)
  | .ladd => y_pl st (fun w r => y_pl r (fun v r => K (pc + 1) ls (y_vl (v + w) :: r) h))
  | .lmul => y_pl st (fun w r => y_pl r (fun v r => K (pc + 1) ls (y_vl (v * w) :: r) h))
  | .land => y_pl st (fun w r => y_pl r (fun v r => K (pc + 1) ls (y_vl (v &&& w) :: r) h))
  | .lor => y_pl st (fun w r => y_pl r (fun v r => K (pc + 1) ls (y_vl (v ||| w) :: r) h))
  | .ldiv => y_pl st (fun w r => y_pl r (fun v r => y_nl w (K (pc + 1) ls (y_vl (v / w) :: r) h)))
  | .lshl => y_pi st (fun w r => y_pl r (fun v r => K (pc + 1) ls (y_vl (y_lshl v w) :: r) h))
  | .lshr => y_pi st (fun w r => y_pl r (fun v r => K (pc + 1) ls (y_vl (y_lshr v w) :: r) h))
  | .lcmp => y_pl st (fun w r => y_pl r (fun v r => K (pc + 1) ls (y_vi (y_lcmp v w) :: r) h))
  | _ => none
def y_br (c : Jvm.ClassFile.Cond) (x y : Int) (A B : y_O) : y_O := match c with
  | .eq => if x = y then A else B
  | .ne => if x = y then B else A
  | .lt => if x < y then A else B
  | .ge => if x < y then B else A
  | .gt => if y < x then A else B
  | .le => if y < x then B else A
def y_sw (K : Nat → y_O) (pc : Nat) (x : Int) (d : Int) : List (Int × Int) → y_O
  | [] => K ((pc : Int) + d).toNat
  | q :: r => if x = q.1 then K ((pc : Int) + q.2).toNat else y_sw K pc x d r
def y_i2 (K : y_K) (ins : Jvm.ClassFile.Instr) (z : Nat) (pc : Nat) (ls : y_Ls) (st : List y_V) (h : y_Hp) : y_O := match ins with
  | .if_icmp c o => y_pi st (fun w r => y_pi r (fun v r => y_br c v w (K (z_tg pc o) ls r h) (K (pc + 3) ls r h)))
  | .ifCond c o => y_pi st (fun v r => y_br c v 0 (K (z_tg pc o) ls r h) (K (pc + 3) ls r h))
  | .goto o => K (z_tg pc o) ls st h
  | .tableswitch d lo _ os => y_pi st (fun v r => y_sw (fun p => K p ls r h) pc v d (z_tp lo os.toList))
  | .lookupswitch d ps => y_pi st (fun v r => y_sw (fun p => K p ls r h) pc v d ps.toList)
  | .ireturn => match st with
    | [.inl v] => match z with
      | 3 => y_b1 v (some (some (y_vi v), h))
      | _ => some (some (y_vi v), h)
    | _ => none
  | .lreturn => match st with
    | [.inr (.inr v)] => some (some (y_vl v), h)
    | _ => none
  | .return_ => match st with
    | [] => some (none, h)
    | _ => none
  | _ => none
def y_gv (h : y_Hp) (a x y z : Nat) : y_V := match z with
  | 1 => (match z_dy x y with
    | true => y_vr (y_F h a y)
    | false => y_vr (z_of x y a))
  | 2 => y_vl (y_J h a y)
  | _ => y_vi (y_I h a y)
def y_i3 (sc : z_Sc) (K : y_K) (ins : Jvm.ClassFile.Instr) (x y z : Nat) (pc : Nat) (ls : y_Ls) (st : List y_V) (h : y_Hp) : y_O := match ins with
  | .getfield _ => y_pr st (fun a r => y_kt a x (K (pc + 3) ls (y_gv h a x y z :: r) h))
  | .putfield _ => match z with
    | 0 => y_pi st (fun v r => y_pr r (fun a r => y_kt a x (K (pc + 3) ls r (y_sI h a y v))))
    | 1 => y_pr st (fun v r => y_pr r (fun a r => y_kt a x (y_sg (z_dy x y) (K (pc + 3) ls r (y_sF h a y v)))))
    | 2 => y_pl st (fun v r => y_pr r (fun a r => y_kt a x (K (pc + 3) ls r (y_sJ h a y v))))
    | _ => y_pi st (fun v r => y_pr r (fun a r => y_kt a x (y_b1 v (K (pc + 3) ls r (y_sI h a y v)))))
  | .iaload => match x with
    | 1 => y_pi st (fun i r => y_pr r (fun a r => y_sg (Nat.beq a 1) (y_in i sc.1 (K (pc + 1) ls (y_vi (sc.2 i.toNat).toInt :: r) h))))
    | _ => y_pi st (fun i r => y_pr r (fun a r => y_kt a 10 (y_in i (z_kd a).2 (K (pc + 1) ls (y_vi (y_I h a i.toNat) :: r) h))))
  | .baload => y_pi st (fun i r => y_pr r (fun a r => y_kt a x (y_in i (z_kd a).2 (K (pc + 1) ls (y_vi (y_I h a i.toNat) :: r) h))))
  | .laload => y_pi st (fun i r => y_pr r (fun a r => y_kt a 11 (y_in i (z_kd a).2 (K (pc + 1) ls (y_vl (y_J h a i.toNat) :: r) h))))
  | .aaload => y_pi st (fun i r => y_pr r (fun a r => y_kt a x (y_in i (z_kd a).2 (K (pc + 1) ls (y_vr (z_of x i.toNat a) :: r) h))))
  | .iastore => y_pi st (fun v r => y_pi r (fun i r => y_pr r (fun a r => y_kt a 10 (y_in i (z_kd a).2 (K (pc + 1) ls r (y_sI h a i.toNat v))))))
  | .bastore => match x with
    | 12 => y_pi st (fun v r => y_pi r (fun i r => y_pr r (fun a r => y_kt a 12 (y_in i (z_kd a).2 (K (pc + 1) ls r (y_sI h a i.toNat (y_i2b v)))))))
    | _ => y_pi st (fun v r => y_pi r (fun i r => y_pr r (fun a r => y_kt a 13 (y_in i (z_kd a).2 (y_b1 v (K (pc + 1) ls r (y_sI h a i.toNat v)))))))
  | .lastore => y_pl st (fun v r => y_pi r (fun i r => y_pr r (fun a r => y_kt a 11 (y_in i (z_kd a).2 (K (pc + 1) ls r (y_sJ h a i.toNat v))))))
  | .arraylength => match x with
    | 1 => y_pr st (fun a r => y_sg (Nat.beq a 1) (y_rg (sc.1 : Int) (K (pc + 1) ls (y_vi (sc.1 : Int) :: r) h)))
    | _ => y_pr st (fun a r => y_kt a x (K (pc + 1) ls (y_vi ((z_kd a).2 : Int) :: r) h))
  | _ => none
def y_rt (q : Nat) (o : y_O) (K : y_K) (pc : Nat) (ls : y_Ls) (r : List y_V) : y_O := match q with
  | 0 => y_ci o (fun v h => K (pc + 3) ls (y_vi v :: r) h)
  | 1 => y_cl o (fun v h => K (pc + 3) ls (y_vl v :: r) h)
  | _ => y_cv o (fun h => K (pc + 3) ls r h)
def y_rc (as : List y_V) (c : Nat) (x : y_O) : y_O := match as with
  | .inr (.inl a) :: _ => y_kt a c x
  | _ => none
def y_i4 (C : y_C) (K : y_K) (x y z : Nat) (pc : Nat) (ls : y_Ls) (st : List y_V) (h : y_Hp) : y_O := match z with
  | 1 => y_sg (Nat.ble y st.length && Nat.ble (y_cats (st.drop y)) 8) (y_rt (z_mr x) (C x (st.take y).reverse h) K pc ls (st.drop y))
  | 10 => y_pi st (fun w r => y_pi r (fun v r => y_sg (Nat.ble (y_cats r) 8) (K (pc + 3) ls (y_vi (max v w) :: r) h)))
  | 11 => y_pi st (fun w r => y_pi r (fun v r => y_sg (Nat.ble (y_cats r) 8) (K (pc + 3) ls (y_vi (min v w) :: r) h)))
  | 12 => y_pi st (fun n r => y_pi r (fun dp r => y_pr r (fun b r => y_pi r (fun sp r => y_pr r (fun a r => y_sg (Nat.ble (y_cats r) 8) (y_kt a 10 (y_kt b 10 (y_cg sp dp n (z_kd a).2 (z_kd b).2 (K (pc + 3) ls r (y_cpI h a sp.toNat b dp.toNat n.toNat))))))))))
  | 13 => y_pr st (fun a r => y_sg (Nat.ble (y_cats r) 8) (y_sg (!(Nat.beq a 0)) (K (pc + 3) ls r h)))
  | _ => y_sg (Nat.ble y st.length && Nat.ble (y_cats (st.drop y)) 8) (y_rc (st.take y).reverse (z_mc x) (y_rt (z_mr x) (C x (st.take y).reverse h) K pc ls (st.drop y)))
def y_st (sc : z_Sc) (C : y_C) (K : y_K) (en : Option z_En) (pc : Nat) (ls : y_Ls) (st : List y_V) (h : y_Hp) : y_O := match en with
  | some (g, ins, x, y, z, _, _) => match g with
    | 0 => y_i0 K ins x y pc ls st h
    | 1 => y_i1 K ins pc ls st h
    | 2 => y_i2 K ins z pc ls st h
    | 3 => y_i3 sc K ins x y z pc ls st h
    | _ => y_i4 C K x y z pc ls st h
  | none => none
def y_rn (sc : z_Sc) (C : y_C) (L : z_Pg) : Nat → y_K
  | 0 => fun _ _ _ _ => none
  | n + 1 => fun pc ls st h => y_st sc C (y_rn sc C L n) (z_gt L pc) pc ls st h
def y_lay : List y_V → y_Ls
  | [] => []
  | .inr (.inr v) :: r => some (y_vl v) :: none :: y_lay r
  | v :: r => some v :: y_lay r
def y_ent (as : List y_V) (n : Nat) : y_Ls := y_lay as ++ List.replicate (n - (y_lay as).length) none
def y_ca (P : Nat → z_Pg) (sc : z_Sc) (n : Nat) : Nat → y_C
  | 0 => fun _ _ _ => none
  | d + 1 => fun M as h => y_sg (Nat.ble (y_lay as).length (z_ml M)) (y_rn sc (y_ca P sc n d) (P M) n 0 (y_ent as (z_ml M)) [] h)
noncomputable def y_lim (f : Nat → y_O) : y_O := @dite _ (∃ n r, f n = some r) (Classical.propDecidable _) (fun h => some h.choose_spec.choose) (fun _ => none)
noncomputable def y_se (P : Nat → z_Pg) (sc : z_Sc) (d : Nat) : y_C := fun M as h => y_lim (fun n => y_ca P sc n d M as h)
noncomputable def y_ev (P : Nat → z_Pg) (sc : z_Sc) (d : Nat) (L : z_Pg) : y_K := fun pc ls st h => y_lim (fun n => y_rn sc (y_ca P sc n d) L n pc ls st h)
