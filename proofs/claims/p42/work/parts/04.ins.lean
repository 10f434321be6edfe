/-! ONE INSTRUCTION, in the style of what goes on behind it (K), with the calls' answers (C). Beside the instruction stand three numbers x, y, z: what it links to.
getfield, putfield: class, field, kind of the field (0 int, 1 cell, 2 long, 3 boolean); rows: the row's kind (1: the script); calls: method, arguments (the object too), kind (0 virtual, 1 static, 2 constructor, 10 max, 11 min, 12 arraycopy, 13 Object's constructor) -/
def z_pi (st : List z_V) (f : Int32 → List z_V → z_O) : z_O := match st with
  | .inl x :: r => f x r
  | _ => none
def z_pr (st : List z_V) (f : Nat → List z_V → z_O) : z_O := match st with
  | .inr (.inl x) :: r => f x r
  | _ => none
def z_pl (st : List z_V) (f : Int64 → List z_V → z_O) : z_O := match st with
  | .inr (.inr x) :: r => f x r
  | _ => none
/-- a guard that its own text decides -/
def z_sg (b : Bool) (x : z_O) : z_O := match b with
  | true => x
  | false => none
def z_ob (h : z_Hp) (a c : Nat) : Bool := Nat.beq (w_kd a).1 c && Nat.blt a (h.1 + 2)
def z_in (i : Int32) (n : Nat) : Bool := !(decide (i < 0)) && Nat.blt i.toNatClampNeg n
def z_ar (h : z_Hp) (a t : Nat) (i : Int32) : Bool := Nat.beq (w_kd a).1 t && Nat.blt a (h.1 + 2) && z_in i (w_kd a).2
def z_bo (v : Int32) : Bool := decide (v = 0) || decide (v = 1)
def z_i0 (K : z_K) (ins : Jvm.ClassFile.Instr) (x y : Nat) (pc : Nat) (ls : z_Ls) (st : List z_V) (h : z_Hp) : z_O := match ins with
  | .iload k => z_ldi ls k (fun v => K (pc + 2) ls (z_vi v :: st) h)
  | .iload_n k => z_ldi ls k.val (fun v => K (pc + 1) ls (z_vi v :: st) h)
  | .aload_n k => z_ldr ls k.val (fun v => K (pc + 1) ls (z_vr v :: st) h)
  | .aload k => z_ldr ls k (fun v => K (pc + 2) ls (z_vr v :: st) h)
  | .lload_n k => z_ldl ls k.val (fun v => K (pc + 1) ls (z_vl v :: st) h)
  | .istore k => z_pi st (fun v r => z_sg (z_sk ls k) (K (pc + 2) (ls.set k (some (z_vi v))) r h))
  | .istore_n k => z_pi st (fun v r => z_sg (z_sk ls k.val) (K (pc + 1) (ls.set k.val (some (z_vi v))) r h))
  | .astore_n k => z_pr st (fun v r => z_sg (z_sk ls k.val) (K (pc + 1) (ls.set k.val (some (z_vr v))) r h))
  | .astore k => z_pr st (fun v r => z_sg (z_sk ls k) (K (pc + 2) (ls.set k (some (z_vr v))) r h))
  | .lstore_n k => z_pl st (fun v r => z_sg (z_sk ls k.val && Nat.blt (k.val + 1) ls.length) (K (pc + 1) ((ls.set k.val (some (z_vl v))).set (k.val + 1) none) r h))
  | .iinc k n => z_ldi ls k (fun v => z_sg (z_sk ls k) (K (pc + 3) (ls.set k (some (z_vi (v + Int32.ofInt n)))) st h))
  | .iconst n => K (pc + 1) ls (z_vi (Int32.ofInt n) :: st) h
  | .bipush n => K (pc + 2) ls (z_vi (Int8.ofInt n).toInt32 :: st) h
  | .sipush n => K (pc + 3) ls (z_vi (Int16.ofInt n).toInt32 :: st) h
  | .lconst n => K (pc + 1) ls (z_vl (Int64.ofNat n.val) :: st) h
  | .ldc _ => K (pc + 2) ls (z_vi (Int32.ofInt (z_sn x y)) :: st) h
  | .ldc2_w _ => K (pc + 3) ls (z_vl (Int64.ofInt (z_sn x y)) :: st) h
  | .pop => match st with
    | v :: r => z_sg (Nat.beq (z_cat v) 1) (K (pc + 1) ls r h)
    | [] => none
  | .dup => match st with
    | v :: r => z_sg (Nat.beq (z_cat v) 1) (K (pc + 1) ls (v :: v :: r) h)
    | [] => none
  | .dup2 => match st with
    | .inr (.inr v) :: r => K (pc + 1) ls (z_vl v :: z_vl v :: r) h
    | v :: w :: r => z_sg (Nat.beq (z_cat v) 1 && Nat.beq (z_cat w) 1) (K (pc + 1) ls (v :: w :: v :: w :: r) h)
    | _ => none
  | _ => none
def z_i1 (K : z_K) (ins : Jvm.ClassFile.Instr) (pc : Nat) (ls : z_Ls) (st : List z_V) (h : z_Hp) : z_O := match ins with
  | .iadd => z_pi st (fun w r => z_pi r (fun v r => K (pc + 1) ls (z_vi (v + w) :: r) h))
  | .isub => z_pi st (fun w r => z_pi r (fun v r => K (pc + 1) ls (z_vi (v - w) :: r) h))
  | .imul => z_pi st (fun w r => z_pi r (fun v r => K (pc + 1) ls (z_vi (v * w) :: r) h))
  | .iand => z_pi st (fun w r => z_pi r (fun v r => K (pc + 1) ls (z_vi (v &&& w) :: r) h))
  | .ior => z_pi st (fun w r => z_pi r (fun v r => K (pc + 1) ls (z_vi (v ||| w) :: r) h))
  | .ixor => z_pi st (fun w r => z_pi r (fun v r => K (pc + 1) ls (z_vi (v ^^^ w) :: r) h))
  | .ishl => z_pi st (fun w r => z_pi r (fun v r => K (pc + 1) ls (z_vi (v <<< (w &&& 31)) :: r) h))
  | .ishr => z_pi st (fun w r => z_pi r (fun v r => K (pc + 1) ls (z_vi (v >>> (w &&& 31)) :: r) h))
  | .idiv => z_pi st (fun w r => z_pi r (fun v r => z_gd (!(decide (w = 0))) (K (pc + 1) ls (z_vi (v / w) :: r) h)))
  | .irem => z_pi st (fun w r => z_pi r (fun v r => z_gd (!(decide (w = 0))) (K (pc + 1) ls (z_vi (v - v / w * w) :: r) h)))
  | .ineg => z_pi st (fun v r => K (pc + 1) ls (z_vi (-v) :: r) h)
  | .i2l => z_pi st (fun v r => K (pc + 1) ls (z_vl v.toInt64 :: r) h)
  | .i2b => z_pi st (fun v r => K (pc + 1) ls (z_vi v.toInt8.toInt32 :: r) h)
  | .l2i => z_pl st (fun v r => K (pc + 1) ls (z_vi v.toInt32 :: r) h)
  | .ladd => z_pl st (fun w r => z_pl r (fun v r => K (pc + 1) ls (z_vl (v + w) :: r) h))
  | .lmul => z_pl st (fun w r => z_pl r (fun v r => K (pc + 1) ls (z_vl (v * w) :: r) h))
  | .land => z_pl st (fun w r => z_pl r (fun v r => K (pc + 1) ls (z_vl (v &&& w) :: r) h))
  | .lor => z_pl st (fun w r => z_pl r (fun v r => K (pc + 1) ls (z_vl (v ||| w) :: r) h))
  | .ldiv => z_pl st (fun w r => z_pl r (fun v r => z_gd (!(decide (w = 0))) (K (pc + 1) ls (z_vl (v / w) :: r) h)))
  | .lshl => z_pi st (fun w r => z_pl r (fun v r => K (pc + 1) ls (z_vl (v <<< (w.toInt64 &&& 63)) :: r) h))
  | .lshr => z_pi st (fun w r => z_pl r (fun v r => K (pc + 1) ls (z_vl (v >>> (w.toInt64 &&& 63)) :: r) h))
  | .lcmp => z_pl st (fun w r => z_pl r (fun v r => K (pc + 1) ls (z_vi (lg_cmp v w) :: r) h))
  | _ => none
def z_br (c : Jvm.ClassFile.Cond) (x y : Int32) (A B : z_O) : z_O := match c with
  | .eq => if x = y then A else B
  | .ne => if x = y then B else A
  | .lt => if x < y then A else B
  | .ge => if x < y then B else A
  | .gt => if y < x then A else B
  | .le => if y < x then B else A
def z_tg (pc : Nat) (o : Int) : Nat := ((pc : Int) + o).toNat
def z_i2 (K : z_K) (ins : Jvm.ClassFile.Instr) (z : Nat) (pc : Nat) (ls : z_Ls) (st : List z_V) (h : z_Hp) : z_O := match ins with
  | .if_icmp c o => z_pi st (fun w r => z_pi r (fun v r => z_br c v w (K (z_tg pc o) ls r h) (K (pc + 3) ls r h)))
  | .ifCond c o => z_pi st (fun v r => z_br c v 0 (K (z_tg pc o) ls r h) (K (pc + 3) ls r h))
  | .goto o => K (z_tg pc o) ls st h
  | .tableswitch d lo _ os => z_pi st (fun v r => z_sw (fun p => K p ls r h) pc v d (z_tp lo os.toList))
  | .lookupswitch d ps => z_pi st (fun v r => z_sw (fun p => K p ls r h) pc v d ps.toList)
  | .ireturn => match st with
    | [.inl v] => match z with
      | 3 => z_gd (z_bo v) (some (some (z_vi v), h))
      | _ => some (some (z_vi v), h)
    | _ => none
  | .lreturn => match st with
    | [.inr (.inr v)] => some (some (z_vl v), h)
    | _ => none
  | .return_ => match st with
    | [] => some (none, h)
    | _ => none
  | _ => none
def z_gv (h : z_Hp) (a y z : Nat) : z_V := match z with
  | 1 => z_vr (z_F h a y)
  | 2 => z_vl (z_J h a y)
  | _ => z_vi (z_I h a y)
def z_i3 (sc : z_Sc) (K : z_K) (ins : Jvm.ClassFile.Instr) (x y z : Nat) (pc : Nat) (ls : z_Ls) (st : List z_V) (h : z_Hp) : z_O := match ins with
  | .getfield _ => z_pr st (fun a r => z_gd (z_ob h a x) (K (pc + 3) ls (z_gv h a y z :: r) h))
  | .putfield _ => match z with
    | 0 => z_pi st (fun v r => z_pr r (fun a r => z_gd (z_ob h a x) (K (pc + 3) ls r (z_sI h a y v))))
    | 1 => z_pr st (fun v r => z_pr r (fun a r => z_gd (z_ob h a x) (K (pc + 3) ls r (z_sF h a y v))))
    | 2 => z_pl st (fun v r => z_pr r (fun a r => z_gd (z_ob h a x) (K (pc + 3) ls r (z_sJ h a y v))))
    | _ => z_pi st (fun v r => z_pr r (fun a r => z_gd (z_ob h a x && z_bo v) (K (pc + 3) ls r (z_sI h a y v))))
  | .iaload => match x with
    | 1 => z_pi st (fun i r => z_pr r (fun a r => z_gd (Nat.beq a 1 && z_in i sc.1) (K (pc + 1) ls (z_vi (sc.2 i.toNatClampNeg) :: r) h)))
    | _ => z_pi st (fun i r => z_pr r (fun a r => z_gd (z_ar h a 10 i) (K (pc + 1) ls (z_vi (z_I h a i.toNatClampNeg) :: r) h)))
  | .baload => z_pi st (fun i r => z_pr r (fun a r => z_gd (z_ar h a x i) (K (pc + 1) ls (z_vi (z_I h a i.toNatClampNeg) :: r) h)))
  | .laload => z_pi st (fun i r => z_pr r (fun a r => z_gd (z_ar h a 11 i) (K (pc + 1) ls (z_vl (z_J h a i.toNatClampNeg) :: r) h)))
  | .aaload => z_pi st (fun i r => z_pr r (fun a r => z_gd (z_ar h a x i) (K (pc + 1) ls (z_vr (z_F h a i.toNatClampNeg) :: r) h)))
  | .iastore => z_pi st (fun v r => z_pi r (fun i r => z_pr r (fun a r => z_gd (z_ar h a 10 i) (K (pc + 1) ls r (z_sI h a i.toNatClampNeg v)))))
  | .bastore => match x with
    | 12 => z_pi st (fun v r => z_pi r (fun i r => z_pr r (fun a r => z_gd (z_ar h a 12 i) (K (pc + 1) ls r (z_sI h a i.toNatClampNeg v.toInt8.toInt32)))))
    | _ => z_pi st (fun v r => z_pi r (fun i r => z_pr r (fun a r => z_gd (z_ar h a 13 i && z_bo v) (K (pc + 1) ls r (z_sI h a i.toNatClampNeg v)))))
  | .lastore => z_pl st (fun v r => z_pi r (fun i r => z_pr r (fun a r => z_gd (z_ar h a 11 i) (K (pc + 1) ls r (z_sJ h a i.toNatClampNeg v)))))
  | .aastore => z_pr st (fun v r => z_pi r (fun i r => z_pr r (fun a r => z_gd (z_ar h a 14 i && z_ob h v 4) (K (pc + 1) ls r (z_sF h a i.toNatClampNeg v)))))
  | .arraylength => match x with
    | 1 => z_pr st (fun a r => z_gd (Nat.beq a 1) (K (pc + 1) ls (z_vi (Int32.ofNat sc.1) :: r) h))
    | _ => z_pr st (fun a r => z_gd (Nat.beq (w_kd a).1 x && Nat.blt a (h.1 + 2)) (K (pc + 1) ls (z_vi (Int32.ofNat (w_kd a).2) :: r) h))
  | .new _ => z_gd (Nat.beq (w_kd (h.1 + 2)).1 x) (K (pc + 3) ls (z_vr (h.1 + 2) :: st) (z_nw h))
  | .newarray _ => z_pi st (fun n r => z_gd (Nat.beq (w_kd (h.1 + 2)).1 x && (!(decide (n < 0)) && Nat.beq (w_kd (h.1 + 2)).2 n.toNatClampNeg)) (K (pc + 2) ls (z_vr (h.1 + 2) :: r) (z_nw h)))
  | .anewarray _ => z_pi st (fun n r => z_gd (Nat.beq (w_kd (h.1 + 2)).1 14 && (!(decide (n < 0)) && Nat.beq (w_kd (h.1 + 2)).2 n.toNatClampNeg)) (K (pc + 3) ls (z_vr (h.1 + 2) :: r) (z_nw h)))
  | .multianewarray _ _ => z_pi st (fun k r => z_pi r (fun n r => z_gd ((Nat.beq (w_kd (h.1 + 2)).1 15 && (!(decide (n < 0)) && Nat.beq (w_kd (h.1 + 2)).2 n.toNatClampNeg)) && (!(decide (k < 0)) && (List.range n.toNatClampNeg).all (fun i => Nat.beq (w_kd (h.1 + 3 + i)).1 10 && Nat.beq (w_kd (h.1 + 3 + i)).2 k.toNatClampNeg))) (K (pc + 4) ls (z_vr (h.1 + 2) :: r) (z_nwm h n.toNatClampNeg))))
  | _ => none
/-- a call's answer by its kind: 0 int, 1 long, 2 nothing -/
def z_rt (q : Nat) (o : z_O) (K : z_K) (pc : Nat) (ls : z_Ls) (r : List z_V) : z_O := match q with
  | 0 => z_ci o (fun v h => K (pc + 3) ls (z_vi v :: r) h)
  | 1 => z_cl o (fun v h => K (pc + 3) ls (z_vl v :: r) h)
  | _ => z_cv o (fun h => K (pc + 3) ls r h)
def z_rc (h : z_Hp) (as : List z_V) (c : Nat) (x : z_O) : z_O := match as with
  | .inr (.inl a) :: _ => z_gd (z_ob h a c) x
  | _ => none
def z_i4 (C : z_C) (K : z_K) (x y z : Nat) (pc : Nat) (ls : z_Ls) (st : List z_V) (h : z_Hp) : z_O := match z with
  | 1 => z_sg (Nat.ble y st.length && Nat.ble (z_cats (st.drop y)) 8) (z_rt (z_mr x) (C x (st.take y).reverse h) K pc ls (st.drop y))
  | 10 => z_pi st (fun w r => z_pi r (fun v r => z_sg (Nat.ble (z_cats r) 8) (K (pc + 3) ls (z_vi (if v < w then w else v) :: r) h)))
  | 11 => z_pi st (fun w r => z_pi r (fun v r => z_sg (Nat.ble (z_cats r) 8) (K (pc + 3) ls (z_vi (if w < v then w else v) :: r) h)))
  | 12 => z_pi st (fun n r => z_pi r (fun dp r => z_pr r (fun b r => z_pi r (fun sp r => z_pr r (fun a r => z_sg (Nat.ble (z_cats r) 8) (z_gd ((Nat.beq (w_kd a).1 10 && Nat.blt a (h.1 + 2)) && (Nat.beq (w_kd b).1 10 && Nat.blt b (h.1 + 2)) && (!(decide (sp < 0)) && !(decide (dp < 0)) && !(decide (n < 0))) && (Nat.ble (sp.toNatClampNeg + n.toNatClampNeg) (w_kd a).2 && Nat.ble (dp.toNatClampNeg + n.toNatClampNeg) (w_kd b).2)) (K (pc + 3) ls r (z_cpI h a sp.toNatClampNeg b dp.toNatClampNeg n.toNatClampNeg))))))))
  | 13 => z_pr st (fun a r => z_sg (Nat.ble (z_cats r) 8) (z_gd (!(Nat.beq a 0)) (K (pc + 3) ls r h)))
  | _ => z_sg (Nat.ble y st.length && Nat.ble (z_cats (st.drop y)) 8) (z_rc h (st.take y).reverse (z_mc x) (z_rt (z_mr x) (C x (st.take y).reverse h) K pc ls (st.drop y)))
/-- a row of the program: group, instruction, what it links to (x, y, z), where its word stands in the tables (t, i) -/
abbrev z_En : Type := Nat × Jvm.ClassFile.Instr × Nat × Nat × Nat × Nat × Nat
def z_st (sc : z_Sc) (C : z_C) (K : z_K) (en : Option z_En) (pc : Nat) (ls : z_Ls) (st : List z_V) (h : z_Hp) : z_O := match en with
  | some (g, ins, x, y, z, _, _) => match g with
    | 0 => z_i0 K ins x y pc ls st h
    | 1 => z_i1 K ins pc ls st h
    | 2 => z_i2 K ins z pc ls st h
    | 3 => z_i3 sc K ins x y z pc ls st h
    | _ => z_i4 C K x y z pc ls st h
  | none => none
