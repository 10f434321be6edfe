/-! THE CHECKS: the program's rows are what the code decodes to, and their words stand in the tables (positions by wip/p42/gen/chk.py) -/
def z_tb (t : Nat) : List Jvm.Cond := match t with
  | 0 => k2_sels lw_privs
  | 1 => tables_1_1
  | 2 => tables_1_2
  | 3 => tables_1_3
  | 4 => tables_1_4
  | _ => []
def z_wp (q : Nat × Nat) : Option Jvm.Cond := (z_tb q.1)[q.2]?
def z_W : List Jvm.Cond := lw_tbl.filter goodWord
theorem z_wp_in {q : Nat × Nat} {w : Jvm.Cond} (h : z_wp q = some w) : w ∈ lw_tbl := by
  obtain ⟨t, i⟩ := q
  have hm : w ∈ z_tb t := List.mem_of_getElem? h
  unfold lw_tbl tables_1
  unfold z_tb at hm
  split at hm
  · exact List.mem_append_left _ hm
  · exact List.mem_append_right _ (List.mem_append_left _ hm)
  · exact List.mem_append_right _ (List.mem_append_right _ (List.mem_append_left _ hm))
  · exact List.mem_append_right _ (List.mem_append_right _ (List.mem_append_right _ (List.mem_append_left _ hm)))
  · exact List.mem_append_right _ (List.mem_append_right _ (List.mem_append_right _ (List.mem_append_right _ hm)))
  · cases hm
theorem z_wp_W {q : Nat × Nat} {w : Jvm.Cond} (h : z_wp q = some w) (hg : goodWord w = true) : w ∈ z_W := List.mem_filter.mpr ⟨z_wp_in h, hg⟩
theorem z_in_ps {ws : List Jvm.Cond} (ps : List (Nat × Nat)) (h : ws.map some = ps.map z_wp) (hg : ws.all goodWord = true) : ∀ w ∈ ws, w ∈ z_W := fun w hw => by
  have h1 : some w ∈ ps.map z_wp := by rw [← h]; exact List.mem_map_of_mem hw
  obtain ⟨q, -, hq⟩ := List.mem_map.mp h1
  exact z_wp_W hq (List.all_eq_true.mp hg w hw)
def z_cC (c : Nat) : String := match c with
  | 0 => RX0
  | 1 => RX1
  | 2 => RX2
  | 3 => RX3
  | 4 => RX4
  | 5 => RX5
  | 6 => RX6
  | 7 => RX7
  | _ => ""
def z_cT (c : Nat) : u_T := match c with
  | 0 => TX0
  | 1 => TX1
  | 2 => TX2
  | 3 => TX3
  | 4 => TX4
  | 5 => TX5
  | 6 => TX6
  | 7 => TX7
  | _ => TX0
def z_cN (c : Nat) : Nat := match c with
  | 0 => 19
  | 1 => 7
  | 2 => 1
  | 3 => 7
  | 4 => 2
  | 5 => 17
  | 6 => 2
  | 7 => 14
  | _ => 0
def z_cY (c : Nat) : (Nat → FieldType) := match c with
  | 0 => tyX0
  | 1 => tyX1
  | 2 => tyX2
  | 3 => tyX3
  | 4 => tyX4
  | 5 => tyX5
  | 6 => tyX6
  | 7 => tyX7
  | _ => tyX0
theorem z_lays0 : ∀ w ∈ u_ws RX0 TX0 19, w ∈ z_W := z_in_ps [(2, 12), (2, 14), (2, 16), (2, 18), (2, 20), (2, 22), (2, 24), (2, 26), (2, 28), (2, 30), (2, 32), (2, 34), (2, 36), (2, 38), (2, 40), (2, 42), (2, 44), (2, 46), (2, 48)] (by decide +kernel) (by decide +kernel)
theorem z_lays1 : ∀ w ∈ u_ws RX1 TX1 7, w ∈ z_W := z_in_ps [(1, 50), (1, 52), (1, 54), (1, 56), (1, 58), (1, 60), (1, 62)] (by decide +kernel) (by decide +kernel)
theorem z_lays2 : ∀ w ∈ u_ws RX2 TX2 1, w ∈ z_W := z_in_ps [(1, 74)] (by decide +kernel) (by decide +kernel)
theorem z_lays3 : ∀ w ∈ u_ws RX3 TX3 7, w ∈ z_W := z_in_ps [(1, 108), (1, 110), (1, 112), (1, 114), (1, 116), (1, 118), (1, 120)] (by decide +kernel) (by decide +kernel)
theorem z_lays4 : ∀ w ∈ u_ws RX4 TX4 2, w ∈ z_W := z_in_ps [(1, 90), (1, 92)] (by decide +kernel) (by decide +kernel)
theorem z_lays5 : ∀ w ∈ u_ws RX5 TX5 17, w ∈ z_W := z_in_ps [(1, 149), (1, 151), (1, 153), (1, 155), (1, 157), (1, 159), (1, 161), (1, 163), (1, 165), (1, 167), (1, 169), (1, 171), (1, 173), (1, 175), (1, 177), (1, 179), (1, 181)] (by decide +kernel) (by decide +kernel)
theorem z_lays6 : ∀ w ∈ u_ws RX6 TX6 2, w ∈ z_W := z_in_ps [(1, 31), (1, 33)] (by decide +kernel) (by decide +kernel)
theorem z_lays7 : ∀ w ∈ u_ws RX7 TX7 14, w ∈ z_W := z_in_ps [(2, 67), (2, 69), (2, 71), (2, 73), (2, 75), (2, 77), (2, 79), (2, 81), (2, 83), (2, 85), (2, 87), (2, 89), (2, 91), (2, 93)] (by decide +kernel) (by decide +kernel)
theorem z_cOK (c : Nat) (hc : c < 8) : vwCl[c]? = some (z_cC c, z_cT c, z_cN c) ∧ (∀ w ∈ u_ws (z_cC c) (z_cT c) (z_cN c), w ∈ z_W) ∧ (∀ k, k < z_cN c → parseFieldDescriptor (z_cT c k).2.2.1 = some (z_cY c k)) ∧ (∀ a, a < z_cN c → ∀ b, b < z_cN c → a ≠ b → (z_cT c a).2.1 ≠ (z_cT c b).2.1) := by
  match c, hc with
  | 0, _ => exact ⟨rfl, z_lays0, tyX0_ok, nmX0⟩
  | 1, _ => exact ⟨rfl, z_lays1, tyX1_ok, nmX1⟩
  | 2, _ => exact ⟨rfl, z_lays2, tyX2_ok, nmX2⟩
  | 3, _ => exact ⟨rfl, z_lays3, tyX3_ok, nmX3⟩
  | 4, _ => exact ⟨rfl, z_lays4, tyX4_ok, nmX4⟩
  | 5, _ => exact ⟨rfl, z_lays5, tyX5_ok, nmX5⟩
  | 6, _ => exact ⟨rfl, z_lays6, tyX6_ok, nmX6⟩
  | 7, _ => exact ⟨rfl, z_lays7, tyX7_ok, nmX7⟩
def z_yM (x : Nat) : MethodName := match z_mY[x]? with
  | some q => q.1
  | none => yL_law
def z_bM (x : Nat) : ByteArray := match z_mY[x]? with
  | some q => q.2.1
  | none => cL_law
def z_rM (x : Nat) : Option FieldType := match z_mY[x]? with
  | some q => q.2.2
  | none => none
def z_kM (x : Nat) : Nat := z_mk.getD x 9
def z_lkM (x : Nat) : (Nat × Nat) × (Nat × Nat) × (Nat × Nat) × (Nat × Nat) := z_mP.getD x ((99, 0), (99, 0), (99, 0), (99, 0))
/-- the host of the nest -/
def z_host : String := "PaperRound"
/-- the word that a row of the program needs -/
def z_wd (own : String) (ins : Jvm.ClassFile.Instr) (x y z : Nat) : Option Jvm.Cond := match ins with
  | .getfield n => some (.fieldLink own n (z_cC x) (z_cT x y).2.1 (z_cT x y).2.2.1)
  | .putfield n => some (.fieldLink own n (z_cC x) (z_cT x y).2.1 (z_cT x y).2.2.1)
  | .new n => some (.classLink own n (z_cC x))
  | .anewarray n => some (.classLink own n RX4)
  | .multianewarray n _ => some (.classLink own n "[[I")
  | .ldc n => some (.constant own n (Int32.ofInt (z_sn x y)))
  | .ldc2_w n => some (.constantLong own n (Int64.ofInt (z_sn x y)))
  | .invokevirtual n => some (.methodLink own n (z_yM x))
  | .invokestatic n => match z with
    | 10 => some (.methodLink own n Lib.Math.max.name)
    | 11 => some (.methodLink own n Lib.Math.min.name)
    | 12 => some (.methodLink own n arraycopyName)
    | _ => some (.methodLink own n (z_yM x))
  | .invokespecial n => match z with
    | 13 => some (.methodLink own n objectInit)
    | 3 => some (.methodLinkNest own n (z_yM x) z_host)
    | _ => some (.methodLink own n (z_yM x))
  | _ => none
def z_tgo (pc : Nat) (o : Int) : Bool := decide (0 ≤ (pc : Int) + o)
def z_i32 (v : Int) : Bool := decide (-2147483648 ≤ v) && decide (v < 2147483648)
/-- what a row's own numbers must be -/
def z_sok (M : Nat) (pc len : Nat) (g : Nat) (ins : Jvm.ClassFile.Instr) (x y z : Nat) : Bool := match ins with
  | .iload _ => Nat.beq len 2 && Nat.beq g 0
  | .iload_n _ => Nat.beq len 1 && Nat.beq g 0
  | .aload _ => Nat.beq len 2 && Nat.beq g 0
  | .aload_n _ => Nat.beq len 1 && Nat.beq g 0
  | .lload_n _ => Nat.beq len 1 && Nat.beq g 0
  | .istore _ => Nat.beq len 2 && Nat.beq g 0
  | .istore_n _ => Nat.beq len 1 && Nat.beq g 0
  | .astore _ => Nat.beq len 2 && Nat.beq g 0
  | .astore_n _ => Nat.beq len 1 && Nat.beq g 0
  | .lstore_n _ => Nat.beq len 1 && Nat.beq g 0
  | .iinc _ _ => Nat.beq len 3 && Nat.beq g 0
  | .iconst _ => Nat.beq len 1 && Nat.beq g 0
  | .bipush _ => Nat.beq len 2 && Nat.beq g 0
  | .sipush _ => Nat.beq len 3 && Nat.beq g 0
  | .lconst _ => Nat.beq len 1 && Nat.beq g 0
  | .ldc _ => Nat.beq len 2 && Nat.beq g 0
  | .ldc2_w _ => Nat.beq len 3 && Nat.beq g 0
  | .pop => Nat.beq len 1 && Nat.beq g 0
  | .dup => Nat.beq len 1 && Nat.beq g 0
  | .dup2 => Nat.beq len 1 && Nat.beq g 0
  | .iadd => Nat.beq len 1 && Nat.beq g 1
  | .isub => Nat.beq len 1 && Nat.beq g 1
  | .imul => Nat.beq len 1 && Nat.beq g 1
  | .iand => Nat.beq len 1 && Nat.beq g 1
  | .ior => Nat.beq len 1 && Nat.beq g 1
  | .ixor => Nat.beq len 1 && Nat.beq g 1
  | .ishl => Nat.beq len 1 && Nat.beq g 1
  | .ishr => Nat.beq len 1 && Nat.beq g 1
  | .idiv => Nat.beq len 1 && Nat.beq g 1
  | .irem => Nat.beq len 1 && Nat.beq g 1
  | .ineg => Nat.beq len 1 && Nat.beq g 1
  | .i2l => Nat.beq len 1 && Nat.beq g 1
  | .i2b => Nat.beq len 1 && Nat.beq g 1
  | .l2i => Nat.beq len 1 && Nat.beq g 1
  | .ladd => Nat.beq len 1 && Nat.beq g 1
  | .lmul => Nat.beq len 1 && Nat.beq g 1
  | .land => Nat.beq len 1 && Nat.beq g 1
  | .lor => Nat.beq len 1 && Nat.beq g 1
  | .ldiv => Nat.beq len 1 && Nat.beq g 1
  | .lshl => Nat.beq len 1 && Nat.beq g 1
  | .lshr => Nat.beq len 1 && Nat.beq g 1
  | .lcmp => Nat.beq len 1 && Nat.beq g 1
  | .if_icmp _ o => Nat.beq len 3 && Nat.beq g 2 && z_tgo pc o
  | .ifCond _ o => Nat.beq len 3 && Nat.beq g 2 && z_tgo pc o
  | .goto o => Nat.beq len 3 && Nat.beq g 2 && z_tgo pc o
  | .tableswitch d lo hi os => Nat.beq g 2 && z_tgo pc d && os.toList.all (z_tgo pc) && z_i32 lo && z_i32 hi && decide (hi = lo + (os.size : Int) - 1)
  | .lookupswitch d ps => Nat.beq g 2 && z_tgo pc d && ps.toList.all (fun q => z_tgo pc q.2 && z_i32 q.1) && (ps.toList.zip (ps.toList.drop 1)).all (fun (a, next) => a.1 < next.1)
  | .ireturn => Nat.beq len 1 && Nat.beq g 2 && (match z with
    | 3 => decide (z_rM M = some .boolean)
    | 0 => decide (z_rM M = some .int)
    | _ => false)
  | .lreturn => Nat.beq len 1 && Nat.beq g 2 && decide (z_rM M = some .long)
  | .return_ => Nat.beq len 1 && Nat.beq g 2 && decide (z_rM M = none)
  | .getfield _ => Nat.beq len 3 && Nat.beq g 3 && Nat.blt x 8 && Nat.blt y (z_cN x) && Nat.beq z (z_fk x y)
  | .putfield _ => Nat.beq len 3 && Nat.beq g 3 && Nat.blt x 8 && Nat.blt y (z_cN x) && Nat.beq z (z_fk x y) && (!(z_cT x y).2.2.2 || (decide ((z_yM M).name = "<init>") && decide ((z_cT x y).1 = (z_yM M).cls)))
  | .iaload => Nat.beq len 1 && Nat.beq g 3
  | .baload => Nat.beq len 1 && Nat.beq g 3 && Nat.beq x 13
  | .laload => Nat.beq len 1 && Nat.beq g 3
  | .aaload => Nat.beq len 1 && Nat.beq g 3 && (Nat.beq x 14 || Nat.beq x 15)
  | .iastore => Nat.beq len 1 && Nat.beq g 3
  | .bastore => Nat.beq len 1 && Nat.beq g 3 && Nat.beq x 13
  | .lastore => Nat.beq len 1 && Nat.beq g 3
  | .aastore => Nat.beq len 1 && Nat.beq g 3
  | .arraylength => Nat.beq len 1 && Nat.beq g 3 && (match x with
    | 1 => true
    | 10 => true
    | _ => false)
  | .new _ => Nat.beq len 3 && Nat.beq g 3 && Nat.blt x 8
  | .newarray a => Nat.beq len 2 && Nat.beq g 3 && (match a with
    | .int => Nat.beq x 10
    | .long => Nat.beq x 11
    | .boolean => Nat.beq x 13
    | _ => false)
  | .anewarray _ => Nat.beq len 3 && Nat.beq g 3
  | .multianewarray _ q => Nat.beq len 4 && Nat.beq g 3 && Nat.beq q 2
  | .invokevirtual _ => Nat.beq len 3 && Nat.beq g 4 && Nat.beq z 0 && Nat.beq (z_kM x) 0 && Nat.beq y (z_mn x) && z_lk x
  | .invokestatic _ => Nat.beq len 3 && Nat.beq g 4 && (match z with
    | 10 => true
    | 11 => true
    | 12 => true
    | 1 => Nat.beq (z_kM x) 1 && Nat.beq y (z_mn x) && z_lk x
    | _ => false)
  | .invokespecial _ => Nat.beq len 3 && Nat.beq g 4 && (match z with
    | 13 => true
    | 2 => Nat.beq (z_kM x) 2 && Nat.beq y (z_mn x) && z_lk x
    | 3 => Nat.beq (z_kM x) 2 && Nat.beq y (z_mn x) && z_lk x
    | _ => false)
  | _ => false
/-- a row of the program holds -/
def z_eck (M : Nat) (q : Nat × Nat × z_En) : Bool := match q with
  | (pc, len, g, ins, x, y, z, t, i) => decide (decode (z_bM M) pc = .ok (ins, len)) && (z_sok M pc len g ins x y z && decide (z_wp (t, i) = z_wd (z_yM M).cls ins x y z))
/-- a method's words hold -/
def z_mcw (x : Nat) : Prop := z_wp (z_lkM x).1 = some (.code (z_yM x) (z_bM x) (z_ml x) (z_rM x))
def z_mck (x : Nat) : Bool :=
  (decide (z_wp (z_lkM x).2.1 = some (match z_kM x with
    | 1 => .static (z_yM x)
    | _ => .instanceMethod (z_yM x))) && ((match z_kM x with
    | 0 => decide (z_wp (z_lkM x).2.2.1 = some (.selects (z_yM x).cls (z_yM x) (z_yM x)))
    | 1 => true
    | 2 => decide ((z_yM x).name = "<init>") && decide (z_rM x = none)
    | _ => false) && (decide (z_wp (z_lkM x).2.2.2 = some (.initialized (z_yM x).cls)) && (decide ((parseMethodDescriptor (z_yM x).desc).map (fun d => d.parameters.length) = some (match z_kM x with
    | 1 => z_mn x
    | _ => z_mn x - 1)) && (decide ((z_yM x).cls ≠ "java/lang/invoke/MethodHandle") && (decide ((z_yM x).cls ≠ "java/lang/invoke/VarHandle") && (plainName (z_yM x).cls && (Nat.ble (z_ml x) 45 && ((match z_mr x with
    | 0 => decide (z_rM x = some .int) || decide (z_rM x = some .boolean)
    | 1 => decide (z_rM x = some .long)
    | 2 => decide (z_rM x = none)
    | _ => false) && (match z_kM x with
    | 1 => true
    | _ => decide (z_cC (z_mc x) = (z_yM x).cls) && Nat.blt (z_mc x) 8 && Nat.blt 0 (z_mn x)))))))))))
