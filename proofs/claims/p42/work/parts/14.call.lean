/-! CALLS: group 4; a method's contract -/
def z_ws (M : Nat) : List Cond := .code (z_yM M) (z_bM M) (z_ml M) (z_rM M) :: z_W
def z_rm (d mc ms : Nat) : Room := { frames := d, cells := mc, slots := ms, locals := 64 * d }
def z_SX (base b : Nat) (sc : z_Sc) (U : State) : Prop := va_X b sc.1 sc.2 U U.heap ∧ b < U.heap.size ∧ b < base
def z_Bw (D : va_G) (cy : Nat → ClassId) (base b : Nat) (sc : z_Sc) (h : z_Hp) (U : State) : Prop := U.heap.size = base + h.1 ∧ va_P D vwCl (z_wl cy base b h) U.heap ∧ z_KK D cy U ∧ z_SX base b sc U
def z_Qc (D : va_G) (cy : Nat → ClassId) (base b : Nat) (sc : z_Sc) (M : Nat) (r : z_R) : Array Value → State → Outcome → State → Prop := match z_mr M with
  | 0 => va_Qi (fun (v : Int32) (_ : Unit) => r.1 = some (z_vi v)) (fun _ t => z_Bw D cy base b sc r.2 t) (fun q => base ≤ q)
  | 1 => va_Ql (fun (v : Int64) (_ : Unit) => r.1 = some (z_vl v)) (fun _ t => z_Bw D cy base b sc r.2 t) (fun q => base ≤ q)
  | _ => va_Qv (fun (_ : Unit) => r.1 = none) (fun _ t => z_Bw D cy base b sc r.2 t) (fun q => base ≤ q)
def z_Met (l : Launch) (D : va_G) (cy : Nat → ClassId) (base b : Nat) (sc : z_Sc) (d M : Nat) (as : List z_V) (h : z_Hp) (r : z_R) : Prop :=
  Met l (z_yM M) (z_ws M) (z_rm d (r.2.1 - h.1) (z_sz r.2.1 - z_sz h.1)) (va_Pc (as.map (z_tv base b)) (z_Bw D cy base b sc h)) (z_Qc D cy base b sc M r) (r.2.1 - h.1) (z_sz r.2.1 - z_sz h.1) (fun q => base ≤ q)
theorem z_AI_moved {u U : State} (hvm : u.vm.Alike U.vm) (h : z_AI u) : z_AI U := by
  obtain ⟨comp, c, k, h1, h2, h3, h4, h5⟩ := arrayOverA_spec h
  obtain ⟨k', hk', he⟩ := hvm.2.2 _ _ h3
  have hi : (U.vm.classes.findIdx? fun (x : Class) => match x.kind with | .array component _ => component == comp | _ => false) = some c := by
    rw [hvm.findIdx?_eq _ (fun _ => rfl)]
    exact h2
  have hkind : k'.kind = .array comp (.array .int) := by rw [he]; exact h4
  have f1 : U.vm.findClass (FieldType.array .int).toString = some comp := by rw [hvm.findClass]; exact h1
  have f2 : U.vm.findClass ("[" ++ (FieldType.array .int).toString) = some c := by rw [hvm.findClass]; exact h5
  unfold z_AI Cond.before Cond.holds
  simp only [Cond.value]
  rw [f1, Option.bind_some]
  refine (congrArg (fun o : Option Nat => (o.bind (fun c => (U.vm.classes[c]?).map fun (k : Class) => match k.kind with | .array _ ty => decide (ty = FieldType.array .int) && decide (U.vm.findClass ("[" ++ (FieldType.array .int).toString) = some c) | _ => false) == some true)) hi).trans ?_
  simp [hk', hkind, f2]
theorem z_KK_warm {D : va_G} {cy : Nat → ClassId} {s U : State} (hW : s.WarmedH U.vm) (h : z_KK D cy s) : z_KK D cy U := ⟨va_K.moved hW.alike h.1, fun q hq => va_Nw.warmM hW (h.2.1 q hq), h.2.2.1.moved hW.alike, z_AI_moved hW.alike h.2.2.2⟩
theorem z_KK_same {D : va_G} {cy : Nat → ClassId} {s U : State} (e : s.vm = U.vm) (h : z_KK D cy s) : z_KK D cy U := ⟨va_K.moved (by rw [e]; exact Vm.Alike.refl U.vm) h.1, fun q hq => va_Nw.same rfl e (h.2.1 q hq), h.2.2.1.moved (by rw [e]; exact Vm.Alike.refl U.vm), z_AI_moved (by rw [e]; exact Vm.Alike.refl U.vm) h.2.2.2⟩
theorem z_SX_same {base b : Nat} {sc : z_Sc} {s U : State} (e : s.vm = U.vm) (eh : s.heap = U.heap) (h : z_SX base b sc s) : z_SX base b sc U := ⟨by rw [← eh]; exact va_X.moved (by rw [e]; exact Vm.Alike.refl U.vm) h.1, by rw [← eh]; exact h.2.1, h.2.2⟩
/-- the script stays, where only what is from base on is written -/
theorem z_SX_to {base b : Nat} {sc : z_Sc} {s U : State} {H : Heap} {locs : List Loc} (hW : s.WarmedH U.vm) (h : z_SX base b sc s) (hS : va_S (fun q => base ≤ q) s.heap H locs) (hU : U.heap = H) : z_SX base b sc U := by
  obtain ⟨h1, h2, h3⟩ := h
  have hk : H[b]? = s.heap[b]? := hS.2.1 b h2 (by show ¬ base ≤ b; omega)
  have hz : s.heap.size ≤ H.size := hS.1
  exact ⟨by rw [hU]; exact va_X.moved hW.alike (h1.kept hk), by rw [hU]; omega, h3⟩
theorem z_blind {D : va_G} {cy : Nat → ClassId} {base b : Nat} {sc : z_Sc} {h : z_Hp} {av : List Value} : FrameBlind (va_Pc av (z_Bw D cy base b sc h)) := fun a U g mk q => by
  obtain ⟨q0, q1, q2, q3, q4⟩ := q
  exact ⟨q0, q1, q2, z_KK_same (s := U) (U := U.calling g mk a) rfl q3, z_SX_same (s := U) (U := U.calling g mk a) rfl rfl q4⟩
theorem z_code_in {x : Nat} (h : z_mcw x) : Cond.code (z_yM x) (z_bM x) (z_ml x) (z_rM x) ∈ z_W := z_wp_W h rfl
theorem z_good {x : Nat} (h : z_mcw x) : GoodIn z_W (z_ws x) := fun w hw => by
  have h1 : w ∈ z_W := by
    rcases List.mem_cons.mp hw with rfl | h2
    · exact z_code_in h
    · exact h2
  exact ⟨h1, good_of_word (List.mem_filter.mp h1).2⟩
theorem z_g4 {M pc len : Nat} {ins : Jvm.ClassFile.Instr} {x y z : Nat} (hok : z_sok M pc len 4 ins x y z = true) : (∃ n, ins = .invokevirtual n) ∨ (∃ n, ins = .invokestatic n) ∨ (∃ n, ins = .invokespecial n) := by
  unfold z_sok at hok
  split at hok
  all_goals first
    | exact Or.inl ⟨_, rfl⟩
    | exact Or.inr (Or.inl ⟨_, rfl⟩)
    | exact Or.inr (Or.inr ⟨_, rfl⟩)
    | (exfalso; simp at hok; done)
theorem z_mckV {x : Nat} (hx : z_lk x = true) (hk : z_kM x = 0) : Cond.instanceMethod (z_yM x) ∈ z_W ∧ Cond.selects (z_yM x).cls (z_yM x) (z_yM x) ∈ z_W ∧ Cond.initialized (z_yM x).cls ∈ z_W ∧ ((z_yM x).cls ≠ "java/lang/invoke/MethodHandle" ∧ (z_yM x).cls ≠ "java/lang/invoke/VarHandle" ∧ (parseMethodDescriptor (z_yM x).desc).map (fun d => d.parameters.length) = some (z_mn x - 1)) ∧ z_ml x ≤ 45 ∧ z_cC (z_mc x) = (z_yM x).cls ∧ z_mc x < 8 ∧ 0 < z_mn x := by
  have h := z_mckA x hx
  unfold z_mck at h
  rw [hk] at h
  simp only [Bool.and_eq_true, decide_eq_true_eq, Nat.blt_eq] at h
  obtain ⟨h1, h2, h3, h4, h5, h6, h7, h8, h9, ⟨h10, h11⟩, h12⟩ := h
  exact ⟨z_wp_W h1 rfl, z_wp_W h2 rfl, z_wp_W h3 rfl, ⟨h5, h6, h4⟩, Nat.le_of_ble_eq_true h8, h10, h11, h12⟩
theorem z_mckS {x : Nat} (hx : z_lk x = true) (hk : z_kM x = 1) : Cond.static (z_yM x) ∈ z_W ∧ Cond.initialized (z_yM x).cls ∈ z_W ∧ ((z_yM x).cls ≠ "java/lang/invoke/MethodHandle" ∧ (z_yM x).cls ≠ "java/lang/invoke/VarHandle" ∧ (parseMethodDescriptor (z_yM x).desc).map (fun d => d.parameters.length) = some (z_mn x)) ∧ z_ml x ≤ 45 := by
  have h := z_mckA x hx
  unfold z_mck at h
  rw [hk] at h
  simp only [Bool.and_eq_true, decide_eq_true_eq] at h
  obtain ⟨h1, -, h3, h4, h5, h6, h7, h8, h9, -⟩ := h
  exact ⟨z_wp_W h1 rfl, z_wp_W h3 rfl, ⟨h5, h6, h4⟩, Nat.le_of_ble_eq_true h8⟩
theorem z_mckI {x : Nat} (hx : z_lk x = true) (hk : z_kM x = 2) : Cond.instanceMethod (z_yM x) ∈ z_W ∧ (z_yM x).name = "<init>" ∧ z_rM x = none ∧ Cond.initialized (z_yM x).cls ∈ z_W ∧ ((z_yM x).cls ≠ "java/lang/invoke/MethodHandle" ∧ (z_yM x).cls ≠ "java/lang/invoke/VarHandle" ∧ (parseMethodDescriptor (z_yM x).desc).map (fun d => d.parameters.length) = some (z_mn x - 1)) ∧ z_ml x ≤ 45 ∧ 0 < z_mn x := by
  have h := z_mckA x hx
  unfold z_mck at h
  rw [hk] at h
  simp only [Bool.and_eq_true, decide_eq_true_eq, Nat.blt_eq] at h
  obtain ⟨h1, ⟨h2, h2b⟩, h3, h4, h5, h6, h7, h8, h9, -, h12⟩ := h
  exact ⟨z_wp_W h1 rfl, h2, h2b, z_wp_W h3 rfl, ⟨h5, h6, h4⟩, Nat.le_of_ble_eq_true h8, h12⟩
theorem z_nests : (lw_tbl.all fun w => match w with
    | .methodLinkNest a i y h => z_nst.any (fun q => decide (a = RX7 ∧ i = q.1 ∧ y = q.2 ∧ h = z_host))
    | _ => true) = true := by decide +kernel
theorem z_nest_in {q : Nat × Nat} {own : String} {n : Nat} {y : MethodName} (h : z_wp q = some (.methodLinkNest own n y z_host)) : ∃ k ∈ z_nst, own = RX7 ∧ n = k.1 ∧ y = k.2 := by
  have h1 := List.all_eq_true.mp z_nests _ (z_wp_in h)
  obtain ⟨k, hk, h2⟩ := List.any_eq_true.mp h1
  have h2 := of_decide_eq_true h2
  exact ⟨k, hk, h2.1, h2.2.1, h2.2.2.1⟩
theorem z_rt_none {q : Nat} {K : z_K} {pc : Nat} {ls : z_Ls} {st : List z_V} : z_rt q none K pc ls st = none := by
  unfold z_rt
  split <;> rfl
theorem z_rt_ge {q : Nat} {K : z_K} {pc : Nat} {ls : z_Ls} {st : List z_V} {r1 r : z_R} (hK : ∀ pc' ls' st' h', K pc' ls' st' h' = some r → h'.1 ≤ r.2.1) (h : z_rt q (some r1) K pc ls st = some r) : r1.2.1 ≤ r.2.1 := by
  obtain ⟨v, h1⟩ := r1
  unfold z_rt z_ci z_cl z_cv at h
  split at h <;> split at h <;> first | exact hK _ _ _ _ h | cases h | skip
  all_goals (rename_i he; cases he; exact hK _ _ _ _ h)
section SN4
variable {p : Program} {l : Launch} {e : Env} {R : Room} {s : State} {m : MethodId} {args : Array Value} {below : List Frame} {meth : Method} {c : Code} {Q : State → Prop} {D : va_G} {cy : Nat → ClassId} {base b n0 : Nat} {sc : z_Sc} {M : Nat}
variable {pc len : Nat} {ls : z_Ls} {st : List z_V} {h : z_Hp} {ins : Jvm.ClassFile.Instr} {x y z : Nat} {K : z_K} {r : z_R} {C9 : z_C} {d : Nat}
variable {H : Heap} {locs : List Loc} {mls : Array Slot} {cells slots : Nat}
/-- behind a call -/
theorem z_fin {r1 : z_R} {a : Array Value} {st0 : List Value} {rest : List z_V} (hrun : va_Run p l e R s m args below meth c H locs cells slots (r1.2.1 - h.1) (z_sz r1.2.1 - z_sz h.1) (F0 m pc mls st0) (rest.map (z_tv base b)) (z_Qc D cy base b sc x r1 a) (fun q => base ≤ q)) (hrt : z_rt (z_mr x) (some r1) K pc ls rest = some r)
    (hK : ∀ pc' ls' st' h', K pc' ls' st' h' = some r → z_at p l e R s m args below meth c Q D cy base b n0 pc' ls' st' h') (hg1 : h.1 ≤ r1.2.1) (a3 : va_S (fun q => base ≤ q) s.heap H locs) (a4 : z_lv base b mls c.maxLocals ls) (a5 : n0 ≤ h.1) (a6 : cells = h.1 - n0) (a7 : slots = z_sz h.1 - z_sz n0) : W p l e R s m args below meth c H locs cells slots Q (F0 m pc mls st0) := by
  obtain ⟨v1, h1⟩ := r1
  have hg1 : h.1 ≤ h1.1 := hg1
  have hz1 := z_sz_le hg1
  have hz2 := z_sz_le a5
  have fin : ∀ (st' : List z_V) (H1 : Heap) (locs1 : List Loc) (t : State), K (pc + 3) ls st' h1 = some r → t.heap = H1 → z_Bw D cy base b sc h1 t → va_S (fun q => base ≤ q) s.heap H1 locs1 → W p l e R s m args below meth c H1 locs1 (cells + (h1.1 - h.1)) (slots + (z_sz h1.1 - z_sz h.1)) Q (F0 m (pc + 3) mls (st'.map (z_tv base b))) := by
    intro st' H1 locs1 t hk ht hB hS1
    subst ht
    exact hK _ _ _ _ hk t.heap locs1 mls _ _ hB.1 hB.2.1 hS1 a4 (by omega) (by omega) (by omega)
  unfold z_Qc at hrun
  unfold z_rt at hrt
  rcases hq : z_mr x with _ | _ | n
  · rw [hq] at hrt hrun
    rcases v1 with _ | v | w | v
    · cases (show (none : z_O) = some r from hrt)
    · have hrt : K (pc + 3) ls (z_vi v :: rest) h1 = some r := hrt
      refine va_calli hrun a3 (fun q _ h => h) (fun q h => h) (fun v' u t H1 locs1 ht hvm hp hB hz hk hS1 => ?_)
      have e : v = v' := by cases hp; rfl
      subst e
      exact fin (z_vi v :: rest) H1 locs1 t hrt ht hB hS1
    · cases (show (none : z_O) = some r from hrt)
    · cases (show (none : z_O) = some r from hrt)
  · rw [hq] at hrt hrun
    rcases v1 with _ | v | w | v
    · cases (show (none : z_O) = some r from hrt)
    · cases (show (none : z_O) = some r from hrt)
    · cases (show (none : z_O) = some r from hrt)
    · have hrt : K (pc + 3) ls (z_vl v :: rest) h1 = some r := hrt
      refine va_calll hrun a3 (fun q _ h => h) (fun q h => h) (fun v' u t H1 locs1 ht hvm hp hB hz hk hS1 => ?_)
      have e : v = v' := by cases hp; rfl
      subst e
      exact fin (z_vl v :: rest) H1 locs1 t hrt ht hB hS1
  · rw [hq] at hrt hrun
    rcases v1 with _ | v | w | v
    · have hrt : K (pc + 3) ls rest h1 = some r := hrt
      exact va_callv hrun a3 (fun q _ h => h) (fun q h => h) (fun u t H1 locs1 ht hvm hp hB hz hk hS1 => fin rest H1 locs1 t hrt ht hB hS1)
    · cases (show (none : z_O) = some r from hrt)
    · cases (show (none : z_O) = some r from hrt)
    · cases (show (none : z_O) = some r from hrt)
/-- places of a row come to another one's -/
theorem z_acopy {cc : ByteArray} (hexec : p.tables.exec = Jvm.exec) (hb : c.code = cc) (hml : c.maxLocals = mls.size) {own : String} {index : Nat} (hown : s.vm.findClass own = some m.cls) (hlink : (Cond.methodLink own index arraycopyName).before args s = true) (hnat : (Cond.native arraycopyName).before args s = true) (hstat : (Cond.static arraycopyName).before args s = true) (hini : (Cond.initialized "java/lang/System").before args s = true)
    {a0 a1 : Nat} {cA : ClassId} {m0 m1 : Nat} {f g : Nat → Int32} (hcA : ArrOfT s cA .int) (hc0 : H[a0]? = some (vp_cell cA (m0, .inl f))) (hc1 : H[a1]? = some (vp_cell cA (m1, .inl g))) {sp dp n : Int32} (h1 : ¬ sp < 0) (h2 : ¬ dp < 0) (h3 : ¬ n < 0) (h4 : sp.toNatClampNeg + n.toNatClampNeg ≤ m0) (h5 : dp.toNatClampNeg + n.toNatClampNeg ≤ m1)
    (hframes : 1 ≤ R.frames) {rest : List Value} (hlocals : (rest.map fun v => v.category).sum + (nativeFrameWords "java/lang/System" "arraycopy" 5 + 11) ≤ R.locals) (hdg : decode cc pc = .ok (.invokestatic index, 3))
    (kk : ∀ (H1 : Heap) (L : List Loc), H1.size = H.size → H1[a1]? = some (vp_cell cA (m1, .inl (z_cp f g sp.toNatClampNeg dp.toNatClampNeg n.toNatClampNeg))) → (∀ q : Nat, q ≠ a1 → H1[q]? = H[q]?) → (∀ q ∈ L, q.base = a1) → W p l e R s m args below meth c H1 (locs ++ L) cells slots Q (F0 m (pc + 3) mls rest)) : W p l e R s m args below meth c H locs cells slots Q (F0 m pc mls (.int n :: .int dp :: .ref a1 :: .int sp :: .ref a0 :: rest)) := by
  have nn : ∀ z : Int32, ¬ z < 0 → z.toInt = (z.toNatClampNeg : Int) := by
    intro z hz
    have hz0 : (0 : Int) ≤ z.toInt := by
      have := Int32.not_lt.mp hz
      simpa using Int32.le_iff_toInt_le.mp this
    show z.toInt = ((z.toInt.toNat : Nat) : Int)
    omega
  intro T hT X
  obtain ⟨-, k0, hk0, cm0, hkk0⟩ := hcA m0 (fun j => .int (f j))
  obtain ⟨-, k1, hk1, cm1, hkk1⟩ := hcA m1 (fun j => .int (g j))
  obtain ⟨vm', X', step⟩ := X.arraycopy hexec hown hlink hnat hstat hini (src := a0) (dst := a1) (cs := vp_cell cA (m0, .inl f)) (cd := vp_cell cA (m1, .inl g)) (srcPos := sp) (destPos := dp) (n := n) (by rw [hT]; exact hc0) (by rw [hT]; exact hc1)
    (fun _ h => by cases h) (fun _ h => by cases h) (fun h => by cases h) (fun h => by cases h) hk0 hk1 hkk0 hkk1 (by simp [refKind]) h1 h2 h3
    (by rw [nn sp h1, nn n h3]; show ¬ _ > ((arrV cA m0 (fun j => .int (f j))).slots.size : Int); rw [arrV_size]; omega)
    (by rw [nn dp h2, nn n h3]; show ¬ _ > ((arrV cA m1 (fun j => .int (g j))).slots.size : Int); rw [arrV_size]; omega)
    (fun vm₁ _ i hi => by
      have e : (vp_cell cA (m0, .inl f)).slots.getD (sp.toNatClampNeg + i) .null = .int (f (sp.toNatClampNeg + i)) := by
        show (arrV cA m0 (fun j => .int (f j))).slots.getD _ _ = _
        rw [Array.getD_eq_getD_getElem?, arrV_read _ _ (by omega)]
        rfl
      refine ⟨?_, ?_⟩
      · rw [e]
        rfl
      · rw [e]
        exact trivial)
    (g := F0 m pc mls (.int n :: .int dp :: .ref a1 :: .int sp :: .ref a0 :: rest)) rfl (by rw [hml]) (rest := rest) rfl (by rw [hb]; exact hdg) hframes (by show 2 * 0 + _ + _ ≤ _; omega)
  have e1 : copied (vp_cell cA (m0, .inl f)) (vp_cell cA (m1, .inl g)) sp dp n = vp_cell cA (m1, .inl (z_cp f g sp.toNatClampNeg dp.toNatClampNeg n.toNatClampNeg)) := va_copied (fun z => .int z) cA cA f g h4
  rw [e1] at X' step
  have hl : a1 < H.size := (Array.getElem?_eq_some_iff.mp hc1).1
  obtain ⟨t, q1, q2⟩ := kk ((T.setVm vm').setCell a1 (vp_cell cA (m1, .inl (z_cp f g sp.toNatClampNeg dp.toNatClampNeg n.toNatClampNeg)))).heap _ (by rw [size_setCell, ← hT]; rfl) (heapAt_setCell_self _ (by rw [← hT] at hl; exact hl)) (fun q hq => by rw [heapAt_setCell_ne _ (Ne.symm hq), ← hT]; rfl) (fun q hq => by
    obtain ⟨z, -, hz⟩ := List.mem_map.mp hq
    rw [← hz]) _ rfl X'
  exact ⟨t, step t q1, q2⟩
theorem z_cpI_cel {i j : Nat} (hj : j ≠ i) {a sp dp n : Nat} : z_cel cy base b (z_cpI h a sp (i + 2) dp n) (j + 2) = z_cel cy base b h (j + 2) := z_cel_cg (z_row_ne (by omega)) rfl rfl
end SN4
