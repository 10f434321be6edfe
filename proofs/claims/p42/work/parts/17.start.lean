/-! THE CLAIM OUT OF ONE WALK OF THE LAW'S BODY. Your part is whole_start (and what it stands on); all else here is the same for every law, but numbers. -/
def R_law : String := "PaperRoundLaw"
def lw_P (b : Addr) (xs : List Int32) (args : Array Value) (s : State) : Prop := args = #[.ref b] ∧ s.IntsAt b xs ∧ xs.length ≤ 260 ∧ (Jvm.Cond.and given_1 narrow_1).before args s = true
def lw_Q (_ : Array Value) (s : State) (o : Outcome) (t : State) : Prop := o = .returned (some (.int 1)) ∧ Framed s o t [] 600000 7302250
def lw_Z (below : List Frame) (a : Array Value) (s : State) : State → Prop := fun t => ∃ o, t.status = .running ∧ Ended t below o ∧ lw_Q a s o t
/-- the law's own end, with 1 on the stack, nothing written that was there before, its room as the claim has it -/
theorem lw_ret {p : Program} {l : Launch} {e : Env} {s : State} {m : MethodId} {below : List Frame} {meth : Method} {c : Code} {b : Nat} (hx : p.tables.exec = Jvm.exec) (hb : c.code = code) (hr : meth.sig.returnType = ret) (hlocks : meth.locks = false) {pc : Nat} {H : Heap} {ls : Array Slot} (hdg : decode code pc = .ok (.ireturn, 1)) : W p l e room_1 s m #[Value.ref b] below meth c H [] 600000 7302250 (lw_Z below #[Value.ref b] s) (F0 m pc ls [.int 1]) := by
  intro T hT X
  obtain ⟨fs, hret, hrun, hended, hW, hframe⟩ := X.leave (v := some (.int 1)) (hlocks := hlocks) (fun h => by rw [hr] at h; cases h)
  have hmeth' : T.vm.method? m = some meth := X.method'
  refine ⟨T.setFrames fs, ?_, .returned (some (.int 1)), hrun, hended, rfl, ⟨_, rfl⟩, hW, hframe⟩
  jvm_step X.here [X.here.top, hx, hb, hdg, hmeth', hr, ret, narrow_b1]
  (try refine ⟨rfl, ?_⟩); (try refine ⟨rfl, ?_⟩)
  first | (intro acts; rw [hret _ acts rfl rfl rfl]) | rw [hret _ _ rfl rfl rfl]
  exact Steps.refl _
/-- what holds at the law's entry: the machine, the code, the tables' words (any of lw_tbl by 'hts w (by decide +kernel)'), the script of L ints xs at the cell b, what the Statement gives of the start (any of its parts by flat_of_before) -/
def lw_At (p : Program) (s : State) (m : MethodId) (meth : Method) (c : Code) (b L : Nat) (xs : Nat → Int32) : Prop :=
  p.tables.exec = Jvm.exec ∧ c.code = code ∧ meth.sig.returnType = ret ∧ c.maxLocals = 19 ∧ s.vm.findClass R_law = some m.cls ∧ (∀ w ∈ lw_tbl, w.before #[Value.ref b] s = true) ∧ va_X b L xs s s.heap ∧ b < s.heap.size ∧ meth.locks = false ∧ (Jvm.Cond.and given_1 narrow_1).before #[Value.ref b] s = true
def z_h0 : z_Hp := (0, fun _ _ => 0, fun _ _ => 0, fun _ _ => 0)
theorem z_sz_200 {n : Nat} (h : n ≤ 200) : z_sz n ≤ 200 * 500 := by
  have key : ∀ n, z_sz n ≤ n * 500 := by
    intro n
    induction n with
    | zero => exact Nat.zero_le _
    | succ n ih =>
      have := w_kd_le (n + 2)
      show z_sz n + (w_kd (n + 2)).2 ≤ _
      rw [Nat.succ_mul]
      omega
  exact Nat.le_trans (key n) (Nat.mul_le_mul_right _ h)
theorem z_nst_in : (z_nst.all fun q => decide (Cond.methodLinkNest RX7 q.1 q.2 z_host ∈ lw_tbl)) = true := by decide +kernel
theorem z_known {s : State} {b : Nat} (hts : ∀ w ∈ lw_tbl, w.before #[Value.ref b] s = true) : ∃ (D : va_G) (cy : Nat → ClassId), z_KK D cy s := by
  have h1 : ∀ c : Nat, ∃ q : ClassId × (Nat → Nat), c < 8 → u_Kn s (z_cC c) (z_cT c) (z_cN c) q.1 q.2 := by
    intro c
    by_cases hc : c < 8
    · obtain ⟨o1, o2, -, -⟩ := z_cOK c hc
      obtain ⟨cC, iS, h⟩ := u_known (n := z_cN c) hts (fun w hw => (List.mem_filter.mp (o2 w hw)).1) (hts _ (List.mem_filter.mp (z_inst c hc).1).1)
      exact ⟨(cC, iS), fun _ => h⟩
    · exact ⟨(0, fun _ => 0), fun h => absurd h hc⟩
  obtain ⟨f, hf⟩ := Classical.axiomOfChoice h1
  have hin : ∀ {w : Cond}, w ∈ z_W → w ∈ lw_tbl := fun h => (List.mem_filter.mp h).1
  obtain ⟨c10, k10, p10, a10, b10, d10⟩ := Cond.arrayClass_spec (hts _ (hin z_arI))
  obtain ⟨c11, k11, p11, a11, b11, d11⟩ := Cond.arrayClass_spec (hts _ (hin z_arJ))
  obtain ⟨c13, k13, p13, a13, b13, d13⟩ := Cond.arrayClass_spec (hts _ (hin z_arZ))
  have o14 : (Cond.arrayOver (.object RX4)).before #[Value.ref b] s = true := hts _ (z_wp_in (q := (1, 78)) (by decide +kernel))
  have o15 : (Cond.arrayOver (.array .int)).before #[Value.ref b] s = true := hts _ (z_wp_in (q := (1, 26)) (by decide +kernel))
  obtain ⟨p14, c14, k14, x14, -, b14, d14, a14⟩ := Cond.arrayOver_spec o14
  obtain ⟨p15, c15, k15, x15, -, b15, d15, a15⟩ := arrayOverA_spec o15
  refine ⟨(fun c => (f c).1, fun c => (f c).2), fun t => match t with
    | 10 => c10
    | 11 => c11
    | 13 => c13
    | 14 => c14
    | _ => c15, ⟨fun c q hq => ?_, fun k q hk => ?_⟩, fun q hq => ?_, va_AO.of o14, o15⟩
  · have hc : c < 8 := (List.getElem?_eq_some_iff.mp hq).1
    rw [(z_cOK c hc).1] at hq
    cases hq
    exact hf c hc
  · match k, hk with
    | 0, hk => cases hk; exact ⟨fun n z => ⟨fun x h => (by cases h), k10, b10, p10, d10⟩, a10⟩
    | 1, hk => cases hk; exact ⟨fun n z => ⟨fun x h => (by cases h), k11, b11, p11, d11⟩, a11⟩
    | 2, hk => cases hk; exact ⟨fun n z => ⟨fun x h => (by cases h), k13, b13, p13, d13⟩, a13⟩
    | 3, hk => cases hk; exact ⟨fun n z => ⟨fun x h => (by cases h), k14, b14, p14, d14⟩, k14, p14, b14, d14, x14, a14⟩
    | 4, hk => cases hk; exact ⟨fun n z => ⟨fun x h => (by cases h), k15, b15, p15, d15⟩, a15⟩
    | k + 5, hk => simp [z_tys] at hk
  · have h2 := of_decide_eq_true (List.all_eq_true.mp z_nst_in q hq)
    exact va_Nw.of rfl (hts _ h2)
