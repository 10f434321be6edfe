/-! 'from (pc, locals, stack, heap) the machine comes to Q' -/
def z_lv (base b : Nat) (mls : Array Slot) (nL : Nat) (ls : z_Ls) : Prop := mls.size = nL ∧ ls.length = nL ∧ lv_wf mls ∧ ∀ (i : Nat) (v : z_V), ls[i]? = some (some v) → mls[i]? = some (.val (z_tv base b v))
def z_nst : List (Nat × MethodName) := [(23, yX1_init), (44, yX4_init), (51, yX3_init), (58, yX5_init), (69, yX0_init)]
def z_AI (U : State) : Prop := (Jvm.Cond.arrayOver (.array .int)).before #[] U = true
/-- what is known of the machine, whatever its heap: the classes, the kinds of rows, the links of the nest -/
def z_KK (D : va_G) (cy : Nat → ClassId) (U : State) : Prop := va_K D vwCl (z_tys cy) U ∧ (∀ q ∈ z_nst, va_Nw (.methodLinkNest RX7 q.1 q.2 z_host) U) ∧ va_AO RX4 U ∧ z_AI U
def z_Cx (p : Program) (s : State) (m : MethodId) (args : Array Value) (meth : Method) (c : Code) (D : va_G) (cy : Nat → ClassId) (base b : Nat) (sc : z_Sc) (M : Nat) : Prop :=
  p.tables.exec = Jvm.exec ∧ c.code = z_bM M ∧ c.maxLocals = z_ml M ∧ s.vm.findClass (z_yM M).cls = some m.cls ∧ (∀ w ∈ z_W, w.before args s = true) ∧ z_KK D cy s ∧ ((z_yM M).name = "<init>" → meth.name = "<init>") ∧ (va_X b sc.1 sc.2 s s.heap ∧ b < s.heap.size ∧ b < base) ∧ base ≤ s.heap.size
def z_at (p : Program) (l : Launch) (e : Env) (R : Room) (s : State) (m : MethodId) (args : Array Value) (below : List Frame) (meth : Method) (c : Code) (Q : State → Prop) (D : va_G) (cy : Nat → ClassId) (base b n0 : Nat) (pc : Nat) (ls : z_Ls) (st : List z_V) (h : z_Hp) : Prop :=
  ∀ (H : Heap) (locs : List Loc) (mls : Array Slot) (cells slots : Nat), H.size = base + h.1 → va_P D vwCl (z_wl cy base b h) H → va_S (fun q => base ≤ q) s.heap H locs → z_lv base b mls c.maxLocals ls → n0 ≤ h.1 → cells = h.1 - n0 → slots = z_sz h.1 - z_sz n0 → W p l e R s m args below meth c H locs cells slots Q (F0 m pc mls (st.map (z_tv base b)))
/-! locals -/
def z_ents (base b : Nat) (ls : z_Ls) : List (Nat × Value) := (List.range ls.length).filterMap (fun i => match ls[i]? with
  | some (some v) => some (i, z_tv base b v)
  | _ => none)
theorem z_ents_mem {base b : Nat} {ls : z_Ls} {i : Nat} {w : Value} : (i, w) ∈ z_ents base b ls ↔ ∃ v, ls[i]? = some (some v) ∧ w = z_tv base b v := by
  unfold z_ents
  rw [List.mem_filterMap]
  constructor
  · rintro ⟨j, hj, hq⟩
    rcases hl : ls[j]? with _ | _ | v
    · rw [hl] at hq; cases hq
    · rw [hl] at hq; cases hq
    · rw [hl] at hq
      cases hq
      exact ⟨v, hl, rfl⟩
  · rintro ⟨v, hl, rfl⟩
    refine ⟨i, List.mem_range.mpr (List.getElem?_eq_some_iff.mp hl).1, ?_⟩
    rw [hl]
theorem z_lv_has {base b nL : Nat} {mls : Array Slot} {ls : z_Ls} (h : z_lv base b mls nL ls) : lv_has mls nL (z_ents base b ls) := ⟨h.1, h.2.2.1, fun q hq => by
  obtain ⟨i, w⟩ := q
  obtain ⟨v, h1, rfl⟩ := z_ents_mem.mp hq
  exact h.2.2.2 i v h1⟩
theorem z_tv_cat1 {base b : Nat} {v : z_V} (h : z_cat v = 1) : (z_tv base b v).category = 1 := by
  rcases v with x | a | x
  · rfl
  · show (va_rf (z_ro base b a)).category = 1
    rcases z_ro base b a with _ | q <;> rfl
  · cases h
theorem z_tv_cat {base b : Nat} {v : z_V} : (z_tv base b v).category = z_cat v := by
  rcases v with x | a | x
  · rfl
  · show (va_rf (z_ro base b a)).category = 1
    rcases z_ro base b a with _ | q <;> rfl
  · rfl
theorem z_sk_lt {ls : z_Ls} {k : Nat} (h : z_sk ls k = true) : k < ls.length := by
  unfold z_sk at h
  simp only [Bool.and_eq_true, Nat.blt_eq] at h
  exact h.1
theorem z_sk_no {ls : z_Ls} {k j : Nat} {v : z_V} (h : z_sk ls k = true) (hj : j + 1 = k) (hv : ls[j]? = some (some v)) : z_cat v = 1 := by
  subst hj
  unfold z_sk at h
  simp only [Bool.and_eq_true] at h
  have h2 := h.2
  rw [hv] at h2
  rcases v with x | a | x
  · rfl
  · rfl
  · cases h2
theorem z_lv_set1 {base b nL : Nat} {mls mls' : Array Slot} {ls : z_Ls} {k : Nat} {v : z_V} (h : z_lv base b mls nL ls) (hk : z_sk ls k = true) (h' : lv_has mls' nL ((k, z_tv base b v) :: (z_ents base b ls).filter (fun q => !(q.1 == k) && !(q.1 + 1 == k && q.2.category == 2)))) : z_lv base b mls' nL (ls.set k (some v)) := by
  refine ⟨h'.1, by rw [List.length_set]; exact h.2.1, h'.2.1, fun i w hw => ?_⟩
  rw [List.getElem?_set] at hw
  by_cases e : k = i
  · subst e
    rw [if_pos rfl, if_pos (z_sk_lt hk)] at hw
    cases hw
    exact h'.2.2 _ List.mem_cons_self
  · rw [if_neg e] at hw
    refine h'.2.2 (i, z_tv base b w) (List.mem_cons_of_mem _ (List.mem_filter.mpr ⟨z_ents_mem.mpr ⟨w, hw, rfl⟩, ?_⟩))
    have h1 : ¬ (i = k) := fun q => e q.symm
    by_cases h2 : i + 1 = k
    · have := z_sk_no hk h2 hw
      simp [h1, z_tv_cat, this]
    · simp [h1, h2]
theorem z_lv_set2 {base b nL : Nat} {mls mls' : Array Slot} {ls : z_Ls} {k : Nat} {v : Int64} (h : z_lv base b mls nL ls) (hk : z_sk ls k = true) (h' : lv_has mls' nL ((k, .long v) :: (z_ents base b ls).filter (fun q => !(q.1 == k) && (!(q.1 == k + 1) && !(q.1 + 1 == k && q.2.category == 2))))) : z_lv base b mls' nL ((ls.set k (some (z_vl v))).set (k + 1) none) := by
  refine ⟨h'.1, by rw [List.length_set, List.length_set]; exact h.2.1, h'.2.1, fun i w hw => ?_⟩
  rw [List.getElem?_set] at hw
  by_cases e1 : k + 1 = i
  · rw [if_pos e1] at hw
    split at hw <;> cases hw
  · rw [if_neg e1, List.getElem?_set] at hw
    by_cases e : k = i
    · subst e
      rw [if_pos rfl, if_pos (z_sk_lt hk)] at hw
      cases hw
      exact h'.2.2 _ List.mem_cons_self
    · rw [if_neg e] at hw
      refine h'.2.2 (i, z_tv base b w) (List.mem_cons_of_mem _ (List.mem_filter.mpr ⟨z_ents_mem.mpr ⟨w, hw, rfl⟩, ?_⟩))
      have h1 : ¬ (i = k) := fun q => e q.symm
      have h3 : ¬ (i = k + 1) := fun q => e1 q.symm
      by_cases h2 : i + 1 = k
      · have := z_sk_no hk h2 hw
        simp [h1, h3, z_tv_cat, this]
      · simp [h1, h2, h3]
theorem z_cats_map {base b : Nat} : ∀ st : List z_V, ((st.map (z_tv base b)).map fun v => v.category).sum = z_cats st
  | [] => rfl
  | v :: r => by
    rw [List.map_cons, List.map_cons, List.sum_cons, z_cats_map r, z_tv_cat]
    rfl
theorem z_beq {a b : Nat} (h : Nat.beq a b = true) : a = b := Nat.eq_of_beq_eq_true h
