/-! WHAT COMES OVER WHOLE NUMBERS comes over the machine's numbers -/
def y_inr (v : Int) : Prop := -2147483648 ≤ v ∧ v < 2147483648
/-- a cell's number with the machine, and back -/
def c_t (a : Nat) : Nat := match Nat.blt a 94 with
  | true => a
  | false => (match Nat.blt a 211 with
    | true => a - 25
    | false => a - 50)
def c_u (b : Nat) : Nat := match Nat.blt b 94 with
  | true => b
  | false => (match Nat.blt b 186 with
    | true => b + 25
    | false => b + 50)
/-- what a reference may be, of so many cells: null, the script, the two x, the rows behind them; no ghost -/
def y_ng (nn a : Nat) : Bool := Nat.blt a 94 || (Nat.blt 118 a && (Nat.blt a 211 || (Nat.blt 235 a && (Nat.blt a 240 && Nat.blt a (nn + 52)))))
def c_V (v : y_V) : z_V := match v with
  | .inl x => .inl (Int32.ofInt x)
  | .inr (.inl a) => .inr (.inl (c_t a))
  | .inr (.inr j) => .inr (.inr j)
def c_Ls (ls : y_Ls) : z_Ls := ls.map (Option.map c_V)
def z_cF (h : y_Hp) (a k : Nat) : Nat := match z_dy (z_kd a).1 k with
  | true => h.2.1 a k
  | false => z_of (z_kd a).1 k a
def c_H (nn : Nat) (h : y_Hp) : z_Hp := (nn, fun b k => Int32.ofInt (h.1 (c_u b) k), fun b k => c_t (z_cF h (c_u b) k), fun b k => h.2.2 (c_u b) k)
def c_R (nn : Nat) (r : y_R) : z_R := (r.1.map c_V, c_H nn r.2)
def y_okV (nn : Nat) (v : y_V) : Prop := match v with
  | .inl x => y_inr x
  | .inr (.inl a) => y_ng nn a = true
  | .inr (.inr _) => True
def y_okS (nn : Nat) (st : List y_V) : Prop := ∀ v ∈ st, y_okV nn v
def y_okL (nn : Nat) (ls : y_Ls) : Prop := ∀ (k : Nat) (v : y_V), ls[k]? = some (some v) → y_okV nn v
def y_okH (nn : Nat) (h : y_Hp) : Prop := (∀ a k, y_inr (h.1 a k)) ∧ ∀ a k, y_ng nn (h.2.1 a k) = true
def y_okR (nn : Nat) (r : y_R) : Prop := (∀ v, r.1 = some v → y_okV nn v) ∧ y_okH nn r.2
theorem y_ng_iff {nn a : Nat} : y_ng nn a = true ↔ (a < 94 ∨ (118 < a ∧ a < 211) ∨ (235 < a ∧ a < 240 ∧ a < nn + 52)) := by
  unfold y_ng
  simp only [Bool.or_eq_true, Bool.and_eq_true, Nat.blt_eq]
  omega
theorem c_t_eq {a : Nat} : c_t a = if a < 94 then a else if a < 211 then a - 25 else a - 50 := by
  unfold c_t
  by_cases h1 : a < 94
  · rw [if_pos h1, Nat.blt_eq.mpr h1]
  · have e1 : Nat.blt a 94 = false := by
      cases q : Nat.blt a 94
      · rfl
      · exact absurd (Nat.blt_eq.mp q) h1
    rw [if_neg h1, e1]
    by_cases h2 : a < 211
    · rw [if_pos h2, Nat.blt_eq.mpr h2]
    · have e2 : Nat.blt a 211 = false := by
        cases q : Nat.blt a 211
        · rfl
        · exact absurd (Nat.blt_eq.mp q) h2
      rw [if_neg h2, e2]
theorem c_u_eq {b : Nat} : c_u b = if b < 94 then b else if b < 186 then b + 25 else b + 50 := by
  unfold c_u
  by_cases h1 : b < 94
  · rw [if_pos h1, Nat.blt_eq.mpr h1]
  · have e1 : Nat.blt b 94 = false := by
      cases q : Nat.blt b 94
      · rfl
      · exact absurd (Nat.blt_eq.mp q) h1
    rw [if_neg h1, e1]
    by_cases h2 : b < 186
    · rw [if_pos h2, Nat.blt_eq.mpr h2]
    · have e2 : Nat.blt b 186 = false := by
        cases q : Nat.blt b 186
        · rfl
        · exact absurd (Nat.blt_eq.mp q) h2
      rw [if_neg h2, e2]
theorem c_ut {nn a : Nat} (h : y_ng nn a = true) : c_u (c_t a) = a := by
  have h := y_ng_iff.mp h
  rw [c_t_eq, c_u_eq]
  (repeat' split) <;> omega
theorem c_u_iff {nn a b : Nat} (h : y_ng nn a = true) : c_u b = a ↔ b = c_t a := by
  have h := y_ng_iff.mp h
  rw [c_t_eq, c_u_eq]
  constructor
  · intro q
    split at q
    · rw [if_pos (by omega)]; omega
    · split at q
      · rw [if_neg (by omega), if_pos (by omega)]; omega
      · rw [if_neg (by omega), if_neg (by omega)]; omega
  · intro q
    subst q
    (repeat' split) <;> omega
theorem c_t_lt {nn a : Nat} (hn : nn = 186 ∨ nn = 188) (h : y_ng nn a = true) : c_t a < nn + 2 := by
  have h := y_ng_iff.mp h
  rw [c_t_eq]
  (repeat' split) <;> omega
theorem c_t_0 {nn a : Nat} (h : y_ng nn a = true) : c_t a = 0 ↔ a = 0 := by
  have h := y_ng_iff.mp h
  rw [c_t_eq]
  (repeat' split) <;> omega
theorem c_t_kd {nn a : Nat} (h : y_ng nn a = true) : w_kd (c_t a) = z_kd a := by
  have key : ((List.range 240).all fun a => !(y_ng 188 a) || decide (w_kd (c_t a) = z_kd a)) = true := by decide +kernel
  have h1 := y_ng_iff.mp h
  have h2 : y_ng 188 a = true := y_ng_iff.mpr (by omega)
  have h3 := List.all_eq_true.mp key a (List.mem_range.mpr (by omega))
  rw [h2] at h3
  exact of_decide_eq_true h3
theorem z_kd_le (a : Nat) : (z_kd a).2 ≤ 500 := by
  have key : (z_kdl.all fun q => Nat.ble q.2 500) = true := by decide +kernel
  unfold z_kd
  split
  · rename_i q hq
    exact Nat.le_of_ble_eq_true (List.all_eq_true.mp key q (List.mem_of_getElem? hq))
  · exact Nat.zero_le _
theorem y_toInt {v : Int} (h : y_inr v) : (Int32.ofInt v).toInt = v := by
  rw [Int32.toInt_ofInt]
  have e9 : Int32.size = 4294967296 := rfl
  exact Int.bmod_eq_of_le (by unfold y_inr at h; omega) (by unfold y_inr at h; omega)
theorem y_inr_to (x : Int32) : y_inr x.toInt := by
  have h1 := Int32.le_toInt x
  have h2 := Int32.toInt_lt x
  unfold y_inr
  omega
theorem y_ofto (x : Int32) : Int32.ofInt x.toInt = x := Int32.ofInt_toInt x
theorem y_eq_c {v w : Int} (h : y_inr v) (g : y_inr w) : (Int32.ofInt v = Int32.ofInt w) ↔ v = w :=
  ⟨fun e => by rw [← y_toInt h, ← y_toInt g, e], fun e => by rw [e]⟩
theorem y_lt_c {v w : Int} (h : y_inr v) (g : y_inr w) : (Int32.ofInt v < Int32.ofInt w) ↔ v < w := by
  rw [Int32.lt_iff_toInt_lt, y_toInt h, y_toInt g]
theorem y_lt0_c {v : Int} (h : y_inr v) : (Int32.ofInt v < 0) ↔ v < 0 := y_lt_c (w := 0) h (by unfold y_inr; omega)
theorem y_nat_c {v : Int} (h : y_inr v) : (Int32.ofInt v).toNatClampNeg = v.toNat := by
  show (Int32.ofInt v).toInt.toNat = _
  rw [y_toInt h]
theorem y_ldi_some {ls : y_Ls} {k : Nat} {f : Int → y_O} {r : y_R} : y_ldi ls k f = some r ↔ ∃ x, ls[k]? = some (some (y_vi x)) ∧ f x = some r := by
  unfold y_ldi
  rcases ls[k]? with _ | _ | x | x | x <;> simp
theorem y_ldr_some {ls : y_Ls} {k : Nat} {f : Nat → y_O} {r : y_R} : y_ldr ls k f = some r ↔ ∃ x, ls[k]? = some (some (y_vr x)) ∧ f x = some r := by
  unfold y_ldr
  rcases ls[k]? with _ | _ | x | x | x <;> simp
theorem y_ldl_some {ls : y_Ls} {k : Nat} {f : Int64 → y_O} {r : y_R} : y_ldl ls k f = some r ↔ ∃ x, ls[k]? = some (some (y_vl x)) ∧ f x = some r := by
  unfold y_ldl
  rcases ls[k]? with _ | _ | x | x | x <;> simp
theorem y_pi_some {st : List y_V} {f : Int → List y_V → y_O} {r : y_R} : y_pi st f = some r ↔ ∃ x t, st = y_vi x :: t ∧ f x t = some r := by
  unfold y_pi
  rcases st with _ | ⟨x | x | x, t⟩ <;> simp
theorem y_pr_some {st : List y_V} {f : Nat → List y_V → y_O} {r : y_R} : y_pr st f = some r ↔ ∃ x t, st = y_vr x :: t ∧ f x t = some r := by
  unfold y_pr
  rcases st with _ | ⟨x | x | x, t⟩ <;> simp
theorem y_pl_some {st : List y_V} {f : Int64 → List y_V → y_O} {r : y_R} : y_pl st f = some r ↔ ∃ x t, st = y_vl x :: t ∧ f x t = some r := by
  unfold y_pl
  rcases st with _ | ⟨x | x | x, t⟩ <;> simp
theorem y_sg_some {b : Bool} {x : y_O} {r : y_R} : y_sg b x = some r ↔ b = true ∧ x = some r := by cases b <;> simp [y_sg]
theorem y_if_some {c : Prop} [Decidable c] {x : y_O} {r : y_R} : (if c then x else none) = some r ↔ c ∧ x = some r := by
  by_cases q : c
  · rw [if_pos q]; exact ⟨fun h => ⟨q, h⟩, fun h => h.2⟩
  · rw [if_neg q]; exact ⟨fun h => (by cases h), fun h => absurd h.1 q⟩
theorem y_in_some {i : Int} {n : Nat} {x : y_O} {r : y_R} : y_in i n x = some r ↔ (0 ≤ i ∧ i < (n : Int)) ∧ x = some r := y_if_some
theorem y_rg_some {v : Int} {x : y_O} {r : y_R} : y_rg v x = some r ↔ y_inr v ∧ x = some r := y_if_some
theorem y_b1_some {v : Int} {x : y_O} {r : y_R} : y_b1 v x = some r ↔ (v = 0 ∨ v = 1) ∧ x = some r := y_if_some
theorem y_nz_some {v : Int} {x : y_O} {r : y_R} : y_nz v x = some r ↔ ¬ v = 0 ∧ x = some r := by
  unfold y_nz
  by_cases q : v = 0
  · rw [if_pos q]; exact ⟨fun h => (by cases h), fun h => absurd q h.1⟩
  · rw [if_neg q]; exact ⟨fun h => ⟨q, h⟩, fun h => h.2⟩
theorem y_nl_some {v : Int64} {x : y_O} {r : y_R} : y_nl v x = some r ↔ ¬ v = 0 ∧ x = some r := by
  unfold y_nl
  by_cases q : v = 0
  · rw [if_pos q]; exact ⟨fun h => (by cases h), fun h => absurd q h.1⟩
  · rw [if_neg q]; exact ⟨fun h => ⟨q, h⟩, fun h => h.2⟩
theorem y_cg_some {sp dp n : Int} {p q : Nat} {x : y_O} {r : y_R} : y_cg sp dp n p q x = some r ↔ ((0 ≤ sp ∧ 0 ≤ dp ∧ 0 ≤ n) ∧ (sp + n ≤ (p : Int) ∧ dp + n ≤ (q : Int))) ∧ x = some r := y_if_some
theorem y_kt_some {a t : Nat} {x : y_O} {r : y_R} : y_kt a t x = some r ↔ (z_kd a).1 = t ∧ x = some r := by
  unfold y_kt
  cases h : Nat.beq (z_kd a).1 t
  · exact ⟨fun q => (by cases q), fun q => by rw [q.1, Nat.beq_refl] at h; cases h⟩
  · exact ⟨fun q => ⟨z_beq h, q⟩, fun q => q.2⟩
theorem y_okS_cons {nn : Nat} {v : y_V} {st : List y_V} : y_okS nn (v :: st) ↔ y_okV nn v ∧ y_okS nn st := by
  unfold y_okS
  simp
theorem y_okL_set {nn : Nat} {ls : y_Ls} {k : Nat} {o : Option y_V} (h : y_okL nn ls) (g : ∀ v, o = some v → y_okV nn v) : y_okL nn (ls.set k o) := by
  intro j v hj
  rw [List.getElem?_set] at hj
  split at hj
  · split at hj
    · exact g v (Option.some.inj hj)
    · cases hj
  · exact h j v hj
theorem y_ob_c {nn : Nat} (hn : nn = 186 ∨ nn = 188) {h : y_Hp} {a c : Nat} (ha : y_okV nn (y_vr a)) (g : (z_kd a).1 = c) : z_ob (c_H nn h) (c_t a) c = true := by
  have h1 := c_t_lt hn ha
  unfold z_ob
  rw [c_t_kd ha, g, Nat.beq_refl, Bool.true_and]
  exact Nat.blt_eq.mpr h1
theorem y_ar_c {nn : Nat} (hn : nn = 186 ∨ nn = 188) {h : y_Hp} {a t : Nat} {i : Int} (ha : y_okV nn (y_vr a)) (g : (z_kd a).1 = t) (hi : y_inr i) (hi2 : 0 ≤ i ∧ i < ((z_kd a).2 : Int)) : z_ar (c_H nn h) (c_t a) t (Int32.ofInt i) = true := by
  have := y_ob_c hn (h := h) ha g
  unfold z_ob at this
  unfold z_ar z_in
  rw [this, Bool.true_and, Bool.and_eq_true]
  refine ⟨?_, ?_⟩
  · have : ¬ (Int32.ofInt i < 0) := fun q => by have := (y_lt0_c hi).mp q; omega
    simp [this]
  · rw [y_nat_c hi, c_t_kd ha]
    exact Nat.blt_eq.mpr (by omega)
theorem z_ldi_c {ls : y_Ls} {k : Nat} {x : Int} {f : Int32 → z_O} (h : ls[k]? = some (some (y_vi x))) : z_ldi (c_Ls ls) k f = f (Int32.ofInt x) := by
  unfold z_ldi c_Ls
  rw [List.getElem?_map, h]
  rfl
theorem z_ldr_c {ls : y_Ls} {k : Nat} {x : Nat} {f : Nat → z_O} (h : ls[k]? = some (some (y_vr x))) : z_ldr (c_Ls ls) k f = f (c_t x) := by
  unfold z_ldr c_Ls
  rw [List.getElem?_map, h]
  rfl
theorem z_ldl_c {ls : y_Ls} {k : Nat} {x : Int64} {f : Int64 → z_O} (h : ls[k]? = some (some (y_vl x))) : z_ldl (c_Ls ls) k f = f x := by
  unfold z_ldl c_Ls
  rw [List.getElem?_map, h]
  rfl
theorem z_sk_c {ls : y_Ls} {k : Nat} : z_sk (c_Ls ls) k = y_sk ls k := by
  unfold z_sk y_sk c_Ls
  rw [List.length_map]
  congr 1
  cases k with
  | zero => rfl
  | succ j =>
    show z_lo _ = y_lo _
    rw [List.getElem?_map]
    rcases ls[j]? with _ | _ | x | x | x <;> rfl
theorem c_Ls_set {ls : y_Ls} {k : Nat} {o : Option y_V} : (c_Ls ls).set k (o.map c_V) = c_Ls (ls.set k o) := by
  unfold c_Ls
  rw [List.map_set]
theorem z_cat_c (v : y_V) : z_cat (c_V v) = y_cat v := by
  rcases v with x | x | x <;> rfl
theorem z_cats_c : ∀ st : List y_V, z_cats (st.map c_V) = y_cats st
  | [] => rfl
  | v :: r => by
    show z_cat (c_V v) + z_cats (r.map c_V) = _
    rw [z_cats_c r, z_cat_c]
    rfl
/-- a write to a cell that the machine has -/
theorem c_row {α β : Type} {nn a : Nat} (ha : y_ng nn a = true) (f : Nat → Nat → α) (g : Nat → α) (F : α → β) (b j : Nat) : F (z_row f a g (c_u b) j) = z_row (fun b k => F (f (c_u b) k)) (c_t a) (fun k => F (g k)) b j := by
  unfold z_row
  by_cases e : c_u b = a
  · rw [if_pos e, if_pos ((c_u_iff ha).mp e)]
  · rw [if_neg e, if_neg (fun q => e ((c_u_iff ha).mpr q))]
theorem c_sI {nn : Nat} {h : y_Hp} {a k : Nat} {v : Int} (ha : y_okV nn (y_vr a)) : c_H nn (y_sI h a k v) = z_sI (c_H nn h) (c_t a) k (Int32.ofInt v) := by
  refine Prod.ext rfl (Prod.ext ?_ rfl)
  funext b j
  show Int32.ofInt (z_row h.1 a (z_up (h.1 a) k v) (c_u b) j) = _
  rw [c_row ha h.1 _ Int32.ofInt b j]
  show _ = z_row (fun b k => Int32.ofInt (h.1 (c_u b) k)) (c_t a) (z_up (fun k => Int32.ofInt (h.1 (c_u (c_t a)) k)) k (Int32.ofInt v)) b j
  rw [c_ut ha]
  congr 1
  funext q
  unfold z_up
  split <;> rfl
theorem c_sJ {nn : Nat} {h : y_Hp} {a k : Nat} {v : Int64} (ha : y_okV nn (y_vr a)) : c_H nn (y_sJ h a k v) = z_sJ (c_H nn h) (c_t a) k v := by
  refine Prod.ext rfl (Prod.ext rfl (Prod.ext rfl ?_))
  funext b j
  show id (z_row h.2.2 a (z_up (h.2.2 a) k v) (c_u b) j) = _
  rw [c_row ha h.2.2 _ id b j]
  show _ = z_row (fun b k => h.2.2 (c_u b) k) (c_t a) (z_up (fun k => h.2.2 (c_u (c_t a)) k) k v) b j
  rw [c_ut ha]
  rfl
theorem c_sF {nn : Nat} {h : y_Hp} {a k : Nat} {v : Nat} (ha : y_okV nn (y_vr a)) (hd : z_dy (z_kd a).1 k = true) : c_H nn (y_sF h a k v) = z_sF (c_H nn h) (c_t a) k (c_t v) := by
  have key : ∀ b j, z_cF (y_sF h a k v) b j = z_row (z_cF h) a (z_up (z_cF h a) k v) b j := by
    intro b j
    by_cases e : b = a
    · subst e
      rw [z_row_eq]
      by_cases e2 : j = k
      · subst e2
        have e3 : (y_sF h b j v).2.1 b j = v := by
          show z_row h.2.1 b (z_up (h.2.1 b) j v) b j = v
          rw [z_row_eq]
          exact if_pos rfl
        unfold z_cF
        rw [hd, e3]
        exact (if_pos rfl).symm
      · have e3 : (y_sF h b k v).2.1 b j = h.2.1 b j := by
          show z_row h.2.1 b (z_up (h.2.1 b) k v) b j = _
          rw [z_row_eq]
          exact if_neg e2
        have e4 : z_up (z_cF h b) k v j = z_cF h b j := if_neg e2
        rw [e4]
        unfold z_cF
        rw [e3]
    · have e3 : (y_sF h a k v).2.1 b j = h.2.1 b j := by
        show z_row h.2.1 a (z_up (h.2.1 a) k v) b j = _
        rw [z_row_ne e]
      rw [z_row_ne e]
      unfold z_cF
      rw [e3]
  refine Prod.ext rfl (Prod.ext rfl (Prod.ext ?_ rfl))
  funext b j
  show c_t (z_cF (y_sF h a k v) (c_u b) j) = _
  rw [key, c_row ha (z_cF h) _ c_t b j]
  show _ = z_row (fun b k => c_t (z_cF h (c_u b) k)) (c_t a) (z_up (fun k => c_t (z_cF h (c_u (c_t a)) k)) k (c_t v)) b j
  rw [c_ut ha]
  congr 1
  funext q
  unfold z_up
  split <;> rfl
theorem c_cpI {nn : Nat} {h : y_Hp} {a sp b dp n : Nat} (ha : y_okV nn (y_vr a)) (hb : y_okV nn (y_vr b)) : c_H nn (y_cpI h a sp b dp n) = z_cpI (c_H nn h) (c_t a) sp (c_t b) dp n := by
  refine Prod.ext rfl (Prod.ext ?_ rfl)
  funext c j
  show Int32.ofInt (z_row h.1 b (y_cp (h.1 a) (h.1 b) sp dp n) (c_u c) j) = _
  rw [c_row hb h.1 _ Int32.ofInt c j]
  show _ = z_row (fun b k => Int32.ofInt (h.1 (c_u b) k)) (c_t b) (z_cp (fun k => Int32.ofInt (h.1 (c_u (c_t a)) k)) (fun k => Int32.ofInt (h.1 (c_u (c_t b)) k)) sp dp n) c j
  rw [c_ut ha, c_ut hb]
  congr 1
  funext q
  unfold y_cp z_cp
  split <;> rfl
theorem y_okH_sI {nn : Nat} {h : y_Hp} {a k : Nat} {v : Int} (hh : y_okH nn h) (hv : y_inr v) : y_okH nn (y_sI h a k v) := by
  refine ⟨fun b j => ?_, hh.2⟩
  show y_inr (z_row h.1 a (z_up (h.1 a) k v) b j)
  unfold z_row z_up
  split
  · dsimp only
    split
    · exact hv
    · exact hh.1 _ _
  · exact hh.1 _ _
theorem y_okH_sF {nn : Nat} {h : y_Hp} {a k : Nat} {v : Nat} (hh : y_okH nn h) (hv : y_okV nn (y_vr v)) : y_okH nn (y_sF h a k v) := by
  refine ⟨hh.1, fun b j => ?_⟩
  show y_ng nn (z_row h.2.1 a (z_up (h.2.1 a) k v) b j) = true
  unfold z_row z_up
  split
  · dsimp only
    split
    · exact hv
    · exact hh.2 _ _
  · exact hh.2 _ _
theorem y_okH_cpI {nn : Nat} {h : y_Hp} {a sp b dp n : Nat} (hh : y_okH nn h) : y_okH nn (y_cpI h a sp b dp n) := by
  refine ⟨fun c j => ?_, hh.2⟩
  show y_inr (z_row h.1 b (y_cp (h.1 a) (h.1 b) sp dp n) c j)
  unfold z_row y_cp
  split
  · dsimp only
    split
    · exact hh.1 _ _
    · exact hh.1 _ _
  · exact hh.1 _ _
/-- constants within their types -/
def y_cok (ins : Jvm.ClassFile.Instr) (x y : Nat) : Bool := match ins with
  | .iconst n => z_i32 n
  | .bipush n => decide (-128 ≤ n) && decide (n < 128)
  | .sipush n => decide (-32768 ≤ n) && decide (n < 32768)
  | .ldc _ => z_i32 (z_sn x y)
  | .tableswitch _ lo _ os => (z_tp lo os.toList).all (fun q => z_i32 q.1)
  | .lookupswitch _ ps => ps.toList.all (fun q => z_i32 q.1)
  | _ => true
theorem y_i32 {v : Int} (h : z_i32 v = true) : y_inr v := by
  unfold z_i32 at h
  unfold y_inr
  simpa using h
theorem y_sw_c {T : z_O → Prop} {K : Nat → y_O} {K' : Nat → z_O} {pc : Nat} {x d : Int} {r : y_R} (hx : y_inr x) (hK : ∀ p, K p = some r → T (K' p)) : ∀ {l : List (Int × Int)}, l.all (fun q => z_i32 q.1) = true → y_sw K pc x d l = some r → T (z_sw K' pc (Int32.ofInt x) d l)
  | [], _, h => hK _ h
  | q :: t, ha, h => by
    rw [List.all_cons, Bool.and_eq_true] at ha
    unfold y_sw at h
    unfold z_sw
    by_cases e : x = q.1
    · rw [if_pos e] at h
      rw [if_pos (by rw [e])]
      exact hK _ h
    · rw [if_neg e] at h
      rw [if_neg (fun g => e ((y_eq_c hx (y_i32 ha.1)).mp g))]
      exact y_sw_c hx hK ha.2 h
section SIM
variable {K : y_K} {K' : z_K} {ins : Jvm.ClassFile.Instr} {x y z pc : Nat} {ls : y_Ls} {st : List y_V} {h : y_Hp} {r : y_R} {sc : z_Sc} {T : z_O → Prop} {nn : Nat}
theorem y_sim0 (hls : y_okL nn ls) (hst : y_okS nn st) (hh : y_okH nn h) (hc : y_cok ins x y = true) (hr : y_i0 K ins x y pc ls st h = some r) (hK : ∀ pc' ls' st' h', y_okL nn ls' → y_okS nn st' → y_okH nn h' → K pc' ls' st' h' = some r → T (K' pc' (c_Ls ls') (st'.map c_V) (c_H nn h'))) : T (z_i0 K' ins x y pc (c_Ls ls) (st.map c_V) (c_H nn h)) := by
  unfold y_i0 at hr
  split at hr
  · obtain ⟨v, h1, h2⟩ := y_ldi_some.mp hr
    show T (z_ldi (c_Ls ls) _ _)
    rw [z_ldi_c h1]
    exact hK _ _ _ _ hls (y_okS_cons.mpr ⟨hls _ _ h1, hst⟩) hh h2
  · obtain ⟨v, h1, h2⟩ := y_ldi_some.mp hr
    show T (z_ldi (c_Ls ls) _ _)
    rw [z_ldi_c h1]
    exact hK _ _ _ _ hls (y_okS_cons.mpr ⟨hls _ _ h1, hst⟩) hh h2
  · obtain ⟨v, h1, h2⟩ := y_ldr_some.mp hr
    show T (z_ldr (c_Ls ls) _ _)
    rw [z_ldr_c h1]
    exact hK _ _ _ _ hls (y_okS_cons.mpr ⟨hls _ _ h1, hst⟩) hh h2
  · obtain ⟨v, h1, h2⟩ := y_ldr_some.mp hr
    show T (z_ldr (c_Ls ls) _ _)
    rw [z_ldr_c h1]
    exact hK _ _ _ _ hls (y_okS_cons.mpr ⟨hls _ _ h1, hst⟩) hh h2
  · obtain ⟨v, h1, h2⟩ := y_ldl_some.mp hr
    show T (z_ldl (c_Ls ls) _ _)
    rw [z_ldl_c h1]
    exact hK _ _ _ _ hls (y_okS_cons.mpr ⟨hls _ _ h1, hst⟩) hh h2
  · obtain ⟨v, t, rfl, h2⟩ := y_pi_some.mp hr
    obtain ⟨h1, h3⟩ := y_sg_some.mp h2
    have hs := y_okS_cons.mp hst
    show T (z_sg (z_sk (c_Ls ls) _) (K' _ ((c_Ls ls).set _ (Option.map c_V (some (y_vi v)))) _ _))
    rw [z_sk_c, h1, c_Ls_set]
    exact hK _ _ _ _ (y_okL_set hls (fun w e => by cases e; exact hs.1)) hs.2 hh h3
  · obtain ⟨v, t, rfl, h2⟩ := y_pi_some.mp hr
    obtain ⟨h1, h3⟩ := y_sg_some.mp h2
    have hs := y_okS_cons.mp hst
    show T (z_sg (z_sk (c_Ls ls) _) (K' _ ((c_Ls ls).set _ (Option.map c_V (some (y_vi v)))) _ _))
    rw [z_sk_c, h1, c_Ls_set]
    exact hK _ _ _ _ (y_okL_set hls (fun w e => by cases e; exact hs.1)) hs.2 hh h3
  · obtain ⟨v, t, rfl, h2⟩ := y_pr_some.mp hr
    obtain ⟨h1, h3⟩ := y_sg_some.mp h2
    have hs := y_okS_cons.mp hst
    show T (z_sg (z_sk (c_Ls ls) _) (K' _ ((c_Ls ls).set _ (Option.map c_V (some (y_vr v)))) _ _))
    rw [z_sk_c, h1, c_Ls_set]
    exact hK _ _ _ _ (y_okL_set hls (fun w e => by cases e; exact hs.1)) hs.2 hh h3
  · obtain ⟨v, t, rfl, h2⟩ := y_pr_some.mp hr
    obtain ⟨h1, h3⟩ := y_sg_some.mp h2
    have hs := y_okS_cons.mp hst
    show T (z_sg (z_sk (c_Ls ls) _) (K' _ ((c_Ls ls).set _ (Option.map c_V (some (y_vr v)))) _ _))
    rw [z_sk_c, h1, c_Ls_set]
    exact hK _ _ _ _ (y_okL_set hls (fun w e => by cases e; exact hs.1)) hs.2 hh h3
  · obtain ⟨v, t, rfl, h2⟩ := y_pl_some.mp hr
    obtain ⟨h1, h3⟩ := y_sg_some.mp h2
    have hs := y_okS_cons.mp hst
    rename_i k
    show T (z_sg (z_sk (c_Ls ls) _ && Nat.blt (k.val + 1) (c_Ls ls).length) (K' _ (((c_Ls ls).set _ (Option.map c_V (some (y_vl v)))).set _ (Option.map c_V none)) _ _))
    have el : (c_Ls ls).length = ls.length := List.length_map _
    rw [z_sk_c, el, h1, c_Ls_set, c_Ls_set]
    exact hK _ _ _ _ (y_okL_set (y_okL_set hls (fun w e => by cases e; exact hs.1)) (fun w e => by cases e)) hs.2 hh h3
  · obtain ⟨v, h1, h2⟩ := y_ldi_some.mp hr
    obtain ⟨h3, h4⟩ := y_sg_some.mp h2
    obtain ⟨h5, h6⟩ := y_rg_some.mp h4
    rename_i k n
    show T (z_ldi (c_Ls ls) _ _)
    rw [z_ldi_c h1, z_sk_c, h3]
    have e : Int32.ofInt v + Int32.ofInt n = Int32.ofInt (v + n) := (Int32.ofInt_add v n).symm
    rw [e]
    show T (K' _ ((c_Ls ls).set _ (Option.map c_V (some (y_vi (v + n))))) _ _)
    rw [c_Ls_set]
    exact hK _ _ _ _ (y_okL_set hls (fun w e => by cases e; exact h5)) hst hh h6
  · rename_i n
    exact hK _ ls (y_vi n :: st) _ hls (y_okS_cons.mpr ⟨y_i32 hc, hst⟩) hh hr
  · rename_i n
    have hn : -128 ≤ n ∧ n < 128 := by unfold y_cok at hc; simpa using hc
    have e : (Int8.ofInt n).toInt32 = Int32.ofInt n := by
      have h8 : (Int8.ofInt n).toInt = n := by
        rw [Int8.toInt_ofInt]
        have e9 : Int8.size = 256 := rfl
        exact Int.bmod_eq_of_le (by omega) (by omega)
      rw [← y_ofto (Int8.ofInt n).toInt32, Int8.toInt_toInt32, h8]
    show T (K' _ _ (z_vi (Int8.ofInt n).toInt32 :: _) _)
    rw [e]
    exact hK _ _ _ _ hls (y_okS_cons.mpr ⟨by show y_inr n; unfold y_inr; omega, hst⟩) hh hr
  · rename_i n
    have hn : -32768 ≤ n ∧ n < 32768 := by unfold y_cok at hc; simpa using hc
    have e : (Int16.ofInt n).toInt32 = Int32.ofInt n := by
      have h8 : (Int16.ofInt n).toInt = n := by
        rw [Int16.toInt_ofInt]
        have e9 : Int16.size = 65536 := rfl
        exact Int.bmod_eq_of_le (by omega) (by omega)
      rw [← y_ofto (Int16.ofInt n).toInt32, Int16.toInt_toInt32, h8]
    show T (K' _ _ (z_vi (Int16.ofInt n).toInt32 :: _) _)
    rw [e]
    exact hK _ _ _ _ hls (y_okS_cons.mpr ⟨by show y_inr n; unfold y_inr; omega, hst⟩) hh hr
  · rename_i n
    exact hK _ ls (y_vl (Int64.ofNat n.val) :: st) _ hls (y_okS_cons.mpr ⟨trivial, hst⟩) hh hr
  · exact hK _ ls (y_vi (z_sn x y) :: st) _ hls (y_okS_cons.mpr ⟨y_i32 hc, hst⟩) hh hr
  · exact hK _ ls (y_vl (Int64.ofInt (z_sn x y)) :: st) _ hls (y_okS_cons.mpr ⟨trivial, hst⟩) hh hr
  · split at hr
    · rename_i v t
      obtain ⟨h1, h2⟩ := y_sg_some.mp hr
      have hs := y_okS_cons.mp hst
      show T (z_sg (Nat.beq (z_cat (c_V v)) 1) _)
      rw [z_cat_c, h1]
      exact hK _ _ _ _ hls hs.2 hh h2
    · cases hr
  · split at hr
    · rename_i v t
      obtain ⟨h1, h2⟩ := y_sg_some.mp hr
      have hs := y_okS_cons.mp hst
      show T (z_sg (Nat.beq (z_cat (c_V v)) 1) _)
      rw [z_cat_c, h1]
      exact hK _ (ls) (v :: v :: t) _ hls (y_okS_cons.mpr ⟨hs.1, hst⟩) hh h2
    · cases hr
  · split at hr
    · rename_i v t
      have hs := y_okS_cons.mp hst
      exact hK _ (ls) (y_vl v :: y_vl v :: t) _ hls (y_okS_cons.mpr ⟨hs.1, hst⟩) hh hr
    · rename_i v w t hnl
      obtain ⟨h1, h2⟩ := y_sg_some.mp hr
      have hs := y_okS_cons.mp hst
      have hs2 := y_okS_cons.mp hs.2
      have h9 := hK _ (ls) (v :: w :: v :: w :: t) _ hls (y_okS_cons.mpr ⟨hs.1, y_okS_cons.mpr ⟨hs2.1, hst⟩⟩) hh h2
      rcases v with v | v | v
      · show T (z_sg (Nat.beq 1 1 && Nat.beq (z_cat (c_V w)) 1) _)
        rw [z_cat_c]
        have h1 : (Nat.beq 1 1 && Nat.beq (y_cat w) 1) = true := h1
        rw [h1]
        exact h9
      · show T (z_sg (Nat.beq 1 1 && Nat.beq (z_cat (c_V w)) 1) _)
        rw [z_cat_c]
        have h1 : (Nat.beq 1 1 && Nat.beq (y_cat w) 1) = true := h1
        rw [h1]
        exact h9
      · first | exact (hnl v rfl).elim | exact (hnl v (w :: t) rfl rfl).elim | exact (hnl _ _ rfl).elim
    · cases hr
  · cases hr
end SIM
