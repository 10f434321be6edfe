/-! WHAT COMES OVER WHOLE NUMBERS comes over the machine's numbers -/
def y_inr (v : Int) : Prop := -2147483648 ≤ v ∧ v < 2147483648
def c_V (v : y_V) : z_V := match v with
  | .inl x => .inl (Int32.ofInt x)
  | .inr q => .inr q
def c_Ls (ls : y_Ls) : z_Ls := ls.map (Option.map c_V)
def z_cF (h : y_Hp) (a k : Nat) : Nat := match z_dy (z_kd a).1 k with
  | true => h.2.1 a k
  | false => z_of (z_kd a).1 k a
def c_H (h : y_Hp) : z_Hp := (117, fun a k => Int32.ofInt (h.1 a k), z_cF h, h.2.2)
def c_R (r : y_R) : z_R := (r.1.map c_V, c_H r.2)
def y_okV (v : y_V) : Prop := match v with
  | .inl x => y_inr x
  | _ => True
def y_okS (st : List y_V) : Prop := ∀ v ∈ st, y_okV v
def y_okL (ls : y_Ls) : Prop := ∀ (k : Nat) (v : y_V), ls[k]? = some (some v) → y_okV v
def y_okH (h : y_Hp) : Prop := ∀ a k, y_inr (h.1 a k)
def y_okR (r : y_R) : Prop := (∀ v, r.1 = some v → y_okV v) ∧ y_okH r.2
theorem y_toInt {v : Int} (h : y_inr v) : (Int32.ofInt v).toInt = v := by
  rw [Int32.toInt_ofInt]
  have e9 : Int32.size = 4294967296 := rfl
  exact Int.bmod_eq_of_le (by unfold y_inr at h; omega) (by unfold y_inr at h; omega)
theorem y_inr_to (x : Int32) : y_inr x.toInt := by
  have h1 := Int32.le_toInt x
  have h2 := Int32.toInt_lt x
  unfold y_inr
  omega
theorem y_ofto (x : Int32) : Int32.ofInt x.toInt = x := Int32.ofInt_toInt x
theorem y_eq_c {v w : Int} (h : y_inr v) (g : y_inr w) : (Int32.ofInt v = Int32.ofInt w) ↔ v = w :=
  ⟨fun e => by rw [← y_toInt h, ← y_toInt g, e], fun e => by rw [e]⟩
theorem y_lt_c {v w : Int} (h : y_inr v) (g : y_inr w) : (Int32.ofInt v < Int32.ofInt w) ↔ v < w := by
  rw [Int32.lt_iff_toInt_lt, y_toInt h, y_toInt g]
theorem y_lt0_c {v : Int} (h : y_inr v) : (Int32.ofInt v < 0) ↔ v < 0 := y_lt_c (w := 0) h (by unfold y_inr; omega)
theorem y_nat_c {v : Int} (h : y_inr v) : (Int32.ofInt v).toNatClampNeg = v.toNat := by
  show (Int32.ofInt v).toInt.toNat = _
  rw [y_toInt h]
theorem y_ldi_some {ls : y_Ls} {k : Nat} {f : Int → y_O} {r : y_R} : y_ldi ls k f = some r ↔ ∃ x, ls[k]? = some (some (y_vi x)) ∧ f x = some r := by
  unfold y_ldi
  rcases ls[k]? with _ | _ | x | x | x <;> simp
theorem y_ldr_some {ls : y_Ls} {k : Nat} {f : Nat → y_O} {r : y_R} : y_ldr ls k f = some r ↔ ∃ x, ls[k]? = some (some (y_vr x)) ∧ f x = some r := by
  unfold y_ldr
  rcases ls[k]? with _ | _ | x | x | x <;> simp
theorem y_ldl_some {ls : y_Ls} {k : Nat} {f : Int64 → y_O} {r : y_R} : y_ldl ls k f = some r ↔ ∃ x, ls[k]? = some (some (y_vl x)) ∧ f x = some r := by
  unfold y_ldl
  rcases ls[k]? with _ | _ | x | x | x <;> simp
theorem y_pi_some {st : List y_V} {f : Int → List y_V → y_O} {r : y_R} : y_pi st f = some r ↔ ∃ x t, st = y_vi x :: t ∧ f x t = some r := by
  unfold y_pi
  rcases st with _ | ⟨x | x | x, t⟩ <;> simp
theorem y_pr_some {st : List y_V} {f : Nat → List y_V → y_O} {r : y_R} : y_pr st f = some r ↔ ∃ x t, st = y_vr x :: t ∧ f x t = some r := by
  unfold y_pr
  rcases st with _ | ⟨x | x | x, t⟩ <;> simp
theorem y_pl_some {st : List y_V} {f : Int64 → List y_V → y_O} {r : y_R} : y_pl st f = some r ↔ ∃ x t, st = y_vl x :: t ∧ f x t = some r := by
  unfold y_pl
  rcases st with _ | ⟨x | x | x, t⟩ <;> simp
theorem y_sg_some {b : Bool} {x : y_O} {r : y_R} : y_sg b x = some r ↔ b = true ∧ x = some r := by cases b <;> simp [y_sg]
theorem y_if_some {c : Prop} [Decidable c] {x : y_O} {r : y_R} : (if c then x else none) = some r ↔ c ∧ x = some r := by
  by_cases q : c
  · rw [if_pos q]; exact ⟨fun h => ⟨q, h⟩, fun h => h.2⟩
  · rw [if_neg q]; exact ⟨fun h => (by cases h), fun h => absurd h.1 q⟩
theorem y_in_some {i : Int} {n : Nat} {x : y_O} {r : y_R} : y_in i n x = some r ↔ (0 ≤ i ∧ i < (n : Int)) ∧ x = some r := y_if_some
theorem y_rg_some {v : Int} {x : y_O} {r : y_R} : y_rg v x = some r ↔ y_inr v ∧ x = some r := y_if_some
theorem y_b1_some {v : Int} {x : y_O} {r : y_R} : y_b1 v x = some r ↔ (v = 0 ∨ v = 1) ∧ x = some r := y_if_some
theorem y_nz_some {v : Int} {x : y_O} {r : y_R} : y_nz v x = some r ↔ ¬ v = 0 ∧ x = some r := by
  unfold y_nz
  by_cases q : v = 0
  · rw [if_pos q]; exact ⟨fun h => (by cases h), fun h => absurd q h.1⟩
  · rw [if_neg q]; exact ⟨fun h => ⟨q, h⟩, fun h => h.2⟩
theorem y_nl_some {v : Int64} {x : y_O} {r : y_R} : y_nl v x = some r ↔ ¬ v = 0 ∧ x = some r := by
  unfold y_nl
  by_cases q : v = 0
  · rw [if_pos q]; exact ⟨fun h => (by cases h), fun h => absurd q h.1⟩
  · rw [if_neg q]; exact ⟨fun h => ⟨q, h⟩, fun h => h.2⟩
theorem y_cg_some {sp dp n : Int} {p q : Nat} {x : y_O} {r : y_R} : y_cg sp dp n p q x = some r ↔ ((0 ≤ sp ∧ 0 ≤ dp ∧ 0 ≤ n) ∧ (sp + n ≤ (p : Int) ∧ dp + n ≤ (q : Int))) ∧ x = some r := y_if_some
theorem y_kt_some {a t : Nat} {x : y_O} {r : y_R} : y_kt a t x = some r ↔ (z_kd a).1 = t ∧ x = some r := by
  unfold y_kt
  cases h : Nat.beq (z_kd a).1 t
  · exact ⟨fun q => (by cases q), fun q => by rw [q.1, Nat.beq_refl] at h; cases h⟩
  · exact ⟨fun q => ⟨z_beq h, q⟩, fun q => q.2⟩
theorem y_okS_cons {v : y_V} {st : List y_V} : y_okS (v :: st) ↔ y_okV v ∧ y_okS st := by
  unfold y_okS
  simp
theorem y_okL_set {ls : y_Ls} {k : Nat} {o : Option y_V} (h : y_okL ls) (g : ∀ v, o = some v → y_okV v) : y_okL (ls.set k o) := by
  intro j v hj
  rw [List.getElem?_set] at hj
  split at hj
  · split at hj
    · exact g v (Option.some.inj hj)
    · cases hj
  · exact h j v hj
theorem y_kd_lt {a : Nat} (h : (z_kd a).1 < 98) : a < 119 := by
  rcases Nat.lt_or_ge a 119 with q | q
  · exact q
  · have e : z_kd a = (99, 0) := by
      unfold z_kd
      rw [List.getElem?_eq_none (Nat.le_trans (Nat.le_of_ble_eq_true rfl) q)]
    rw [e] at h
    exact absurd h (by decide)
theorem y_ob_c {h : y_Hp} {a c : Nat} (hc : c < 98) (g : (z_kd a).1 = c) : z_ob (c_H h) a c = true := by
  have := y_kd_lt (a := a) (by omega)
  unfold z_ob
  rw [g, Nat.beq_refl, Bool.true_and]
  exact Nat.blt_eq.mpr this
theorem y_ar_c {h : y_Hp} {a t : Nat} {i : Int} (hc : t < 98) (g : (z_kd a).1 = t) (hi : y_inr i) (hi2 : 0 ≤ i ∧ i < ((z_kd a).2 : Int)) : z_ar (c_H h) a t (Int32.ofInt i) = true := by
  have := y_ob_c (h := h) hc g
  unfold z_ob at this
  unfold z_ar z_in
  rw [this, Bool.true_and, Bool.and_eq_true]
  refine ⟨?_, ?_⟩
  · have : ¬ (Int32.ofInt i < 0) := fun q => by have := (y_lt0_c hi).mp q; omega
    simp [this]
  · rw [y_nat_c hi]
    exact Nat.blt_eq.mpr (by omega)
theorem z_ldi_c {ls : y_Ls} {k : Nat} {x : Int} {f : Int32 → z_O} (h : ls[k]? = some (some (y_vi x))) : z_ldi (c_Ls ls) k f = f (Int32.ofInt x) := by
  unfold z_ldi c_Ls
  rw [List.getElem?_map, h]
  rfl
theorem z_ldr_c {ls : y_Ls} {k : Nat} {x : Nat} {f : Nat → z_O} (h : ls[k]? = some (some (y_vr x))) : z_ldr (c_Ls ls) k f = f x := by
  unfold z_ldr c_Ls
  rw [List.getElem?_map, h]
  rfl
theorem z_ldl_c {ls : y_Ls} {k : Nat} {x : Int64} {f : Int64 → z_O} (h : ls[k]? = some (some (y_vl x))) : z_ldl (c_Ls ls) k f = f x := by
  unfold z_ldl c_Ls
  rw [List.getElem?_map, h]
  rfl
theorem z_sk_c {ls : y_Ls} {k : Nat} : z_sk (c_Ls ls) k = y_sk ls k := by
  unfold z_sk y_sk c_Ls
  rw [List.length_map]
  congr 1
  cases k with
  | zero => rfl
  | succ j =>
    show z_lo _ = y_lo _
    rw [List.getElem?_map]
    rcases ls[j]? with _ | _ | x | x | x <;> rfl
theorem c_Ls_set {ls : y_Ls} {k : Nat} {o : Option y_V} : (c_Ls ls).set k (o.map c_V) = c_Ls (ls.set k o) := by
  unfold c_Ls
  rw [List.map_set]
theorem z_cat_c (v : y_V) : z_cat (c_V v) = y_cat v := by
  rcases v with x | x | x <;> rfl
theorem z_cats_c : ∀ st : List y_V, z_cats (st.map c_V) = y_cats st
  | [] => rfl
  | v :: r => by
    show z_cat (c_V v) + z_cats (r.map c_V) = _
    rw [z_cats_c r, z_cat_c]
    rfl
theorem c_sI {h : y_Hp} {a k : Nat} {v : Int} : c_H (y_sI h a k v) = z_sI (c_H h) a k (Int32.ofInt v) := by
  unfold c_H z_sI y_sI
  refine Prod.ext rfl (Prod.ext ?_ rfl)
  funext b j
  show Int32.ofInt (z_row h.1 a (z_up (h.1 a) k v) b j) = z_row (fun a k => Int32.ofInt (h.1 a k)) a (z_up (fun k => Int32.ofInt (h.1 a k)) k (Int32.ofInt v)) b j
  unfold z_row z_up
  split
  · dsimp only
    split <;> rfl
  · rfl
theorem c_sJ {h : y_Hp} {a k : Nat} {v : Int64} : c_H (y_sJ h a k v) = z_sJ (c_H h) a k v := rfl
theorem c_sF {h : y_Hp} {a k : Nat} {v : Nat} (hd : z_dy (z_kd a).1 k = true) : c_H (y_sF h a k v) = z_sF (c_H h) a k v := by
  unfold c_H z_sF
  refine Prod.ext rfl (Prod.ext rfl (Prod.ext ?_ rfl))
  funext b j
  show z_cF (y_sF h a k v) b j = z_row (z_cF h) a (z_up (z_cF h a) k v) b j
  by_cases e : b = a
  · subst e
    rw [z_row_eq]
    by_cases e2 : j = k
    · subst e2
      have e3 : (y_sF h b j v).2.1 b j = v := by
        show z_row h.2.1 b (z_up (h.2.1 b) j v) b j = v
        rw [z_row_eq]
        exact if_pos rfl
      unfold z_cF
      rw [hd, e3]
      exact (if_pos rfl).symm
    · have e3 : (y_sF h b k v).2.1 b j = h.2.1 b j := by
        show z_row h.2.1 b (z_up (h.2.1 b) k v) b j = _
        rw [z_row_eq]
        exact if_neg e2
      have e4 : z_up (z_cF h b) k v j = z_cF h b j := if_neg e2
      rw [e4]
      unfold z_cF
      rw [e3]
  · have e3 : (y_sF h a k v).2.1 b j = h.2.1 b j := by
      show z_row h.2.1 a (z_up (h.2.1 a) k v) b j = _
      rw [z_row_ne e]
    rw [z_row_ne e]
    unfold z_cF
    rw [e3]
theorem c_cpI {h : y_Hp} {a sp b dp n : Nat} : c_H (y_cpI h a sp b dp n) = z_cpI (c_H h) a sp b dp n := by
  unfold c_H z_cpI y_cpI
  refine Prod.ext rfl (Prod.ext ?_ rfl)
  funext c j
  show Int32.ofInt (z_row h.1 b (y_cp (h.1 a) (h.1 b) sp dp n) c j) = z_row (fun a k => Int32.ofInt (h.1 a k)) b (z_cp (fun k => Int32.ofInt (h.1 a k)) (fun k => Int32.ofInt (h.1 b k)) sp dp n) c j
  unfold z_row y_cp z_cp
  split
  · dsimp only
    split <;> rfl
  · rfl
theorem y_okH_sI {h : y_Hp} {a k : Nat} {v : Int} (hh : y_okH h) (hv : y_inr v) : y_okH (y_sI h a k v) := by
  intro b j
  show y_inr (z_row h.1 a (z_up (h.1 a) k v) b j)
  unfold z_row z_up
  split
  · dsimp only
    split
    · exact hv
    · exact hh _ _
  · exact hh _ _
theorem y_okH_cpI {h : y_Hp} {a sp b dp n : Nat} (hh : y_okH h) : y_okH (y_cpI h a sp b dp n) := by
  intro c j
  show y_inr (z_row h.1 b (y_cp (h.1 a) (h.1 b) sp dp n) c j)
  unfold z_row y_cp
  split
  · dsimp only
    split
    · exact hh _ _
    · exact hh _ _
  · exact hh _ _
/-- constants within their types -/
def y_cok (ins : Jvm.ClassFile.Instr) (x y : Nat) : Bool := match ins with
  | .iconst n => z_i32 n
  | .bipush n => decide (-128 ≤ n) && decide (n < 128)
  | .sipush n => decide (-32768 ≤ n) && decide (n < 32768)
  | .ldc _ => z_i32 (z_sn x y)
  | .tableswitch _ lo _ os => (z_tp lo os.toList).all (fun q => z_i32 q.1)
  | .lookupswitch _ ps => ps.toList.all (fun q => z_i32 q.1)
  | _ => true
theorem y_i32 {v : Int} (h : z_i32 v = true) : y_inr v := by
  unfold z_i32 at h
  unfold y_inr
  simpa using h
theorem y_sw_c {K : Nat → y_O} {K' : Nat → z_O} {pc : Nat} {x d : Int} {r : y_R} (hx : y_inr x) (hK : ∀ p, K p = some r → y_okR r ∧ K' p = some (c_R r)) : ∀ {l : List (Int × Int)}, l.all (fun q => z_i32 q.1) = true → y_sw K pc x d l = some r → y_okR r ∧ z_sw K' pc (Int32.ofInt x) d l = some (c_R r)
  | [], _, h => hK _ h
  | q :: t, ha, h => by
    rw [List.all_cons, Bool.and_eq_true] at ha
    unfold y_sw at h
    unfold z_sw
    by_cases e : x = q.1
    · rw [if_pos e] at h
      rw [if_pos (by rw [e])]
      exact hK _ h
    · rw [if_neg e] at h
      rw [if_neg (fun g => e ((y_eq_c hx (y_i32 ha.1)).mp g))]
      exact y_sw_c hx hK ha.2 h
section SIM
variable {K : y_K} {K' : z_K} {ins : Jvm.ClassFile.Instr} {x y z pc : Nat} {ls : y_Ls} {st : List y_V} {h : y_Hp} {r : y_R} {sc : z_Sc}
theorem y_sim0 (hls : y_okL ls) (hst : y_okS st) (hh : y_okH h) (hc : y_cok ins x y = true) (hr : y_i0 K ins x y pc ls st h = some r) (hK : ∀ pc' ls' st' h', y_okL ls' → y_okS st' → y_okH h' → K pc' ls' st' h' = some r → y_okR r ∧ K' pc' (c_Ls ls') (st'.map c_V) (c_H h') = some (c_R r)) : y_okR r ∧ z_i0 K' ins x y pc (c_Ls ls) (st.map c_V) (c_H h) = some (c_R r) := by
  unfold y_i0 at hr
  split at hr
  · obtain ⟨v, h1, h2⟩ := y_ldi_some.mp hr
    show y_okR r ∧ z_ldi (c_Ls ls) _ _ = _
    rw [z_ldi_c h1]
    exact hK _ _ _ _ hls (y_okS_cons.mpr ⟨hls _ _ h1, hst⟩) hh h2
  · obtain ⟨v, h1, h2⟩ := y_ldi_some.mp hr
    show y_okR r ∧ z_ldi (c_Ls ls) _ _ = _
    rw [z_ldi_c h1]
    exact hK _ _ _ _ hls (y_okS_cons.mpr ⟨hls _ _ h1, hst⟩) hh h2
  · obtain ⟨v, h1, h2⟩ := y_ldr_some.mp hr
    show y_okR r ∧ z_ldr (c_Ls ls) _ _ = _
    rw [z_ldr_c h1]
    exact hK _ _ _ _ hls (y_okS_cons.mpr ⟨hls _ _ h1, hst⟩) hh h2
  · obtain ⟨v, h1, h2⟩ := y_ldl_some.mp hr
    show y_okR r ∧ z_ldl (c_Ls ls) _ _ = _
    rw [z_ldl_c h1]
    exact hK _ _ _ _ hls (y_okS_cons.mpr ⟨hls _ _ h1, hst⟩) hh h2
  · obtain ⟨v, t, rfl, h2⟩ := y_pi_some.mp hr
    obtain ⟨h1, h3⟩ := y_sg_some.mp h2
    have hs := y_okS_cons.mp hst
    show y_okR r ∧ z_sg (z_sk (c_Ls ls) _) (K' _ ((c_Ls ls).set _ (Option.map c_V (some (y_vi v)))) _ _) = _
    rw [z_sk_c, h1, c_Ls_set]
    exact hK _ _ _ _ (y_okL_set hls (fun w e => by cases e; exact hs.1)) hs.2 hh h3
  · obtain ⟨v, t, rfl, h2⟩ := y_pi_some.mp hr
    obtain ⟨h1, h3⟩ := y_sg_some.mp h2
    have hs := y_okS_cons.mp hst
    show y_okR r ∧ z_sg (z_sk (c_Ls ls) _) (K' _ ((c_Ls ls).set _ (Option.map c_V (some (y_vi v)))) _ _) = _
    rw [z_sk_c, h1, c_Ls_set]
    exact hK _ _ _ _ (y_okL_set hls (fun w e => by cases e; exact hs.1)) hs.2 hh h3
  · obtain ⟨v, t, rfl, h2⟩ := y_pr_some.mp hr
    obtain ⟨h1, h3⟩ := y_sg_some.mp h2
    have hs := y_okS_cons.mp hst
    show y_okR r ∧ z_sg (z_sk (c_Ls ls) _) (K' _ ((c_Ls ls).set _ (Option.map c_V (some (y_vr v)))) _ _) = _
    rw [z_sk_c, h1, c_Ls_set]
    exact hK _ _ _ _ (y_okL_set hls (fun w e => by cases e; exact hs.1)) hs.2 hh h3
  · obtain ⟨v, t, rfl, h2⟩ := y_pl_some.mp hr
    obtain ⟨h1, h3⟩ := y_sg_some.mp h2
    have hs := y_okS_cons.mp hst
    rename_i k
    show y_okR r ∧ z_sg (z_sk (c_Ls ls) _ && Nat.blt (k.val + 1) (c_Ls ls).length) (K' _ (((c_Ls ls).set _ (Option.map c_V (some (y_vl v)))).set _ (Option.map c_V none)) _ _) = _
    have el : (c_Ls ls).length = ls.length := List.length_map _
    rw [z_sk_c, el, h1, c_Ls_set, c_Ls_set]
    exact hK _ _ _ _ (y_okL_set (y_okL_set hls (fun w e => by cases e; exact hs.1)) (fun w e => by cases e)) hs.2 hh h3
  · obtain ⟨v, h1, h2⟩ := y_ldi_some.mp hr
    obtain ⟨h3, h4⟩ := y_sg_some.mp h2
    obtain ⟨h5, h6⟩ := y_rg_some.mp h4
    rename_i k n
    show y_okR r ∧ z_ldi (c_Ls ls) _ _ = _
    rw [z_ldi_c h1, z_sk_c, h3]
    have e : Int32.ofInt v + Int32.ofInt n = Int32.ofInt (v + n) := (Int32.ofInt_add v n).symm
    rw [e]
    show y_okR r ∧ K' _ ((c_Ls ls).set _ (Option.map c_V (some (y_vi (v + n))))) _ _ = _
    rw [c_Ls_set]
    exact hK _ _ _ _ (y_okL_set hls (fun w e => by cases e; exact h5)) hst hh h6
  · rename_i n
    exact hK _ ls (y_vi n :: st) _ hls (y_okS_cons.mpr ⟨y_i32 hc, hst⟩) hh hr
  · rename_i n
    have hn : -128 ≤ n ∧ n < 128 := by unfold y_cok at hc; simpa using hc
    have e : (Int8.ofInt n).toInt32 = Int32.ofInt n := by
      have h8 : (Int8.ofInt n).toInt = n := by
        rw [Int8.toInt_ofInt]
        have e9 : Int8.size = 256 := rfl
        exact Int.bmod_eq_of_le (by omega) (by omega)
      rw [← y_ofto (Int8.ofInt n).toInt32, Int8.toInt_toInt32, h8]
    show y_okR r ∧ K' _ _ (z_vi (Int8.ofInt n).toInt32 :: _) _ = _
    rw [e]
    exact hK _ _ _ _ hls (y_okS_cons.mpr ⟨by show y_inr n; unfold y_inr; omega, hst⟩) hh hr
  · rename_i n
    have hn : -32768 ≤ n ∧ n < 32768 := by unfold y_cok at hc; simpa using hc
    have e : (Int16.ofInt n).toInt32 = Int32.ofInt n := by
      have h8 : (Int16.ofInt n).toInt = n := by
        rw [Int16.toInt_ofInt]
        have e9 : Int16.size = 65536 := rfl
        exact Int.bmod_eq_of_le (by omega) (by omega)
      rw [← y_ofto (Int16.ofInt n).toInt32, Int16.toInt_toInt32, h8]
    show y_okR r ∧ K' _ _ (z_vi (Int16.ofInt n).toInt32 :: _) _ = _
    rw [e]
    exact hK _ _ _ _ hls (y_okS_cons.mpr ⟨by show y_inr n; unfold y_inr; omega, hst⟩) hh hr
  · rename_i n
    exact hK _ ls (y_vl (Int64.ofNat n.val) :: st) _ hls (y_okS_cons.mpr ⟨trivial, hst⟩) hh hr
  · exact hK _ ls (y_vi (z_sn x y) :: st) _ hls (y_okS_cons.mpr ⟨y_i32 hc, hst⟩) hh hr
  · exact hK _ ls (y_vl (Int64.ofInt (z_sn x y)) :: st) _ hls (y_okS_cons.mpr ⟨trivial, hst⟩) hh hr
  · split at hr
    · rename_i v t
      obtain ⟨h1, h2⟩ := y_sg_some.mp hr
      have hs := y_okS_cons.mp hst
      show y_okR r ∧ z_sg (Nat.beq (z_cat (c_V v)) 1) _ = _
      rw [z_cat_c, h1]
      exact hK _ _ _ _ hls hs.2 hh h2
    · cases hr
  · split at hr
    · rename_i v t
      obtain ⟨h1, h2⟩ := y_sg_some.mp hr
      have hs := y_okS_cons.mp hst
      show y_okR r ∧ z_sg (Nat.beq (z_cat (c_V v)) 1) _ = _
      rw [z_cat_c, h1]
      exact hK _ (ls) (v :: v :: t) _ hls (y_okS_cons.mpr ⟨hs.1, hst⟩) hh h2
    · cases hr
  · split at hr
    · rename_i v t
      have hs := y_okS_cons.mp hst
      exact hK _ (ls) (y_vl v :: y_vl v :: t) _ hls (y_okS_cons.mpr ⟨hs.1, hst⟩) hh hr
    · rename_i v w t hnl
      obtain ⟨h1, h2⟩ := y_sg_some.mp hr
      have hs := y_okS_cons.mp hst
      have hs2 := y_okS_cons.mp hs.2
      have h9 := hK _ (ls) (v :: w :: v :: w :: t) _ hls (y_okS_cons.mpr ⟨hs.1, y_okS_cons.mpr ⟨hs2.1, hst⟩⟩) hh h2
      rcases v with v | v | v
      · show y_okR r ∧ z_sg (Nat.beq 1 1 && Nat.beq (z_cat (c_V w)) 1) _ = _
        rw [z_cat_c]
        have h1 : (Nat.beq 1 1 && Nat.beq (y_cat w) 1) = true := h1
        rw [h1]
        exact h9
      · show y_okR r ∧ z_sg (Nat.beq 1 1 && Nat.beq (z_cat (c_V w)) 1) _ = _
        rw [z_cat_c]
        have h1 : (Nat.beq 1 1 && Nat.beq (y_cat w) 1) = true := h1
        rw [h1]
        exact h9
      · first | exact (hnl v rfl).elim | exact (hnl v (w :: t) rfl rfl).elim | exact (hnl _ _ rfl).elim
    · cases hr
  · cases hr
end SIM
