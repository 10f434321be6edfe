/-! THE MACHINE'S HEAP, read as a pure heap: cell a (from 2 on) stands at base + (a - 2), the script at b -/
def z_ad (base b a : Nat) : Nat := if a = 1 then b else base + (a - 2)
def z_ro (base b a : Nat) : Option Nat := if a = 0 then none else some (z_ad base b a)
def z_tv (base b : Nat) (v : z_V) : Value := match v with
  | .inl x => .int x
  | .inr (.inl a) => va_rf (z_ro base b a)
  | .inr (.inr x) => .long x
def z_fv (base b : Nat) (h : z_Hp) (a k z : Nat) : Value := match z with
  | 1 => va_rf (z_ro base b (z_F h a k))
  | 2 => .long (z_J h a k)
  | _ => .int (z_I h a k)
def z_fs (base b : Nat) (h : z_Hp) (a c : Nat) : List Value := (List.range (z_cN c)).map (fun k => z_fv base b h a k (z_fk c k))
def z_arr (base b : Nat) (h : z_Hp) (a t n : Nat) : vp_A := match t with
  | 11 => (n, .inr (.inl (h.2.2.2 a)))
  | 14 => (n, .inr (.inr (.inr (.inr (fun j => z_ro base b (h.2.2.1 a j))))))
  | 15 => (n, .inr (.inr (.inr (.inr (fun j => z_ro base b (h.2.2.1 a j))))))
  | _ => (n, .inl (h.2.1 a))
def z_cel (cy : Nat → ClassId) (base b : Nat) (h : z_Hp) (a : Nat) : va_E := if (w_kd a).1 < 8 then .inr ((w_kd a).1, z_fs base b h a (w_kd a).1) else .inl (cy (w_kd a).1, z_arr base b h a (w_kd a).1 (w_kd a).2)
def z_wl (cy : Nat → ClassId) (base b : Nat) (h : z_Hp) : va_W := (List.range h.1).map (fun i => (base + i, z_cel cy base b h (i + 2)))
def z_tys (cy : Nat → ClassId) : List (ClassId × FieldType) := [(cy 10, .int), (cy 11, .long), (cy 13, .boolean), (cy 14, .object RX4), (cy 15, .array .int)]
def z_sz : Nat → Nat
  | 0 => 0
  | n + 1 => z_sz n + (w_kd (n + 2)).2
theorem z_sz_le {n k : Nat} (h : n ≤ k) : z_sz n ≤ z_sz k := by
  induction k with
  | zero => rw [Nat.le_zero.mp h]; exact Nat.le_refl _
  | succ k ih =>
    rcases Nat.lt_or_ge n (k + 1) with q | q
    · exact Nat.le_trans (ih (by omega)) (Nat.le_add_right _ _)
    · rw [show n = k + 1 by omega]; exact Nat.le_refl _
theorem z_wl_get {cy : Nat → ClassId} {base b : Nat} {h : z_Hp} {i : Nat} (hi : i < h.1) : (z_wl cy base b h)[i]? = some (base + i, z_cel cy base b h (i + 2)) := by
  unfold z_wl
  rw [List.getElem?_map, List.getElem?_range hi]
  rfl
theorem z_wl_inv {cy : Nat → ClassId} {base b : Nat} {h : z_Hp} {k : Nat} {q : Nat × va_E} (hk : (z_wl cy base b h)[k]? = some q) : k < h.1 ∧ q = (base + k, z_cel cy base b h (k + 2)) := by
  have hlt : k < h.1 := by
    have := (List.getElem?_eq_some_iff.mp hk).1
    simpa [z_wl] using this
  refine ⟨hlt, ?_⟩
  rw [z_wl_get hlt] at hk
  exact (Option.some.inj hk).symm
/-- one cell is another one, all else stays -/
theorem z_wput {D : va_G} {cy : Nat → ClassId} {base b : Nat} {h h' : z_Hp} {H H1 : Heap} {i : Nat} (hP : va_P D vwCl (z_wl cy base b h) H) (h1 : h'.1 = h.1) (hc : ∀ j, j ≠ i → z_cel cy base b h' (j + 2) = z_cel cy base b h (j + 2)) (hn : va_at D vwCl (base + i, z_cel cy base b h' (i + 2)) H1) (oq : ∀ q : Nat, q ≠ base + i → H1[q]? = H[q]?) : va_P D vwCl (z_wl cy base b h') H1 := by
  intro k q hk
  obtain ⟨hlt, rfl⟩ := z_wl_inv hk
  by_cases e : k = i
  · subst e
    exact hn
  · rw [hc k e]
    exact (hP k _ (z_wl_get (h1 ▸ hlt))).kept (oq _ (by show base + k ≠ base + i; omega))
/-- new cells come behind, all old ones stay -/
theorem z_wnew {D : va_G} {cy : Nat → ClassId} {base b : Nat} {h h' : z_Hp} {H H1 : Heap} (hP : va_P D vwCl (z_wl cy base b h) H) (hz : H.size = base + h.1) (hc : ∀ j, j < h.1 → z_cel cy base b h' (j + 2) = z_cel cy base b h (j + 2)) (hn : ∀ j, h.1 ≤ j → j < h'.1 → va_at D vwCl (base + j, z_cel cy base b h' (j + 2)) H1) (oq : ∀ q : Nat, q < H.size → H1[q]? = H[q]?) : va_P D vwCl (z_wl cy base b h') H1 := by
  intro k q hk
  obtain ⟨hlt, rfl⟩ := z_wl_inv hk
  rcases Nat.lt_or_ge k h.1 with e | e
  · rw [hc k e]
    exact (hP k _ (z_wl_get e)).kept (oq _ (by show base + k < H.size; omega))
  · exact hn k e hlt
/-- what a guard says -/
theorem z_gd_some {b : Bool} {x : z_O} {r : z_R} : z_gd b x = some r ↔ b = true ∧ x = some r := by cases b <;> simp [z_gd]
theorem z_sg_some {b : Bool} {x : z_O} {r : z_R} : z_sg b x = some r ↔ b = true ∧ x = some r := by cases b <;> simp [z_sg]
theorem z_pi_some {st : List z_V} {f : Int32 → List z_V → z_O} {r : z_R} : z_pi st f = some r ↔ ∃ x t, st = z_vi x :: t ∧ f x t = some r := by
  unfold z_pi
  rcases st with _ | ⟨x | x | x, t⟩ <;> simp
theorem z_pr_some {st : List z_V} {f : Nat → List z_V → z_O} {r : z_R} : z_pr st f = some r ↔ ∃ x t, st = z_vr x :: t ∧ f x t = some r := by
  unfold z_pr
  rcases st with _ | ⟨x | x | x, t⟩ <;> simp
theorem z_pl_some {st : List z_V} {f : Int64 → List z_V → z_O} {r : z_R} : z_pl st f = some r ↔ ∃ x t, st = z_vl x :: t ∧ f x t = some r := by
  unfold z_pl
  rcases st with _ | ⟨x | x | x, t⟩ <;> simp
theorem z_ldi_some {ls : z_Ls} {k : Nat} {f : Int32 → z_O} {r : z_R} : z_ldi ls k f = some r ↔ ∃ x, ls[k]? = some (some (z_vi x)) ∧ f x = some r := by
  unfold z_ldi
  rcases ls[k]? with _ | _ | x | x | x <;> simp
theorem z_ldr_some {ls : z_Ls} {k : Nat} {f : Nat → z_O} {r : z_R} : z_ldr ls k f = some r ↔ ∃ x, ls[k]? = some (some (z_vr x)) ∧ f x = some r := by
  unfold z_ldr
  rcases ls[k]? with _ | _ | x | x | x <;> simp
theorem z_ldl_some {ls : z_Ls} {k : Nat} {f : Int64 → z_O} {r : z_R} : z_ldl ls k f = some r ↔ ∃ x, ls[k]? = some (some (z_vl x)) ∧ f x = some r := by
  unfold z_ldl
  rcases ls[k]? with _ | _ | x | x | x <;> simp
theorem w_kd_small {a : Nat} (h : (w_kd a).1 < 98) : 2 ≤ a := by
  rcases a with _ | _ | a
  · exact absurd h (by decide)
  · exact absurd h (by decide)
  · omega
theorem w_kd_len (a : Nat) (h : (w_kd a).1 < 8) : (w_kd a).2 = z_cN (w_kd a).1 := by
  have key : (w_kdl.all fun q => !(Nat.blt q.1 8) || Nat.beq q.2 (z_cN q.1)) = true := by decide +kernel
  unfold w_kd at h ⊢
  split at h
  · rename_i q hq
    have := List.all_eq_true.mp key q (List.mem_of_getElem? hq)
    have hb : Nat.blt q.1 8 = true := Nat.blt_eq.mpr h
    rw [hb] at this
    exact Nat.eq_of_beq_eq_true (by simpa using this)
  · exact absurd h (by decide)
theorem z_ob_spec {h : z_Hp} {a c : Nat} (hc : c < 8) (g : z_ob h a c = true) : ∃ i, a = i + 2 ∧ i < h.1 ∧ (w_kd (i + 2)).1 = c := by
  unfold z_ob at g
  simp only [Bool.and_eq_true, Nat.beq_eq_true_eq, Nat.blt_eq] at g
  obtain ⟨g1, g2⟩ := g
  have g1 : (w_kd a).1 = c := by simpa using g1
  have := w_kd_small (a := a) (by omega)
  exact ⟨a - 2, by omega, by omega, by rw [show a - 2 + 2 = a by omega]; exact g1⟩
theorem z_in_spec {i : Int32} {n : Nat} (g : z_in i n = true) : ¬ i < 0 ∧ i.toNatClampNeg < n := by
  unfold z_in at g
  simpa using g
theorem z_ar_spec {h : z_Hp} {a t : Nat} {i : Int32} (ht : t < 98) (g : z_ar h a t i = true) : ∃ k, a = k + 2 ∧ k < h.1 ∧ (w_kd (k + 2)).1 = t ∧ ¬ i < 0 ∧ i.toNatClampNeg < (w_kd (k + 2)).2 := by
  unfold z_ar at g
  simp only [Bool.and_eq_true, Nat.blt_eq] at g
  obtain ⟨⟨g1, g2⟩, g3⟩ := g
  have g1 : (w_kd a).1 = t := by simpa using g1
  have := w_kd_small (a := a) (by omega)
  obtain ⟨g4, g5⟩ := z_in_spec g3
  exact ⟨a - 2, by omega, by omega, by rw [show a - 2 + 2 = a by omega]; exact g1, g4, by rw [show a - 2 + 2 = a by omega]; exact g5⟩
theorem z_tv_gv {base b : Nat} {h : z_Hp} {a y z : Nat} : z_tv base b (z_gv h a y z) = z_fv base b h a y z := by
  unfold z_gv z_fv
  match z with
  | 0 => rfl
  | 1 => rfl
  | 2 => rfl
  | n + 3 => rfl
theorem z_cel_ob {cy : Nat → ClassId} {base b : Nat} {h : z_Hp} {a c : Nat} (hk : (w_kd a).1 = c) (hc : c < 8) : z_cel cy base b h a = .inr (c, z_fs base b h a c) := by
  unfold z_cel
  rw [hk, if_pos hc]
theorem z_cel_ar {cy : Nat → ClassId} {base b : Nat} {h : z_Hp} {a t : Nat} (hk : (w_kd a).1 = t) (ht : ¬ t < 8) : z_cel cy base b h a = .inl (cy t, z_arr base b h a t (w_kd a).2) := by
  unfold z_cel
  rw [hk, if_neg ht]
theorem z_row_ne {α : Type} {f : Nat → Nat → α} {a c : Nat} {g : Nat → α} (h : c ≠ a) : z_row f a g c = f c := if_neg h
theorem z_row_eq {α : Type} {f : Nat → Nat → α} {a : Nat} {g : Nat → α} : z_row f a g a = g := if_pos rfl
/-- a cell shows nothing but its own row -/
theorem z_cel_cg {cy : Nat → ClassId} {base b : Nat} {h h' : z_Hp} {a : Nat} (e1 : h'.2.1 a = h.2.1 a) (e2 : h'.2.2.1 a = h.2.2.1 a) (e3 : h'.2.2.2 a = h.2.2.2 a) : z_cel cy base b h' a = z_cel cy base b h a := by
  unfold z_cel z_fs z_fv z_arr z_I z_F z_J
  rw [e1, e2, e3]
