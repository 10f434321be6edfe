/-! COMMON: guards that hold, answers of yes or no, sums and searches along a row -/
theorem yk_t {a t : Nat} {x : y_O} (h : (z_kd a).1 = t) : y_kt a t x = x := by
  unfold y_kt
  rw [h, Nat.beq_refl]
theorem yi_t {i : Int} {n : Nat} {x : y_O} (h : 0 ≤ i ∧ i < (n : Int)) : y_in i n x = x := if_pos h
theorem yr_t {v : Int} {x : y_O} (h : -2147483648 ≤ v ∧ v < 2147483648) : y_rg v x = x := if_pos h
theorem yb_t {v : Int} {x : y_O} (h : v = 0 ∨ v = 1) : y_b1 v x = x := if_pos h
theorem yz_t {v : Int} {x : y_O} (h : ¬ v = 0) : y_nz v x = x := if_neg h
theorem ysg_t {x : y_O} : y_sg true x = x := rfl
theorem ycg_t {sp dp n : Int} {p q : Nat} {x : y_O} (h : (0 ≤ sp ∧ 0 ≤ dp ∧ 0 ≤ n) ∧ (sp + n ≤ (p : Int) ∧ dp + n ≤ (q : Int))) : y_cg sp dp n p q x = x := if_pos h
theorem yci_s {v : Int} {h : y_Hp} {f : Int → y_Hp → y_O} : y_ci (some (some (y_vi v), h)) f = f v h := rfl
theorem ycl_s {v : Int64} {h : y_Hp} {f : Int64 → y_Hp → y_O} : y_cl (some (some (y_vl v), h)) f = f v h := rfl
theorem ycv_s {h : y_Hp} {f : y_Hp → y_O} : y_cv (some (none, h)) f = f h := rfl
theorem yhb_s {h : y_Hp} {f : y_Hp → y_O} : y_hb h f = f h := rfl
/-- yes 1, no 0 -/
noncomputable def y_bi (p : Prop) : Int := @ite _ p (Classical.propDecidable p) 1 0
theorem bi_t {p : Prop} (h : p) : y_bi p = 1 := by unfold y_bi; exact if_pos h
theorem bi_f {p : Prop} (h : ¬ p) : y_bi p = 0 := by unfold y_bi; exact if_neg h
theorem bi_0 {p : Prop} : y_bi p = 0 ↔ ¬ p := ⟨fun e h => (by rw [bi_t h] at e; cases e), bi_f⟩
theorem bi_1 {p : Prop} : y_bi p = 1 ↔ p := ⟨fun e => Classical.byContradiction fun h => (by rw [bi_f h] at e; cases e), bi_t⟩
theorem bi_01 {p : Prop} : y_bi p = 0 ∨ y_bi p = 1 := by
  by_cases h : p
  · exact Or.inr (bi_t h)
  · exact Or.inl (bi_f h)
theorem bi_cg {p q : Prop} (h : p ↔ q) : y_bi p = y_bi q := by rw [propext h]
theorem bi_T : y_bi True = 1 := bi_t trivial
theorem bi_F : y_bi False = 0 := bi_f id
theorem bi_b1 {p : Prop} {x : y_O} : y_b1 (y_bi p) x = x := yb_t bi_01
theorem bi_rng {p : Prop} : 0 ≤ y_bi p ∧ y_bi p ≤ 1 := by rcases bi_01 (p := p) with h | h <;> omega
/-- an answer of yes or no, split -/
theorem bi_ite {p : Prop} {A B : y_O} [Decidable (y_bi p = 0)] (hA : ¬ p → A = B) : (¬ p → A = B) := hA
/-- from k on, n of them -/
def u_any (p : Int → Prop) (k : Int) : Nat → Prop
  | 0 => False
  | n + 1 => p k ∨ u_any p (k + 1) n
def u_all (p : Int → Prop) (k : Int) : Nat → Prop
  | 0 => True
  | n + 1 => p k ∧ u_all p (k + 1) n
def u_sum (f : Int → Int) (k : Int) : Nat → Int
  | 0 => 0
  | n + 1 => f k + u_sum f (k + 1) n
def u_fold {α : Type} (F : α → Int → α) (a : α) (k : Int) : Nat → α
  | 0 => a
  | n + 1 => u_fold F (F a k) (k + 1) n
theorem u_any_iff {p : Int → Prop} : ∀ {n : Nat} {k : Int}, u_any p k n ↔ ∃ j, k ≤ j ∧ j < k + n ∧ p j
  | 0, k => ⟨fun h => h.elim, fun ⟨j, h1, h2, _⟩ => by omega⟩
  | n + 1, k => by
    show (p k ∨ u_any p (k + 1) n) ↔ _
    rw [u_any_iff]
    constructor
    · rintro (h | ⟨j, h1, h2, h3⟩)
      · exact ⟨k, Int.le_refl _, by omega, h⟩
      · exact ⟨j, by omega, by omega, h3⟩
    · rintro ⟨j, h1, h2, h3⟩
      by_cases e : j = k
      · subst e; exact Or.inl h3
      · exact Or.inr ⟨j, by omega, by omega, h3⟩
theorem u_all_iff {p : Int → Prop} : ∀ {n : Nat} {k : Int}, u_all p k n ↔ ∀ j, k ≤ j → j < k + n → p j
  | 0, k => ⟨fun _ j h1 h2 => by omega, fun _ => trivial⟩
  | n + 1, k => by
    show (p k ∧ u_all p (k + 1) n) ↔ _
    rw [u_all_iff]
    constructor
    · rintro ⟨h, g⟩ j h1 h2
      by_cases e : j = k
      · subst e; exact h
      · exact g j (by omega) (by omega)
    · intro g
      exact ⟨g k (Int.le_refl _) (by omega), fun j h1 h2 => g j (by omega) (by omega)⟩
theorem u_sum_cg {f g : Int → Int} : ∀ {n : Nat} {k : Int}, (∀ j, k ≤ j → j < k + n → f j = g j) → u_sum f k n = u_sum g k n
  | 0, _, _ => rfl
  | n + 1, k, h => by
    show f k + u_sum f (k + 1) n = g k + u_sum g (k + 1) n
    rw [h k (Int.le_refl _) (by omega), u_sum_cg fun j h1 h2 => h j (by omega) (by omega)]
theorem u_sum_bd {f : Int → Int} {lo hi : Int} : ∀ {n : Nat} {k : Int}, (∀ j, k ≤ j → j < k + n → lo ≤ f j ∧ f j ≤ hi) → lo * n ≤ u_sum f k n ∧ u_sum f k n ≤ hi * n
  | 0, _, _ => by show lo * 0 ≤ 0 ∧ 0 ≤ hi * 0; omega
  | n + 1, k, h => by
    have h1 := h k (Int.le_refl _) (by omega)
    have h2 := u_sum_bd (f := f) (lo := lo) (hi := hi) (n := n) (k := k + 1) fun j g1 g2 => h j (by omega) (by omega)
    have e1 : lo * ((n + 1 : Nat) : Int) = lo * n + lo := by rw [Int.natCast_add, Int.mul_add]; simp
    have e2 : hi * ((n + 1 : Nat) : Int) = hi * n + hi := by rw [Int.natCast_add, Int.mul_add]; simp
    rw [e1, e2]
    show lo * n + lo ≤ f k + u_sum f (k + 1) n ∧ f k + u_sum f (k + 1) n ≤ hi * n + hi
    omega
theorem u_fold_cg {α : Type} {F G : α → Int → α} : ∀ {n : Nat} {k : Int} {a : α}, (∀ a j, k ≤ j → j < k + n → F a j = G a j) → u_fold F a k n = u_fold G a k n
  | 0, _, _, _ => rfl
  | n + 1, k, a, h => by
    show u_fold F (F a k) (k + 1) n = u_fold G (G a k) (k + 1) n
    rw [h a k (Int.le_refl _) (by omega), u_fold_cg fun a j h1 h2 => h a j (by omega) (by omega)]
theorem u_sum_last {f : Int → Int} : ∀ {n : Nat} {k : Int}, u_sum f k (n + 1) = u_sum f k n + f (k + n)
  | 0, k => by show f k + 0 = 0 + f (k + 0); simp
  | n + 1, k => by
    show f k + u_sum f (k + 1) (n + 1) = (f k + u_sum f (k + 1) n) + f (k + ((n + 1 : Nat) : Int))
    rw [u_sum_last, show k + 1 + (n : Int) = k + ((n + 1 : Nat) : Int) by omega]
    omega
/-- reads behind writes -/
theorem yI_sI {h : y_Hp} {a k b j : Nat} {v : Int} : y_I (y_sI h a k v) b j = if b = a ∧ j = k then v else y_I h b j := by
  unfold y_I y_sI z_row z_up
  by_cases e : b = a
  · subst e
    by_cases e2 : j = k
    · subst e2; simp
    · simp [e2]
  · simp [e]
theorem yI_sI_ne {h : y_Hp} {a k b j : Nat} {v : Int} (e : b ≠ a) : y_I (y_sI h a k v) b j = y_I h b j := by
  rw [yI_sI, if_neg (fun q => e q.1)]
theorem yF_sI {h : y_Hp} {a k b j : Nat} {v : Int} : y_F (y_sI h a k v) b j = y_F h b j := rfl
theorem yJ_sI {h : y_Hp} {a k b j : Nat} {v : Int} : y_J (y_sI h a k v) b j = y_J h b j := rfl
theorem yI_sF {h : y_Hp} {a k b j v : Nat} : y_I (y_sF h a k v) b j = y_I h b j := rfl
theorem yJ_sF {h : y_Hp} {a k b j v : Nat} : y_J (y_sF h a k v) b j = y_J h b j := rfl
theorem yI_sJ {h : y_Hp} {a k b j : Nat} {v : Int64} : y_I (y_sJ h a k v) b j = y_I h b j := rfl
theorem yF_sJ {h : y_Hp} {a k b j : Nat} {v : Int64} : y_F (y_sJ h a k v) b j = y_F h b j := rfl
theorem yF_sF {h : y_Hp} {a k b j v : Nat} : y_F (y_sF h a k v) b j = if b = a ∧ j = k then v else y_F h b j := by
  unfold y_F y_sF z_row z_up
  by_cases e : b = a
  · subst e
    by_cases e2 : j = k
    · subst e2; simp
    · simp [e2]
  · simp [e]
/-- a whole row of numbers is another one -/
def y_sR (h : y_Hp) (a : Nat) (f : Nat → Int) : y_Hp := (z_row h.1 a f, h.2.1, h.2.2)
theorem ysR_I {h : y_Hp} {a k : Nat} {v : Int} : y_sI h a k v = y_sR h a (z_up (h.1 a) k v) := rfl
theorem yI_sR {h : y_Hp} {a b j : Nat} {f : Nat → Int} : y_I (y_sR h a f) b j = if b = a then f j else y_I h b j := by
  unfold y_I y_sR z_row
  by_cases e : b = a
  · simp [e]
  · simp [e]
theorem ysR_sR {h : y_Hp} {a : Nat} {f g : Nat → Int} : y_sR (y_sR h a f) a g = y_sR h a g := by
  unfold y_sR
  refine Prod.ext ?_ rfl
  funext b
  show z_row (z_row h.1 a f) a g b = z_row h.1 a g b
  unfold z_row
  by_cases e : b = a <;> simp [e]
theorem ysI_sR {h : y_Hp} {a k : Nat} {v : Int} {f : Nat → Int} : y_sI (y_sR h a f) a k v = y_sR h a (z_up f k v) := by
  rw [ysR_I, ysR_sR]
  congr 1
  show z_up (z_row h.1 a f a) k v = _
  rw [z_row_eq]
theorem ysR_id {h : y_Hp} {a : Nat} : y_sR h a (h.1 a) = h := by
  unfold y_sR
  refine Prod.ext ?_ rfl
  funext b
  show z_row h.1 a (h.1 a) b = _
  unfold z_row
  by_cases e : b = a <;> simp [e]
theorem ab_cg {p q : Prop} {h : y_Hp} (g : p ↔ q) : (some (some (y_vi (y_bi p)), h) : y_O) = some (some (y_vi (y_bi q)), h) := by rw [propext g]
theorem ab_t {q : Prop} {h : y_Hp} (g : q) : (some (some (y_vi 1), h) : y_O) = some (some (y_vi (y_bi q)), h) := by rw [bi_t g]
theorem ab_f {q : Prop} {h : y_Hp} (g : ¬ q) : (some (some (y_vi 0), h) : y_O) = some (some (y_vi (y_bi q)), h) := by rw [bi_f g]
theorem av_cg {a b : Int} {h : y_Hp} (g : a = b) : (some (some (y_vi a), h) : y_O) = some (some (y_vi b), h) := by rw [g]
theorem u_any_0 {p : Int → Prop} {k : Int} : u_any p k 0 ↔ False := Iff.rfl
theorem u_any_s {p : Int → Prop} {k : Int} {n : Nat} : u_any p k (n + 1) ↔ (p k ∨ u_any p (k + 1) n) := Iff.rfl
theorem u_all_0 {p : Int → Prop} {k : Int} : u_all p k 0 ↔ True := Iff.rfl
theorem u_all_s {p : Int → Prop} {k : Int} {n : Nat} : u_all p k (n + 1) ↔ (p k ∧ u_all p (k + 1) n) := Iff.rfl
theorem u_sum_0 {f : Int → Int} {k : Int} : u_sum f k 0 = 0 := rfl
theorem u_sum_s {f : Int → Int} {k : Int} {n : Nat} : u_sum f k (n + 1) = f k + u_sum f (k + 1) n := rfl
theorem u_fold_0 {α : Type} {F : α → Int → α} {a : α} {k : Int} : u_fold F a k 0 = a := rfl
theorem u_fold_s {α : Type} {F : α → Int → α} {a : α} {k : Int} {n : Nat} : u_fold F a k (n + 1) = u_fold F (F a k) (k + 1) n := rfl
