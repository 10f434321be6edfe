/-! WHAT A RUN CAN REACH: it depends on no other cells, changes no others, and is the same where the cells bear other numbers -/
def v_V (σ : Nat → Nat) (v : y_V) : y_V := match v with
  | .inl x => .inl x
  | .inr (.inl a) => .inr (.inl (σ a))
  | .inr (.inr j) => .inr (.inr j)
def v_Ls (σ : Nat → Nat) (ls : y_Ls) : y_Ls := ls.map (Option.map (v_V σ))
def r_okV (S : Nat → Bool) (v : y_V) : Prop := match v with
  | .inr (.inl a) => S a = true
  | _ => True
def r_okS (S : Nat → Bool) (st : List y_V) : Prop := ∀ v ∈ st, r_okV S v
def r_okL (S : Nat → Bool) (ls : y_Ls) : Prop := ∀ (k : Nat) (v : y_V), ls[k]? = some (some v) → r_okV S v
def r_okH (S : Nat → Bool) (h : y_Hp) : Prop := ∀ a k, S a = true → S (h.2.1 a k) = true
def r_okR (S : Nat → Bool) (r : y_R) : Prop := (∀ v, r.1 = some v → r_okV S v) ∧ r_okH S r.2
/-- alike, cell for cell -/
def r_rel (S : Nat → Bool) (σ : Nat → Nat) (h g : y_Hp) : Prop := ∀ a, S a = true → ∀ k, g.1 (σ a) k = h.1 a k ∧ g.2.1 (σ a) k = σ (h.2.1 a k) ∧ g.2.2 (σ a) k = h.2.2 a k
/-- outside nothing changes, nor null's own row -/
def r_fr (S : Nat → Bool) (h h' : y_Hp) : Prop := ∀ a, (S a = false ∨ 98 ≤ (z_kd a).1) → ∀ k, h'.1 a k = h.1 a k ∧ h'.2.1 a k = h.2.1 a k ∧ h'.2.2 a k = h.2.2 a k
def r_fs (S : Nat → Bool) (σ : Nat → Nat) (g g' : y_Hp) : Prop := ∀ b, (∀ a, S a = true → b ≠ σ a) → ∀ k, g'.1 b k = g.1 b k ∧ g'.2.1 b k = g.2.1 b k ∧ g'.2.2 b k = g.2.2 b k
/-- a renaming of a side -/
def r_sd (S : Nat → Bool) (σ : Nat → Nat) : Prop := (S 0 = true ∧ σ 0 = 0) ∧ (∀ a, S a = true → z_kd (σ a) = z_kd a) ∧ (∀ a, S a = true → (Nat.beq (σ a) 0 = Nat.beq a 0 ∧ Nat.beq (σ a) 1 = Nat.beq a 1)) ∧ (∀ a b, S a = true → S b = true → σ a = σ b → a = b) ∧ ∀ a k, S a = true → k < (z_kd a).2 → S (z_of (z_kd a).1 k a) = true ∧ z_of (z_kd a).1 k (σ a) = σ (z_of (z_kd a).1 k a)
theorem r_fr_rf {S : Nat → Bool} {h : y_Hp} : r_fr S h h := fun _ _ _ => ⟨rfl, rfl, rfl⟩
theorem r_fs_rf {S : Nat → Bool} {σ : Nat → Nat} {h : y_Hp} : r_fs S σ h h := fun _ _ _ => ⟨rfl, rfl, rfl⟩
theorem r_fr_tr {S : Nat → Bool} {h h1 h2 : y_Hp} (a : r_fr S h h1) (b : r_fr S h1 h2) : r_fr S h h2 := fun c hc k => by
  obtain ⟨a1, a2, a3⟩ := a c hc k
  obtain ⟨b1, b2, b3⟩ := b c hc k
  exact ⟨b1.trans a1, b2.trans a2, b3.trans a3⟩
theorem r_fs_tr {S : Nat → Bool} {σ : Nat → Nat} {h h1 h2 : y_Hp} (a : r_fs S σ h h1) (b : r_fs S σ h1 h2) : r_fs S σ h h2 := fun c hc k => by
  obtain ⟨a1, a2, a3⟩ := a c hc k
  obtain ⟨b1, b2, b3⟩ := b c hc k
  exact ⟨b1.trans a1, b2.trans a2, b3.trans a3⟩
/-- a row written on both sides -/
theorem r_row {α β : Type} {S : Nat → Bool} {σ : Nat → Nat} (D : r_sd S σ) {a : Nat} (ha : S a = true) {f : Nat → Nat → α} {g : Nat → Nat → β} {F : α → β} {u : Nat → α} {v : Nat → β} (hr : ∀ b, S b = true → ∀ k, g (σ b) k = F (f b k)) (hu : ∀ k, v k = F (u k)) : ∀ b, S b = true → ∀ k, z_row g (σ a) v (σ b) k = F (z_row f a u b k) := fun b hb k => by
  unfold z_row
  by_cases e : b = a
  · rw [if_pos (by rw [e]), if_pos e]; exact hu k
  · rw [if_neg (fun q => e (D.2.2.2.1 b a hb ha q)), if_neg e]; exact hr b hb k
theorem r_row_o {α : Type} {S : Nat → Bool} {a b : Nat} (ha : S a = true) (hk : (z_kd a).1 < 98) (hb : S b = false ∨ 98 ≤ (z_kd b).1) {f : Nat → Nat → α} {u : Nat → α} {k : Nat} : z_row f a u b k = f b k := by
  unfold z_row
  rw [if_neg (fun q => by
    rw [q, ha] at hb
    rcases hb with e | e
    · cases e
    · omega)]
theorem r_row_s {α : Type} {S : Nat → Bool} {σ : Nat → Nat} {a b : Nat} (ha : S a = true) (hb : ∀ a, S a = true → b ≠ σ a) {f : Nat → Nat → α} {u : Nat → α} {k : Nat} : z_row f (σ a) u b k = f b k := by
  unfold z_row
  rw [if_neg (hb a ha)]
section RW
variable {S : Nat → Bool} {σ : Nat → Nat} {h g : y_Hp} {a k : Nat}
theorem r_sI (D : r_sd S σ) (R : r_rel S σ h g) (ha : S a = true) (v : Int) : r_rel S σ (y_sI h a k v) (y_sI g (σ a) k v) := fun b hb j => ⟨r_row D ha (F := id) (fun b hb k => (R b hb k).1) (fun q => by
    unfold z_up
    split
    · rfl
    · exact (R a ha q).1) b hb j, (R b hb j).2.1, (R b hb j).2.2⟩
theorem r_sF (D : r_sd S σ) (R : r_rel S σ h g) (ha : S a = true) (v : Nat) : r_rel S σ (y_sF h a k v) (y_sF g (σ a) k (σ v)) := fun b hb j => ⟨(R b hb j).1, r_row D ha (F := σ) (fun b hb k => (R b hb k).2.1) (fun q => by
    unfold z_up
    split
    · rfl
    · exact (R a ha q).2.1) b hb j, (R b hb j).2.2⟩
theorem r_sJ (D : r_sd S σ) (R : r_rel S σ h g) (ha : S a = true) (v : Int64) : r_rel S σ (y_sJ h a k v) (y_sJ g (σ a) k v) := fun b hb j => ⟨(R b hb j).1, (R b hb j).2.1, r_row D ha (F := id) (fun b hb k => (R b hb k).2.2) (fun q => by
    unfold z_up
    split
    · rfl
    · exact (R a ha q).2.2) b hb j⟩
theorem r_cpI (D : r_sd S σ) (R : r_rel S σ h g) {b sp dp n : Nat} (ha : S a = true) (hb : S b = true) : r_rel S σ (y_cpI h a sp b dp n) (y_cpI g (σ a) sp (σ b) dp n) := fun c hc j => ⟨r_row D hb (F := id) (fun b hb k => (R b hb k).1) (fun q => by
    unfold y_cp
    split
    · exact (R a ha _).1
    · exact (R b hb q).1) c hc j, (R c hc j).2.1, (R c hc j).2.2⟩
theorem r_fI (ha : S a = true) (hk : (z_kd a).1 < 98) {v : Int} : r_fr S h (y_sI h a k v) := fun _ hb _ => ⟨r_row_o ha hk hb, rfl, rfl⟩
theorem r_fF (ha : S a = true) (hk : (z_kd a).1 < 98) {v : Nat} : r_fr S h (y_sF h a k v) := fun _ hb _ => ⟨rfl, r_row_o ha hk hb, rfl⟩
theorem r_fJ (ha : S a = true) (hk : (z_kd a).1 < 98) {v : Int64} : r_fr S h (y_sJ h a k v) := fun _ hb _ => ⟨rfl, rfl, r_row_o ha hk hb⟩
theorem r_fc {b sp dp n : Nat} (hb : S b = true) (hk : (z_kd b).1 < 98) : r_fr S h (y_cpI h a sp b dp n) := fun _ hc _ => ⟨r_row_o hb hk hc, rfl, rfl⟩
theorem r_gI (ha : S a = true) {v : Int} : r_fs S σ h (y_sI h (σ a) k v) := fun _ hb _ => ⟨r_row_s ha hb, rfl, rfl⟩
theorem r_gF (ha : S a = true) {v : Nat} : r_fs S σ h (y_sF h (σ a) k v) := fun _ hb _ => ⟨rfl, r_row_s ha hb, rfl⟩
theorem r_gJ (ha : S a = true) {v : Int64} : r_fs S σ h (y_sJ h (σ a) k v) := fun _ hb _ => ⟨rfl, rfl, r_row_s ha hb⟩
theorem r_gc {b sp dp n : Nat} {x : Nat} (hb : S b = true) : r_fs S σ h (y_cpI h x sp (σ b) dp n) := fun _ hc _ => ⟨r_row_s hb hc, rfl, rfl⟩
theorem r_oI (hh : r_okH S h) {v : Int} : r_okH S (y_sI h a k v) := hh
theorem r_oJ (hh : r_okH S h) {v : Int64} : r_okH S (y_sJ h a k v) := hh
theorem r_oc (hh : r_okH S h) {b sp dp n : Nat} : r_okH S (y_cpI h a sp b dp n) := hh
theorem r_oF (hh : r_okH S h) {v : Nat} (hv : S v = true) : r_okH S (y_sF h a k v) := fun b j hb => by
  show S (z_row h.2.1 a (z_up (h.2.1 a) k v) b j) = true
  unfold z_row z_up
  split
  · rename_i e
    subst e
    dsimp only
    split
    · exact hv
    · exact hh _ _ hb
  · exact hh _ _ hb
end RW
theorem r_okS_cons {S : Nat → Bool} {v : y_V} {st : List y_V} : r_okS S (v :: st) ↔ r_okV S v ∧ r_okS S st := by
  unfold r_okS
  simp
theorem r_okS_pi {S : Nat → Bool} {v : y_V} {t : List y_V} (h : r_okS S (v :: t)) : r_okS S t := (r_okS_cons.mp h).2
theorem r_okL_set {S : Nat → Bool} {ls : y_Ls} {k : Nat} {o : Option y_V} (h : r_okL S ls) (g : ∀ v, o = some v → r_okV S v) : r_okL S (ls.set k o) := by
  intro j v hj
  rw [List.getElem?_set] at hj
  split at hj
  · split at hj
    · exact g v (Option.some.inj hj)
    · cases hj
  · exact h j v hj
section RG
variable {S : Nat → Bool} {σ : Nat → Nat} {Y : y_O → Prop} {r : y_R} {X X' : y_O}
theorem r_rg {v : Int} (h : y_rg v X = some r) (k : X = some r → Y X') : Y (y_rg v X') := by
  obtain ⟨a, b⟩ := y_rg_some.mp h
  rw [show y_rg v X' = X' from if_pos a]; exact k b
theorem r_nz {v : Int} (h : y_nz v X = some r) (k : X = some r → Y X') : Y (y_nz v X') := by
  obtain ⟨a, b⟩ := y_nz_some.mp h
  rw [show y_nz v X' = X' from if_neg a]; exact k b
theorem r_nl {v : Int64} (h : y_nl v X = some r) (k : X = some r → Y X') : Y (y_nl v X') := by
  obtain ⟨a, b⟩ := y_nl_some.mp h
  rw [show y_nl v X' = X' from if_neg a]; exact k b
theorem r_b1 {v : Int} (h : y_b1 v X = some r) (k : X = some r → Y X') : Y (y_b1 v X') := by
  obtain ⟨a, b⟩ := y_b1_some.mp h
  rw [show y_b1 v X' = X' from if_pos a]; exact k b
theorem r_in {v : Int} {n m : Nat} (e : m = n) (h : y_in v n X = some r) (k : X = some r → Y X') : Y (y_in v m X') := by
  subst e
  obtain ⟨a, b⟩ := y_in_some.mp h
  rw [show y_in v m X' = X' from if_pos a]; exact k b
theorem r_sg {v w : Bool} (e : w = v) (h : y_sg v X = some r) (k : X = some r → Y X') : Y (y_sg w X') := by
  subst e
  obtain ⟨a, b⟩ := y_sg_some.mp h
  rw [a]; exact k b
theorem r_kt {a b t : Nat} (e : z_kd b = z_kd a) (h : y_kt a t X = some r) (k : X = some r → Y X') : Y (y_kt b t X') := by
  obtain ⟨c, d⟩ := y_kt_some.mp h
  unfold y_kt
  rw [e, c, Nat.beq_refl]; exact k d
theorem r_cg {sp dp n : Int} {p q p' q' : Nat} (e1 : p' = p) (e2 : q' = q) (h : y_cg sp dp n p q X = some r) (k : X = some r → Y X') : Y (y_cg sp dp n p' q' X') := by
  subst e1 e2
  obtain ⟨a, b⟩ := y_cg_some.mp h
  rw [show y_cg sp dp n p' q' X' = X' from if_pos a]; exact k b
theorem r_br {c : Jvm.ClassFile.Cond} {v w : Int} {A B A' B' : y_O} (h : y_br c v w A B = some r) (hA : A = some r → Y A') (hB : B = some r → Y B') : Y (y_br c v w A' B') := by
  unfold y_br at h ⊢
  cases c <;> dsimp only at h ⊢ <;> split at h <;> (rename_i q; first | (rw [if_pos q]; first | exact hA h | exact hB h) | (rw [if_neg q]; first | exact hA h | exact hB h))
theorem r_sw {K K' : Nat → y_O} {pc : Nat} {x d : Int} (hK : ∀ p, K p = some r → Y (K' p)) : ∀ {l : List (Int × Int)}, y_sw K pc x d l = some r → Y (y_sw K' pc x d l)
  | [], h => hK _ h
  | q :: t, h => by
    unfold y_sw at h ⊢
    by_cases e : x = q.1
    · rw [if_pos e] at h ⊢
      exact hK _ h
    · rw [if_neg e] at h ⊢
      exact r_sw hK h
theorem v_ldi {ls : y_Ls} {k : Nat} {x : Int} {f : Int → y_O} (h : ls[k]? = some (some (y_vi x))) : y_ldi (v_Ls σ ls) k f = f x := by
  unfold y_ldi v_Ls
  rw [List.getElem?_map, h]
  rfl
theorem v_ldr {ls : y_Ls} {k : Nat} {x : Nat} {f : Nat → y_O} (h : ls[k]? = some (some (y_vr x))) : y_ldr (v_Ls σ ls) k f = f (σ x) := by
  unfold y_ldr v_Ls
  rw [List.getElem?_map, h]
  rfl
theorem v_ldl {ls : y_Ls} {k : Nat} {x : Int64} {f : Int64 → y_O} (h : ls[k]? = some (some (y_vl x))) : y_ldl (v_Ls σ ls) k f = f x := by
  unfold y_ldl v_Ls
  rw [List.getElem?_map, h]
  rfl
theorem v_sk {ls : y_Ls} {k : Nat} : y_sk (v_Ls σ ls) k = y_sk ls k := by
  unfold y_sk v_Ls
  rw [List.length_map]
  congr 1
  cases k with
  | zero => rfl
  | succ j =>
    show y_lo _ = y_lo _
    rw [List.getElem?_map]
    rcases ls[j]? with _ | _ | x | x | x <;> rfl
theorem v_Ls_set {ls : y_Ls} {k : Nat} {o : Option y_V} : (v_Ls σ ls).set k (o.map (v_V σ)) = v_Ls σ (ls.set k o) := by
  unfold v_Ls
  rw [List.map_set]
theorem v_cat (v : y_V) : y_cat (v_V σ v) = y_cat v := by
  rcases v with x | x | x <;> rfl
theorem v_cats : ∀ st : List y_V, y_cats (st.map (v_V σ)) = y_cats st
  | [] => rfl
  | v :: r => by
    show y_cat (v_V σ v) + y_cats (r.map (v_V σ)) = _
    rw [v_cats r, v_cat]
    rfl
end RG
