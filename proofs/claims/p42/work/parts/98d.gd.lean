/-! GHOSTS OUT: runs don't see them; THE LAW'S GOAL: from here it comes to 1 -/
def g_gh (a : Nat) : Bool := (Nat.blt 93 a && Nat.blt a 119) || (Nat.blt 210 a && Nat.blt a 236)
theorem g_gh_iff {a : Nat} : g_gh a = true ↔ ((93 < a ∧ a < 119) ∨ (210 < a ∧ a < 236)) := by
  unfold g_gh
  simp only [Bool.or_eq_true, Bool.and_eq_true, Nat.blt_eq]
theorem g_gh_f {a : Nat} : g_gh a = false ↔ ¬ ((93 < a ∧ a < 119) ∨ (210 < a ∧ a < 236)) := by
  rw [← g_gh_iff]
  cases g_gh a <;> simp
def g_z {α : Type} (z : α) (f : Nat → Nat → α) : Nat → Nat → α := fun a k => match g_gh a with
  | true => z
  | false => f a k
/-- the ghosts' cells are empty -/
def g_er (h : y_Hp) : y_Hp := (g_z 0 h.1, g_z 0 h.2.1, g_z 0 h.2.2)
theorem gz_o {α : Type} {z : α} {f : Nat → Nat → α} {a k : Nat} (h : g_gh a = false) : g_z z f a k = f a k := by
  unfold g_z
  rw [h]
theorem gz_g {α : Type} {z : α} {f : Nat → Nat → α} {a k : Nat} (h : g_gh a = true) : g_z z f a k = z := by
  unfold g_z
  rw [h]
theorem gz_ext {α : Type} {z : α} {f g : Nat → Nat → α} : g_z z f = g_z z g ↔ ∀ a, g_gh a = false → ∀ k, f a k = g a k := by
  constructor
  · intro e a ha k
    have := congrFun (congrFun e a) k
    rwa [gz_o ha, gz_o ha] at this
  · intro e
    funext a k
    cases q : g_gh a
    · rw [gz_o q, gz_o q, e a q k]
    · rw [gz_g q, gz_g q]
theorem er_iff {h g : y_Hp} : g_er h = g_er g ↔ ∀ a, g_gh a = false → ∀ k, h.1 a k = g.1 a k ∧ h.2.1 a k = g.2.1 a k ∧ h.2.2 a k = g.2.2 a k := by
  constructor
  · intro e a ha k
    have e1 : g_z 0 h.1 = g_z 0 g.1 := congrArg Prod.fst e
    have e2 : g_z 0 h.2.1 = g_z 0 g.2.1 := congrArg (fun q => q.2.1) e
    have e3 : g_z 0 h.2.2 = g_z 0 g.2.2 := congrArg (fun q => q.2.2) e
    exact ⟨gz_ext.mp e1 a ha k, gz_ext.mp e2 a ha k, gz_ext.mp e3 a ha k⟩
  · intro e
    exact Prod.ext (gz_ext.mpr fun a ha k => (e a ha k).1) (Prod.ext (gz_ext.mpr fun a ha k => (e a ha k).2.1) (gz_ext.mpr fun a ha k => (e a ha k).2.2))
theorem er_er {h : y_Hp} : g_er (g_er h) = g_er h := er_iff.mpr fun a ha k => ⟨gz_o ha, gz_o ha, gz_o ha⟩
theorem er_I {h : y_Hp} {a k : Nat} (ha : g_gh a = false) : y_I (g_er h) a k = y_I h a k := gz_o ha
theorem er_F {h : y_Hp} {a k : Nat} (ha : g_gh a = false) : y_F (g_er h) a k = y_F h a k := gz_o ha
theorem gh_s {a : Nat} (h : s_A a = true) : g_gh a = false := by
  have := s_A_iff.mp h
  rw [g_gh_f]
  omega
theorem er_sI {h : y_Hp} {a k : Nat} {v : Int} (ha : g_gh a = false) : y_sI (g_er h) a k v = g_er (y_sI h a k v) := by
  refine Prod.ext ?_ rfl
  funext b j
  show z_row (g_z 0 h.1) a (z_up (g_z 0 h.1 a) k v) b j = g_z 0 (z_row h.1 a (z_up (h.1 a) k v)) b j
  unfold z_row
  by_cases e : b = a
  · subst e
    rw [if_pos rfl, gz_o ha, if_pos rfl]
    unfold z_up
    split
    · rfl
    · exact gz_o ha
  · rw [if_neg e]
    cases q : g_gh b
    · rw [gz_o q, gz_o q, if_neg e]
    · rw [gz_g q, gz_g q]
/-- the fields lead where no ghost is -/
def g_F (h : y_Hp) : Prop := r_okH s_A h
theorem v_id (v : y_V) : v_V id v = v := by
  rcases v with x | x | x <;> rfl
theorem v_ids (st : List y_V) : st.map (v_V id) = st := by
  induction st with
  | nil => rfl
  | cons v t ih => rw [List.map_cons, v_id, ih]
theorem v_idl (ls : y_Ls) : v_Ls id ls = ls := by
  unfold v_Ls
  induction ls with
  | nil => rfl
  | cons v t ih =>
    rw [List.map_cons, ih]
    rcases v with _ | v
    · rfl
    · show some (v_V id v) :: t = _
      rw [v_id]
theorem v_ido (o : Option y_V) : o.map (v_V id) = o := by
  rcases o with _ | v
  · rfl
  · show some (v_V id v) = _
    rw [v_id]
theorem er_rel {h g : y_Hp} (e : g_er h = g_er g) : r_rel s_A id h g := fun a ha k => by
  obtain ⟨e1, e2, e3⟩ := er_iff.mp e a (gh_s ha) k
  exact ⟨e1.symm, e2.symm, e3.symm⟩
theorem er_of {h g h1 g1 : y_Hp} (e : g_er h = g_er g) (R : r_rel s_A id h1 g1) (f : r_fr s_A h h1) (fs : r_fs s_A id g g1) : g_er h1 = g_er g1 := er_iff.mpr fun a ha k => by
  cases q : s_A a
  · obtain ⟨a1, a2, a3⟩ := f a (Or.inl q) k
    obtain ⟨b1, b2, b3⟩ := fs a (fun b hb => by intro z; rw [z] at q; rw [show id b = b from rfl] at q; rw [hb] at q; cases q) k
    obtain ⟨e1, e2, e3⟩ := er_iff.mp e a ha k
    exact ⟨by rw [a1, b1, e1], by rw [a2, b2, e2], by rw [a3, b3, e3]⟩
  · obtain ⟨a1, a2, a3⟩ := R a q k
    exact ⟨a1.symm, a2.symm, a3.symm⟩
/-- the ghosts' cells are alike -/
def g_gs (h h' : y_Hp) : Prop := ∀ a, g_gh a = true → ∀ k, h'.1 a k = h.1 a k ∧ h'.2.1 a k = h.2.1 a k ∧ h'.2.2 a k = h.2.2 a k
theorem gs_of {h h' : y_Hp} (f : r_fr s_A h h') : g_gs h h' := fun a ha k => f a (Or.inl (by
  cases q : s_A a
  · rfl
  · rw [gh_s q] at ha; cases ha)) k
/-- A CALL doesn't see the ghosts -/
theorem er_se {sc : z_Sc} {d M : Nat} {as : List y_V} {h g : y_Hp} {r : y_R} (hs : r_okS s_A as) (hF : g_F h) (e : g_er h = g_er g) (q : y_se z_pg sc d M as h = some r) : ∃ g1, y_se z_pg sc d M as g = some (r.1, g1) ∧ g_er g1 = g_er r.2 ∧ g_gs g g1 ∧ g_gs h r.2 ∧ g_F r.2 := by
  obtain ⟨a1, a2, g1, a3, a4, a5⟩ := r_se D_A hs hF (er_rel e) q
  rw [v_ids, v_ido] at a3
  refine ⟨g1, a3, (er_of e a4 a2 a5).symm, fun a ha k => a5 a (fun b hb z => ?_) k, gs_of a2, a1.2⟩
  have := gh_s hb
  rw [show id b = b from rfl] at z
  rw [← z, ha] at this
  cases this
/-- nor a run -/
theorem er_ev {sc : z_Sc} {d M pc : Nat} {ls : y_Ls} {h g : y_Hp} {r : y_R} (hs : r_okL s_A ls) (hF : g_F h) (e : g_er h = g_er g) (q : y_ev z_pg sc d (z_pg M) pc ls [] h = some r) : ∃ g1, y_ev z_pg sc d (z_pg M) pc ls [] g = some (r.1, g1) ∧ g_er g1 = g_er r.2 ∧ g_gs h r.2 ∧ g_F r.2 := by
  obtain ⟨n, hn⟩ := y_ev_iff.mp q
  obtain ⟨a1, a2, g1, a3, a4, a5⟩ := r_run D_A (fun x as h g r0 h1 h2 h3 h4 => r_ca D_A d x as h g r0 h1 h2 h3 h4) n pc ls [] h g hs (fun v hv => by cases hv) hF (er_rel e) hn
  rw [v_idl, v_ido] at a3
  exact ⟨g1, y_ev_iff.mpr ⟨n, a3⟩, (er_of e a4 a2 a5).symm, gs_of a2, a1.2⟩
theorem c_u_gh (b : Nat) : g_gh (c_u b) = false := by
  rw [g_gh_f, c_u_eq]
  (repeat' split) <;> omega
theorem c_H_er {nn : Nat} {h g : y_Hp} (e : g_er h = g_er g) : c_H nn h = c_H nn g := by
  have e9 := er_iff.mp e
  refine Prod.ext rfl (Prod.ext ?_ (Prod.ext ?_ ?_))
  · funext b k
    show Int32.ofInt (h.1 (c_u b) k) = Int32.ofInt (g.1 (c_u b) k)
    rw [(e9 _ (c_u_gh b) k).1]
  · funext b k
    show c_t (z_cF h (c_u b) k) = c_t (z_cF g (c_u b) k)
    unfold z_cF
    rw [(e9 _ (c_u_gh b) k).2.1]
  · funext b k
    exact (e9 _ (c_u_gh b) k).2.2
/-- numbers and fields as the machine can have them, the ghosts aside -/
def g_ok2 (nn : Nat) (h : y_Hp) : Prop := y_okH nn (g_er h)
theorem y_s_A {nn : Nat} {as : List y_V} (h : y_okS nn as) : r_okS s_A as := fun v hv => by
  have := h v hv
  rcases v with x | a | x
  · trivial
  · exact s_A_iff.mpr (by have := y_ng_iff.mp (show y_ng nn a = true from this); omega)
  · trivial
theorem g_ok2_F {nn : Nat} {h : y_Hp} (hh : g_ok2 nn h) : g_F h := fun a k ha => by
  have h1 : y_ng nn ((g_er h).2.1 a k) = true := hh.2 a k
  have e : (g_er h).2.1 a k = h.2.1 a k := gz_o (gh_s ha)
  rw [e] at h1
  exact s_A_iff.mpr (by have := y_ng_iff.mp h1; omega)
/-- a call of the machine's, the ghosts aside -/
theorem g_call {sc : z_Sc} {nn : Nat} (hn : nn = 186 ∨ nn = 188) {d M : Nat} {as : List y_V} {h : y_Hp} {r : y_R} (hM : z_lk M = true) (hs : y_okS nn as) (hh : g_ok2 nn h) (q : y_se z_pg sc d M as h = some r) : y_se z_pg sc d M as (g_er h) = some (r.1, g_er r.2) ∧ g_ok2 nn r.2 ∧ g_gs h r.2 ∧ g_F r.2 ∧ ∀ v, r.1 = some v → y_okV nn v := by
  obtain ⟨g1, a1, a2, a3, a4, a5⟩ := er_se (y_s_A hs) (g_ok2_F hh) er_er.symm q
  have e : g1 = g_er r.2 := by
    rw [← a2]
    refine Prod.ext ?_ (Prod.ext ?_ ?_)
    · funext a k
      show g1.1 a k = g_z 0 g1.1 a k
      cases q : g_gh a
      · rw [gz_o q]
      · rw [gz_g q, (a3 a q k).1]; exact gz_g q
    · funext a k
      show g1.2.1 a k = g_z 0 g1.2.1 a k
      cases q : g_gh a
      · rw [gz_o q]
      · rw [gz_g q, (a3 a q k).2.1]; exact gz_g q
    · funext a k
      show g1.2.2 a k = g_z 0 g1.2.2 a k
      cases q : g_gh a
      · rw [gz_o q]
      · rw [gz_g q, (a3 a q k).2.2]; exact gz_g q
  rw [e] at a1
  obtain ⟨n, hn2⟩ := y_se_iff.mp a1
  have key := (y_call hn d M as (g_er h) _ hM hs hh hn2).1
  exact ⟨a1, key.2, a4, a5, key.1⟩
/-- THE LAW'S GOAL: the machine comes from here to 1 -/
def GD (sc : z_Sc) (nn pc : Nat) (ls : y_Ls) (h : y_Hp) : Prop := ∃ hz : z_Hp, hz.1 ≤ 188 ∧ z_ev z_pg sc 200 (z_pg 250) pc (c_Ls ls) [] (c_H nn h) = some (some (z_vi 1), hz)
theorem GD_er {sc : z_Sc} {nn pc : Nat} {ls : y_Ls} {h g : y_Hp} (e : g_er h = g_er g) (q : GD sc nn pc ls h) : GD sc nn pc ls g := by
  unfold GD at q ⊢
  rw [← c_H_er e]
  exact q
noncomputable def GE (sc : z_Sc) (nn : Nat) : y_K := fun pc ls st h => @ite _ (st = [] ∧ y_okL nn ls ∧ GD sc nn pc ls h) (Classical.propDecidable _) (some (some (y_vi 1), h)) none
theorem GE_some {sc : z_Sc} {nn pc : Nat} {ls : y_Ls} {st : List y_V} {h : y_Hp} {r : y_R} (q : GE sc nn pc ls st h = some r) : st = [] ∧ GD sc nn pc ls h := by
  unfold GE at q
  by_cases c : st = [] ∧ y_okL nn ls ∧ GD sc nn pc ls h
  · exact ⟨c.1, c.2.2⟩
  · rw [if_neg c] at q
    cases q
theorem GE_of {sc : z_Sc} {nn pc : Nat} {ls : y_Ls} {h : y_Hp} (hl : y_okL nn ls) (q : GD sc nn pc ls h) : ∃ g, GE sc nn pc ls [] h = some (some (y_vi 1), g) := ⟨h, if_pos ⟨rfl, hl, q⟩⟩
theorem GD_un {sc : z_Sc} {nn : Nat} (hn : nn = 186 ∨ nn = 188) {stops : List Nat} {g : y_Hp} : ∀ (k pc : Nat) (ls : y_Ls) (st : List y_V) (h : y_Hp), y_okL nn ls → y_okS nn st → y_okH nn h → y_un sc (y_se z_pg sc 200) (GE sc nn) (z_pg 250) stops k pc ls st h = some (some (y_vi 1), g) → ∃ hz : z_Hp, hz.1 ≤ 188 ∧ z_ev z_pg sc 200 (z_pg 250) pc (c_Ls ls) (st.map c_V) (c_H nn h) = some (some (z_vi 1), hz)
  | 0, pc, ls, st, h, hl, hs, hh, q => by
    obtain ⟨rfl, q2⟩ := GE_some q
    exact q2
  | k + 1, pc, ls, st, h, hl, hs, hh, q => by
    rw [z_ev_eq]
    refine y_step (T := fun o => ∃ hz : z_Hp, hz.1 ≤ 188 ∧ o = some (some (z_vi 1), hz)) (C := y_se z_pg sc 200) (C' := z_se z_pg sc 200) (M := 250) (Or.inr rfl) hn (fun x as h0 r0 a1 a2 a3 a4 => ?_) (fun _ => ⟨_, by show nn ≤ 188; omega, rfl⟩) (fun pc' ls' st' h' a1 a2 a3 a4 => ?_) hl hs hh q
    · obtain ⟨n, hn2⟩ := y_se_iff.mp a4
      obtain ⟨b1, b2⟩ := y_call hn 200 x as h0 r0 a1 a2 a3 hn2
      exact ⟨b1, z_se_iff.mpr ⟨n, b2⟩⟩
    · cases c : z_has stops pc'
      · rw [c] at a4
        exact GD_un hn k pc' ls' st' h' a1 a2 a3 a4
      · rw [c] at a4
        obtain ⟨rfl, a5⟩ := GE_some a4
        exact a5
/-- a stretch of the law -/
theorem GD_blk {sc : z_Sc} {nn : Nat} (hn : nn = 186 ∨ nn = 188) {stops : List Nat} {k pc : Nat} {ls : y_Ls} {h : y_Hp} (hl : y_okL nn ls) (hh : g_ok2 nn h) (q : ∃ g, y_un sc (y_se z_pg sc 200) (GE sc nn) (z_pg 250) stops k pc ls [] (g_er h) = some (some (y_vi 1), g)) : GD sc nn pc ls h := by
  obtain ⟨g, q⟩ := q
  exact GD_er er_er (GD_un hn k pc ls [] (g_er h) hl (fun v hv => by cases hv) hh q)
/-- the model's own run changes its own cells alone -/
theorem g_model {sc : z_Sc} {d M : Nat} {as : List y_V} {h : y_Hp} {r : y_R} (hs : r_okS s_G as) (hF : r_okH s_G h) (q : y_se z_pg sc d M as h = some r) : g_er h = g_er r.2 ∧ r_okH s_G r.2 := by
  obtain ⟨a1, a2, -⟩ := r_se D_G hs hF (show r_rel s_G id h h from fun a _ k => ⟨rfl, rfl, rfl⟩) q
  refine ⟨er_iff.mpr fun a ha k => ?_, a1.2⟩
  have hq : s_G a = false ∨ 98 ≤ (z_kd a).1 := by
    cases q : s_G a
    · exact Or.inl rfl
    · rcases s_G_iff.mp q with e | e
      · right
        rw [e]
        decide
      · have := g_gh_iff.mpr (Or.inl e)
        rw [this] at ha
        cases ha
  obtain ⟨b1, b2, b3⟩ := a2 a hq k
  exact ⟨b1.symm, b2.symm, b3.symm⟩
