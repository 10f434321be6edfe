/-! fields, rows, calls, runs -/
theorem y_okS_pi {nn : Nat} {v : y_V} {t : List y_V} (h : y_okS nn (v :: t)) : y_okS nn t := (y_okS_cons.mp h).2
theorem z_cF_of {h : y_Hp} {a k c : Nat} (hk : (z_kd a).1 = c) (hd : z_dy c k = false) : z_cF h a k = z_of c k a := by
  unfold z_cF
  rw [hk, hd]
section SIM
variable {K : y_K} {K' : z_K} {C : y_C} {C' : z_C} {ins : Jvm.ClassFile.Instr} {x y z pc len M : Nat} {ls : y_Ls} {st : List y_V} {h : y_Hp} {r : y_R} {sc : z_Sc} {T : z_O → Prop} {nn : Nat}
/-- where a reference leads that never changes: to a cell of the same side -/
def y_cls (a : Nat) : Bool := (List.range (z_kd a).2).all fun k => y_ng 186 (z_of (z_kd a).1 k a)
theorem y_cls_ok : ((List.range 236).all fun a => !(y_ng 186 a) || (Nat.blt 15 (z_kd a).1 || (Nat.beq (z_kd a).1 10 || (Nat.beq (z_kd a).1 11 || (Nat.beq (z_kd a).1 13 || y_cls a))))) = true := by decide +kernel
theorem y_ng_of {a k : Nat} (hn : nn = 186 ∨ nn = 188) (ha : y_okV nn (y_vr a)) (hx : (z_kd a).1 < 9 ∨ (z_kd a).1 = 14 ∨ (z_kd a).1 = 15) (hk : k < (z_kd a).2) : y_ng nn (z_of (z_kd a).1 k a) = true := by
  have h1 := y_ng_iff.mp (show y_ng nn a = true from ha)
  have hlt : a < 236 := by
    rcases Nat.lt_or_ge a 236 with q | q
    · exact q
    · exfalso
      have e : z_kd a = (10, 64) := by
        rcases (show a = 236 ∨ a = 237 ∨ a = 238 ∨ a = 239 by omega) with rfl | rfl | rfl | rfl <;> rfl
      rw [e] at hx
      rcases hx with q | q | q
      · exact absurd q (by decide)
      · cases q
      · cases q
  have h2 := List.all_eq_true.mp y_cls_ok a (List.mem_range.mpr hlt)
  have h3 : y_ng 186 a = true := y_ng_iff.mpr (by omega)
  rw [h3] at h2
  have hc : y_cls a = true := by
    rcases hx with q | q | q
    · have e1 : Nat.blt 15 (z_kd a).1 = false := by
        cases r : Nat.blt 15 (z_kd a).1
        · rfl
        · have := Nat.blt_eq.mp r; omega
      have e2 : ∀ t, 9 ≤ t → Nat.beq (z_kd a).1 t = false := fun t ht => by
        cases r : Nat.beq (z_kd a).1 t
        · rfl
        · have := z_beq r; omega
      rw [e1, e2 10 (by omega), e2 11 (by omega), e2 13 (by omega)] at h2
      exact h2
    · rw [q] at h2; exact h2
    · rw [q] at h2; exact h2
  have h4 := List.all_eq_true.mp hc k (List.mem_range.mpr hk)
  have h5 := y_ng_iff.mp h4
  exact y_ng_iff.mpr (by omega)
theorem y_gv_c {a : Nat} (ha : y_okV nn (y_vr a)) (hk : (z_kd a).1 = x) : z_gv (c_H nn h) (c_t a) y z = c_V (y_gv h a x y z) := by
  have eu := c_ut (show y_ng nn a = true from ha)
  match z with
  | 0 =>
    show z_vi (Int32.ofInt (h.1 (c_u (c_t a)) y)) = _
    rw [eu]; rfl
  | 1 =>
    show z_vr (c_t (z_cF h (c_u (c_t a)) y)) = c_V (match z_dy x y with
      | true => y_vr (y_F h a y)
      | false => y_vr (z_of x y a))
    rw [eu]
    unfold z_cF
    rw [hk]
    cases z_dy x y <;> rfl
  | 2 =>
    show z_vl (h.2.2 (c_u (c_t a)) y) = _
    rw [eu]; rfl
  | n + 3 =>
    show z_vi (Int32.ofInt (h.1 (c_u (c_t a)) y)) = _
    rw [eu]; rfl
theorem y_gv_ok {a : Nat} (hn : nn = 186 ∨ nn = 188) (ha : y_okV nn (y_vr a)) (hk : (z_kd a).1 = x) (hx : x < 9) (hy : y < (z_kd a).2) (hh : y_okH nn h) : y_okV nn (y_gv h a x y z) := by
  match z with
  | 0 => exact hh.1 _ _
  | 1 =>
    show y_okV nn (match z_dy x y with
      | true => y_vr (y_F h a y)
      | false => y_vr (z_of x y a))
    cases z_dy x y
    · have := y_ng_of (k := y) hn ha (Or.inl (by omega)) hy
      rw [hk] at this
      exact this
    · exact hh.2 _ _
  | 2 => trivial
  | n + 3 => exact hh.1 _ _
/-- an object has as many places as its class has fields -/
theorem z_kd_fn {a : Nat} (h : (z_kd a).1 < 8) : (z_kd a).2 = z_cN (z_kd a).1 := by
  have key : (z_kdl.all fun q => !(Nat.blt q.1 8) || Nat.beq q.2 (z_cN q.1)) = true := by decide +kernel
  unfold z_kd at h ⊢
  split at h
  · rename_i q hq
    have := List.all_eq_true.mp key q (List.mem_of_getElem? hq)
    have hb : Nat.blt q.1 8 = true := Nat.blt_eq.mpr h
    rw [hb] at this
    exact z_beq (by simpa using this)
  · exact absurd h (by decide)
theorem z_I_c {a k : Nat} (ha : y_okV nn (y_vr a)) : z_I (c_H nn h) (c_t a) k = Int32.ofInt (y_I h a k) := by
  show Int32.ofInt (h.1 (c_u (c_t a)) k) = _
  rw [c_ut ha]; rfl
theorem z_J_c {a k : Nat} (ha : y_okV nn (y_vr a)) : z_J (c_H nn h) (c_t a) k = y_J h a k := by
  show h.2.2 (c_u (c_t a)) k = _
  rw [c_ut ha]; rfl
theorem z_F_c {a k : Nat} (ha : y_okV nn (y_vr a)) : z_F (c_H nn h) (c_t a) k = c_t (z_cF h a k) := by
  show c_t (z_cF h (c_u (c_t a)) k) = _
  rw [c_ut ha]
theorem y_b1_c {v : Int} (h : v = 0 ∨ v = 1) : z_bo (Int32.ofInt v) = true := by rcases h with rfl | rfl <;> rfl
theorem y_sim3 (hok : z_sok M pc len 3 ins x y z = true) (hn : nn = 186 ∨ nn = 188) (hls : y_okL nn ls) (hst : y_okS nn st) (hh : y_okH nn h) (hr : y_i3 sc K ins x y z pc ls st h = some r) (hK : ∀ pc' ls' st' h', y_okL nn ls' → y_okS nn st' → y_okH nn h' → K pc' ls' st' h' = some r → T (K' pc' (c_Ls ls') (st'.map c_V) (c_H nn h'))) : T (z_i3 sc K' ins x y z pc (c_Ls ls) (st.map c_V) (c_H nn h)) := by
  unfold y_i3 at hr
  split at hr
  · -- getfield
    unfold z_sok at hok
    simp only [Bool.and_eq_true, Nat.blt_eq] at hok
    obtain ⟨⟨⟨⟨-, -⟩, k3⟩, k4⟩, -⟩ := hok
    obtain ⟨a, t, rfl, h2⟩ := y_pr_some.mp hr
    obtain ⟨g, h5⟩ := y_kt_some.mp h2
    have ha := (y_okS_cons.mp hst).1
    show T (z_gd (z_ob (c_H nn h) (c_t a) x) (K' _ _ (z_gv (c_H nn h) (c_t a) y z :: _) _))
    rw [y_ob_c hn ha g, y_gv_c ha g]
    exact hK _ ls (y_gv h a x y z :: t) _ hls (y_okS_cons.mpr ⟨y_gv_ok hn ha g (by omega) (by rw [z_kd_fn (by omega), g]; exact k4) hh, y_okS_pi hst⟩) hh h5
  · -- putfield
    unfold z_sok at hok
    simp only [Bool.and_eq_true, Nat.blt_eq] at hok
    obtain ⟨⟨⟨⟨⟨-, -⟩, k3⟩, -⟩, -⟩, -⟩ := hok
    split at hr
    · obtain ⟨v, t, rfl, h2⟩ := y_pi_some.mp hr
      obtain ⟨a, t2, rfl, h3⟩ := y_pr_some.mp h2
      obtain ⟨g, h5⟩ := y_kt_some.mp h3
      have ha := (y_okS_cons.mp (y_okS_pi hst)).1
      show T (z_gd (z_ob (c_H nn h) (c_t a) x) (K' _ _ _ (z_sI (c_H nn h) (c_t a) y (Int32.ofInt v))))
      rw [y_ob_c hn ha g, ← c_sI ha]
      exact hK _ _ _ _ hls (y_okS_pi (y_okS_pi hst)) (y_okH_sI hh (y_okS_cons.mp hst).1) h5
    · obtain ⟨v, t, rfl, h2⟩ := y_pr_some.mp hr
      obtain ⟨a, t2, rfl, h3⟩ := y_pr_some.mp h2
      obtain ⟨g, h4⟩ := y_kt_some.mp h3
      obtain ⟨g2, h5⟩ := y_sg_some.mp h4
      have ha := (y_okS_cons.mp (y_okS_pi hst)).1
      show T (z_gd (z_ob (c_H nn h) (c_t a) x) (K' _ _ _ (z_sF (c_H nn h) (c_t a) y (c_t v))))
      rw [y_ob_c hn ha g, ← c_sF ha (by rw [g]; exact g2)]
      exact hK _ _ _ _ hls (y_okS_pi (y_okS_pi hst)) (y_okH_sF hh (y_okS_cons.mp hst).1) h5
    · obtain ⟨v, t, rfl, h2⟩ := y_pl_some.mp hr
      obtain ⟨a, t2, rfl, h3⟩ := y_pr_some.mp h2
      obtain ⟨g, h5⟩ := y_kt_some.mp h3
      have ha := (y_okS_cons.mp (y_okS_pi hst)).1
      show T (z_gd (z_ob (c_H nn h) (c_t a) x) (K' _ _ _ (z_sJ (c_H nn h) (c_t a) y v)))
      rw [y_ob_c hn ha g, ← c_sJ ha]
      exact hK _ _ _ _ hls (y_okS_pi (y_okS_pi hst)) hh h5
    · rename_i z9 n0 n1 n2
      obtain ⟨v, t, rfl, h2⟩ := y_pi_some.mp hr
      obtain ⟨a, t2, rfl, h3⟩ := y_pr_some.mp h2
      obtain ⟨g, h4⟩ := y_kt_some.mp h3
      obtain ⟨g2, h5⟩ := y_b1_some.mp h4
      obtain ⟨q, rfl⟩ : ∃ q, z = q + 3 := by
        match z, n0, n1, n2 with
        | 0, n0, _, _ => exact absurd rfl n0
        | 1, _, n1, _ => exact absurd rfl n1
        | 2, _, _, n2 => exact absurd rfl n2
        | q + 3, _, _, _ => exact ⟨q, rfl⟩
      have ha := (y_okS_cons.mp (y_okS_pi hst)).1
      show T (z_gd (z_ob (c_H nn h) (c_t a) x && z_bo (Int32.ofInt v)) (K' _ _ _ (z_sI (c_H nn h) (c_t a) y (Int32.ofInt v))))
      rw [y_ob_c hn ha g, y_b1_c g2, ← c_sI ha]
      exact hK _ _ _ _ hls (y_okS_pi (y_okS_pi hst)) (y_okH_sI hh (y_okS_cons.mp hst).1) h5
  · -- iaload
    split at hr
    · obtain ⟨i, t, rfl, h2⟩ := y_pi_some.mp hr
      obtain ⟨a, t2, rfl, h3⟩ := y_pr_some.mp h2
      obtain ⟨g, h4⟩ := y_sg_some.mp h3
      obtain ⟨g2, h5⟩ := y_in_some.mp h4
      have ea := z_beq g
      subst ea
      have hi := (y_okS_cons.mp hst).1
      show T (z_gd (Nat.beq 1 1 && z_in (Int32.ofInt i) sc.1) (K' _ _ (z_vi (sc.2 (Int32.ofInt i).toNatClampNeg) :: _) _))
      have e1 : z_in (Int32.ofInt i) sc.1 = true := by
        unfold z_in
        have e2 : ¬ (Int32.ofInt i < 0) := fun q => by have := (y_lt0_c hi).mp q; omega
        rw [decide_eq_false e2, y_nat_c hi]
        exact Nat.blt_eq.mpr (by omega)
      rw [e1, y_nat_c hi]
      have h9 := hK _ ls (y_vi (sc.2 i.toNat).toInt :: t2) _ hls (y_okS_cons.mpr ⟨y_inr_to _, y_okS_pi (y_okS_pi hst)⟩) hh h5
      have e3 : (y_vi (sc.2 i.toNat).toInt :: t2).map c_V = z_vi (sc.2 i.toNat) :: t2.map c_V := by
        show z_vi (Int32.ofInt (sc.2 i.toNat).toInt) :: _ = _
        rw [y_ofto]
      rw [e3] at h9
      exact h9
    · rename_i hx1
      obtain ⟨i, t, rfl, h2⟩ := y_pi_some.mp hr
      obtain ⟨a, t2, rfl, h3⟩ := y_pr_some.mp h2
      obtain ⟨g, h4⟩ := y_kt_some.mp h3
      obtain ⟨g2, h5⟩ := y_in_some.mp h4
      have hi := (y_okS_cons.mp hst).1
      have ha := (y_okS_cons.mp (y_okS_pi hst)).1
      have h9 := hK _ ls (y_vi (y_I h a i.toNat) :: t2) _ hls (y_okS_cons.mpr ⟨hh.1 _ _, y_okS_pi (y_okS_pi hst)⟩) hh h5
      have e9 : z_i3 sc K' Jvm.ClassFile.Instr.iaload x y z pc (c_Ls ls) (z_vi (Int32.ofInt i) :: z_vr (c_t a) :: t2.map c_V) (c_H nn h) = z_gd (z_ar (c_H nn h) (c_t a) 10 (Int32.ofInt i)) (K' (pc + 1) (c_Ls ls) (z_vi (z_I (c_H nn h) (c_t a) (Int32.ofInt i).toNatClampNeg) :: t2.map c_V) (c_H nn h)) := by
        show (match x with
          | 1 => _
          | _ => _) = _
        split
        · exact absurd rfl hx1
        · rfl
      show T (z_i3 sc K' Jvm.ClassFile.Instr.iaload x y z pc (c_Ls ls) (z_vi (Int32.ofInt i) :: z_vr (c_t a) :: t2.map c_V) (c_H nn h))
      rw [e9, y_ar_c hn ha g hi g2, y_nat_c hi, z_I_c ha]
      exact h9
  · -- baload
    obtain ⟨i, t, rfl, h2⟩ := y_pi_some.mp hr
    obtain ⟨a, t2, rfl, h3⟩ := y_pr_some.mp h2
    obtain ⟨g, h4⟩ := y_kt_some.mp h3
    obtain ⟨g2, h5⟩ := y_in_some.mp h4
    have hi := (y_okS_cons.mp hst).1
    have ha := (y_okS_cons.mp (y_okS_pi hst)).1
    show T (z_gd (z_ar (c_H nn h) (c_t a) x (Int32.ofInt i)) (K' _ _ (z_vi (z_I (c_H nn h) (c_t a) (Int32.ofInt i).toNatClampNeg) :: _) _))
    rw [y_ar_c hn ha g hi g2, y_nat_c hi, z_I_c ha]
    exact hK _ ls (y_vi (y_I h a i.toNat) :: t2) _ hls (y_okS_cons.mpr ⟨hh.1 _ _, y_okS_pi (y_okS_pi hst)⟩) hh h5
  · -- laload
    obtain ⟨i, t, rfl, h2⟩ := y_pi_some.mp hr
    obtain ⟨a, t2, rfl, h3⟩ := y_pr_some.mp h2
    obtain ⟨g, h4⟩ := y_kt_some.mp h3
    obtain ⟨g2, h5⟩ := y_in_some.mp h4
    have hi := (y_okS_cons.mp hst).1
    have ha := (y_okS_cons.mp (y_okS_pi hst)).1
    show T (z_gd (z_ar (c_H nn h) (c_t a) 11 (Int32.ofInt i)) (K' _ _ (z_vl (z_J (c_H nn h) (c_t a) (Int32.ofInt i).toNatClampNeg) :: _) _))
    rw [y_ar_c hn ha g hi g2, y_nat_c hi, z_J_c ha]
    exact hK _ ls (y_vl (y_J h a i.toNat) :: t2) _ hls (y_okS_cons.mpr ⟨trivial, y_okS_pi (y_okS_pi hst)⟩) hh h5
  · -- aaload
    unfold z_sok at hok
    simp only [Bool.and_eq_true, Bool.or_eq_true] at hok
    have hx9 : x = 14 ∨ x = 15 := by rcases hok.2 with q | q <;> (have := z_beq q; omega)
    obtain ⟨i, t, rfl, h2⟩ := y_pi_some.mp hr
    obtain ⟨a, t2, rfl, h3⟩ := y_pr_some.mp h2
    obtain ⟨g, h4⟩ := y_kt_some.mp h3
    obtain ⟨g2, h5⟩ := y_in_some.mp h4
    have hi := (y_okS_cons.mp hst).1
    have ha := (y_okS_cons.mp (y_okS_pi hst)).1
    have hng := y_ng_of (k := i.toNat) hn ha (Or.inr (by rw [g]; exact hx9)) (by omega)
    rw [g] at hng
    show T (z_gd (z_ar (c_H nn h) (c_t a) x (Int32.ofInt i)) (K' _ _ (z_vr (z_F (c_H nn h) (c_t a) (Int32.ofInt i).toNatClampNeg) :: _) _))
    rw [y_ar_c hn ha g hi g2, y_nat_c hi, z_F_c ha, z_cF_of g (by rcases hx9 with rfl | rfl <;> rfl)]
    exact hK _ ls (y_vr (z_of x i.toNat a) :: t2) _ hls (y_okS_cons.mpr ⟨hng, y_okS_pi (y_okS_pi hst)⟩) hh h5
  · -- iastore
    obtain ⟨v, t0, rfl, h1⟩ := y_pi_some.mp hr
    obtain ⟨i, t, rfl, h2⟩ := y_pi_some.mp h1
    obtain ⟨a, t2, rfl, h3⟩ := y_pr_some.mp h2
    obtain ⟨g, h4⟩ := y_kt_some.mp h3
    obtain ⟨g2, h5⟩ := y_in_some.mp h4
    have hv := (y_okS_cons.mp hst).1
    have hi := (y_okS_cons.mp (y_okS_pi hst)).1
    have ha := (y_okS_cons.mp (y_okS_pi (y_okS_pi hst))).1
    show T (z_gd (z_ar (c_H nn h) (c_t a) 10 (Int32.ofInt i)) (K' _ _ _ (z_sI (c_H nn h) (c_t a) (Int32.ofInt i).toNatClampNeg (Int32.ofInt v))))
    rw [y_ar_c hn ha g hi g2, y_nat_c hi, ← c_sI ha]
    exact hK _ _ _ _ hls (y_okS_pi (y_okS_pi (y_okS_pi hst))) (y_okH_sI hh hv) h5
  · -- bastore
    split at hr
    · unfold z_sok at hok
      simp only [Bool.and_eq_true] at hok
      exact absurd (z_beq hok.2) (by decide)
    · rename_i hx1
      obtain ⟨v, t0, rfl, h1⟩ := y_pi_some.mp hr
      obtain ⟨i, t, rfl, h2⟩ := y_pi_some.mp h1
      obtain ⟨a, t2, rfl, h3⟩ := y_pr_some.mp h2
      obtain ⟨g, h4⟩ := y_kt_some.mp h3
      obtain ⟨g2, h4⟩ := y_in_some.mp h4
      obtain ⟨gb, h5⟩ := y_b1_some.mp h4
      have hv := (y_okS_cons.mp hst).1
      have hi := (y_okS_cons.mp (y_okS_pi hst)).1
      have ha := (y_okS_cons.mp (y_okS_pi (y_okS_pi hst))).1
      have h9 := hK _ _ _ _ hls (y_okS_pi (y_okS_pi (y_okS_pi hst))) (y_okH_sI hh hv) h5
      have e9 : z_i3 sc K' Jvm.ClassFile.Instr.bastore x y z pc (c_Ls ls) (z_vi (Int32.ofInt v) :: z_vi (Int32.ofInt i) :: z_vr (c_t a) :: t2.map c_V) (c_H nn h) = z_gd (z_ar (c_H nn h) (c_t a) 13 (Int32.ofInt i) && z_bo (Int32.ofInt v)) (K' (pc + 1) (c_Ls ls) (t2.map c_V) (z_sI (c_H nn h) (c_t a) (Int32.ofInt i).toNatClampNeg (Int32.ofInt v))) := by
        show (match x with
          | 12 => _
          | _ => _) = _
        split
        · exact absurd rfl hx1
        · rfl
      show T (z_i3 sc K' Jvm.ClassFile.Instr.bastore x y z pc (c_Ls ls) (z_vi (Int32.ofInt v) :: z_vi (Int32.ofInt i) :: z_vr (c_t a) :: t2.map c_V) (c_H nn h))
      rw [e9, y_ar_c hn ha g hi g2, y_b1_c gb, y_nat_c hi, ← c_sI ha]
      exact h9
  · -- lastore
    obtain ⟨v, t0, rfl, h1⟩ := y_pl_some.mp hr
    obtain ⟨i, t, rfl, h2⟩ := y_pi_some.mp h1
    obtain ⟨a, t2, rfl, h3⟩ := y_pr_some.mp h2
    obtain ⟨g, h4⟩ := y_kt_some.mp h3
    obtain ⟨g2, h5⟩ := y_in_some.mp h4
    have hi := (y_okS_cons.mp (y_okS_pi hst)).1
    have ha := (y_okS_cons.mp (y_okS_pi (y_okS_pi hst))).1
    show T (z_gd (z_ar (c_H nn h) (c_t a) 11 (Int32.ofInt i)) (K' _ _ _ (z_sJ (c_H nn h) (c_t a) (Int32.ofInt i).toNatClampNeg v)))
    rw [y_ar_c hn ha g hi g2, y_nat_c hi, ← c_sJ ha]
    exact hK _ _ _ _ hls (y_okS_pi (y_okS_pi (y_okS_pi hst))) hh h5
  · -- arraylength
    split at hr
    · obtain ⟨a, t2, rfl, h3⟩ := y_pr_some.mp hr
      obtain ⟨g, h4⟩ := y_sg_some.mp h3
      obtain ⟨g2, h5⟩ := y_rg_some.mp h4
      have ea := z_beq g
      subst ea
      exact hK _ ls (y_vi (sc.1 : Int) :: t2) _ hls (y_okS_cons.mpr ⟨g2, y_okS_pi hst⟩) hh h5
    · rename_i hx1
      have hx9 : x = 10 := by
        unfold z_sok at hok
        simp only [Bool.and_eq_true] at hok
        have := hok.2
        split at this
        · exact absurd rfl hx1
        · rfl
        · cases this
      subst hx9
      obtain ⟨a, t2, rfl, h3⟩ := y_pr_some.mp hr
      obtain ⟨g, h5⟩ := y_kt_some.mp h3
      have hle := z_kd_le a
      have ha := (y_okS_cons.mp hst).1
      have hob := y_ob_c hn (h := h) ha g
      show T (z_gd (z_ob (c_H nn h) (c_t a) 10) (K' _ _ (z_vi (Int32.ofNat (w_kd (c_t a)).2) :: _) _))
      rw [hob, c_t_kd ha]
      exact hK _ ls (y_vi ((z_kd a).2 : Int) :: t2) _ hls (y_okS_cons.mpr ⟨by show y_inr _; unfold y_inr; omega, y_okS_pi hst⟩) hh h5
  · cases hr
theorem y_rt_c {q : Nat} {r0 : y_R} {rest : List y_V} (ho : y_okR nn r0) (hls : y_okL nn ls) (hst : y_okS nn rest) (hK : ∀ pc' ls' st' h', y_okL nn ls' → y_okS nn st' → y_okH nn h' → K pc' ls' st' h' = some r → T (K' pc' (c_Ls ls') (st'.map c_V) (c_H nn h'))) (h : y_rt q (some r0) K pc ls rest = some r) : T (z_rt q (some (c_R nn r0)) K' pc (c_Ls ls) (rest.map c_V)) := by
  obtain ⟨v, h1⟩ := r0
  unfold y_rt at h
  unfold z_rt
  rcases q with _ | _ | q
  · rcases v with _ | v | w | v
    · cases (show (none : y_O) = some r from h)
    · exact hK _ ls (y_vi v :: rest) h1 hls (y_okS_cons.mpr ⟨ho.1 _ rfl, hst⟩) ho.2 h
    · cases (show (none : y_O) = some r from h)
    · cases (show (none : y_O) = some r from h)
  · rcases v with _ | v | w | v
    · cases (show (none : y_O) = some r from h)
    · cases (show (none : y_O) = some r from h)
    · cases (show (none : y_O) = some r from h)
    · exact hK _ ls (y_vl v :: rest) h1 hls (y_okS_cons.mpr ⟨ho.1 _ rfl, hst⟩) ho.2 h
  · rcases v with _ | v | w | v
    · exact hK _ ls rest h1 hls hst ho.2 h
    · cases (show (none : y_O) = some r from h)
    · cases (show (none : y_O) = some r from h)
    · cases (show (none : y_O) = some r from h)
theorem y_rt_none {q : Nat} {rest : List y_V} : y_rt q none K pc ls rest = none := by
  unfold y_rt
  split <;> rfl
theorem y_sim4 (hn : nn = 186 ∨ nn = 188) (hmc : z = 10 ∨ z = 11 ∨ z = 12 ∨ z = 13 ∨ z_lk x = true) (hls : y_okL nn ls) (hst : y_okS nn st) (hh : y_okH nn h) (hr : y_i4 C K x y z pc ls st h = some r) (hK : ∀ pc' ls' st' h', y_okL nn ls' → y_okS nn st' → y_okH nn h' → K pc' ls' st' h' = some r → T (K' pc' (c_Ls ls') (st'.map c_V) (c_H nn h')))
    (hC : ∀ x as h0 r0, z_lk x = true → y_okS nn as → y_okH nn h0 → C x as h0 = some r0 → y_okR nn r0 ∧ C' x (as.map c_V) (c_H nn h0) = some (c_R nn r0)) : T (z_i4 C' K' x y z pc (c_Ls ls) (st.map c_V) (c_H nn h)) := by
  have hd1 : y_okS nn (st.take y).reverse := y_okS_sub hst (fun v hv => List.mem_of_mem_take (List.mem_reverse.mp hv))
  have hd2 : y_okS nn (st.drop y) := y_okS_sub hst (fun v hv => List.mem_of_mem_drop hv)
  unfold y_i4 at hr
  split at hr
  · have hlk : z_lk x = true := by
      rcases hmc with q | q | q | q | q
      · omega
      · omega
      · omega
      · omega
      · exact q
    obtain ⟨g, h2⟩ := y_sg_some.mp hr
    show T (z_sg (Nat.ble y (st.map c_V).length && Nat.ble (z_cats ((st.map c_V).drop y)) 8) (z_rt (z_mr x) (C' x ((st.map c_V).take y).reverse (c_H nn h)) K' pc (c_Ls ls) ((st.map c_V).drop y)))
    rw [List.length_map, ← List.map_drop, ← List.map_take, ← List.map_reverse, z_cats_c, g]
    rcases ho : C x (st.take y).reverse h with _ | r0
    · rw [ho, y_rt_none] at h2
      cases h2
    · rw [ho] at h2
      obtain ⟨o1, o2⟩ := hC _ _ _ _ hlk hd1 hh ho
      rw [o2]
      exact y_rt_c o1 hls hd2 hK h2
  · obtain ⟨w, t, rfl, h2⟩ := y_pi_some.mp hr
    obtain ⟨v, t2, rfl, h3⟩ := y_pi_some.mp h2
    obtain ⟨g, h4⟩ := y_sg_some.mp h3
    obtain ⟨s1, s2⟩ := y_okS_cons.mp hst
    obtain ⟨s3, s4⟩ := y_okS_cons.mp s2
    show T (z_sg (Nat.ble (z_cats (t2.map c_V)) 8) (K' _ _ (z_vi (if Int32.ofInt v < Int32.ofInt w then Int32.ofInt w else Int32.ofInt v) :: _) _))
    have e : (if Int32.ofInt v < Int32.ofInt w then Int32.ofInt w else Int32.ofInt v) = Int32.ofInt (max v w) := by
      by_cases q : v < w
      · rw [if_pos ((y_lt_c s3 s1).mpr q), show max v w = w by omega]
      · rw [if_neg (fun q2 => q ((y_lt_c s3 s1).mp q2)), show max v w = v by omega]
    rw [z_cats_c, g, e]
    exact hK _ ls (y_vi (max v w) :: t2) _ hls (y_okS_cons.mpr ⟨by have h3 : y_inr v := s3; have h1 : y_inr w := s1; show y_inr (max v w); unfold y_inr at *; omega, s4⟩) hh h4
  · obtain ⟨w, t, rfl, h2⟩ := y_pi_some.mp hr
    obtain ⟨v, t2, rfl, h3⟩ := y_pi_some.mp h2
    obtain ⟨g, h4⟩ := y_sg_some.mp h3
    obtain ⟨s1, s2⟩ := y_okS_cons.mp hst
    obtain ⟨s3, s4⟩ := y_okS_cons.mp s2
    show T (z_sg (Nat.ble (z_cats (t2.map c_V)) 8) (K' _ _ (z_vi (if Int32.ofInt w < Int32.ofInt v then Int32.ofInt w else Int32.ofInt v) :: _) _))
    have e : (if Int32.ofInt w < Int32.ofInt v then Int32.ofInt w else Int32.ofInt v) = Int32.ofInt (min v w) := by
      by_cases q : w < v
      · rw [if_pos ((y_lt_c s1 s3).mpr q), show min v w = w by omega]
      · rw [if_neg (fun q2 => q ((y_lt_c s1 s3).mp q2)), show min v w = v by omega]
    rw [z_cats_c, g, e]
    exact hK _ ls (y_vi (min v w) :: t2) _ hls (y_okS_cons.mpr ⟨by have h3 : y_inr v := s3; have h1 : y_inr w := s1; show y_inr (min v w); unfold y_inr at *; omega, s4⟩) hh h4
  · obtain ⟨n9, t1, rfl, y1⟩ := y_pi_some.mp hr
    obtain ⟨dp, t2, rfl, y2⟩ := y_pi_some.mp y1
    obtain ⟨b9, t3, rfl, y3⟩ := y_pr_some.mp y2
    obtain ⟨sp, t4, rfl, y4⟩ := y_pi_some.mp y3
    obtain ⟨a9, t5, rfl, y5⟩ := y_pr_some.mp y4
    obtain ⟨g1, y6⟩ := y_sg_some.mp y5
    obtain ⟨g2, y7⟩ := y_kt_some.mp y6
    obtain ⟨g3, y8⟩ := y_kt_some.mp y7
    obtain ⟨⟨⟨g4, g5, g6⟩, g7, g8⟩, y9⟩ := y_cg_some.mp y8
    obtain ⟨s1, q1⟩ := y_okS_cons.mp hst
    obtain ⟨s2, q2⟩ := y_okS_cons.mp q1
    obtain ⟨s3, q3⟩ := y_okS_cons.mp q2
    obtain ⟨s4, q4⟩ := y_okS_cons.mp q3
    obtain ⟨s5, q5⟩ := y_okS_cons.mp q4
    have s1 : y_inr n9 := s1
    have s2 : y_inr dp := s2
    have s4 : y_inr sp := s4
    have e1 : ¬ Int32.ofInt sp < 0 := fun q => by have := (y_lt0_c s4).mp q; omega
    have e2 : ¬ Int32.ofInt dp < 0 := fun q => by have := (y_lt0_c s2).mp q; omega
    have e3 : ¬ Int32.ofInt n9 < 0 := fun q => by have := (y_lt0_c s1).mp q; omega
    have l1 := c_t_lt hn (show y_ng nn a9 = true from s5)
    have l2 := c_t_lt hn (show y_ng nn b9 = true from s3)
    have d1 := c_t_kd (show y_ng nn a9 = true from s5)
    have d2 := c_t_kd (show y_ng nn b9 = true from s3)
    show T (z_sg (Nat.ble (z_cats (t5.map c_V)) 8) (z_gd ((Nat.beq (w_kd (c_t a9)).1 10 && Nat.blt (c_t a9) (nn + 2)) && (Nat.beq (w_kd (c_t b9)).1 10 && Nat.blt (c_t b9) (nn + 2)) && (!(decide (Int32.ofInt sp < 0)) && !(decide (Int32.ofInt dp < 0)) && !(decide (Int32.ofInt n9 < 0))) && (Nat.ble ((Int32.ofInt sp).toNatClampNeg + (Int32.ofInt n9).toNatClampNeg) (w_kd (c_t a9)).2 && Nat.ble ((Int32.ofInt dp).toNatClampNeg + (Int32.ofInt n9).toNatClampNeg) (w_kd (c_t b9)).2)) (K' _ _ _ (z_cpI (c_H nn h) (c_t a9) (Int32.ofInt sp).toNatClampNeg (c_t b9) (Int32.ofInt dp).toNatClampNeg (Int32.ofInt n9).toNatClampNeg))))
    have f1 : Nat.ble (sp.toNat + n9.toNat) (z_kd a9).2 = true := Nat.ble_eq_true_of_le (by omega)
    have f2 : Nat.ble (dp.toNat + n9.toNat) (z_kd b9).2 = true := Nat.ble_eq_true_of_le (by omega)
    have f3 : Nat.blt (c_t a9) (nn + 2) = true := Nat.blt_eq.mpr l1
    have f4 : Nat.blt (c_t b9) (nn + 2) = true := Nat.blt_eq.mpr l2
    rw [z_cats_c, g1, decide_eq_false e1, decide_eq_false e2, decide_eq_false e3, y_nat_c s4, y_nat_c s2, y_nat_c s1, d1, d2, f1, f2, f3, f4, g2, g3, ← c_cpI s5 s3]
    exact hK _ _ _ _ hls q5 (y_okH_cpI hh) y9
  · obtain ⟨a, t2, rfl, h3⟩ := y_pr_some.mp hr
    obtain ⟨g, h4⟩ := y_sg_some.mp h3
    obtain ⟨g2, h5⟩ := y_sg_some.mp h4
    have ha := (y_okS_cons.mp hst).1
    have g3 : (!(Nat.beq (c_t a) 0)) = true := by
      have h0 : ¬ a = 0 := fun q => by subst q; cases g2
      cases q : Nat.beq (c_t a) 0
      · rfl
      · exact absurd ((c_t_0 (show y_ng nn a = true from ha)).mp (z_beq q)) h0
    show T (z_sg (Nat.ble (z_cats (t2.map c_V)) 8) (z_gd (!(Nat.beq (c_t a) 0)) _))
    rw [z_cats_c, g, g3]
    exact hK _ _ _ _ hls (y_okS_pi hst) hh h5
  · rename_i n1 n2 n3 n4 n5
    have hlk : z_lk x = true := by
      rcases hmc with q | q | q | q | q
      · exact absurd q n2
      · exact absurd q n3
      · exact absurd q n4
      · exact absurd q n5
      · exact q
    obtain ⟨g, h2⟩ := y_sg_some.mp hr
    have h9 : T (z_sg (Nat.ble y (st.map c_V).length && Nat.ble (z_cats ((st.map c_V).drop y)) 8) (z_rc (c_H nn h) ((st.map c_V).take y).reverse (z_mc x) (z_rt (z_mr x) (C' x ((st.map c_V).take y).reverse (c_H nn h)) K' pc (c_Ls ls) ((st.map c_V).drop y)))) := by
      rw [List.length_map, ← List.map_drop, ← List.map_take, ← List.map_reverse, z_cats_c, g]
      unfold y_rc at h2
      split at h2
      · rename_i a as he
        rw [he] at hd1
        obtain ⟨g2, h3⟩ := y_kt_some.mp h2
        have hob := y_ob_c hn (h := h) (y_okS_cons.mp hd1).1 g2
        rw [he]
        rw [he] at h3
        show T (z_gd (z_ob (c_H nn h) (c_t a) (z_mc x)) (z_rt (z_mr x) (C' x ((y_vr a :: as).map c_V) (c_H nn h)) K' pc (c_Ls ls) _))
        rw [hob]
        rcases ho : C x (y_vr a :: as) h with _ | r0
        · rw [ho, y_rt_none] at h3
          cases h3
        · rw [ho] at h3
          obtain ⟨o1, o2⟩ := hC _ _ _ _ hlk hd1 hh ho
          rw [o2]
          exact y_rt_c o1 hls hd2 hK h3
      · cases h2
    unfold z_i4
    split
    · exact absurd rfl n1
    · exact absurd rfl n2
    · exact absurd rfl n3
    · exact absurd rfl n4
    · exact absurd rfl n5
    · exact h9
end SIM
