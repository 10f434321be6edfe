/-! fields, rows, calls, runs -/
theorem y_okS_pi {v : y_V} {t : List y_V} (h : y_okS (v :: t)) : y_okS t := (y_okS_cons.mp h).2
theorem z_cF_of {h : y_Hp} {a k c : Nat} (hk : (z_kd a).1 = c) (hd : z_dy c k = false) : z_cF h a k = z_of c k a := by
  unfold z_cF
  rw [hk, hd]
section SIM
variable {K : y_K} {K' : z_K} {C : y_C} {C' : z_C} {ins : Jvm.ClassFile.Instr} {x y z pc len M : Nat} {ls : y_Ls} {st : List y_V} {h : y_Hp} {r : y_R} {sc : z_Sc}
theorem y_gv_c {a : Nat} (hk : (z_kd a).1 = x) : z_gv (c_H h) a y z = c_V (y_gv h a x y z) := by
  match z with
  | 0 => rfl
  | 1 =>
    show z_vr (z_cF h a y) = c_V (match z_dy x y with
      | true => y_vr (y_F h a y)
      | false => y_vr (z_of x y a))
    unfold z_cF
    rw [hk]
    cases z_dy x y <;> rfl
  | 2 => rfl
  | n + 3 => rfl
theorem y_gv_ok {a : Nat} (hh : y_okH h) : y_okV (y_gv h a x y z) := by
  match z with
  | 0 => exact hh _ _
  | 1 =>
    show y_okV (match z_dy x y with
      | true => y_vr (y_F h a y)
      | false => y_vr (z_of x y a))
    cases z_dy x y <;> trivial
  | 2 => trivial
  | n + 3 => exact hh _ _
theorem y_b1_c {v : Int} (h : v = 0 ∨ v = 1) : z_bo (Int32.ofInt v) = true := by rcases h with rfl | rfl <;> rfl
theorem y_sim3 (hok : z_sok M pc len 3 ins x y z = true) (hls : y_okL ls) (hst : y_okS st) (hh : y_okH h) (hr : y_i3 sc K ins x y z pc ls st h = some r) (hK : ∀ pc' ls' st' h', y_okL ls' → y_okS st' → y_okH h' → K pc' ls' st' h' = some r → y_okR r ∧ K' pc' (c_Ls ls') (st'.map c_V) (c_H h') = some (c_R r)) : y_okR r ∧ z_i3 sc K' ins x y z pc (c_Ls ls) (st.map c_V) (c_H h) = some (c_R r) := by
  unfold y_i3 at hr
  split at hr
  · -- getfield
    unfold z_sok at hok
    simp only [Bool.and_eq_true, Nat.blt_eq] at hok
    obtain ⟨⟨⟨⟨-, -⟩, k3⟩, -⟩, -⟩ := hok
    obtain ⟨a, t, rfl, h2⟩ := y_pr_some.mp hr
    obtain ⟨g, h5⟩ := y_kt_some.mp h2
    show y_okR r ∧ z_gd (z_ob (c_H h) a x) (K' _ _ (z_gv (c_H h) a y z :: _) _) = _
    rw [y_ob_c (by omega) g, y_gv_c g]
    exact hK _ ls (y_gv h a x y z :: t) _ hls (y_okS_cons.mpr ⟨y_gv_ok hh, y_okS_pi hst⟩) hh h5
  · -- putfield
    unfold z_sok at hok
    simp only [Bool.and_eq_true, Nat.blt_eq] at hok
    obtain ⟨⟨⟨⟨⟨-, -⟩, k3⟩, -⟩, -⟩, -⟩ := hok
    split at hr
    · obtain ⟨v, t, rfl, h2⟩ := y_pi_some.mp hr
      obtain ⟨a, t2, rfl, h3⟩ := y_pr_some.mp h2
      obtain ⟨g, h5⟩ := y_kt_some.mp h3
      show y_okR r ∧ z_gd (z_ob (c_H h) a x) (K' _ _ _ (z_sI (c_H h) a y (Int32.ofInt v))) = _
      rw [y_ob_c (by omega) g, ← c_sI]
      exact hK _ _ _ _ hls (y_okS_pi (y_okS_pi hst)) (y_okH_sI hh (y_okS_cons.mp hst).1) h5
    · obtain ⟨v, t, rfl, h2⟩ := y_pr_some.mp hr
      obtain ⟨a, t2, rfl, h3⟩ := y_pr_some.mp h2
      obtain ⟨g, h4⟩ := y_kt_some.mp h3
      obtain ⟨g2, h5⟩ := y_sg_some.mp h4
      show y_okR r ∧ z_gd (z_ob (c_H h) a x) (K' _ _ _ (z_sF (c_H h) a y v)) = _
      rw [y_ob_c (by omega) g, ← c_sF (by rw [g]; exact g2)]
      exact hK _ _ _ _ hls (y_okS_pi (y_okS_pi hst)) hh h5
    · obtain ⟨v, t, rfl, h2⟩ := y_pl_some.mp hr
      obtain ⟨a, t2, rfl, h3⟩ := y_pr_some.mp h2
      obtain ⟨g, h5⟩ := y_kt_some.mp h3
      show y_okR r ∧ z_gd (z_ob (c_H h) a x) (K' _ _ _ (z_sJ (c_H h) a y v)) = _
      rw [y_ob_c (by omega) g, ← c_sJ]
      exact hK _ _ _ _ hls (y_okS_pi (y_okS_pi hst)) hh h5
    · rename_i z9 n0 n1 n2
      obtain ⟨v, t, rfl, h2⟩ := y_pi_some.mp hr
      obtain ⟨a, t2, rfl, h3⟩ := y_pr_some.mp h2
      obtain ⟨g, h4⟩ := y_kt_some.mp h3
      obtain ⟨g2, h5⟩ := y_b1_some.mp h4
      obtain ⟨q, rfl⟩ : ∃ q, z = q + 3 := by
        match z, n0, n1, n2 with
        | 0, n0, _, _ => exact absurd rfl n0
        | 1, _, n1, _ => exact absurd rfl n1
        | 2, _, _, n2 => exact absurd rfl n2
        | q + 3, _, _, _ => exact ⟨q, rfl⟩
      show y_okR r ∧ z_gd (z_ob (c_H h) a x && z_bo (Int32.ofInt v)) (K' _ _ _ (z_sI (c_H h) a y (Int32.ofInt v))) = _
      rw [y_ob_c (by omega) g, y_b1_c g2, ← c_sI]
      exact hK _ _ _ _ hls (y_okS_pi (y_okS_pi hst)) (y_okH_sI hh (y_okS_cons.mp hst).1) h5
  · -- iaload
    split at hr
    · obtain ⟨i, t, rfl, h2⟩ := y_pi_some.mp hr
      obtain ⟨a, t2, rfl, h3⟩ := y_pr_some.mp h2
      obtain ⟨g, h4⟩ := y_sg_some.mp h3
      obtain ⟨g2, h5⟩ := y_in_some.mp h4
      have hi := (y_okS_cons.mp hst).1
      show y_okR r ∧ z_gd (Nat.beq a 1 && z_in (Int32.ofInt i) sc.1) (K' _ _ (z_vi (sc.2 (Int32.ofInt i).toNatClampNeg) :: _) _) = _
      have e1 : z_in (Int32.ofInt i) sc.1 = true := by
        unfold z_in
        have e2 : ¬ (Int32.ofInt i < 0) := fun q => by have := (y_lt0_c hi).mp q; omega
        rw [decide_eq_false e2, y_nat_c hi]
        exact Nat.blt_eq.mpr (by omega)
      rw [g, e1, y_nat_c hi]
      have h9 := hK _ ls (y_vi (sc.2 i.toNat).toInt :: t2) _ hls (y_okS_cons.mpr ⟨y_inr_to _, y_okS_pi (y_okS_pi hst)⟩) hh h5
      have e3 : (y_vi (sc.2 i.toNat).toInt :: t2).map c_V = z_vi (sc.2 i.toNat) :: t2.map c_V := by
        show z_vi (Int32.ofInt (sc.2 i.toNat).toInt) :: _ = _
        rw [y_ofto]
      rw [e3] at h9
      exact h9
    · rename_i hx1
      obtain ⟨i, t, rfl, h2⟩ := y_pi_some.mp hr
      obtain ⟨a, t2, rfl, h3⟩ := y_pr_some.mp h2
      obtain ⟨g, h4⟩ := y_kt_some.mp h3
      obtain ⟨g2, h5⟩ := y_in_some.mp h4
      have hi := (y_okS_cons.mp hst).1
      have h9 := hK _ ls (y_vi (y_I h a i.toNat) :: t2) _ hls (y_okS_cons.mpr ⟨hh _ _, y_okS_pi (y_okS_pi hst)⟩) hh h5
      show y_okR r ∧ (match x with
        | 1 => _
        | _ => _) = _
      split
      · exact absurd rfl hx1
      · show y_okR r ∧ z_gd (z_ar (c_H h) a 10 (Int32.ofInt i)) (K' _ _ (z_vi (z_I (c_H h) a (Int32.ofInt i).toNatClampNeg) :: _) _) = _
        rw [y_ar_c (by omega) g hi g2, y_nat_c hi]
        exact h9
  · -- baload
    unfold z_sok at hok
    simp only [Bool.and_eq_true, Bool.or_eq_true] at hok
    have hx9 : x < 98 := by rcases hok.2 with q | q <;> (have := z_beq q; omega)
    obtain ⟨i, t, rfl, h2⟩ := y_pi_some.mp hr
    obtain ⟨a, t2, rfl, h3⟩ := y_pr_some.mp h2
    obtain ⟨g, h4⟩ := y_kt_some.mp h3
    obtain ⟨g2, h5⟩ := y_in_some.mp h4
    have hi := (y_okS_cons.mp hst).1
    show y_okR r ∧ z_gd (z_ar (c_H h) a x (Int32.ofInt i)) (K' _ _ (z_vi (z_I (c_H h) a (Int32.ofInt i).toNatClampNeg) :: _) _) = _
    rw [y_ar_c hx9 g hi g2, y_nat_c hi]
    exact hK _ ls (y_vi (y_I h a i.toNat) :: t2) _ hls (y_okS_cons.mpr ⟨hh _ _, y_okS_pi (y_okS_pi hst)⟩) hh h5
  · -- laload
    obtain ⟨i, t, rfl, h2⟩ := y_pi_some.mp hr
    obtain ⟨a, t2, rfl, h3⟩ := y_pr_some.mp h2
    obtain ⟨g, h4⟩ := y_kt_some.mp h3
    obtain ⟨g2, h5⟩ := y_in_some.mp h4
    have hi := (y_okS_cons.mp hst).1
    show y_okR r ∧ z_gd (z_ar (c_H h) a 11 (Int32.ofInt i)) (K' _ _ (z_vl (z_J (c_H h) a (Int32.ofInt i).toNatClampNeg) :: _) _) = _
    rw [y_ar_c (by omega) g hi g2, y_nat_c hi]
    exact hK _ ls (y_vl (y_J h a i.toNat) :: t2) _ hls (y_okS_cons.mpr ⟨trivial, y_okS_pi (y_okS_pi hst)⟩) hh h5
  · -- aaload
    unfold z_sok at hok
    simp only [Bool.and_eq_true, Bool.or_eq_true] at hok
    have hx9 : x = 14 ∨ x = 15 := by rcases hok.2 with q | q <;> (have := z_beq q; omega)
    obtain ⟨i, t, rfl, h2⟩ := y_pi_some.mp hr
    obtain ⟨a, t2, rfl, h3⟩ := y_pr_some.mp h2
    obtain ⟨g, h4⟩ := y_kt_some.mp h3
    obtain ⟨g2, h5⟩ := y_in_some.mp h4
    have hi := (y_okS_cons.mp hst).1
    show y_okR r ∧ z_gd (z_ar (c_H h) a x (Int32.ofInt i)) (K' _ _ (z_vr (z_cF h a (Int32.ofInt i).toNatClampNeg) :: _) _) = _
    rw [y_ar_c (by omega) g hi g2, y_nat_c hi, z_cF_of g (by rcases hx9 with rfl | rfl <;> rfl)]
    exact hK _ ls (y_vr (z_of x i.toNat a) :: t2) _ hls (y_okS_cons.mpr ⟨trivial, y_okS_pi (y_okS_pi hst)⟩) hh h5
  · -- iastore
    obtain ⟨v, t0, rfl, h1⟩ := y_pi_some.mp hr
    obtain ⟨i, t, rfl, h2⟩ := y_pi_some.mp h1
    obtain ⟨a, t2, rfl, h3⟩ := y_pr_some.mp h2
    obtain ⟨g, h4⟩ := y_kt_some.mp h3
    obtain ⟨g2, h5⟩ := y_in_some.mp h4
    have hv := (y_okS_cons.mp hst).1
    have hi := (y_okS_cons.mp (y_okS_pi hst)).1
    show y_okR r ∧ z_gd (z_ar (c_H h) a 10 (Int32.ofInt i)) (K' _ _ _ (z_sI (c_H h) a (Int32.ofInt i).toNatClampNeg (Int32.ofInt v))) = _
    rw [y_ar_c (by omega) g hi g2, y_nat_c hi, ← c_sI]
    exact hK _ _ _ _ hls (y_okS_pi (y_okS_pi (y_okS_pi hst))) (y_okH_sI hh hv) h5
  · -- bastore
    split at hr
    · obtain ⟨v, t0, rfl, h1⟩ := y_pi_some.mp hr
      obtain ⟨i, t, rfl, h2⟩ := y_pi_some.mp h1
      obtain ⟨a, t2, rfl, h3⟩ := y_pr_some.mp h2
      obtain ⟨g, h4⟩ := y_kt_some.mp h3
      obtain ⟨g2, h5⟩ := y_in_some.mp h4
      have hi := (y_okS_cons.mp (y_okS_pi hst)).1
      show y_okR r ∧ z_gd (z_ar (c_H h) a 12 (Int32.ofInt i)) (K' _ _ _ (z_sI (c_H h) a (Int32.ofInt i).toNatClampNeg (Int32.ofInt v).toInt8.toInt32)) = _
      rw [y_ar_c (by omega) g hi g2, y_nat_c hi, ← y_ofto (Int32.ofInt v).toInt8.toInt32, ← c_sI]
      exact hK _ _ _ _ hls (y_okS_pi (y_okS_pi (y_okS_pi hst))) (y_okH_sI hh (y_inr_to _)) h5
    · rename_i hx1
      obtain ⟨v, t0, rfl, h1⟩ := y_pi_some.mp hr
      obtain ⟨i, t, rfl, h2⟩ := y_pi_some.mp h1
      obtain ⟨a, t2, rfl, h3⟩ := y_pr_some.mp h2
      obtain ⟨g, h4⟩ := y_kt_some.mp h3
      obtain ⟨g2, h4⟩ := y_in_some.mp h4
      obtain ⟨gb, h5⟩ := y_b1_some.mp h4
      have hv := (y_okS_cons.mp hst).1
      have hi := (y_okS_cons.mp (y_okS_pi hst)).1
      have h9 := hK _ _ _ _ hls (y_okS_pi (y_okS_pi (y_okS_pi hst))) (y_okH_sI hh hv) h5
      show y_okR r ∧ (match x with
        | 12 => _
        | _ => _) = _
      split
      · exact absurd rfl hx1
      · show y_okR r ∧ z_gd (z_ar (c_H h) a 13 (Int32.ofInt i) && z_bo (Int32.ofInt v)) (K' _ _ _ (z_sI (c_H h) a (Int32.ofInt i).toNatClampNeg (Int32.ofInt v))) = _
        rw [y_ar_c (by omega) g hi g2, y_b1_c gb, y_nat_c hi, ← c_sI]
        exact h9
  · -- lastore
    obtain ⟨v, t0, rfl, h1⟩ := y_pl_some.mp hr
    obtain ⟨i, t, rfl, h2⟩ := y_pi_some.mp h1
    obtain ⟨a, t2, rfl, h3⟩ := y_pr_some.mp h2
    obtain ⟨g, h4⟩ := y_kt_some.mp h3
    obtain ⟨g2, h5⟩ := y_in_some.mp h4
    have hi := (y_okS_cons.mp (y_okS_pi hst)).1
    show y_okR r ∧ z_gd (z_ar (c_H h) a 11 (Int32.ofInt i)) (K' _ _ _ (z_sJ (c_H h) a (Int32.ofInt i).toNatClampNeg v)) = _
    rw [y_ar_c (by omega) g hi g2, y_nat_c hi, ← c_sJ]
    exact hK _ _ _ _ hls (y_okS_pi (y_okS_pi (y_okS_pi hst))) hh h5
  · -- arraylength
    split at hr
    · obtain ⟨a, t2, rfl, h3⟩ := y_pr_some.mp hr
      obtain ⟨g, h4⟩ := y_sg_some.mp h3
      obtain ⟨g2, h5⟩ := y_rg_some.mp h4
      show y_okR r ∧ z_gd (Nat.beq a 1) (K' _ _ (z_vi (Int32.ofNat sc.1) :: _) _) = _
      rw [g]
      exact hK _ ls (y_vi (sc.1 : Int) :: t2) _ hls (y_okS_cons.mpr ⟨g2, y_okS_pi hst⟩) hh h5
    · rename_i hx1
      have hx9 : x = 10 := by
        unfold z_sok at hok
        simp only [Bool.and_eq_true] at hok
        have := hok.2
        split at this
        · exact absurd rfl hx1
        · rfl
        · cases this
      subst hx9
      obtain ⟨a, t2, rfl, h3⟩ := y_pr_some.mp hr
      obtain ⟨g, h5⟩ := y_kt_some.mp h3
      have hle := z_kd_le a
      have hob := y_ob_c (h := h) (c := 10) (by omega) g
      show y_okR r ∧ z_gd (z_ob (c_H h) a 10) (K' _ _ (z_vi (Int32.ofNat (z_kd a).2) :: _) _) = _
      rw [hob]
      exact hK _ ls (y_vi ((z_kd a).2 : Int) :: t2) _ hls (y_okS_cons.mpr ⟨by show y_inr _; unfold y_inr; omega, y_okS_pi hst⟩) hh h5
  · cases hr
theorem y_rt_c {q : Nat} {r0 : y_R} {rest : List y_V} (ho : y_okR r0) (hls : y_okL ls) (hst : y_okS rest) (hK : ∀ pc' ls' st' h', y_okL ls' → y_okS st' → y_okH h' → K pc' ls' st' h' = some r → y_okR r ∧ K' pc' (c_Ls ls') (st'.map c_V) (c_H h') = some (c_R r)) (h : y_rt q (some r0) K pc ls rest = some r) : y_okR r ∧ z_rt q (some (c_R r0)) K' pc (c_Ls ls) (rest.map c_V) = some (c_R r) := by
  obtain ⟨v, h1⟩ := r0
  unfold y_rt at h
  unfold z_rt
  rcases q with _ | _ | q
  · rcases v with _ | v | w | v
    · cases (show (none : y_O) = some r from h)
    · exact hK _ ls (y_vi v :: rest) h1 hls (y_okS_cons.mpr ⟨ho.1 _ rfl, hst⟩) ho.2 h
    · cases (show (none : y_O) = some r from h)
    · cases (show (none : y_O) = some r from h)
  · rcases v with _ | v | w | v
    · cases (show (none : y_O) = some r from h)
    · cases (show (none : y_O) = some r from h)
    · cases (show (none : y_O) = some r from h)
    · exact hK _ ls (y_vl v :: rest) h1 hls (y_okS_cons.mpr ⟨ho.1 _ rfl, hst⟩) ho.2 h
  · rcases v with _ | v | w | v
    · exact hK _ ls rest h1 hls hst ho.2 h
    · cases (show (none : y_O) = some r from h)
    · cases (show (none : y_O) = some r from h)
    · cases (show (none : y_O) = some r from h)
theorem y_rt_none {q : Nat} {rest : List y_V} : y_rt q none K pc ls rest = none := by
  unfold y_rt
  split <;> rfl
theorem y_sim4 (hmc : z = 1 ∨ z = 10 ∨ z = 11 ∨ z = 12 ∨ z = 13 ∨ z_mc x < 98) (hls : y_okL ls) (hst : y_okS st) (hh : y_okH h) (hr : y_i4 C K x y z pc ls st h = some r) (hK : ∀ pc' ls' st' h', y_okL ls' → y_okS st' → y_okH h' → K pc' ls' st' h' = some r → y_okR r ∧ K' pc' (c_Ls ls') (st'.map c_V) (c_H h') = some (c_R r))
    (hC : ∀ x as h0 r0, y_okS as → y_okH h0 → C x as h0 = some r0 → y_okR r0 ∧ C' x (as.map c_V) (c_H h0) = some (c_R r0)) : y_okR r ∧ z_i4 C' K' x y z pc (c_Ls ls) (st.map c_V) (c_H h) = some (c_R r) := by
  have hd1 : y_okS (st.take y).reverse := y_okS_sub hst (fun v hv => List.mem_of_mem_take (List.mem_reverse.mp hv))
  have hd2 : y_okS (st.drop y) := y_okS_sub hst (fun v hv => List.mem_of_mem_drop hv)
  unfold y_i4 at hr
  split at hr
  · obtain ⟨g, h2⟩ := y_sg_some.mp hr
    show y_okR r ∧ z_sg (Nat.ble y (st.map c_V).length && Nat.ble (z_cats ((st.map c_V).drop y)) 8) (z_rt (z_mr x) (C' x ((st.map c_V).take y).reverse (c_H h)) K' pc (c_Ls ls) ((st.map c_V).drop y)) = _
    rw [List.length_map, ← List.map_drop, ← List.map_take, ← List.map_reverse, z_cats_c, g]
    rcases ho : C x (st.take y).reverse h with _ | r0
    · rw [ho, y_rt_none] at h2
      cases h2
    · rw [ho] at h2
      obtain ⟨o1, o2⟩ := hC _ _ _ _ hd1 hh ho
      rw [o2]
      exact y_rt_c o1 hls hd2 hK h2
  · obtain ⟨w, t, rfl, h2⟩ := y_pi_some.mp hr
    obtain ⟨v, t2, rfl, h3⟩ := y_pi_some.mp h2
    obtain ⟨g, h4⟩ := y_sg_some.mp h3
    obtain ⟨s1, s2⟩ := y_okS_cons.mp hst
    obtain ⟨s3, s4⟩ := y_okS_cons.mp s2
    show y_okR r ∧ z_sg (Nat.ble (z_cats (t2.map c_V)) 8) (K' _ _ (z_vi (if Int32.ofInt v < Int32.ofInt w then Int32.ofInt w else Int32.ofInt v) :: _) _) = _
    have e : (if Int32.ofInt v < Int32.ofInt w then Int32.ofInt w else Int32.ofInt v) = Int32.ofInt (max v w) := by
      by_cases q : v < w
      · rw [if_pos ((y_lt_c s3 s1).mpr q), show max v w = w by omega]
      · rw [if_neg (fun q2 => q ((y_lt_c s3 s1).mp q2)), show max v w = v by omega]
    rw [z_cats_c, g, e]
    exact hK _ ls (y_vi (max v w) :: t2) _ hls (y_okS_cons.mpr ⟨by have h3 : y_inr v := s3; have h1 : y_inr w := s1; show y_inr (max v w); unfold y_inr at *; omega, s4⟩) hh h4
  · obtain ⟨w, t, rfl, h2⟩ := y_pi_some.mp hr
    obtain ⟨v, t2, rfl, h3⟩ := y_pi_some.mp h2
    obtain ⟨g, h4⟩ := y_sg_some.mp h3
    obtain ⟨s1, s2⟩ := y_okS_cons.mp hst
    obtain ⟨s3, s4⟩ := y_okS_cons.mp s2
    show y_okR r ∧ z_sg (Nat.ble (z_cats (t2.map c_V)) 8) (K' _ _ (z_vi (if Int32.ofInt w < Int32.ofInt v then Int32.ofInt w else Int32.ofInt v) :: _) _) = _
    have e : (if Int32.ofInt w < Int32.ofInt v then Int32.ofInt w else Int32.ofInt v) = Int32.ofInt (min v w) := by
      by_cases q : w < v
      · rw [if_pos ((y_lt_c s1 s3).mpr q), show min v w = w by omega]
      · rw [if_neg (fun q2 => q ((y_lt_c s1 s3).mp q2)), show min v w = v by omega]
    rw [z_cats_c, g, e]
    exact hK _ ls (y_vi (min v w) :: t2) _ hls (y_okS_cons.mpr ⟨by have h3 : y_inr v := s3; have h1 : y_inr w := s1; show y_inr (min v w); unfold y_inr at *; omega, s4⟩) hh h4
  · obtain ⟨n9, t1, rfl, y1⟩ := y_pi_some.mp hr
    obtain ⟨dp, t2, rfl, y2⟩ := y_pi_some.mp y1
    obtain ⟨b9, t3, rfl, y3⟩ := y_pr_some.mp y2
    obtain ⟨sp, t4, rfl, y4⟩ := y_pi_some.mp y3
    obtain ⟨a9, t5, rfl, y5⟩ := y_pr_some.mp y4
    obtain ⟨g1, y6⟩ := y_sg_some.mp y5
    obtain ⟨g2, y7⟩ := y_kt_some.mp y6
    obtain ⟨g3, y8⟩ := y_kt_some.mp y7
    obtain ⟨⟨⟨g4, g5, g6⟩, g7, g8⟩, y9⟩ := y_cg_some.mp y8
    obtain ⟨s1, q1⟩ := y_okS_cons.mp hst
    obtain ⟨s2, q2⟩ := y_okS_cons.mp q1
    obtain ⟨s3, q3⟩ := y_okS_cons.mp q2
    obtain ⟨s4, q4⟩ := y_okS_cons.mp q3
    obtain ⟨s5, q5⟩ := y_okS_cons.mp q4
    have s1 : y_inr n9 := s1
    have s2 : y_inr dp := s2
    have s4 : y_inr sp := s4
    have e1 : ¬ Int32.ofInt sp < 0 := fun q => by have := (y_lt0_c s4).mp q; omega
    have e2 : ¬ Int32.ofInt dp < 0 := fun q => by have := (y_lt0_c s2).mp q; omega
    have e3 : ¬ Int32.ofInt n9 < 0 := fun q => by have := (y_lt0_c s1).mp q; omega
    have l1 := y_kd_lt (a := a9) (by omega)
    have l2 := y_kd_lt (a := b9) (by omega)
    show y_okR r ∧ z_sg (Nat.ble (z_cats (t5.map c_V)) 8) (z_gd ((Nat.beq (z_kd a9).1 10 && Nat.blt a9 (117 + 2)) && (Nat.beq (z_kd b9).1 10 && Nat.blt b9 (117 + 2)) && (!(decide (Int32.ofInt sp < 0)) && !(decide (Int32.ofInt dp < 0)) && !(decide (Int32.ofInt n9 < 0))) && (Nat.ble ((Int32.ofInt sp).toNatClampNeg + (Int32.ofInt n9).toNatClampNeg) (z_kd a9).2 && Nat.ble ((Int32.ofInt dp).toNatClampNeg + (Int32.ofInt n9).toNatClampNeg) (z_kd b9).2)) (K' _ _ _ (z_cpI (c_H h) a9 (Int32.ofInt sp).toNatClampNeg b9 (Int32.ofInt dp).toNatClampNeg (Int32.ofInt n9).toNatClampNeg))) = _
    have f1 : Nat.ble (sp.toNat + n9.toNat) (z_kd a9).2 = true := Nat.ble_eq_true_of_le (by omega)
    have f2 : Nat.ble (dp.toNat + n9.toNat) (z_kd b9).2 = true := Nat.ble_eq_true_of_le (by omega)
    have f3 : Nat.blt a9 (117 + 2) = true := Nat.blt_eq.mpr l1
    have f4 : Nat.blt b9 (117 + 2) = true := Nat.blt_eq.mpr l2
    rw [z_cats_c, g1, decide_eq_false e1, decide_eq_false e2, decide_eq_false e3, y_nat_c s4, y_nat_c s2, y_nat_c s1, f1, f2, f3, f4, g2, g3, ← c_cpI]
    exact hK _ _ _ _ hls q5 (y_okH_cpI hh) y9
  · obtain ⟨a, t2, rfl, h3⟩ := y_pr_some.mp hr
    obtain ⟨g, h4⟩ := y_sg_some.mp h3
    obtain ⟨g2, h5⟩ := y_sg_some.mp h4
    show y_okR r ∧ z_sg (Nat.ble (z_cats (t2.map c_V)) 8) (z_gd (!(Nat.beq a 0)) _) = _
    rw [z_cats_c, g, g2]
    exact hK _ _ _ _ hls (y_okS_pi hst) hh h5
  · rename_i n1 n2 n3 n4 n5
    have hmc : z_mc x < 98 := by
      rcases hmc with q | q | q | q | q | q
      · exact absurd q n1
      · exact absurd q n2
      · exact absurd q n3
      · exact absurd q n4
      · exact absurd q n5
      · exact q
    obtain ⟨g, h2⟩ := y_sg_some.mp hr
    have h9 : y_okR r ∧ z_sg (Nat.ble y (st.map c_V).length && Nat.ble (z_cats ((st.map c_V).drop y)) 8) (z_rc (c_H h) ((st.map c_V).take y).reverse (z_mc x) (z_rt (z_mr x) (C' x ((st.map c_V).take y).reverse (c_H h)) K' pc (c_Ls ls) ((st.map c_V).drop y))) = some (c_R r) := by
      rw [List.length_map, ← List.map_drop, ← List.map_take, ← List.map_reverse, z_cats_c, g]
      unfold y_rc at h2
      split at h2
      · rename_i a as he
        rw [he] at hd1
        obtain ⟨g2, h3⟩ := y_kt_some.mp h2
        have hob := y_ob_c (h := h) hmc g2
        rw [he]
        rw [he] at h3
        show y_okR r ∧ z_gd (z_ob (c_H h) a (z_mc x)) (z_rt (z_mr x) (C' x ((y_vr a :: as).map c_V) (c_H h)) K' pc (c_Ls ls) _) = _
        rw [hob]
        rcases ho : C x (y_vr a :: as) h with _ | r0
        · rw [ho, y_rt_none] at h3
          cases h3
        · rw [ho] at h3
          obtain ⟨o1, o2⟩ := hC _ _ _ _ hd1 hh ho
          rw [o2]
          exact y_rt_c o1 hls hd2 hK h3
      · cases h2
    unfold z_i4
    split
    · exact absurd rfl n1
    · exact absurd rfl n2
    · exact absurd rfl n3
    · exact absurd rfl n4
    · exact absurd rfl n5
    · exact h9
end SIM
