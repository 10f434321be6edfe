/-! the instructions, one by one, on two sides that are alike -/
section RS
variable {S : Nat → Bool} {σ : Nat → Nat} {Y : y_O → Prop} {K K' : y_K} {C C' : y_C} {ins : Jvm.ClassFile.Instr} {x y z pc : Nat} {ls : y_Ls} {st : List y_V} {h g : y_Hp} {r : y_R} {sc : z_Sc}
theorem r_sim0 (hls : r_okL S ls) (hst : r_okS S st) (hr : y_i0 K ins x y pc ls st h = some r) (hK : ∀ pc' ls' st', r_okL S ls' → r_okS S st' → K pc' ls' st' h = some r → Y (K' pc' (v_Ls σ ls') (st'.map (v_V σ)) g)) : Y (y_i0 K' ins x y pc (v_Ls σ ls) (st.map (v_V σ)) g) := by
  unfold y_i0 at hr
  split at hr
  · obtain ⟨v, h1, h2⟩ := y_ldi_some.mp hr
    show Y (y_ldi (v_Ls σ ls) _ _)
    rw [v_ldi h1]
    exact hK _ ls (y_vi v :: st) hls (r_okS_cons.mpr ⟨trivial, hst⟩) h2
  · obtain ⟨v, h1, h2⟩ := y_ldi_some.mp hr
    show Y (y_ldi (v_Ls σ ls) _ _)
    rw [v_ldi h1]
    exact hK _ ls (y_vi v :: st) hls (r_okS_cons.mpr ⟨trivial, hst⟩) h2
  · obtain ⟨v, h1, h2⟩ := y_ldr_some.mp hr
    show Y (y_ldr (v_Ls σ ls) _ _)
    rw [v_ldr h1]
    exact hK _ ls (y_vr v :: st) hls (r_okS_cons.mpr ⟨hls _ _ h1, hst⟩) h2
  · obtain ⟨v, h1, h2⟩ := y_ldr_some.mp hr
    show Y (y_ldr (v_Ls σ ls) _ _)
    rw [v_ldr h1]
    exact hK _ ls (y_vr v :: st) hls (r_okS_cons.mpr ⟨hls _ _ h1, hst⟩) h2
  · obtain ⟨v, h1, h2⟩ := y_ldl_some.mp hr
    show Y (y_ldl (v_Ls σ ls) _ _)
    rw [v_ldl h1]
    exact hK _ ls (y_vl v :: st) hls (r_okS_cons.mpr ⟨trivial, hst⟩) h2
  · obtain ⟨v, t, rfl, h2⟩ := y_pi_some.mp hr
    obtain ⟨h1, h3⟩ := y_sg_some.mp h2
    show Y (y_sg (y_sk (v_Ls σ ls) _) (K' _ ((v_Ls σ ls).set _ (Option.map (v_V σ) (some (y_vi v)))) _ _))
    rw [v_sk, h1, v_Ls_set]
    exact hK _ _ _ (r_okL_set hls (fun w e => by cases e; trivial)) (r_okS_pi hst) h3
  · obtain ⟨v, t, rfl, h2⟩ := y_pi_some.mp hr
    obtain ⟨h1, h3⟩ := y_sg_some.mp h2
    show Y (y_sg (y_sk (v_Ls σ ls) _) (K' _ ((v_Ls σ ls).set _ (Option.map (v_V σ) (some (y_vi v)))) _ _))
    rw [v_sk, h1, v_Ls_set]
    exact hK _ _ _ (r_okL_set hls (fun w e => by cases e; trivial)) (r_okS_pi hst) h3
  · obtain ⟨v, t, rfl, h2⟩ := y_pr_some.mp hr
    obtain ⟨h1, h3⟩ := y_sg_some.mp h2
    show Y (y_sg (y_sk (v_Ls σ ls) _) (K' _ ((v_Ls σ ls).set _ (Option.map (v_V σ) (some (y_vr v)))) _ _))
    rw [v_sk, h1, v_Ls_set]
    exact hK _ _ _ (r_okL_set hls (fun w e => by cases e; exact (r_okS_cons.mp hst).1)) (r_okS_pi hst) h3
  · obtain ⟨v, t, rfl, h2⟩ := y_pr_some.mp hr
    obtain ⟨h1, h3⟩ := y_sg_some.mp h2
    show Y (y_sg (y_sk (v_Ls σ ls) _) (K' _ ((v_Ls σ ls).set _ (Option.map (v_V σ) (some (y_vr v)))) _ _))
    rw [v_sk, h1, v_Ls_set]
    exact hK _ _ _ (r_okL_set hls (fun w e => by cases e; exact (r_okS_cons.mp hst).1)) (r_okS_pi hst) h3
  · obtain ⟨v, t, rfl, h2⟩ := y_pl_some.mp hr
    obtain ⟨h1, h3⟩ := y_sg_some.mp h2
    rename_i k
    show Y (y_sg (y_sk (v_Ls σ ls) _ && Nat.blt (k.val + 1) (v_Ls σ ls).length) (K' _ (((v_Ls σ ls).set _ (Option.map (v_V σ) (some (y_vl v)))).set _ (Option.map (v_V σ) none)) _ _))
    have el : (v_Ls σ ls).length = ls.length := List.length_map _
    rw [v_sk, el, h1, v_Ls_set, v_Ls_set]
    exact hK _ _ _ (r_okL_set (r_okL_set hls (fun w e => by cases e; trivial)) (fun w e => by cases e)) (r_okS_pi hst) h3
  · obtain ⟨v, h1, h2⟩ := y_ldi_some.mp hr
    obtain ⟨h3, h4⟩ := y_sg_some.mp h2
    rename_i k n
    show Y (y_ldi (v_Ls σ ls) _ _)
    rw [v_ldi h1, v_sk, h3]
    refine r_rg (X := K (pc + 3) (ls.set k (some (y_vi (v + n)))) st h) h4 fun q => ?_
    show Y (K' _ ((v_Ls σ ls).set _ (Option.map (v_V σ) (some (y_vi (v + n))))) _ _)
    rw [v_Ls_set]
    exact hK _ _ _ (r_okL_set hls (fun w e => by cases e; trivial)) hst q
  · rename_i n
    exact hK _ ls (y_vi n :: st) hls (r_okS_cons.mpr ⟨trivial, hst⟩) hr
  · rename_i n
    exact hK _ ls (y_vi n :: st) hls (r_okS_cons.mpr ⟨trivial, hst⟩) hr
  · rename_i n
    exact hK _ ls (y_vi n :: st) hls (r_okS_cons.mpr ⟨trivial, hst⟩) hr
  · rename_i n
    exact hK _ ls (y_vl (Int64.ofNat n.val) :: st) hls (r_okS_cons.mpr ⟨trivial, hst⟩) hr
  · exact hK _ ls (y_vi (z_sn x y) :: st) hls (r_okS_cons.mpr ⟨trivial, hst⟩) hr
  · exact hK _ ls (y_vl (Int64.ofInt (z_sn x y)) :: st) hls (r_okS_cons.mpr ⟨trivial, hst⟩) hr
  · split at hr
    · rename_i v t
      obtain ⟨h1, h2⟩ := y_sg_some.mp hr
      show Y (y_sg (Nat.beq (y_cat (v_V σ v)) 1) _)
      rw [v_cat, h1]
      exact hK _ ls t hls (r_okS_pi hst) h2
    · cases hr
  · split at hr
    · rename_i v t
      obtain ⟨h1, h2⟩ := y_sg_some.mp hr
      show Y (y_sg (Nat.beq (y_cat (v_V σ v)) 1) _)
      rw [v_cat, h1]
      exact hK _ ls (v :: v :: t) hls (r_okS_cons.mpr ⟨(r_okS_cons.mp hst).1, hst⟩) h2
    · cases hr
  · split at hr
    · rename_i v t
      exact hK _ ls (y_vl v :: y_vl v :: t) hls (r_okS_cons.mpr ⟨trivial, hst⟩) hr
    · rename_i v w t hnl
      obtain ⟨h1, h2⟩ := y_sg_some.mp hr
      have hs := r_okS_cons.mp hst
      have hs2 := r_okS_cons.mp hs.2
      have h9 := hK _ ls (v :: w :: v :: w :: t) hls (r_okS_cons.mpr ⟨hs.1, r_okS_cons.mpr ⟨hs2.1, hst⟩⟩) h2
      rcases v with v | v | v
      · show Y (y_sg (Nat.beq 1 1 && Nat.beq (y_cat (v_V σ w)) 1) _)
        rw [v_cat]
        have h1 : (Nat.beq 1 1 && Nat.beq (y_cat w) 1) = true := h1
        rw [h1]
        exact h9
      · show Y (y_sg (Nat.beq 1 1 && Nat.beq (y_cat (v_V σ w)) 1) _)
        rw [v_cat]
        have h1 : (Nat.beq 1 1 && Nat.beq (y_cat w) 1) = true := h1
        rw [h1]
        exact h9
      · first | exact (hnl v rfl).elim | exact (hnl v (w :: t) rfl rfl).elim | exact (hnl _ _ rfl).elim
    · cases hr
  · cases hr
theorem r_sim1 (hls : r_okL S ls) (hst : r_okS S st) (hr : y_i1 K ins pc ls st h = some r) (hK : ∀ pc' ls' st', r_okL S ls' → r_okS S st' → K pc' ls' st' h = some r → Y (K' pc' (v_Ls σ ls') (st'.map (v_V σ)) g)) : Y (y_i1 K' ins pc (v_Ls σ ls) (st.map (v_V σ)) g) := by
  have one : ∀ {q : Nat} {v : y_V} {t : List y_V}, r_okV S v → r_okS S t → K q ls (v :: t) h = some r → Y (K' q (v_Ls σ ls) (v_V σ v :: t.map (v_V σ)) g) := fun a b c => hK _ ls (_ :: _) hls (r_okS_cons.mpr ⟨a, b⟩) c
  unfold y_i1 at hr
  split at hr
  all_goals first
    | (cases hr; done)
    | (obtain ⟨w, t, rfl, h2⟩ := y_pi_some.mp hr
       obtain ⟨v, t2, rfl, h3⟩ := y_pi_some.mp h2
       have s4 := r_okS_pi (r_okS_pi hst)
       first
       | exact r_rg (Y := Y) (X' := K' (pc + 1) (v_Ls σ ls) (y_vi _ :: t2.map (v_V σ)) g) h3 (one (v := y_vi _) trivial s4)
       | exact r_nz (Y := Y) (X' := y_rg _ (K' (pc + 1) (v_Ls σ ls) (y_vi _ :: t2.map (v_V σ)) g)) h3 (fun q => r_rg q (one (v := y_vi _) trivial s4))
       | exact r_nz (Y := Y) (X' := y_rg _ (y_rg _ (K' (pc + 1) (v_Ls σ ls) (y_vi _ :: t2.map (v_V σ)) g))) h3 (fun q => r_rg q (fun q => r_rg q (one (v := y_vi _) trivial s4)))
       | exact one (v := y_vi _) trivial s4 h3)
    | (obtain ⟨w, t, rfl, h2⟩ := y_pl_some.mp hr
       obtain ⟨v, t2, rfl, h3⟩ := y_pl_some.mp h2
       have s4 := r_okS_pi (r_okS_pi hst)
       first
       | exact one (v := y_vl _) trivial s4 h3
       | exact one (v := y_vi _) trivial s4 h3
       | exact r_nl (Y := Y) (X' := K' (pc + 1) (v_Ls σ ls) (y_vl _ :: t2.map (v_V σ)) g) h3 (one (v := y_vl _) trivial s4))
    | (obtain ⟨w, t, rfl, h2⟩ := y_pi_some.mp hr
       obtain ⟨v, t2, rfl, h3⟩ := y_pl_some.mp h2
       have s4 := r_okS_pi (r_okS_pi hst)
       exact one (v := y_vl _) trivial s4 h3)
    | (obtain ⟨v, t, rfl, h2⟩ := y_pi_some.mp hr
       have s4 := r_okS_pi hst
       first
       | exact r_rg (Y := Y) (X' := K' (pc + 1) (v_Ls σ ls) (y_vi _ :: t.map (v_V σ)) g) h2 (one (v := y_vi _) trivial s4)
       | exact one (v := y_vl _) trivial s4 h2
       | exact one (v := y_vi _) trivial s4 h2)
    | (obtain ⟨v, t, rfl, h2⟩ := y_pl_some.mp hr
       exact one (v := y_vi _) trivial (r_okS_pi hst) h2)
theorem r_sim2 (hls : r_okL S ls) (hst : r_okS S st) (hR : ∀ v, (∀ w, v = some w → r_okV S w) → r = (v, h) → Y (some (v.map (v_V σ), g))) (hr : y_i2 K ins z pc ls st h = some r) (hK : ∀ pc' ls' st', r_okL S ls' → r_okS S st' → K pc' ls' st' h = some r → Y (K' pc' (v_Ls σ ls') (st'.map (v_V σ)) g)) : Y (y_i2 K' ins z pc (v_Ls σ ls) (st.map (v_V σ)) g) := by
  unfold y_i2 at hr
  split at hr
  · obtain ⟨w, t, rfl, h2⟩ := y_pi_some.mp hr
    obtain ⟨v, t2, rfl, h3⟩ := y_pi_some.mp h2
    have s4 := r_okS_pi (r_okS_pi hst)
    exact r_br h3 (hK _ _ _ hls s4) (hK _ _ _ hls s4)
  · obtain ⟨v, t2, rfl, h3⟩ := y_pi_some.mp hr
    have s4 := r_okS_pi hst
    exact r_br h3 (hK _ _ _ hls s4) (hK _ _ _ hls s4)
  · exact hK _ _ _ hls hst hr
  · obtain ⟨v, t2, rfl, h3⟩ := y_pi_some.mp hr
    have s4 := r_okS_pi hst
    exact r_sw (K := fun p => K p ls t2 h) (K' := fun p => K' p (v_Ls σ ls) (t2.map (v_V σ)) g) (fun p => hK p _ _ hls s4) h3
  · obtain ⟨v, t2, rfl, h3⟩ := y_pi_some.mp hr
    have s4 := r_okS_pi hst
    exact r_sw (K := fun p => K p ls t2 h) (K' := fun p => K' p (v_Ls σ ls) (t2.map (v_V σ)) g) (fun p => hK p _ _ hls s4) h3
  · split at hr
    · rename_i v
      split at hr
      · exact r_b1 (Y := Y) (X' := some (some (y_vi v), g)) hr (fun q => hR (some (y_vi v)) (fun w e => by cases e; trivial) (Option.some.inj q).symm)
      · rename_i hz
        have e9 : y_i2 K' Jvm.ClassFile.Instr.ireturn z pc (v_Ls σ ls) [v_V σ (y_vi v)] g = some (some (y_vi v), g) := by
          show (match z with
            | 3 => _
            | _ => _) = _
          split
          · exact absurd rfl hz
          · rfl
        show Y (y_i2 K' Jvm.ClassFile.Instr.ireturn z pc (v_Ls σ ls) [v_V σ (y_vi v)] g)
        rw [e9]
        exact hR (some (y_vi v)) (fun w e => by cases e; trivial) (Option.some.inj hr).symm
    · cases hr
  · split at hr
    · rename_i v
      exact hR (some (y_vl v)) (fun w e => by cases e; trivial) (Option.some.inj hr).symm
    · cases hr
  · split at hr
    · exact hR none (fun w e => by cases e) (Option.some.inj hr).symm
    · cases hr
  · cases hr
/-- how many fields a class has -/
def z_fn (c : Nat) : Nat := match z_fkl[c]? with
  | some l => l.length
  | none => 0
theorem z_fn_kd {a : Nat} (h : (z_kd a).1 < 9) : (z_kd a).2 = z_fn (z_kd a).1 := by
  have key : (z_kdl.all fun q => !(Nat.blt q.1 9) || Nat.beq q.2 (z_fn q.1)) = true := by decide +kernel
  unfold z_kd at h ⊢
  split at h
  · rename_i q hq
    have := List.all_eq_true.mp key q (List.mem_of_getElem? hq)
    have hb : Nat.blt q.1 9 = true := Nat.blt_eq.mpr h
    rw [hb] at this
    exact z_beq (by simpa using this)
  · exact absurd h (by decide)
def r_fok (ins : Jvm.ClassFile.Instr) (x y : Nat) : Bool := match ins with
  | .getfield _ => Nat.blt x 9 && Nat.blt y (z_fn x)
  | .putfield _ => Nat.blt x 9
  | _ => true
theorem r_prog : (z_pgl.all fun L => L.all fun q => r_fok q.2.2.2.1 q.2.2.2.2.1 q.2.2.2.2.2.1) = true := by decide +kernel
theorem r_fokA {M pc len g x y z t i : Nat} {ins : Jvm.ClassFile.Instr} (h : (pc, len, g, ins, x, y, z, t, i) ∈ z_pg M) : r_fok ins x y = true := by
  unfold z_pg at h
  split at h
  · rename_i L hL
    exact List.all_eq_true.mp (List.all_eq_true.mp r_prog L (List.mem_of_getElem? hL)) _ h
  · cases h
theorem r_gv (D : r_sd S σ) (R : r_rel S σ h g) (hh : r_okH S h) {a : Nat} (ha : S a = true) (hk : (z_kd a).1 = x) (hy : y < (z_kd a).2) : y_gv g (σ a) x y z = v_V σ (y_gv h a x y z) ∧ r_okV S (y_gv h a x y z) := by
  have ra := R a ha y
  have rc := D.2.2.2.2 a y ha hy
  rw [hk] at rc
  match z with
  | 0 => exact ⟨congrArg y_vi ra.1, trivial⟩
  | 1 =>
    show (match z_dy x y with
      | true => y_vr (y_F g (σ a) y)
      | false => y_vr (z_of x y (σ a))) = v_V σ (match z_dy x y with
      | true => y_vr (y_F h a y)
      | false => y_vr (z_of x y a)) ∧ r_okV S (match z_dy x y with
      | true => y_vr (y_F h a y)
      | false => y_vr (z_of x y a))
    cases z_dy x y
    · exact ⟨congrArg y_vr rc.2, rc.1⟩
    · exact ⟨congrArg y_vr ra.2.1, hh a y ha⟩
  | 2 => exact ⟨congrArg y_vl ra.2.2, trivial⟩
  | n + 3 => exact ⟨congrArg y_vi ra.1, trivial⟩
theorem r_sim3 (D : r_sd S σ) (hf : r_fok ins x y = true) (hls : r_okL S ls) (hst : r_okS S st) (hh : r_okH S h) (R : r_rel S σ h g) (hr : y_i3 sc K ins x y z pc ls st h = some r) (hK : ∀ pc' ls' st' h' g', r_okL S ls' → r_okS S st' → r_okH S h' → r_rel S σ h' g' → r_fr S h h' → r_fs S σ g g' → K pc' ls' st' h' = some r → Y (K' pc' (v_Ls σ ls') (st'.map (v_V σ)) g')) : Y (y_i3 sc K' ins x y z pc (v_Ls σ ls) (st.map (v_V σ)) g) := by
  have kd := D.2.1
  have eq := D.2.2.1
  have same : ∀ {q : Nat} {v : y_V} {t : List y_V}, r_okV S v → r_okS S t → K q ls (v :: t) h = some r → Y (K' q (v_Ls σ ls) (v_V σ v :: t.map (v_V σ)) g) := fun a b c => hK _ ls (_ :: _) h g hls (r_okS_cons.mpr ⟨a, b⟩) hh R r_fr_rf r_fs_rf c
  unfold y_i3 at hr
  split at hr
  · -- getfield
    obtain ⟨a, t, rfl, h2⟩ := y_pr_some.mp hr
    have ha : S a = true := (r_okS_cons.mp hst).1
    obtain ⟨hk, -⟩ := y_kt_some.mp h2
    have hf : x < 9 ∧ y < z_fn x := by
      unfold r_fok at hf
      simpa using hf
    have e9 := r_gv (z := z) D R hh ha hk (by rw [z_fn_kd (by omega), hk]; exact hf.2)
    refine r_kt (Y := Y) (X' := K' (pc + 3) (v_Ls σ ls) (y_gv g (σ a) x y z :: t.map (v_V σ)) g) (kd a ha) h2 fun q => ?_
    rw [e9.1]
    exact same e9.2 (r_okS_pi hst) q
  · -- putfield
    have hx9 : x < 9 := by
      unfold r_fok at hf
      exact Nat.blt_eq.mp hf
    split at hr
    · obtain ⟨v, t, rfl, h2⟩ := y_pi_some.mp hr
      obtain ⟨a, t2, rfl, h3⟩ := y_pr_some.mp h2
      have ha : S a = true := (r_okS_cons.mp (r_okS_pi hst)).1
      have hk : (z_kd a).1 < 98 := by
        have := (y_kt_some.mp h3).1
        omega
      exact r_kt (Y := Y) (X' := K' (pc + 3) (v_Ls σ ls) (t2.map (v_V σ)) (y_sI g (σ a) y v)) (kd a ha) h3 (fun q => hK _ _ _ _ _ hls (r_okS_pi (r_okS_pi hst)) (r_oI hh) (r_sI D R ha v) (r_fI ha hk) (r_gI ha) q)
    · obtain ⟨v, t, rfl, h2⟩ := y_pr_some.mp hr
      obtain ⟨a, t2, rfl, h3⟩ := y_pr_some.mp h2
      have ha : S a = true := (r_okS_cons.mp (r_okS_pi hst)).1
      have hk : (z_kd a).1 < 98 := by
        have := (y_kt_some.mp h3).1
        omega
      have hv : S v = true := (r_okS_cons.mp hst).1
      exact r_kt (Y := Y) (X' := y_sg (z_dy x y) (K' (pc + 3) (v_Ls σ ls) (t2.map (v_V σ)) (y_sF g (σ a) y (σ v)))) (kd a ha) h3 (fun q => r_sg rfl q (fun q => hK _ _ _ _ _ hls (r_okS_pi (r_okS_pi hst)) (r_oF hh hv) (r_sF D R ha v) (r_fF ha hk) (r_gF ha) q))
    · obtain ⟨v, t, rfl, h2⟩ := y_pl_some.mp hr
      obtain ⟨a, t2, rfl, h3⟩ := y_pr_some.mp h2
      have ha : S a = true := (r_okS_cons.mp (r_okS_pi hst)).1
      have hk : (z_kd a).1 < 98 := by
        have := (y_kt_some.mp h3).1
        omega
      exact r_kt (Y := Y) (X' := K' (pc + 3) (v_Ls σ ls) (t2.map (v_V σ)) (y_sJ g (σ a) y v)) (kd a ha) h3 (fun q => hK _ _ _ _ _ hls (r_okS_pi (r_okS_pi hst)) (r_oJ hh) (r_sJ D R ha v) (r_fJ ha hk) (r_gJ ha) q)
    · rename_i z9 n0 n1 n2
      obtain ⟨v, t, rfl, h2⟩ := y_pi_some.mp hr
      obtain ⟨a, t2, rfl, h3⟩ := y_pr_some.mp h2
      obtain ⟨q, rfl⟩ : ∃ q, z = q + 3 := by
        match z, n0, n1, n2 with
        | 0, n0, _, _ => exact absurd rfl n0
        | 1, _, n1, _ => exact absurd rfl n1
        | 2, _, _, n2 => exact absurd rfl n2
        | q + 3, _, _, _ => exact ⟨q, rfl⟩
      have ha : S a = true := (r_okS_cons.mp (r_okS_pi hst)).1
      have hk : (z_kd a).1 < 98 := by
        have := (y_kt_some.mp h3).1
        omega
      exact r_kt (Y := Y) (X' := y_b1 v (K' (pc + 3) (v_Ls σ ls) (t2.map (v_V σ)) (y_sI g (σ a) y v))) (kd a ha) h3 (fun q => r_b1 q (fun q => hK _ _ _ _ _ hls (r_okS_pi (r_okS_pi hst)) (r_oI hh) (r_sI D R ha v) (r_fI ha hk) (r_gI ha) q))
  · -- iaload
    split at hr
    · obtain ⟨i, t, rfl, h2⟩ := y_pi_some.mp hr
      obtain ⟨a, t2, rfl, h3⟩ := y_pr_some.mp h2
      have ha : S a = true := (r_okS_cons.mp (r_okS_pi hst)).1
      exact r_sg (Y := Y) (X' := y_in i sc.1 (K' (pc + 1) (v_Ls σ ls) (y_vi (sc.2 i.toNat).toInt :: t2.map (v_V σ)) g)) (eq a ha).2 h3 (fun q => r_in rfl q (fun q => same (v := y_vi _) trivial (r_okS_pi (r_okS_pi hst)) q))
    · rename_i hx1
      obtain ⟨i, t, rfl, h2⟩ := y_pi_some.mp hr
      obtain ⟨a, t2, rfl, h3⟩ := y_pr_some.mp h2
      have ha : S a = true := (r_okS_cons.mp (r_okS_pi hst)).1
      have e9 : y_i3 sc K' Jvm.ClassFile.Instr.iaload x y z pc (v_Ls σ ls) (y_vi i :: y_vr (σ a) :: t2.map (v_V σ)) g = y_kt (σ a) 10 (y_in i (z_kd (σ a)).2 (K' (pc + 1) (v_Ls σ ls) (y_vi (y_I g (σ a) i.toNat) :: t2.map (v_V σ)) g)) := by
        show (match x with
          | 1 => _
          | _ => _) = _
        split
        · exact absurd rfl hx1
        · rfl
      show Y (y_i3 sc K' Jvm.ClassFile.Instr.iaload x y z pc (v_Ls σ ls) (y_vi i :: y_vr (σ a) :: t2.map (v_V σ)) g)
      rw [e9]
      refine r_kt (kd a ha) h3 (fun q => r_in (by rw [kd a ha]) q (fun q => ?_))
      rw [show y_I g (σ a) i.toNat = y_I h a i.toNat from (R a ha _).1]
      exact same (v := y_vi _) trivial (r_okS_pi (r_okS_pi hst)) q
  · -- baload
    obtain ⟨i, t, rfl, h2⟩ := y_pi_some.mp hr
    obtain ⟨a, t2, rfl, h3⟩ := y_pr_some.mp h2
    have ha : S a = true := (r_okS_cons.mp (r_okS_pi hst)).1
    refine r_kt (Y := Y) (X' := y_in i (z_kd (σ a)).2 (K' (pc + 1) (v_Ls σ ls) (y_vi (y_I g (σ a) i.toNat) :: t2.map (v_V σ)) g)) (kd a ha) h3 (fun q => r_in (by rw [kd a ha]) q (fun q => ?_))
    rw [show y_I g (σ a) i.toNat = y_I h a i.toNat from (R a ha _).1]
    exact same (v := y_vi _) trivial (r_okS_pi (r_okS_pi hst)) q
  · -- laload
    obtain ⟨i, t, rfl, h2⟩ := y_pi_some.mp hr
    obtain ⟨a, t2, rfl, h3⟩ := y_pr_some.mp h2
    have ha : S a = true := (r_okS_cons.mp (r_okS_pi hst)).1
    refine r_kt (Y := Y) (X' := y_in i (z_kd (σ a)).2 (K' (pc + 1) (v_Ls σ ls) (y_vl (y_J g (σ a) i.toNat) :: t2.map (v_V σ)) g)) (kd a ha) h3 (fun q => r_in (by rw [kd a ha]) q (fun q => ?_))
    rw [show y_J g (σ a) i.toNat = y_J h a i.toNat from (R a ha _).2.2]
    exact same (v := y_vl _) trivial (r_okS_pi (r_okS_pi hst)) q
  · -- aaload
    obtain ⟨i, t, rfl, h2⟩ := y_pi_some.mp hr
    obtain ⟨a, t2, rfl, h3⟩ := y_pr_some.mp h2
    have ha : S a = true := (r_okS_cons.mp (r_okS_pi hst)).1
    obtain ⟨hk, h4⟩ := y_kt_some.mp h3
    obtain ⟨hi, -⟩ := y_in_some.mp h4
    have rc := D.2.2.2.2 a i.toNat ha (by omega)
    rw [hk] at rc
    refine r_kt (Y := Y) (X' := y_in i (z_kd (σ a)).2 (K' (pc + 1) (v_Ls σ ls) (y_vr (z_of x i.toNat (σ a)) :: t2.map (v_V σ)) g)) (kd a ha) h3 (fun q => r_in (by rw [kd a ha]) q (fun q => ?_))
    rw [rc.2]
    exact same (v := y_vr _) rc.1 (r_okS_pi (r_okS_pi hst)) q
  · -- iastore
    obtain ⟨v, t0, rfl, h1⟩ := y_pi_some.mp hr
    obtain ⟨i, t, rfl, h2⟩ := y_pi_some.mp h1
    obtain ⟨a, t2, rfl, h3⟩ := y_pr_some.mp h2
    have ha : S a = true := (r_okS_cons.mp (r_okS_pi (r_okS_pi hst))).1
    have hk : (z_kd a).1 < 98 := by
      have := (y_kt_some.mp h3).1
      omega
    exact r_kt (Y := Y) (X' := y_in i (z_kd (σ a)).2 (K' (pc + 1) (v_Ls σ ls) (t2.map (v_V σ)) (y_sI g (σ a) i.toNat v))) (kd a ha) h3 (fun q => r_in (by rw [kd a ha]) q (fun q => hK _ _ _ _ _ hls (r_okS_pi (r_okS_pi (r_okS_pi hst))) (r_oI hh) (r_sI D R ha v) (r_fI ha hk) (r_gI ha) q))
  · -- bastore
    split at hr
    · obtain ⟨v, t0, rfl, h1⟩ := y_pi_some.mp hr
      obtain ⟨i, t, rfl, h2⟩ := y_pi_some.mp h1
      obtain ⟨a, t2, rfl, h3⟩ := y_pr_some.mp h2
      have ha : S a = true := (r_okS_cons.mp (r_okS_pi (r_okS_pi hst))).1
      have hk : (z_kd a).1 < 98 := by
        have := (y_kt_some.mp h3).1
        omega
      exact r_kt (Y := Y) (X' := y_in i (z_kd (σ a)).2 (K' (pc + 1) (v_Ls σ ls) (t2.map (v_V σ)) (y_sI g (σ a) i.toNat (y_i2b v)))) (kd a ha) h3 (fun q => r_in (by rw [kd a ha]) q (fun q => hK _ _ _ _ _ hls (r_okS_pi (r_okS_pi (r_okS_pi hst))) (r_oI hh) (r_sI D R ha _) (r_fI ha hk) (r_gI ha) q))
    · rename_i hx1
      obtain ⟨v, t0, rfl, h1⟩ := y_pi_some.mp hr
      obtain ⟨i, t, rfl, h2⟩ := y_pi_some.mp h1
      obtain ⟨a, t2, rfl, h3⟩ := y_pr_some.mp h2
      have ha : S a = true := (r_okS_cons.mp (r_okS_pi (r_okS_pi hst))).1
      have hk : (z_kd a).1 < 98 := by
        have := (y_kt_some.mp h3).1
        omega
      have e9 : y_i3 sc K' Jvm.ClassFile.Instr.bastore x y z pc (v_Ls σ ls) (y_vi v :: y_vi i :: y_vr (σ a) :: t2.map (v_V σ)) g = y_kt (σ a) 13 (y_in i (z_kd (σ a)).2 (y_b1 v (K' (pc + 1) (v_Ls σ ls) (t2.map (v_V σ)) (y_sI g (σ a) i.toNat v)))) := by
        show (match x with
          | 12 => _
          | _ => _) = _
        split
        · exact absurd rfl hx1
        · rfl
      show Y (y_i3 sc K' Jvm.ClassFile.Instr.bastore x y z pc (v_Ls σ ls) (y_vi v :: y_vi i :: y_vr (σ a) :: t2.map (v_V σ)) g)
      rw [e9]
      exact r_kt (kd a ha) h3 (fun q => r_in (by rw [kd a ha]) q (fun q => r_b1 q (fun q => hK _ _ _ _ _ hls (r_okS_pi (r_okS_pi (r_okS_pi hst))) (r_oI hh) (r_sI D R ha v) (r_fI ha hk) (r_gI ha) q)))
  · -- lastore
    obtain ⟨v, t0, rfl, h1⟩ := y_pl_some.mp hr
    obtain ⟨i, t, rfl, h2⟩ := y_pi_some.mp h1
    obtain ⟨a, t2, rfl, h3⟩ := y_pr_some.mp h2
    have ha : S a = true := (r_okS_cons.mp (r_okS_pi (r_okS_pi hst))).1
    have hk : (z_kd a).1 < 98 := by
      have := (y_kt_some.mp h3).1
      omega
    exact r_kt (Y := Y) (X' := y_in i (z_kd (σ a)).2 (K' (pc + 1) (v_Ls σ ls) (t2.map (v_V σ)) (y_sJ g (σ a) i.toNat v))) (kd a ha) h3 (fun q => r_in (by rw [kd a ha]) q (fun q => hK _ _ _ _ _ hls (r_okS_pi (r_okS_pi (r_okS_pi hst))) (r_oJ hh) (r_sJ D R ha v) (r_fJ ha hk) (r_gJ ha) q))
  · -- arraylength
    split at hr
    · obtain ⟨a, t2, rfl, h3⟩ := y_pr_some.mp hr
      have ha : S a = true := (r_okS_cons.mp hst).1
      exact r_sg (Y := Y) (X' := y_rg (sc.1 : Int) (K' (pc + 1) (v_Ls σ ls) (y_vi (sc.1 : Int) :: t2.map (v_V σ)) g)) (eq a ha).2 h3 (fun q => r_rg q (fun q => same (v := y_vi _) trivial (r_okS_pi hst) q))
    · rename_i hx1
      obtain ⟨a, t2, rfl, h3⟩ := y_pr_some.mp hr
      have ha : S a = true := (r_okS_cons.mp hst).1
      have e9 : y_i3 sc K' Jvm.ClassFile.Instr.arraylength x y z pc (v_Ls σ ls) (y_vr (σ a) :: t2.map (v_V σ)) g = y_kt (σ a) x (K' (pc + 1) (v_Ls σ ls) (y_vi ((z_kd (σ a)).2 : Int) :: t2.map (v_V σ)) g) := by
        show (match x with
          | 1 => _
          | _ => _) = _
        split
        · exact absurd rfl hx1
        · rfl
      show Y (y_i3 sc K' Jvm.ClassFile.Instr.arraylength x y z pc (v_Ls σ ls) (y_vr (σ a) :: t2.map (v_V σ)) g)
      rw [e9]
      refine r_kt (kd a ha) h3 (fun q => ?_)
      rw [kd a ha]
      exact same (v := y_vi _) trivial (r_okS_pi hst) q
  · cases hr
theorem r_rt {q : Nat} {r0 : y_R} {g0 : y_Hp} {rest : List y_V} (ho : ∀ v, r0.1 = some v → r_okV S v) (hst : r_okS S rest) (hK : ∀ pc' st', r_okS S st' → K pc' ls st' r0.2 = some r → Y (K' pc' (v_Ls σ ls) (st'.map (v_V σ)) g0)) (h : y_rt q (some r0) K pc ls rest = some r) : Y (y_rt q (some (r0.1.map (v_V σ), g0)) K' pc (v_Ls σ ls) (rest.map (v_V σ))) := by
  obtain ⟨v, h1⟩ := r0
  unfold y_rt at h ⊢
  rcases q with _ | _ | q
  · rcases v with _ | v | w | v
    · cases (show (none : y_O) = some r from h)
    · exact hK _ (y_vi v :: rest) (r_okS_cons.mpr ⟨ho _ rfl, hst⟩) h
    · cases (show (none : y_O) = some r from h)
    · cases (show (none : y_O) = some r from h)
  · rcases v with _ | v | w | v
    · cases (show (none : y_O) = some r from h)
    · cases (show (none : y_O) = some r from h)
    · cases (show (none : y_O) = some r from h)
    · exact hK _ (y_vl v :: rest) (r_okS_cons.mpr ⟨ho _ rfl, hst⟩) h
  · rcases v with _ | v | w | v
    · exact hK _ rest hst h
    · cases (show (none : y_O) = some r from h)
    · cases (show (none : y_O) = some r from h)
    · cases (show (none : y_O) = some r from h)
/-- what a call leaves, on both sides -/
def r_cl (S : Nat → Bool) (σ : Nat → Nat) (h g : y_Hp) (r0 : y_R) (o : y_O) : Prop := ∃ g1, o = some (r0.1.map (v_V σ), g1) ∧ r_rel S σ r0.2 g1 ∧ r_fs S σ g g1
theorem r_sim4 (D : r_sd S σ) (hls : r_okL S ls) (hst : r_okS S st) (hh : r_okH S h) (R : r_rel S σ h g) (hr : y_i4 C K x y z pc ls st h = some r) (hK : ∀ pc' ls' st' h' g', r_okL S ls' → r_okS S st' → r_okH S h' → r_rel S σ h' g' → r_fr S h h' → r_fs S σ g g' → K pc' ls' st' h' = some r → Y (K' pc' (v_Ls σ ls') (st'.map (v_V σ)) g'))
    (hC : ∀ x as r0, r_okS S as → C x as h = some r0 → r_okR S r0 ∧ r_fr S h r0.2 ∧ r_cl S σ h g r0 (C' x (as.map (v_V σ)) g)) : Y (y_i4 C' K' x y z pc (v_Ls σ ls) (st.map (v_V σ)) g) := by
  have kd := D.2.1
  have eq := D.2.2.1
  have hd1 : r_okS S (st.take y).reverse := fun v hv => hst v (List.mem_of_mem_take (List.mem_reverse.mp hv))
  have hd2 : r_okS S (st.drop y) := fun v hv => hst v (List.mem_of_mem_drop hv)
  have same : ∀ {q : Nat} {t : List y_V}, r_okS S t → K q ls t h = some r → Y (K' q (v_Ls σ ls) (t.map (v_V σ)) g) := fun b c => hK _ ls _ h g hls b hh R r_fr_rf r_fs_rf c
  have call : ∀ {o : y_O} {q : Nat}, C x (st.take y).reverse h = o → y_rt q o K pc ls (st.drop y) = some r → Y (y_rt q (C' x ((st.take y).reverse.map (v_V σ)) g) K' pc (v_Ls σ ls) ((st.drop y).map (v_V σ))) := by
    intro o q ho hrt
    rcases o with _ | r0
    · rw [y_rt_none] at hrt
      cases hrt
    · obtain ⟨o1, o2, g1, o3, o4, o5⟩ := hC _ _ _ hd1 ho
      rw [o3]
      exact r_rt o1.1 hd2 (fun pc' st' a b => hK _ _ _ _ _ hls a o1.2 o4 o2 o5 b) hrt
  unfold y_i4 at hr
  split at hr
  · have h9 := r_sg (Y := Y) (w := Nat.ble y (st.map (v_V σ)).length && Nat.ble (y_cats ((st.map (v_V σ)).drop y)) 8) (X' := y_rt (z_mr x) (C' x ((st.map (v_V σ)).take y).reverse g) K' pc (v_Ls σ ls) ((st.map (v_V σ)).drop y)) (by rw [List.length_map, ← List.map_drop, v_cats]) hr (fun q => by
      rw [← List.map_drop, ← List.map_take, ← List.map_reverse]
      exact call rfl q)
    exact h9
  · obtain ⟨w, t, rfl, h2⟩ := y_pi_some.mp hr
    obtain ⟨v, t2, rfl, h3⟩ := y_pi_some.mp h2
    exact r_sg (Y := Y) (X' := K' (pc + 3) (v_Ls σ ls) (y_vi (max v w) :: t2.map (v_V σ)) g) (by rw [v_cats]) h3 (fun q => same (t := y_vi (max v w) :: t2) (r_okS_cons.mpr ⟨trivial, r_okS_pi (r_okS_pi hst)⟩) q)
  · obtain ⟨w, t, rfl, h2⟩ := y_pi_some.mp hr
    obtain ⟨v, t2, rfl, h3⟩ := y_pi_some.mp h2
    exact r_sg (Y := Y) (X' := K' (pc + 3) (v_Ls σ ls) (y_vi (min v w) :: t2.map (v_V σ)) g) (by rw [v_cats]) h3 (fun q => same (t := y_vi (min v w) :: t2) (r_okS_cons.mpr ⟨trivial, r_okS_pi (r_okS_pi hst)⟩) q)
  · obtain ⟨n9, t1, rfl, y1⟩ := y_pi_some.mp hr
    obtain ⟨dp, t2, rfl, y2⟩ := y_pi_some.mp y1
    obtain ⟨b9, t3, rfl, y3⟩ := y_pr_some.mp y2
    obtain ⟨sp, t4, rfl, y4⟩ := y_pi_some.mp y3
    obtain ⟨a9, t5, rfl, y5⟩ := y_pr_some.mp y4
    have s1 := r_okS_pi (r_okS_pi hst)
    have hb : S b9 = true := (r_okS_cons.mp s1).1
    have s2 := r_okS_pi (r_okS_pi s1)
    have ha : S a9 = true := (r_okS_cons.mp s2).1
    exact r_sg (Y := Y) (X' := y_kt (σ a9) 10 (y_kt (σ b9) 10 (y_cg sp dp n9 (z_kd (σ a9)).2 (z_kd (σ b9)).2 (K' (pc + 3) (v_Ls σ ls) (t5.map (v_V σ)) (y_cpI g (σ a9) sp.toNat (σ b9) dp.toNat n9.toNat))))) (by rw [v_cats]) y5 (fun q => r_kt (kd a9 ha) q (fun q => r_kt (kd b9 hb) q (fun q => r_cg (by rw [kd a9 ha]) (by rw [kd b9 hb]) q (fun q => hK _ _ _ _ _ hls (r_okS_pi s2) (r_oc hh) (r_cpI D R ha hb) (r_fc hb (by have := (y_kt_some.mp (y_kt_some.mp (y_sg_some.mp y5).2).2).1; omega)) (r_gc hb) q))))
  · obtain ⟨a, t2, rfl, h3⟩ := y_pr_some.mp hr
    have ha : S a = true := (r_okS_cons.mp hst).1
    exact r_sg (Y := Y) (X' := y_sg (!(Nat.beq (σ a) 0)) (K' (pc + 3) (v_Ls σ ls) (t2.map (v_V σ)) g)) (by rw [v_cats]) h3 (fun q => r_sg (by rw [(eq a ha).1]) q (fun q => same (r_okS_pi hst) q))
  · rename_i n1 n2 n3 n4 n5
    have h9 := r_sg (Y := Y) (w := Nat.ble y (st.map (v_V σ)).length && Nat.ble (y_cats ((st.map (v_V σ)).drop y)) 8) (X' := y_rc ((st.map (v_V σ)).take y).reverse (z_mc x) (y_rt (z_mr x) (C' x ((st.map (v_V σ)).take y).reverse g) K' pc (v_Ls σ ls) ((st.map (v_V σ)).drop y))) (by rw [List.length_map, ← List.map_drop, v_cats]) hr (fun q => by
      rw [← List.map_drop, ← List.map_take, ← List.map_reverse]
      have hc := fun o => call (o := o) (q := z_mr x)
      unfold y_rc at q
      split at q
      · rename_i a as he
        rw [he] at hd1 hc q ⊢
        exact r_kt (Y := Y) (a := a) (b := σ a) (kd a (r_okS_cons.mp hd1).1) q (fun q => hc _ rfl q)
      · cases q)
    unfold y_i4
    split
    · exact absurd rfl n1
    · exact absurd rfl n2
    · exact absurd rfl n3
    · exact absurd rfl n4
    · exact absurd rfl n5
    · exact h9
end RS
