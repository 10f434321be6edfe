/-! the other groups, runs, calls -/
theorem y_okS_sub {nn : Nat} {st t : List y_V} (h : y_okS nn st) (g : ∀ v ∈ t, v ∈ st) : y_okS nn t := fun v hv => h v (g v hv)
theorem y_div_c {v w : Int} (hv : y_inr v) (hw : y_inr w) (hd : y_inr (v.tdiv w)) : Int32.ofInt v / Int32.ofInt w = Int32.ofInt (v.tdiv w) := by
  rw [← y_ofto (Int32.ofInt v / Int32.ofInt w), Int32.toInt_div, y_toInt hv, y_toInt hw]
  congr 1
  exact Int.bmod_eq_of_le (by unfold y_inr at hd; omega) (by unfold y_inr at hd; omega)
section SIM
variable {K : y_K} {K' : z_K} {C : y_C} {C' : z_C} {ins : Jvm.ClassFile.Instr} {x y z pc : Nat} {ls : y_Ls} {st : List y_V} {h : y_Hp} {r : y_R} {sc : z_Sc} {T : z_O → Prop} {nn : Nat}
theorem y_sim1 (hls : y_okL nn ls) (hst : y_okS nn st) (hh : y_okH nn h) (hr : y_i1 K ins pc ls st h = some r) (hK : ∀ pc' ls' st' h', y_okL nn ls' → y_okS nn st' → y_okH nn h' → K pc' ls' st' h' = some r → T (K' pc' (c_Ls ls') (st'.map c_V) (c_H nn h'))) : T (z_i1 K' ins pc (c_Ls ls) (st.map c_V) (c_H nn h)) := by
  unfold y_i1 at hr
  split at hr
  case h_1 =>
    obtain ⟨w, t, rfl, h2⟩ := y_pi_some.mp hr
    obtain ⟨v, t2, rfl, h3⟩ := y_pi_some.mp h2
    obtain ⟨h4, h5⟩ := y_rg_some.mp h3
    obtain ⟨s1, s2⟩ := y_okS_cons.mp hst
    obtain ⟨s3, s4⟩ := y_okS_cons.mp s2
    show T (K' _ _ (z_vi (Int32.ofInt v + Int32.ofInt w) :: _) _)
    rw [← Int32.ofInt_add]
    exact hK _ ls (y_vi (v + w) :: t2) _ hls (y_okS_cons.mpr ⟨h4, s4⟩) hh h5
  case h_2 =>
    obtain ⟨w, t, rfl, h2⟩ := y_pi_some.mp hr
    obtain ⟨v, t2, rfl, h3⟩ := y_pi_some.mp h2
    obtain ⟨h4, h5⟩ := y_rg_some.mp h3
    obtain ⟨s1, s2⟩ := y_okS_cons.mp hst
    obtain ⟨s3, s4⟩ := y_okS_cons.mp s2
    show T (K' _ _ (z_vi (Int32.ofInt v - Int32.ofInt w) :: _) _)
    rw [← Int32.ofInt_sub]
    exact hK _ ls (y_vi (v - w) :: t2) _ hls (y_okS_cons.mpr ⟨h4, s4⟩) hh h5
  case h_3 =>
    obtain ⟨w, t, rfl, h2⟩ := y_pi_some.mp hr
    obtain ⟨v, t2, rfl, h3⟩ := y_pi_some.mp h2
    obtain ⟨h4, h5⟩ := y_rg_some.mp h3
    obtain ⟨s1, s2⟩ := y_okS_cons.mp hst
    obtain ⟨s3, s4⟩ := y_okS_cons.mp s2
    show T (K' _ _ (z_vi (Int32.ofInt v * Int32.ofInt w) :: _) _)
    rw [← Int32.ofInt_mul]
    exact hK _ ls (y_vi (v * w) :: t2) _ hls (y_okS_cons.mpr ⟨h4, s4⟩) hh h5
  case h_9 =>
    obtain ⟨w, t, rfl, h2⟩ := y_pi_some.mp hr
    obtain ⟨v, t2, rfl, h3⟩ := y_pi_some.mp h2
    obtain ⟨h4, h5⟩ := y_nz_some.mp h3
    obtain ⟨h6, h7⟩ := y_rg_some.mp h5
    obtain ⟨s1, s2⟩ := y_okS_cons.mp hst
    obtain ⟨s3, s4⟩ := y_okS_cons.mp s2
    have hnz : ¬ Int32.ofInt w = 0 := fun q => h4 ((y_eq_c (w := 0) s1 (by unfold y_inr; omega)).mp q)
    show T (z_gd (!(decide (Int32.ofInt w = 0))) (K' _ _ (z_vi (Int32.ofInt v / Int32.ofInt w) :: _) _))
    rw [decide_eq_false hnz, y_div_c s3 s1 h6]
    exact hK _ ls (y_vi (v.tdiv w) :: t2) _ hls (y_okS_cons.mpr ⟨h6, s4⟩) hh h7
  case h_10 =>
    obtain ⟨w, t, rfl, h2⟩ := y_pi_some.mp hr
    obtain ⟨v, t2, rfl, h3⟩ := y_pi_some.mp h2
    obtain ⟨h4, h5⟩ := y_nz_some.mp h3
    obtain ⟨h6, h7⟩ := y_rg_some.mp h5
    obtain ⟨h8, h9⟩ := y_rg_some.mp h7
    obtain ⟨s1, s2⟩ := y_okS_cons.mp hst
    obtain ⟨s3, s4⟩ := y_okS_cons.mp s2
    have hnz : ¬ Int32.ofInt w = 0 := fun q => h4 ((y_eq_c (w := 0) s1 (by unfold y_inr; omega)).mp q)
    show T (z_gd (!(decide (Int32.ofInt w = 0))) (K' _ _ (z_vi (Int32.ofInt v - Int32.ofInt v / Int32.ofInt w * Int32.ofInt w) :: _) _))
    rw [decide_eq_false hnz, y_div_c s3 s1 h6, ← Int32.ofInt_mul, ← Int32.ofInt_sub]
    exact hK _ ls (y_vi (v - v.tdiv w * w) :: t2) _ hls (y_okS_cons.mpr ⟨h8, s4⟩) hh h9
  case h_11 =>
    obtain ⟨v, t, rfl, h2⟩ := y_pi_some.mp hr
    obtain ⟨h3, h4⟩ := y_rg_some.mp h2
    obtain ⟨s1, s2⟩ := y_okS_cons.mp hst
    show T (K' _ _ (z_vi (-Int32.ofInt v) :: _) _)
    rw [← Int32.ofInt_neg]
    exact hK _ ls (y_vi (-v) :: t) _ hls (y_okS_cons.mpr ⟨h3, s2⟩) hh h4
  case h_19 =>
    obtain ⟨w, t, rfl, h2⟩ := y_pl_some.mp hr
    obtain ⟨v, t2, rfl, h3⟩ := y_pl_some.mp h2
    obtain ⟨h4, h5⟩ := y_nl_some.mp h3
    obtain ⟨s1, s2⟩ := y_okS_cons.mp hst
    obtain ⟨s3, s4⟩ := y_okS_cons.mp s2
    show T (z_gd (!(decide (w = 0))) _)
    rw [decide_eq_false h4]
    exact hK _ ls (y_vl (v / w) :: t2) _ hls (y_okS_cons.mpr ⟨trivial, s4⟩) hh h5
  all_goals first
    | (cases hr; done)
    | (obtain ⟨w, t, rfl, h2⟩ := y_pi_some.mp hr
       obtain ⟨v, t2, rfl, h3⟩ := y_pi_some.mp h2
       obtain ⟨s1, s2⟩ := y_okS_cons.mp hst
       obtain ⟨s3, s4⟩ := y_okS_cons.mp s2
       first
       | exact (congrArg (fun q => T (K' (pc + 1) (c_Ls ls) (z_vi q :: t2.map c_V) (c_H nn h))) (y_ofto (Int32.ofInt v &&& Int32.ofInt w))).mp (hK _ ls (y_vi (y_and v w) :: t2) _ hls (y_okS_cons.mpr ⟨y_inr_to _, s4⟩) hh h3)
       | exact (congrArg (fun q => T (K' (pc + 1) (c_Ls ls) (z_vi q :: t2.map c_V) (c_H nn h))) (y_ofto (Int32.ofInt v ||| Int32.ofInt w))).mp (hK _ ls (y_vi (y_or v w) :: t2) _ hls (y_okS_cons.mpr ⟨y_inr_to _, s4⟩) hh h3)
       | exact (congrArg (fun q => T (K' (pc + 1) (c_Ls ls) (z_vi q :: t2.map c_V) (c_H nn h))) (y_ofto (Int32.ofInt v ^^^ Int32.ofInt w))).mp (hK _ ls (y_vi (y_xor v w) :: t2) _ hls (y_okS_cons.mpr ⟨y_inr_to _, s4⟩) hh h3)
       | exact (congrArg (fun q => T (K' (pc + 1) (c_Ls ls) (z_vi q :: t2.map c_V) (c_H nn h))) (y_ofto (Int32.ofInt v <<< (Int32.ofInt w &&& 31)))).mp (hK _ ls (y_vi (y_shl v w) :: t2) _ hls (y_okS_cons.mpr ⟨y_inr_to _, s4⟩) hh h3)
       | exact (congrArg (fun q => T (K' (pc + 1) (c_Ls ls) (z_vi q :: t2.map c_V) (c_H nn h))) (y_ofto (Int32.ofInt v >>> (Int32.ofInt w &&& 31)))).mp (hK _ ls (y_vi (y_shr v w) :: t2) _ hls (y_okS_cons.mpr ⟨y_inr_to _, s4⟩) hh h3))
    | (obtain ⟨w, t, rfl, h2⟩ := y_pl_some.mp hr
       obtain ⟨v, t2, rfl, h3⟩ := y_pl_some.mp h2
       obtain ⟨s1, s2⟩ := y_okS_cons.mp hst
       obtain ⟨s3, s4⟩ := y_okS_cons.mp s2
       first
       | exact hK _ ls (y_vl (v + w) :: t2) _ hls (y_okS_cons.mpr ⟨trivial, s4⟩) hh h3
       | exact hK _ ls (y_vl (v * w) :: t2) _ hls (y_okS_cons.mpr ⟨trivial, s4⟩) hh h3
       | exact hK _ ls (y_vl (v &&& w) :: t2) _ hls (y_okS_cons.mpr ⟨trivial, s4⟩) hh h3
       | exact hK _ ls (y_vl (v ||| w) :: t2) _ hls (y_okS_cons.mpr ⟨trivial, s4⟩) hh h3
       | exact (congrArg (fun q => T (K' (pc + 1) (c_Ls ls) (z_vi q :: t2.map c_V) (c_H nn h))) (y_ofto (lg_cmp v w))).mp (hK _ ls (y_vi (y_lcmp v w) :: t2) _ hls (y_okS_cons.mpr ⟨y_inr_to _, s4⟩) hh h3))
    | (obtain ⟨w, t, rfl, h2⟩ := y_pi_some.mp hr
       obtain ⟨v, t2, rfl, h3⟩ := y_pl_some.mp h2
       obtain ⟨s1, s2⟩ := y_okS_cons.mp hst
       obtain ⟨s3, s4⟩ := y_okS_cons.mp s2
       first
       | exact hK _ ls (y_vl (y_lshl v w) :: t2) _ hls (y_okS_cons.mpr ⟨trivial, s4⟩) hh h3
       | exact hK _ ls (y_vl (y_lshr v w) :: t2) _ hls (y_okS_cons.mpr ⟨trivial, s4⟩) hh h3)
    | (obtain ⟨v, t, rfl, h2⟩ := y_pi_some.mp hr
       obtain ⟨s1, s2⟩ := y_okS_cons.mp hst
       first
       | exact hK _ ls (y_vl (y_i2l v) :: t) _ hls (y_okS_cons.mpr ⟨trivial, s2⟩) hh h2
       | exact (congrArg (fun q => T (K' (pc + 1) (c_Ls ls) (z_vi q :: t.map c_V) (c_H nn h))) (y_ofto ((Int32.ofInt v).toInt8.toInt32))).mp (hK _ ls (y_vi (y_i2b v) :: t) _ hls (y_okS_cons.mpr ⟨y_inr_to _, s2⟩) hh h2))
    | (obtain ⟨v, t, rfl, h2⟩ := y_pl_some.mp hr
       obtain ⟨s1, s2⟩ := y_okS_cons.mp hst
       exact (congrArg (fun q => T (K' (pc + 1) (c_Ls ls) (z_vi q :: t.map c_V) (c_H nn h))) (y_ofto v.toInt32)).mp (hK _ ls (y_vi (y_l2i v) :: t) _ hls (y_okS_cons.mpr ⟨y_inr_to _, s2⟩) hh h2))
theorem y_br_c {c : Jvm.ClassFile.Cond} {v w : Int} (hv : y_inr v) (hw : y_inr w) {A B : y_O} {A' B' : z_O} (hA : A = some r → T A') (hB : B = some r → T B') (h : y_br c v w A B = some r) : T (z_br c (Int32.ofInt v) (Int32.ofInt w) A' B') := by
  have e1 := y_eq_c hv hw
  have e2 := y_lt_c hv hw
  have e3 := y_lt_c hw hv
  unfold y_br at h
  unfold z_br
  cases c
  · by_cases q : v = w
    · simp only [if_pos q] at h; simp only [if_pos (e1.mpr q)]; exact hA h
    · simp only [if_neg q] at h; simp only [if_neg (fun g => q (e1.mp g))]; exact hB h
  · by_cases q : v = w
    · simp only [if_pos q] at h; simp only [if_pos (e1.mpr q)]; exact hB h
    · simp only [if_neg q] at h; simp only [if_neg (fun g => q (e1.mp g))]; exact hA h
  · by_cases q : v < w
    · simp only [if_pos q] at h; simp only [if_pos (e2.mpr q)]; exact hA h
    · simp only [if_neg q] at h; simp only [if_neg (fun g => q (e2.mp g))]; exact hB h
  · by_cases q : v < w
    · simp only [if_pos q] at h; simp only [if_pos (e2.mpr q)]; exact hB h
    · simp only [if_neg q] at h; simp only [if_neg (fun g => q (e2.mp g))]; exact hA h
  · by_cases q : w < v
    · simp only [if_pos q] at h; simp only [if_pos (e3.mpr q)]; exact hA h
    · simp only [if_neg q] at h; simp only [if_neg (fun g => q (e3.mp g))]; exact hB h
  · by_cases q : w < v
    · simp only [if_pos q] at h; simp only [if_pos (e3.mpr q)]; exact hB h
    · simp only [if_neg q] at h; simp only [if_neg (fun g => q (e3.mp g))]; exact hA h
theorem y_sim2 (hls : y_okL nn ls) (hst : y_okS nn st) (hh : y_okH nn h) (hc : y_cok ins x y = true) (hR : y_okR nn r → T (some (c_R nn r))) (hr : y_i2 K ins z pc ls st h = some r) (hK : ∀ pc' ls' st' h', y_okL nn ls' → y_okS nn st' → y_okH nn h' → K pc' ls' st' h' = some r → T (K' pc' (c_Ls ls') (st'.map c_V) (c_H nn h'))) : T (z_i2 K' ins z pc (c_Ls ls) (st.map c_V) (c_H nn h)) := by
  unfold y_i2 at hr
  split at hr
  · obtain ⟨w, t, rfl, h2⟩ := y_pi_some.mp hr
    obtain ⟨v, t2, rfl, h3⟩ := y_pi_some.mp h2
    obtain ⟨s1, s2⟩ := y_okS_cons.mp hst
    obtain ⟨s3, s4⟩ := y_okS_cons.mp s2
    exact y_br_c s3 s1 (hK _ _ _ _ hls s4 hh) (hK _ _ _ _ hls s4 hh) h3
  · obtain ⟨v, t2, rfl, h3⟩ := y_pi_some.mp hr
    obtain ⟨s3, s4⟩ := y_okS_cons.mp hst
    exact y_br_c (w := 0) s3 (by unfold y_inr; omega) (hK _ _ _ _ hls s4 hh) (hK _ _ _ _ hls s4 hh) h3
  · exact hK _ _ _ _ hls hst hh hr
  · obtain ⟨v, t2, rfl, h3⟩ := y_pi_some.mp hr
    obtain ⟨s3, s4⟩ := y_okS_cons.mp hst
    exact y_sw_c s3 (fun p => hK p _ _ _ hls s4 hh) hc h3
  · obtain ⟨v, t2, rfl, h3⟩ := y_pi_some.mp hr
    obtain ⟨s3, s4⟩ := y_okS_cons.mp hst
    exact y_sw_c s3 (fun p => hK p _ _ _ hls s4 hh) hc h3
  · split at hr
    · rename_i v
      obtain ⟨s3, -⟩ := y_okS_cons.mp hst
      split at hr
      · obtain ⟨h1, h2⟩ := y_b1_some.mp hr
        cases h2
        have hq := hR ⟨fun w e => by cases e; exact s3, hh⟩
        have e : z_bo (Int32.ofInt v) = true := by rcases h1 with rfl | rfl <;> rfl
        show T (z_gd (z_bo (Int32.ofInt v)) _)
        rw [e]
        exact hq
      · rename_i hz
        cases hr
        have hq := hR ⟨fun w e => by cases e; exact s3, hh⟩
        have e9 : z_i2 K' Jvm.ClassFile.Instr.ireturn z pc (c_Ls ls) [c_V (y_vi v)] (c_H nn h) = some (some (z_vi (Int32.ofInt v)), c_H nn h) := by
          show (match z with
            | 3 => _
            | _ => _) = _
          split
          · exact absurd rfl hz
          · rfl
        show T (z_i2 K' Jvm.ClassFile.Instr.ireturn z pc (c_Ls ls) [c_V (y_vi v)] (c_H nn h))
        rw [e9]
        exact hq
    · cases hr
  · split at hr
    · cases hr
      exact hR ⟨fun w e => by cases e; trivial, hh⟩
    · cases hr
  · split at hr
    · cases hr
      exact hR ⟨fun w e => (by cases e), hh⟩
    · cases hr
  · cases hr
end SIM
