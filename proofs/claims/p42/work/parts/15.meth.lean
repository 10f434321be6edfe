/-! CALLS as the machine does them -/
theorem z_gt_mem : ∀ {L : z_Pg} {pc : Nat} {en : z_En}, z_gt L pc = some en → ∃ len, (pc, len, en) ∈ L
  | [], _, _, h => by cases h
  | q :: r, pc, en, h => by
    unfold z_gt at h
    split at h
    · rename_i e
      have e := z_beq e
      cases h
      exact ⟨q.2.1, by rw [← e]; exact List.mem_cons_self⟩
    · obtain ⟨len, h2⟩ := z_gt_mem h
      exact ⟨len, List.mem_cons_of_mem _ h2⟩
theorem z_g_le {M pc len g : Nat} {ins : Jvm.ClassFile.Instr} {x y z : Nat} (hok : z_sok M pc len g ins x y z = true) : g ≤ 4 := by
  unfold z_sok at hok
  split at hok
  all_goals first
    | (simp only [Bool.and_eq_true] at hok; first | (have := z_beq hok.1.1.1.1.1; omega) | (have := z_beq hok.2; omega) | (have := z_beq hok.1.2; omega) | (have := z_beq hok.1.1.2; omega) | (have := z_beq hok.1.1.1.2; omega) | (have := z_beq hok.1.1.1.1.2; omega) | (have := z_beq hok.1; omega) | (have := z_beq hok.1.1; omega) | (have := z_beq hok.1.1.1; omega) | (have := z_beq hok.1.1.1.1; omega) | (have := z_beq hok.1.1.1.1.1.2; omega))
    | (cases hok; done)
theorem z_rcs {h : z_Hp} {as0 : List z_V} {c q pc : Nat} {o : z_O} {K : z_K} {ls : z_Ls} {rest : List z_V} {r : z_R} (hr : z_rc h as0 c (z_rt q o K pc ls rest) = some r) : ∃ a as r1, as0 = z_vr a :: as ∧ z_ob h a c = true ∧ o = some r1 ∧ z_rt q (some r1) K pc ls rest = some r := by
  unfold z_rc at hr
  split at hr
  · rename_i a as
    obtain ⟨g, hr⟩ := z_gd_some.mp hr
    rcases o with _ | r1
    · rw [z_rt_none] at hr
      cases hr
    · exact ⟨a, as, r1, rfl, g, rfl, hr⟩
  · cases hr
theorem z_stk {st as0 rest : List z_V} {n : Nat} (h1 : (st.take n).reverse = as0) (h2 : st.drop n = rest) (hn : n ≤ st.length) : st = as0.reverse ++ rest ∧ as0.length = n := by
  subst h1 h2
  constructor
  · rw [List.reverse_reverse, List.take_append_drop]
  · rw [List.length_reverse, List.length_take]
    omega
theorem z_mc_lt {x : Nat} (hx : z_lk x = true) (hk : z_kM x = 2) : z_mc x < 8 := by
  have h := z_mckA x hx
  unfold z_mck at h
  rw [hk] at h
  simp only [Bool.and_eq_true, decide_eq_true_eq, Nat.blt_eq] at h
  obtain ⟨-, -, -, -, -, -, -, -, -, ⟨-, h11⟩, -⟩ := h
  exact h11
section SN5
variable {p : Program} {l : Launch} {e : Env} {R : Room} {s : State} {m : MethodId} {args : Array Value} {below : List Frame} {meth : Method} {c : Code} {Q : State → Prop} {D : va_G} {cy : Nat → ClassId} {base b n0 : Nat} {sc : z_Sc} {M : Nat}
variable {pc len : Nat} {ls : z_Ls} {st : List z_V} {h : z_Hp} {ins : Jvm.ClassFile.Instr} {x y z : Nat} {K : z_K} {r : z_R} {C9 : z_C} {d : Nat}
theorem z_sn4 (X : z_Cx p s m args meth c D cy base b sc M) (hdg : decode (z_bM M) pc = .ok (ins, len)) (hok : z_sok M pc len 4 ins x y z = true) {q : Nat × Nat} (hw : z_wp q = z_wd (z_yM M).cls ins x y z) (hr : z_i4 C9 K x y z pc ls st h = some r) (hK : ∀ pc' ls' st' h', K pc' ls' st' h' = some r → z_at p l e R s m args below meth c Q D cy base b n0 pc' ls' st' h')
    (hC : ∀ x as h0 r0, z_lk x = true → C9 x as h0 = some r0 → z_Met l D cy base b sc d x as h0 r0) (hCge : ∀ x as h0 r0, C9 x as h0 = some r0 → h0.1 ≤ r0.2.1) (hge : ∀ pc' ls' st' h', K pc' ls' st' h' = some r → h'.1 ≤ r.2.1) (hRc : r.2.1 - n0 ≤ R.cells) (hRs : z_sz r.2.1 - z_sz n0 ≤ R.slots) (hRf : d + 1 ≤ R.frames) (hRl : 64 * (d + 1) ≤ R.locals) : z_at p l e R s m args below meth c Q D cy base b n0 pc ls st h := by
  obtain ⟨hx, hb, hml, hown, hts, hKK, hin, hscr, hbs⟩ := X
  rcases z_g4 hok with ⟨n, rfl⟩ | ⟨n, rfl⟩ | ⟨n, rfl⟩
  · -- invokevirtual
    unfold z_sok at hok
    simp only [Bool.and_eq_true, Nat.blt_eq] at hok
    obtain ⟨⟨⟨⟨⟨k1, -⟩, k3⟩, k4⟩, k5⟩, k6⟩ := hok
    have e := z_beq k1
    subst e
    have e := z_beq k3
    subst e
    have k4 := z_beq k4
    have e := z_beq k5
    subst e
    obtain ⟨w1, w2, w3, w4, w5, w6, w7, w8⟩ := z_mckV k6 k4
    have hr : z_sg (Nat.ble (z_mn x) st.length && Nat.ble (z_cats (st.drop (z_mn x))) 8) (z_rc h (st.take (z_mn x)).reverse (z_mc x) (z_rt (z_mr x) (C9 x (st.take (z_mn x)).reverse h) K pc ls (st.drop (z_mn x)))) = some r := hr
    obtain ⟨g1, hr⟩ := z_sg_some.mp hr
    obtain ⟨g2, g3⟩ := (Bool.and_eq_true _ _).mp g1
    have g2 := Nat.le_of_ble_eq_true g2
    have g3 := Nat.le_of_ble_eq_true g3
    generalize e1 : (st.take (z_mn x)).reverse = as0 at hr
    generalize e2 : st.drop (z_mn x) = rest at hr g3
    obtain ⟨hst, hlen⟩ := z_stk e1 e2 g2
    obtain ⟨a, as, r1, rfl, g4, hC1, hrt⟩ := z_rcs hr
    obtain ⟨i, rfl, hi, hkd⟩ := z_ob_spec w7 g4
    have hM := hC _ _ _ _ k6 hC1
    have hge1 := hCge _ _ _ _ hC1
    have hge2 := z_rt_ge hge hrt
    have hz1 := z_sz_le hge1
    have hz2 := z_sz_le hge2
    have hcats := z_cats_map (base := base) (b := b) rest
    have hlen2 : as.length = z_mn x - 1 := by rw [List.length_cons] at hlen; omega
    intro H locs mls cells slots a1 a2 a3 a4 a5 a6 a7
    have hz3 := z_sz_le a5
    have hstm : st.map (z_tv base b) = (as.map (z_tv base b)).reverse ++ .ref (base + i) :: rest.map (z_tv base b) := by
      rw [hst, List.map_append, List.map_reverse, List.map_cons, z_tv_ref, List.reverse_cons, List.append_assoc]
      rfl
    have hrv := va_recv hKK.1 a2 (ci := z_mc x) (q0 := i) ((z_cOK _ w7).1) (by rw [z_wl_get hi, z_cel_ob hkd w7])
    have hrv2 : ∃ cell : Cell, H[base + i]? = some cell ∧ cell.vm.isStatics = false ∧ s.vm.findClass (z_yM x).cls = some cell.cls := by rw [← w6]; exact hrv
    refine z_fin (h := h) (x := x) (r1 := r1) (rest := rest) (va_runV (As := as.map (z_tv base b)) (rest := rest.map (z_tv base b)) (b := base + i) (C := (z_yM x).cls) (own := (z_yM M).cls) (nL := z_ml M) (cc := z_bM M) ⟨hx, hb, hml, hown, hts⟩ hM ⟨callB_of (z_mn x - 1) hts (z_good (z_mcwA x k6)) rfl rfl rfl (hts _ w3) (hts _ (z_wp_W hw rfl)) w4 ⟨hRf, ?_⟩, hts _ w1, hts _ w2⟩ ⟨z_blind, hrv2, fun U hU hW => ⟨?_, by rw [hU]; exact a1, by rw [hU]; exact a2, z_KK_warm hW hKK, z_SX_to hW hscr a3 hU⟩⟩ rfl ?_ (by rw [← hml]; exact a4.1) hstm (lv_room (by rw [hcats]; exact g3)) hdg ⟨?_, ?_⟩) hrt hK hge1 a3 a4 a5 a6 a7
    · show 8 + (z_ml x + 11) + 64 * d ≤ R.locals
      omega
    · rw [List.map_cons, z_tv_ref]
    · rw [List.length_map]; exact hlen2
    · omega
    · omega
  · -- invokestatic
    unfold z_sok at hok
    simp only [Bool.and_eq_true] at hok
    obtain ⟨⟨k1, -⟩, k3⟩ := hok
    have e := z_beq k1
    subst e
    split at k3
    · -- max
      have hr : z_pi st (fun w r => z_pi r (fun v r => z_sg (Nat.ble (z_cats r) 8) (K (pc + 3) ls (z_vi (if v < w then w else v) :: r) h))) = some r := hr
      obtain ⟨w, t, rfl, h2⟩ := z_pi_some.mp hr
      obtain ⟨v, t, rfl, h2⟩ := z_pi_some.mp h2
      obtain ⟨g1, h2⟩ := z_sg_some.mp h2
      have g1 := Nat.le_of_ble_eq_true g1
      have hge1 := hge _ _ _ _ h2
      have hz1 := z_sz_le hge1
      have hcats := z_cats_map (base := base) (b := b) t
      intro H locs mls cells slots a1 a2 a3 a4 a5 a6 a7
      have hz3 := z_sz_le a5
      exact va_mmax hx hb a4.1.symm hown (hts _ (z_wp_W hw rfl)) (hts _ (z_wp_W (q := (2, 148)) (by decide +kernel) rfl)) (hts _ (z_wp_W (q := (1, 9)) (by decide +kernel) rfl)) (hts _ (z_wp_W (q := (2, 149)) (by decide +kernel) rfl)) (by omega) (by rw [hcats]; omega) (by omega) (by omega) hdg (hK _ _ _ _ h2 H locs mls cells slots a1 a2 a3 a4 a5 a6 a7)
    · -- min
      have hr : z_pi st (fun w r => z_pi r (fun v r => z_sg (Nat.ble (z_cats r) 8) (K (pc + 3) ls (z_vi (if w < v then w else v) :: r) h))) = some r := hr
      obtain ⟨w, t, rfl, h2⟩ := z_pi_some.mp hr
      obtain ⟨v, t, rfl, h2⟩ := z_pi_some.mp h2
      obtain ⟨g1, h2⟩ := z_sg_some.mp h2
      have g1 := Nat.le_of_ble_eq_true g1
      have hge1 := hge _ _ _ _ h2
      have hz1 := z_sz_le hge1
      have hcats := z_cats_map (base := base) (b := b) t
      intro H locs mls cells slots a1 a2 a3 a4 a5 a6 a7
      have hz3 := z_sz_le a5
      exact va_mmin hx hb a4.1.symm hown (hts _ (z_wp_W hw rfl)) (hts _ (z_wp_W (q := (2, 145)) (by decide +kernel) rfl)) (hts _ (z_wp_W (q := (1, 9)) (by decide +kernel) rfl)) (hts _ (z_wp_W (q := (2, 146)) (by decide +kernel) rfl)) (by omega) (by rw [hcats]; omega) (by omega) (by omega) hdg (hK _ _ _ _ h2 H locs mls cells slots a1 a2 a3 a4 a5 a6 a7)
    · -- arraycopy
      have hr : z_pi st (fun n r => z_pi r (fun dp r => z_pr r (fun b r => z_pi r (fun sp r => z_pr r (fun a r => z_sg (Nat.ble (z_cats r) 8) (z_gd ((Nat.beq (w_kd a).1 10 && Nat.blt a (h.1 + 2)) && (Nat.beq (w_kd b).1 10 && Nat.blt b (h.1 + 2)) && (!(decide (sp < 0)) && !(decide (dp < 0)) && !(decide (n < 0))) && (Nat.ble (sp.toNatClampNeg + n.toNatClampNeg) (w_kd a).2 && Nat.ble (dp.toNatClampNeg + n.toNatClampNeg) (w_kd b).2)) (K (pc + 3) ls r (z_cpI h a sp.toNatClampNeg b dp.toNatClampNeg n.toNatClampNeg)))))))) = some r := hr
      obtain ⟨n9, t1, rfl, y1⟩ := z_pi_some.mp hr
      obtain ⟨dp, t2, rfl, y2⟩ := z_pi_some.mp y1
      obtain ⟨b9, t3, rfl, y3⟩ := z_pr_some.mp y2
      obtain ⟨sp, t4, rfl, y4⟩ := z_pi_some.mp y3
      obtain ⟨a9, t, rfl, y5⟩ := z_pr_some.mp y4
      obtain ⟨g1, y6⟩ := z_sg_some.mp y5
      obtain ⟨g2, h2⟩ := z_gd_some.mp y6
      have g1 := Nat.le_of_ble_eq_true g1
      obtain ⟨g2, g8⟩ := (Bool.and_eq_true _ _).mp g2
      obtain ⟨g2, g7⟩ := (Bool.and_eq_true _ _).mp g2
      obtain ⟨g2, g5⟩ := (Bool.and_eq_true _ _).mp g2
      obtain ⟨g3, g4⟩ := (Bool.and_eq_true _ _).mp g2
      obtain ⟨g5, g6⟩ := (Bool.and_eq_true _ _).mp g5
      obtain ⟨g7, g11⟩ := (Bool.and_eq_true _ _).mp g7
      obtain ⟨g9, g10⟩ := (Bool.and_eq_true _ _).mp g7
      obtain ⟨g12, g13⟩ := (Bool.and_eq_true _ _).mp g8
      have g3 := z_beq g3
      have g5 := z_beq g5
      have g4 := Nat.blt_eq.mp g4
      have g6 := Nat.blt_eq.mp g6
      have g9 : ¬ sp < 0 := by simpa using g9
      have g10 : ¬ dp < 0 := by simpa using g10
      have g11 : ¬ n9 < 0 := by simpa using g11
      have g12 := Nat.le_of_ble_eq_true g12
      have g13 := Nat.le_of_ble_eq_true g13
      have q1 := w_kd_small (a := a9) (by omega)
      have q2 := w_kd_small (a := b9) (by omega)
      obtain ⟨i, rfl⟩ : ∃ i, a9 = i + 2 := ⟨a9 - 2, by omega⟩
      obtain ⟨j, rfl⟩ : ∃ j, b9 = j + 2 := ⟨b9 - 2, by omega⟩
      have hcats := z_cats_map (base := base) (b := b) t
      intro H locs mls cells slots a1 a2 a3 a4 a5 a6 a7
      rw [List.map_cons, List.map_cons, List.map_cons, List.map_cons, List.map_cons, z_tv_ref, z_tv_ref]
      have hc0 := z_arrAt a2 (i := i) (by omega) g3 (by omega)
      have hc1 := z_arrAt a2 (i := j) (by omega) g5 (by omega)
      refine z_acopy (cA := cy 10) (m0 := (w_kd (i + 2)).2) (m1 := (w_kd (j + 2)).2) (f := h.2.1 (i + 2)) (g := h.2.1 (j + 2)) hx hb a4.1.symm hown (hts _ (z_wp_W hw rfl)) (hts _ (z_wp_W (q := (2, 190)) (by decide +kernel) rfl)) (hts _ (z_wp_W (q := (2, 189)) (by decide +kernel) rfl)) (hts _ (z_wp_W (q := (1, 10)) (by decide +kernel) rfl)) ((hKK.1.2 0 _ rfl).1) hc0 hc1 g9 g10 g11 g12 g13 (by omega) (by rw [hcats, show nativeFrameWords "java/lang/System" "arraycopy" 5 = 7 from rfl]; omega) hdg (fun H1 L e1 e2 e3 e4 => ?_)
      refine hK _ _ _ _ h2 H1 _ mls cells slots (by rw [e1, a1]; rfl) (z_wput a2 rfl (fun k hk => z_cpI_cel hk) (z_arrTo g5 (by omega) ?_) e3) ⟨by rw [e1]; exact a3.1, fun q h1 h2 => by rw [e3 q (fun e => h2 (by rw [e]; exact Nat.le_add_right _ _))]; exact a3.2.1 q h1 h2, fun q hq => ?_⟩ a4 a5 a6 a7
      · rw [e2]
        show _ = some (vp_cell (cy 10) (_, .inl ((z_cpI h (i + 2) sp.toNatClampNeg (j + 2) dp.toNatClampNeg n9.toNatClampNeg).2.1 (j + 2))))
        have e5 : (z_cpI h (i + 2) sp.toNatClampNeg (j + 2) dp.toNatClampNeg n9.toNatClampNeg).2.1 (j + 2) = z_cp (h.2.1 (i + 2)) (h.2.1 (j + 2)) sp.toNatClampNeg dp.toNatClampNeg n9.toNatClampNeg := z_row_eq
        rw [e5]
      · rcases List.mem_append.mp hq with hq | hq
        · exact a3.2.2 q hq
        · rw [e4 q hq]
          exact Nat.le_add_right _ _
    · -- a static method
      rw [Bool.and_eq_true, Bool.and_eq_true] at k3
      obtain ⟨⟨k4, k5⟩, k6⟩ := k3
      have k4 := z_beq k4
      have e := z_beq k5
      subst e
      obtain ⟨w1, w3, w4, w5⟩ := z_mckS k6 k4
      have hr : z_sg (Nat.ble (z_mn x) st.length && Nat.ble (z_cats (st.drop (z_mn x))) 8) (z_rt (z_mr x) (C9 x (st.take (z_mn x)).reverse h) K pc ls (st.drop (z_mn x))) = some r := hr
      obtain ⟨g1, hr⟩ := z_sg_some.mp hr
      obtain ⟨g2, g3⟩ := (Bool.and_eq_true _ _).mp g1
      have g2 := Nat.le_of_ble_eq_true g2
      have g3 := Nat.le_of_ble_eq_true g3
      generalize e1 : (st.take (z_mn x)).reverse = as at hr
      generalize e2 : st.drop (z_mn x) = rest at hr g3
      obtain ⟨hst, hlen⟩ := z_stk e1 e2 g2
      rcases hC1 : C9 x as h with _ | r1
      · rw [hC1, z_rt_none] at hr
        cases hr
      rw [hC1] at hr
      have hM := hC _ _ _ _ k6 hC1
      have hge1 := hCge _ _ _ _ hC1
      have hge2 := z_rt_ge hge hr
      have hz1 := z_sz_le hge1
      have hz2 := z_sz_le hge2
      have hcats := z_cats_map (base := base) (b := b) rest
      intro H locs mls cells slots a1 a2 a3 a4 a5 a6 a7
      have hz3 := z_sz_le a5
      have hstm : st.map (z_tv base b) = (as.map (z_tv base b)).reverse ++ rest.map (z_tv base b) := by
        rw [hst, List.map_append, List.map_reverse]
      refine z_fin (h := h) (x := x) (r1 := r1) (rest := rest) (va_runS (As := as.map (z_tv base b)) (rest := rest.map (z_tv base b)) (own := (z_yM M).cls) (nL := z_ml M) (cc := z_bM M) ⟨hx, hb, hml, hown, hts⟩ hM ⟨callB_of (z_mn x) hts (z_good (z_mcwA x k6)) rfl rfl rfl (hts _ w3) (hts _ (z_wp_W hw rfl)) w4 ⟨hRf, ?_⟩, hts _ w1⟩ ⟨z_blind, fun U hU hW => ⟨rfl, by rw [hU]; exact a1, by rw [hU]; exact a2, z_KK_warm hW hKK, z_SX_to hW hscr a3 hU⟩⟩ rfl ?_ (by rw [← hml]; exact a4.1) hstm (lv_room (by rw [hcats]; exact g3)) hdg ⟨?_, ?_⟩) hr hK hge1 a3 a4 a5 a6 a7
      · show 8 + (z_ml x + 11) + 64 * d ≤ R.locals
        omega
      · rw [List.length_map]; exact hlen
      · omega
      · omega
    · cases k3
  · -- invokespecial
    unfold z_sok at hok
    simp only [Bool.and_eq_true] at hok
    obtain ⟨⟨k1, -⟩, k3⟩ := hok
    have e := z_beq k1
    subst e
    have hctor : ∀ (zz : Nat), (zz = 2 ∨ zz = 3) → z = zz → (Nat.beq (z_kM x) 2 && Nat.beq y (z_mn x) && z_lk x) = true → z_at p l e R s m args below meth c Q D cy base b n0 pc ls st h := by
      intro zz hzz ez k3
      subst ez
      rw [Bool.and_eq_true, Bool.and_eq_true] at k3
      obtain ⟨⟨k4, k5⟩, k6⟩ := k3
      have k4 := z_beq k4
      have e := z_beq k5
      subst e
      obtain ⟨w1, w2, w2b, w3, w4, w5, w8⟩ := z_mckI k6 k4
      have hr : z_sg (Nat.ble (z_mn x) st.length && Nat.ble (z_cats (st.drop (z_mn x))) 8) (z_rc h (st.take (z_mn x)).reverse (z_mc x) (z_rt (z_mr x) (C9 x (st.take (z_mn x)).reverse h) K pc ls (st.drop (z_mn x)))) = some r := by
        rcases hzz with rfl | rfl <;> exact hr
      obtain ⟨g1, hr⟩ := z_sg_some.mp hr
      obtain ⟨g2, g3⟩ := (Bool.and_eq_true _ _).mp g1
      have g2 := Nat.le_of_ble_eq_true g2
      have g3 := Nat.le_of_ble_eq_true g3
      generalize e1 : (st.take (z_mn x)).reverse = as0 at hr
      generalize e2 : st.drop (z_mn x) = rest at hr g3
      obtain ⟨hst, hlen⟩ := z_stk e1 e2 g2
      obtain ⟨a, as, r1, rfl, g4, hC1, hrt⟩ := z_rcs hr
      have w7 : z_mc x < 8 := z_mc_lt k6 k4
      obtain ⟨i, rfl, hi, hkd⟩ := z_ob_spec w7 g4
      have hM := hC _ _ _ _ k6 hC1
      have hge1 := hCge _ _ _ _ hC1
      have hge2 := z_rt_ge hge hrt
      have hz1 := z_sz_le hge1
      have hz2 := z_sz_le hge2
      have hcats := z_cats_map (base := base) (b := b) rest
      have hlen2 : as.length = z_mn x - 1 := by rw [List.length_cons] at hlen; omega
      have hwsn : z_ws x = Cond.code (z_yM x) (z_bM x) (z_ml x) none :: z_W := by unfold z_ws; rw [w2b]
      intro H locs mls cells slots a1 a2 a3 a4 a5 a6 a7
      have hz3 := z_sz_le a5
      have hstm : st.map (z_tv base b) = (as.map (z_tv base b)).reverse ++ .ref (base + i) :: rest.map (z_tv base b) := by
        rw [hst, List.map_append, List.map_reverse, List.map_cons, z_tv_ref, List.reverse_cons, List.append_assoc]
        rfl
      have hpre : PreS s H (va_Pc ((z_vr (i + 2) :: as).map (z_tv base b)) (z_Bw D cy base b sc h)) (.ref (base + i) :: as.map (z_tv base b)) := ⟨z_blind, fun U hU hW => ⟨by rw [List.map_cons, z_tv_ref], by rw [hU]; exact a1, by rw [hU]; exact a2, z_KK_warm hW hKK, z_SX_to hW hscr a3 hU⟩⟩
      have hrl : 8 + (z_ml x + 11) + (z_rm d (r1.2.1 - h.1) (z_sz r1.2.1 - z_sz h.1)).locals ≤ R.locals := by
        show 8 + (z_ml x + 11) + 64 * d ≤ R.locals
        omega
      rcases hzz with rfl | rfl
      · exact z_fin (h := h) (x := x) (r1 := r1) (rest := rest) (va_runI (As := as.map (z_tv base b)) (rest := rest.map (z_tv base b)) (b := base + i) (own := (z_yM M).cls) (nL := z_ml M) (cc := z_bM M) ⟨hx, hb, hml, hown, hts⟩ hM ⟨callB_of (z_mn x - 1) hts (z_good (z_mcwA x k6)) hwsn rfl rfl (hts _ w3) (hts _ (z_wp_W hw rfl)) w4 ⟨hRf, hrl⟩, w2, hts _ w1⟩ hpre rfl (by rw [List.length_map]; exact hlen2) (by rw [← hml]; exact a4.1) hstm (lv_room (by rw [hcats]; exact g3)) hdg ⟨by omega, by omega⟩) hrt hK hge1 a3 a4 a5 a6 a7
      · obtain ⟨kk, hkk, en1, en2, en3⟩ := z_nest_in (own := (z_yM M).cls) (n := n) (y := z_yM x) hw
        have hnw : va_Nw (.methodLinkNest (z_yM M).cls n (z_yM x) z_host) s := by
          rw [en1, en2, en3]
          exact hKK.2.1 kk hkk
        exact z_fin (h := h) (x := x) (r1 := r1) (rest := rest) (va_runIN (As := as.map (z_tv base b)) (rest := rest.map (z_tv base b)) (b := base + i) (own := (z_yM M).cls) (host := z_host) (nL := z_ml M) (cc := z_bM M) ⟨hx, hb, hml, hown, hts⟩ hM ⟨va_cnB (z_mn x - 1) hts (z_good (z_mcwA x k6)) hwsn rfl rfl hnw (hts _ w3) w4 ⟨hRf, hrl⟩, w2, hts _ w1⟩ hpre rfl (by rw [List.length_map]; exact hlen2) (by rw [← hml]; exact a4.1) hstm (lv_room (by rw [hcats]; exact g3)) hdg ⟨by omega, by omega⟩) hrt hK hge1 a3 a4 a5 a6 a7
    split at k3
    · -- Object's constructor
      have hr : z_pr st (fun a r => z_sg (Nat.ble (z_cats r) 8) (z_gd (!(Nat.beq a 0)) (K (pc + 3) ls r h))) = some r := hr
      obtain ⟨a, t, rfl, h2⟩ := z_pr_some.mp hr
      obtain ⟨g1, h2⟩ := z_sg_some.mp h2
      obtain ⟨g2, h2⟩ := z_gd_some.mp h2
      have g1 := Nat.le_of_ble_eq_true g1
      have g2 : ¬ a = 0 := by
        intro e
        subst e
        cases g2
      have hcats := z_cats_map (base := base) (b := b) t
      intro H locs mls cells slots a1 a2 a3 a4 a5 a6 a7
      have etv : z_tv base b (z_vr a) = .ref (z_ad base b a) := by
        show va_rf (z_ro base b a) = _
        unfold z_ro
        rw [if_neg g2]
        rfl
      rw [List.map_cons, etv]
      refine W.objInit hx hb hown (hts _ (z_wp_W hw rfl)) (hts _ (z_wp_W (q := (1, 17)) (by decide +kernel) rfl)) (hts _ (z_wp_W (q := (1, 18)) (by decide +kernel) rfl)) rfl a4.1 rfl hdg (by omega) (by show 2 * 0 + _ + 12 ≤ _; rw [hcats]; omega) ?_
      exact hK _ _ _ _ h2 H locs mls cells slots a1 a2 a3 a4 a5 a6 a7
    · exact hctor 2 (Or.inl rfl) rfl k3
    · exact hctor 3 (Or.inr rfl) rfl k3
    · cases k3
end SN5
