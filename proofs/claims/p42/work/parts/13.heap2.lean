theorem w_kd15 (a : Nat) (h : (w_kd a).1 = 15) : 0 < (w_kd a).2 := by
  have key : (w_kdl.all fun q => !(Nat.beq q.1 15) || Nat.blt 0 q.2) = true := by decide +kernel
  unfold w_kd at h ⊢
  split at h
  · rename_i q hq
    have := List.all_eq_true.mp key q (List.mem_of_getElem? hq)
    rw [h] at this
    simpa using this
  · cases h
section SN3
variable {p : Program} {l : Launch} {e : Env} {R : Room} {s : State} {m : MethodId} {args : Array Value} {below : List Frame} {meth : Method} {c : Code} {Q : State → Prop} {D : va_G} {cy : Nat → ClassId} {base b n0 : Nat} {sc : z_Sc} {M : Nat}
variable {pc len : Nat} {ls : z_Ls} {st : List z_V} {h : z_Hp} {ins : Jvm.ClassFile.Instr} {x y z : Nat} {K : z_K} {r : z_R}
theorem z_fv_sI {a y k z : Nat} {v : Int32} : z_fv base b (z_sI h a y v) a k z = (match z with
    | 1 => va_rf (z_ro base b (z_F h a k))
    | 2 => .long (z_J h a k)
    | _ => .int (if k = y then v else z_I h a k)) := by
  have e : z_I (z_sI h a y v) a k = if k = y then v else z_I h a k := by
    show z_row h.2.1 a (z_up (h.2.1 a) y v) a k = _
    rw [z_row_eq]
    rfl
  match z with
  | 0 => exact congrArg Value.int e
  | 1 => rfl
  | 2 => rfl
  | n + 3 => exact congrArg Value.int e
theorem z_fv_sF {a y k z : Nat} {v : Nat} : z_fv base b (z_sF h a y v) a k z = (match z with
    | 1 => va_rf (z_ro base b (if k = y then v else z_F h a k))
    | 2 => .long (z_J h a k)
    | _ => .int (z_I h a k)) := by
  have e : z_F (z_sF h a y v) a k = if k = y then v else z_F h a k := by
    show z_row h.2.2.1 a (z_up (h.2.2.1 a) y v) a k = _
    rw [z_row_eq]
    rfl
  match z with
  | 0 => rfl
  | 1 => exact congrArg (fun w => va_rf (z_ro base b w)) e
  | 2 => rfl
  | n + 3 => rfl
theorem z_fv_sJ {a y k z : Nat} {v : Int64} : z_fv base b (z_sJ h a y v) a k z = (match z with
    | 1 => va_rf (z_ro base b (z_F h a k))
    | 2 => .long (if k = y then v else z_J h a k)
    | _ => .int (z_I h a k)) := by
  have e : z_J (z_sJ h a y v) a k = if k = y then v else z_J h a k := by
    show z_row h.2.2.2 a (z_up (h.2.2.2 a) y v) a k = _
    rw [z_row_eq]
    rfl
  match z with
  | 0 => rfl
  | 1 => rfl
  | 2 => exact congrArg Value.long e
  | n + 3 => rfl
theorem z_vpin {i : Int32} {n : Nat} (h1 : ¬ i < 0) (h2 : i.toNatClampNeg < n) : vp_in i n := fun q => q.elim h1 (fun q => by omega)
/-- a row of ints (bytes, booleans) after a place was written -/
theorem z_ast_end {H : Heap} {locs : List Loc} {mls : Array Slot} {cells slots : Nat} {t : List z_V} (hX : z_Cx p s m args meth c D cy base b sc M) {k tg : Nat} {j : Nat} {v : Int32} (hi : k < h.1) (hkd : (w_kd (k + 2)).1 = tg) (ht : ¬ tg < 8) (ht11 : tg = 10 ∨ tg = 12 ∨ tg = 13)
    (kk : z_at p l e R s m args below meth c Q D cy base b n0 (pc + 1) ls t (z_sI h (k + 2) j v)) (a1 : H.size = base + h.1) (a2 : va_P D vwCl (z_wl cy base b h) H) (a3 : va_S (fun q => base ≤ q) s.heap H locs) (a4 : z_lv base b mls c.maxLocals ls) (a5 : n0 ≤ h.1) (a6 : cells = h.1 - n0) (a7 : slots = z_sz h.1 - z_sz n0) :
    ∀ H1 : Heap, H1[base + k]? = some ((vp_cell (cy tg) ((w_kd (k + 2)).2, .inl (h.2.1 (k + 2)))).setSlot j (.int v)) → H1.size = H.size → (∀ q, q ≠ base + k → H1[q]? = H[q]?) → W p l e R s m args below meth c H1 (locs ++ [⟨base + k, j⟩]) cells slots Q (F0 m (pc + 1) mls (t.map (z_tv base b))) := by
  intro H1 e1 e2 e3
  refine kk H1 _ mls cells slots (by rw [e2, a1]; rfl) (z_wput a2 rfl z_sI_cel ?_ e3) (a3.put e2 e3 (Nat.le_add_right _ _)) a4 a5 a6 a7
  refine z_arrTo hkd ht ?_
  have e4 : z_arr base b (z_sI h (k + 2) j v) (k + 2) tg (w_kd (k + 2)).2 = ((w_kd (k + 2)).2, .inl (z_up (h.2.1 (k + 2)) j v)) := by
    rcases ht11 with rfl | rfl | rfl <;> (show (_, Sum.inl ((z_sI h (k + 2) j v).2.1 (k + 2))) = _; show (_, Sum.inl (z_row h.2.1 (k + 2) _ (k + 2))) = _; rw [z_row_eq])
  rw [e4, e1, vp_cell_i, vp_cell_i, arrV_store]
  congr 2
  funext q
  unfold updV z_up
  split <;> rfl
theorem z_sn3 (X : z_Cx p s m args meth c D cy base b sc M) (hdg : decode (z_bM M) pc = .ok (ins, len)) (hok : z_sok M pc len 3 ins x y z = true) {q : Nat × Nat} (hw : z_wp q = z_wd (z_yM M).cls ins x y z) (hr : z_i3 sc K ins x y z pc ls st h = some r) (hK : ∀ pc' ls' st' h', K pc' ls' st' h' = some r → z_at p l e R s m args below meth c Q D cy base b n0 pc' ls' st' h')
    (hge : ∀ pc' ls' st' h', K pc' ls' st' h' = some r → h'.1 ≤ r.2.1) (hRc : r.2.1 - n0 ≤ R.cells) (hRs : z_sz r.2.1 - z_sz n0 ≤ R.slots) : z_at p l e R s m args below meth c Q D cy base b n0 pc ls st h := by
  have XX := X
  obtain ⟨hx, hb, hml, hown, hts, hKK, hin, hscr, hbs⟩ := X
  unfold z_i3 at hr
  split at hr
  · -- getfield
    rename_i n
    unfold z_sok at hok
    simp only [Bool.and_eq_true, Nat.blt_eq] at hok
    obtain ⟨⟨⟨⟨k1, -⟩, k3⟩, k4⟩, k5⟩ := hok
    have e := z_beq k1
    subst e
    have e := z_beq k5
    subst e
    obtain ⟨a, t, rfl, h2⟩ := z_pr_some.mp hr
    obtain ⟨g, h5⟩ := z_gd_some.mp h2
    obtain ⟨i, rfl, hi, hkd⟩ := z_ob_spec k3 g
    obtain ⟨o1, o2, o3, o4⟩ := z_cOK x k3
    intro H locs mls cells slots a1 a2 a3 a4 a5 a6 a7
    have h3 := hK _ _ _ _ h5 H locs mls cells slots a1 a2 a3 a4 a5 a6 a7
    rw [List.map_cons, z_tv_gv] at h3
    rw [List.map_cons, z_tv_ref]
    exact va_get (ws := z_wl cy base b h) (ci := x) hx hb hts o2 hown hKK.1 a2 i (by rw [z_wl_get hi, z_cel_ob hkd k3]) o1 y k4 (hts _ (z_wp_W hw rfl)) (fun w h9 => by rw [← z_cT1 x y k3 k4]; exact h9) (z_fs_at k4) hdg h3
  · -- putfield
    rename_i n
    have hok' := hok
    unfold z_sok at hok
    simp only [Bool.and_eq_true, Nat.blt_eq] at hok
    obtain ⟨⟨⟨⟨-, -⟩, k3⟩, k4⟩, k5⟩ := hok.1
    have e := z_beq k5
    have hty := z_cYk x y k3 k4
    rw [← e] at hty
    split at hr
    · obtain ⟨v, t, rfl, h2⟩ := z_pi_some.mp hr
      obtain ⟨a, t, rfl, h2⟩ := z_pr_some.mp h2
      obtain ⟨g, h5⟩ := z_gd_some.mp h2
      obtain ⟨i, rfl, hi, hkd⟩ := z_ob_spec k3 g
      have hty : z_cY x y = .int := of_decide_eq_true hty
      refine z_put XX hdg hok' hw (v := z_vi v) (h' := z_sI h (i + 2) y v) g rfl z_sI_cel (by rw [hty]; rfl) (by rw [hty]; rfl) (fun k hk => ?_) (hK _ _ _ _ h5)
      rw [z_fv_sI]
      by_cases ek : k = y
      · subst ek
        rw [← e, if_pos rfl, if_pos rfl]
        rfl
      · rw [if_neg ek, if_neg ek]
        rfl
    · obtain ⟨v, t, rfl, h2⟩ := z_pr_some.mp hr
      obtain ⟨a, t, rfl, h2⟩ := z_pr_some.mp h2
      obtain ⟨g, h5⟩ := z_gd_some.mp h2
      obtain ⟨i, rfl, hi, hkd⟩ := z_ob_spec k3 g
      have hf := z_ref_fits (base := base) (b := b) (a := v) hty
      refine z_put XX hdg hok' hw (v := z_vr v) (h' := z_sF h (i + 2) y v) g rfl z_sF_cel hf.1 hf.2 (fun k hk => ?_) (hK _ _ _ _ h5)
      rw [z_fv_sF]
      by_cases ek : k = y
      · subst ek
        rw [← e, if_pos rfl, if_pos rfl]
        rfl
      · rw [if_neg ek, if_neg ek]
        rfl
    · obtain ⟨v, t, rfl, h2⟩ := z_pl_some.mp hr
      obtain ⟨a, t, rfl, h2⟩ := z_pr_some.mp h2
      obtain ⟨g, h5⟩ := z_gd_some.mp h2
      obtain ⟨i, rfl, hi, hkd⟩ := z_ob_spec k3 g
      have hty : z_cY x y = .long := of_decide_eq_true hty
      refine z_put XX hdg hok' hw (v := z_vl v) (h' := z_sJ h (i + 2) y v) g rfl z_sJ_cel (by rw [hty]; rfl) (by rw [hty]; rfl) (fun k hk => ?_) (hK _ _ _ _ h5)
      rw [z_fv_sJ]
      by_cases ek : k = y
      · subst ek
        rw [← e, if_pos rfl, if_pos rfl]
        rfl
      · rw [if_neg ek, if_neg ek]
        rfl
    · rename_i z0 z1 z2
      obtain ⟨v, t, rfl, h2⟩ := z_pi_some.mp hr
      obtain ⟨a, t, rfl, h2⟩ := z_pr_some.mp h2
      obtain ⟨g, h5⟩ := z_gd_some.mp h2
      rw [Bool.and_eq_true] at g
      obtain ⟨g, gb⟩ := g
      obtain ⟨i, rfl, hi, hkd⟩ := z_ob_spec k3 g
      have hz : z = 3 := by
        match z, hty with
        | 0, _ => exact absurd rfl z0
        | 1, _ => exact absurd rfl z1
        | 2, _ => exact absurd rfl z2
        | 3, _ => rfl
        | n + 4, hty => cases hty
      subst hz
      have hty : z_cY x y = .boolean := of_decide_eq_true hty
      have hvb := z_bo_of gb
      refine z_put XX hdg hok' hw (v := z_vi v) (h' := z_sI h (i + 2) y v) g rfl z_sI_cel (by rw [hty]; show narrow .boolean (.int v) = .int v; rcases hvb with rfl | rfl <;> decide) (by rw [hty]; show fits .boolean (.int v) = true; rcases hvb with rfl | rfl <;> decide) (fun k hk => ?_) (hK _ _ _ _ h5)
      rw [z_fv_sI]
      by_cases ek : k = y
      · subst ek
        rw [← e, if_pos rfl, if_pos rfl]
        rfl
      · rw [if_neg ek, if_neg ek]
        rfl
  · -- iaload
    split at hr
    · unfold z_sok at hok
      simp only [Bool.and_eq_true] at hok
      obtain ⟨k1, -⟩ := hok
      have e := z_beq k1
      subst e
      obtain ⟨i, t, rfl, h2⟩ := z_pi_some.mp hr
      obtain ⟨a, t, rfl, h2⟩ := z_pr_some.mp h2
      obtain ⟨g, h5⟩ := z_gd_some.mp h2
      rw [Bool.and_eq_true] at g
      have ea := z_beq g.1
      subst ea
      obtain ⟨g1, g2⟩ := z_in_spec g.2
      obtain ⟨s1, s2, s3⟩ := hscr
      intro H locs mls cells slots a1 a2 a3 a4 a5 a6 a7
      exact va_sld hx hb s1 s2 (by show ¬ base ≤ b; omega) a3 (z_vpin g1 g2) hdg (hK _ _ _ _ h5 H locs mls cells slots a1 a2 a3 a4 a5 a6 a7)
    · have k1 : Nat.beq len 1 = true := by
        unfold z_sok at hok
        simp only [Bool.and_eq_true] at hok
        exact hok.1
      have e := z_beq k1
      subst e
      obtain ⟨i, t, rfl, h2⟩ := z_pi_some.mp hr
      obtain ⟨a, t, rfl, h2⟩ := z_pr_some.mp h2
      obtain ⟨g, h5⟩ := z_gd_some.mp h2
      obtain ⟨k, rfl, hi, hkd, g1, g2⟩ := z_ar_spec (by omega) g
      intro H locs mls cells slots a1 a2 a3 a4 a5 a6 a7
      rw [List.map_cons, List.map_cons, z_tv_ref]
      exact va_iald (ws := z_wl cy base b h) hx hb hKK.1 a2 k 0 (cA := cy 10) (n := (w_kd (k + 2)).2) (f := h.2.1 (k + 2)) (by rw [z_wl_get hi, z_cel_ar hkd (by omega)]; rfl) rfl (z_vpin g1 g2) hdg (hK _ _ _ _ h5 H locs mls cells slots a1 a2 a3 a4 a5 a6 a7)
  · -- baload
    unfold z_sok at hok
    simp only [Bool.and_eq_true] at hok
    obtain ⟨⟨k1, -⟩, k3⟩ := hok
    have e := z_beq k1
    subst e
    obtain ⟨i, t, rfl, h2⟩ := z_pi_some.mp hr
    obtain ⟨a, t, rfl, h2⟩ := z_pr_some.mp h2
    obtain ⟨g, h5⟩ := z_gd_some.mp h2
    have hx9 : x = 13 := z_beq k3
    subst hx9
    obtain ⟨k, rfl, hi, hkd, g1, g2⟩ := z_ar_spec (by omega) g
    intro H locs mls cells slots a1 a2 a3 a4 a5 a6 a7
    rw [List.map_cons, List.map_cons, z_tv_ref]
    exact va_zald (ws := z_wl cy base b h) hx hb hKK.1 a2 k 2 (cA := cy 13) (n := (w_kd (k + 2)).2) (f := h.2.1 (k + 2)) (by rw [z_wl_get hi, z_cel_ar hkd (by omega)]; rfl) rfl (z_vpin g1 g2) hdg (hK _ _ _ _ h5 H locs mls cells slots a1 a2 a3 a4 a5 a6 a7)
  · -- laload
    unfold z_sok at hok
    simp only [Bool.and_eq_true] at hok
    have e := z_beq hok.1
    subst e
    obtain ⟨i, t, rfl, h2⟩ := z_pi_some.mp hr
    obtain ⟨a, t, rfl, h2⟩ := z_pr_some.mp h2
    obtain ⟨g, h5⟩ := z_gd_some.mp h2
    obtain ⟨k, rfl, hi, hkd, g1, g2⟩ := z_ar_spec (by omega) g
    intro H locs mls cells slots a1 a2 a3 a4 a5 a6 a7
    rw [List.map_cons, List.map_cons, z_tv_ref]
    exact va_lald (ws := z_wl cy base b h) hx hb hKK.1 a2 k 1 (cA := cy 11) (n := (w_kd (k + 2)).2) (f := h.2.2.2 (k + 2)) (by rw [z_wl_get hi, z_cel_ar hkd (by omega)]; rfl) rfl (z_vpin g1 g2) hdg (hK _ _ _ _ h5 H locs mls cells slots a1 a2 a3 a4 a5 a6 a7)
  · -- aaload
    unfold z_sok at hok
    simp only [Bool.and_eq_true, Bool.or_eq_true] at hok
    obtain ⟨⟨k1, -⟩, k3⟩ := hok
    have e := z_beq k1
    subst e
    obtain ⟨i, t, rfl, h2⟩ := z_pi_some.mp hr
    obtain ⟨a, t, rfl, h2⟩ := z_pr_some.mp h2
    obtain ⟨g, h5⟩ := z_gd_some.mp h2
    have hx9 : x = 14 ∨ x = 15 := k3.imp z_beq z_beq
    obtain ⟨k, rfl, hi, hkd, g1, g2⟩ := z_ar_spec (by omega) g
    intro H locs mls cells slots a1 a2 a3 a4 a5 a6 a7
    rw [List.map_cons, List.map_cons, z_tv_ref]
    rcases hx9 with rfl | rfl
    · exact va_aldq (ws := z_wl cy base b h) hx hb hKK.1 a2 k 3 (cA := cy 14) (C := RX4) (n := (w_kd (k + 2)).2) (f := fun j => z_ro base b (h.2.2.1 (k + 2) j)) (by rw [z_wl_get hi, z_cel_ar hkd (by omega)]; rfl) rfl (z_vpin g1 g2) hdg (hK _ _ _ _ h5 H locs mls cells slots a1 a2 a3 a4 a5 a6 a7)
    · have hcl := z_arrAt a2 hi hkd (by omega)
      exact W.aald (v := va_rf (z_ro base b (h.2.2.1 (k + 2) i.toNatClampNeg))) (ty := .array .int) hx hb hcl ((hKK.1.2 4 _ rfl).1 (w_kd (k + 2)).2 (fun j => va_rf (z_ro base b (h.2.2.1 (k + 2) j)))) rfl (fun q => by cases q) (by show ¬ (i < 0 ∨ (arrV _ _ _).slots.size ≤ _); rw [arrV_size]; exact z_vpin g1 g2) (arrV_read (cy 15) (fun j => va_rf (z_ro base b (h.2.2.1 (k + 2) j))) g2) rfl rfl hdg (hK _ _ _ _ h5 H locs mls cells slots a1 a2 a3 a4 a5 a6 a7)
  · -- iastore
    unfold z_sok at hok
    simp only [Bool.and_eq_true] at hok
    have e := z_beq hok.1
    subst e
    obtain ⟨v, t, rfl, h2⟩ := z_pi_some.mp hr
    obtain ⟨i, t, rfl, h2⟩ := z_pi_some.mp h2
    obtain ⟨a, t, rfl, h2⟩ := z_pr_some.mp h2
    obtain ⟨g, h5⟩ := z_gd_some.mp h2
    obtain ⟨k, rfl, hi, hkd, g1, g2⟩ := z_ar_spec (by omega) g
    intro H locs mls cells slots a1 a2 a3 a4 a5 a6 a7
    rw [List.map_cons, List.map_cons, List.map_cons, z_tv_ref]
    have hcl := z_arrAt a2 hi hkd (by omega)
    exact W.iast hx hb hcl ((hKK.1.2 0 _ rfl).1 (w_kd (k + 2)).2 (fun j => .int (h.2.1 (k + 2) j))) (fun q => by cases q) (by show ¬ (i < 0 ∨ (arrV _ _ _).slots.size ≤ _); rw [arrV_size]; exact z_vpin g1 g2) rfl rfl hdg (z_ast_end XX hi hkd (by omega) (Or.inl rfl) (hK _ _ _ _ h5) a1 a2 a3 a4 a5 a6 a7)
  · -- bastore
    have k1 : Nat.beq len 1 = true := by
      unfold z_sok at hok
      simp only [Bool.and_eq_true] at hok
      exact hok.1.1
    have e := z_beq k1
    subst e
    have hx13 : x = 13 := by
      unfold z_sok at hok
      simp only [Bool.and_eq_true] at hok
      exact z_beq hok.2
    split at hr
    · exact absurd hx13 (by decide)
    · obtain ⟨v, t, rfl, h2⟩ := z_pi_some.mp hr
      obtain ⟨i, t, rfl, h2⟩ := z_pi_some.mp h2
      obtain ⟨a, t, rfl, h2⟩ := z_pr_some.mp h2
      obtain ⟨g, h5⟩ := z_gd_some.mp h2
      rw [Bool.and_eq_true] at g
      obtain ⟨g, gb⟩ := g
      obtain ⟨k, rfl, hi, hkd, g1, g2⟩ := z_ar_spec (by omega) g
      intro H locs mls cells slots a1 a2 a3 a4 a5 a6 a7
      rw [List.map_cons, List.map_cons, List.map_cons, z_tv_ref]
      have hcl := z_arrAt a2 hi hkd (by omega)
      have hnb : narrow .boolean (.int v) = .int v := by rcases z_bo_of gb with rfl | rfl <;> decide
      refine W.zast hx hb hcl ((hKK.1.2 2 _ rfl).1 (w_kd (k + 2)).2 (fun j => .int (h.2.1 (k + 2) j))) (fun q => by cases q) (by show ¬ (i < 0 ∨ (arrV _ _ _).slots.size ≤ _); rw [arrV_size]; exact z_vpin g1 g2) rfl rfl hdg ?_
      rw [hnb]
      exact z_ast_end XX hi hkd (by omega) (Or.inr (Or.inr rfl)) (hK _ _ _ _ h5) a1 a2 a3 a4 a5 a6 a7
  · -- lastore
    unfold z_sok at hok
    simp only [Bool.and_eq_true] at hok
    have e := z_beq hok.1
    subst e
    obtain ⟨v, t, rfl, h2⟩ := z_pl_some.mp hr
    obtain ⟨i, t, rfl, h2⟩ := z_pi_some.mp h2
    obtain ⟨a, t, rfl, h2⟩ := z_pr_some.mp h2
    obtain ⟨g, h5⟩ := z_gd_some.mp h2
    obtain ⟨k, rfl, hi, hkd, g1, g2⟩ := z_ar_spec (by omega) g
    intro H locs mls cells slots a1 a2 a3 a4 a5 a6 a7
    rw [List.map_cons, List.map_cons, List.map_cons, z_tv_ref]
    have hcl := z_arrAt a2 hi hkd (by omega)
    refine W.last hx hb hcl ((hKK.1.2 1 _ rfl).1 (w_kd (k + 2)).2 (fun j => .long (h.2.2.2 (k + 2) j))) (fun q => by cases q) (by show ¬ (i < 0 ∨ (arrV _ _ _).slots.size ≤ _); rw [arrV_size]; exact z_vpin g1 g2) rfl rfl hdg fun H1 e1 e2 e3 => ?_
    refine hK _ _ _ _ h5 H1 _ mls cells slots (by rw [e2, a1]; rfl) (z_wput a2 rfl z_sJ_cel ?_ e3) (a3.put e2 e3 (Nat.le_add_right _ _)) a4 a5 a6 a7
    refine z_arrTo hkd (by omega) ?_
    have e4 : z_arr base b (z_sJ h (k + 2) i.toNatClampNeg v) (k + 2) 11 (w_kd (k + 2)).2 = ((w_kd (k + 2)).2, .inr (.inl (z_up (h.2.2.2 (k + 2)) i.toNatClampNeg v))) := by
      show (_, Sum.inr (Sum.inl (z_row h.2.2.2 (k + 2) _ (k + 2)))) = _
      rw [z_row_eq]
    rw [e4, e1]
    show some ((vp_cell (cy 11) ((w_kd (k + 2)).2, .inr (.inl (h.2.2.2 (k + 2))))).setSlot _ _) = _
    rw [vp_cell_l, vp_cell_l, arrV_store]
    congr 2
    funext q
    unfold updV z_up
    split <;> rfl
  · -- aastore
    unfold z_sok at hok
    simp only [Bool.and_eq_true] at hok
    have e := z_beq hok.1
    subst e
    obtain ⟨v, t, rfl, h2⟩ := z_pr_some.mp hr
    obtain ⟨i, t, rfl, h2⟩ := z_pi_some.mp h2
    obtain ⟨a, t, rfl, h2⟩ := z_pr_some.mp h2
    obtain ⟨g, h5⟩ := z_gd_some.mp h2
    rw [Bool.and_eq_true] at g
    obtain ⟨g, gv⟩ := g
    obtain ⟨k, rfl, hi, hkd, g1, g2⟩ := z_ar_spec (by omega) g
    obtain ⟨w, rfl, hw9, hwk⟩ := z_ob_spec (by omega) gv
    intro H locs mls cells slots a1 a2 a3 a4 a5 a6 a7
    rw [List.map_cons, List.map_cons, List.map_cons, z_tv_ref, z_tv_ref]
    have hcl := z_arrAt a2 hi hkd (by omega)
    obtain ⟨cellV, v1, v2, v3, -⟩ := z_clsAt a2 hw9 hwk (by omega)
    have hcls := (hKK.1.1 4 _ rfl).2
    obtain ⟨kA, comp, f1, f2, f3, -⟩ := (hKK.1.2 3 _ rfl).2
    have hcomp : comp = D.1 4 := Option.some.inj (f3.symm.trans hcls.1)
    subst hcomp
    obtain ⟨kC, hkC, -⟩ := hcls.2
    refine W.aast hx hb hcl (fun q h => by cases h) (fun h => by cases h) f1 f2 rfl hkC ⟨g1, by show _ < (arrV _ _ _).slots.size; rw [arrV_size]; exact g2⟩ v1 (fun q h => by rw [v3] at h; cases h) (by rw [v2]; exact hkC) (by rw [v2]; exact va_assign hcls) rfl rfl hdg fun H1 e1 e2 e3 => ?_
    refine hK _ _ _ _ h5 H1 _ mls cells slots (by rw [e2, a1]; rfl) (z_wput a2 rfl z_sF_cel ?_ e3) (a3.put e2 e3 (Nat.le_add_right _ _)) a4 a5 a6 a7
    refine z_arrTo hkd (by omega) ?_
    have e4 : z_arr base b (z_sF h (k + 2) i.toNatClampNeg (w + 2)) (k + 2) 14 (w_kd (k + 2)).2 = ((w_kd (k + 2)).2, .inr (.inr (.inr (.inr (fun j => z_ro base b (z_up (h.2.2.1 (k + 2)) i.toNatClampNeg (w + 2) j)))))) := by
      show (_, Sum.inr (Sum.inr (Sum.inr (Sum.inr (fun j => z_ro base b (z_row h.2.2.1 (k + 2) _ (k + 2) j)))))) = _
      rw [z_row_eq]
    rw [e4, e1]
    show some ((vp_cell (cy 14) ((w_kd (k + 2)).2, .inr (.inr (.inr (.inr (fun j => z_ro base b (h.2.2.1 (k + 2) j))))))).setSlot _ _) = _
    rw [vp_cell_q, vp_cell_q, arrV_store]
    congr 2
    funext q
    unfold updV z_up
    split
    · rw [z_ro_ref]; rfl
    · rfl
  · -- arraylength
    split at hr
    · unfold z_sok at hok
      simp only [Bool.and_eq_true] at hok
      obtain ⟨⟨k1, -⟩, k3⟩ := hok
      have e := z_beq k1
      subst e
      obtain ⟨a, t, rfl, h2⟩ := z_pr_some.mp hr
      obtain ⟨g, h5⟩ := z_gd_some.mp h2
      have ea := z_beq g
      subst ea
      obtain ⟨s1, s2, s3⟩ := hscr
      intro H locs mls cells slots a1 a2 a3 a4 a5 a6 a7
      exact va_slen hx hb s1 s2 (by show ¬ base ≤ b; omega) a3 hdg (hK _ _ _ _ h5 H locs mls cells slots a1 a2 a3 a4 a5 a6 a7)
    · unfold z_sok at hok
      simp only [Bool.and_eq_true] at hok
      obtain ⟨⟨k1, -⟩, k3⟩ := hok
      have e := z_beq k1
      subst e
      split at k3
      · exact absurd rfl (by assumption)
      · obtain ⟨a, t, rfl, h2⟩ := z_pr_some.mp hr
        obtain ⟨g, h5⟩ := z_gd_some.mp h2
        simp only [Bool.and_eq_true, Nat.blt_eq] at g
        have g1 := z_beq g.1
        have := w_kd_small (a := a) (by omega)
        obtain ⟨k, rfl⟩ : ∃ k, a = k + 2 := ⟨a - 2, by omega⟩
        intro H locs mls cells slots a1 a2 a3 a4 a5 a6 a7
        rw [List.map_cons, z_tv_ref]
        exact va_alen (ws := z_wl cy base b h) hx hb hKK.1 a2 k 0 (cA := cy 10) (x := ((w_kd (k + 2)).2, .inl (h.2.1 (k + 2)))) (by rw [z_wl_get (by omega), z_cel_ar g1 (by omega)]; rfl) rfl rfl hdg (hK _ _ _ _ h5 H locs mls cells slots a1 a2 a3 a4 a5 a6 a7)
      · cases k3
  · -- new
    rename_i n
    unfold z_sok at hok
    simp only [Bool.and_eq_true, Nat.blt_eq] at hok
    obtain ⟨⟨k1, -⟩, k3⟩ := hok
    have e := z_beq k1
    subst e
    obtain ⟨g, h5⟩ := z_gd_some.mp hr
    have g := z_beq g
    have hg1 : h.1 + 1 ≤ r.2.1 := hge _ _ _ _ h5
    intro H locs mls cells slots a1 a2 a3 a4 a5 a6 a7
    obtain ⟨o1, o2, o3, o4⟩ := z_cOK x k3
    obtain ⟨i1, i2⟩ := z_inst x k3
    have hKn := hKK.1.1 x _ o1
    have hlen : (w_kd (h.1 + 2)).2 = z_cN x := by
      rw [w_kd_len (h.1 + 2) (by rw [g]; exact k3), g]
    have hz1 : z_sz (h.1 + 1) = z_sz h.1 + z_cN x := by
      show z_sz h.1 + (w_kd (h.1 + 2)).2 = _
      rw [hlen]
    have hz2 := z_sz_le hg1
    have hz3 := z_sz_le a5
    refine W.newcK hx hb hown (hts _ (z_wp_W hw rfl)) (hts _ i1) (hts _ i2) rfl hdg (by omega) (by omega) hKn.2.1 rfl fun H1 kC hkC e1 z1 p1 => ?_
    refine z_new1 (hK _ _ _ _ h5) z1 (z_clsTo g k3 ?_) p1 hlen a1 a2 a3 a4 a5 a6 a7
    rw [a1] at e1
    refine (u_born (z_cY x) hts o2 hKn hkC e1 o3).to fun k hk => ?_
    rw [z_fs_V hk, z_fv_nw]
    exact z_dflt (z_cYk x k k3 hk)
  · -- newarray
    rename_i at9
    obtain ⟨n, t, rfl, h2⟩ := z_pi_some.mp hr
    obtain ⟨g, h5⟩ := z_gd_some.mp h2
    simp only [Bool.and_eq_true] at g
    obtain ⟨g1, g2, g3⟩ := g
    have g1 := z_beq g1
    have g3 := z_beq g3
    have g2 : ¬ n < 0 := by simpa using g2
    have hg1 : h.1 + 1 ≤ r.2.1 := hge _ _ _ _ h5
    have hty : len = 2 ∧ ((x = 10 ∧ newarray.typeOf at9 = .int ∨ x = 11 ∧ newarray.typeOf at9 = .long ∨ x = 13 ∧ newarray.typeOf at9 = .boolean) ∧ Cond.arrayClass (newarray.typeOf at9) ∈ z_W) := by
      unfold z_sok at hok
      simp only [Bool.and_eq_true] at hok
      obtain ⟨⟨k1, -⟩, k3⟩ := hok
      refine ⟨z_beq k1, ?_⟩
      cases at9 <;> first | (cases k3; done) | skip
      all_goals first
        | exact ⟨Or.inl ⟨z_beq k3, rfl⟩, z_arI⟩
        | exact ⟨Or.inr (Or.inl ⟨z_beq k3, rfl⟩), z_arJ⟩
        | exact ⟨Or.inr (Or.inr ⟨z_beq k3, rfl⟩), z_arZ⟩
    obtain ⟨e, ht, hwa⟩ := hty
    subst e
    intro H locs mls cells slots a1 a2 a3 a4 a5 a6 a7
    have hz1 : z_sz (h.1 + 1) = z_sz h.1 + n.toNatClampNeg := by
      show z_sz h.1 + (w_kd (h.1 + 2)).2 = _
      rw [g3]
    have hz2 := z_sz_le hg1
    have hz3 := z_sz_le a5
    have hle := w_kd_le (h.1 + 2)
    have hcb : componentBytes (newarray.typeOf at9) ≤ 8 := by cases at9 <;> decide
    have hby : n.toNatClampNeg * componentBytes (newarray.typeOf at9) ≤ 536870912 := Nat.le_trans (Nat.mul_le_mul (show n.toNatClampNeg ≤ 500 by omega) hcb) (by decide)
    refine va_newaK hx hb (hts _ hwa) rfl hdg rfl g2 rfl hby (by omega) (by omega) rfl fun H1 cA e1 z1 p1 hAr hNm => ?_
    have hcA := z_newA (at9 := at9) hKK ht hNm
    subst hcA
    exact z_new1 (hK _ _ _ _ h5) z1 (z_newN g1 g3 ht a1 e1) p1 g3 a1 a2 a3 a4 a5 a6 a7
  · -- anewarray
    rename_i idx
    unfold z_sok at hok
    simp only [Bool.and_eq_true] at hok
    have e := z_beq hok.1
    subst e
    obtain ⟨n, t, rfl, h2⟩ := z_pi_some.mp hr
    obtain ⟨g, h5⟩ := z_gd_some.mp h2
    simp only [Bool.and_eq_true] at g
    obtain ⟨g1, g2, g3⟩ := g
    have g1 := z_beq g1
    have g3 := z_beq g3
    have g2 : ¬ n < 0 := by simpa using g2
    have hg1 : h.1 + 1 ≤ r.2.1 := hge _ _ _ _ h5
    intro H locs mls cells slots a1 a2 a3 a4 a5 a6 a7
    have hz1 : z_sz (h.1 + 1) = z_sz h.1 + n.toNatClampNeg := by
      show z_sz h.1 + (w_kd (h.1 + 2)).2 = _
      rw [g3]
    have hz2 := z_sz_le hg1
    have hz3 := z_sz_le a5
    have hle := w_kd_le (h.1 + 2)
    refine W.anew hx hb hown (hts _ (z_wp_W hw rfl)) (va_AO.use hKK.2.2.1) rfl hdg rfl g2 (by omega) (by omega) (by omega) fun cA kA comp f1 f2 f3 f4 => ?_
    obtain ⟨-, -, -, -, -, f5⟩ := (hKK.1.2 3 _ rfl).2
    have hcA : cA = cy 14 := Option.some.inj (f1.symm.trans f5)
    subst hcA
    refine z_new1 (hK _ _ _ _ h5) (by rw [Array.size_push]) (z_arrTo g1 (by omega) ?_) (fun q hq => by rw [Array.getElem?_push, if_neg (Nat.ne_of_lt hq)]) g3 a1 a2 a3 a4 a5 a6 a7
    rw [← a1, Array.getElem?_push_size, arrV_new, g3]
    show _ = some (arrV (cy 14) _ (fun j => va_rf (z_ro base b ((z_nw h).2.2.1 (h.1 + 2) j))))
    have e5 : (z_nw h).2.2.1 (h.1 + 2) = fun _ => 0 := z_row_eq
    rw [e5]
    rfl
  · -- multianewarray
    rename_i idx dd
    unfold z_sok at hok
    simp only [Bool.and_eq_true] at hok
    obtain ⟨⟨k1, -⟩, k3⟩ := hok
    have e := z_beq k1
    subst e
    have e := z_beq k3
    subst e
    obtain ⟨k, t, rfl, h2⟩ := z_pi_some.mp hr
    obtain ⟨n, t, rfl, h2⟩ := z_pi_some.mp h2
    obtain ⟨g, h5⟩ := z_gd_some.mp h2
    simp only [Bool.and_eq_true] at g
    obtain ⟨⟨g1, g2, g3⟩, g4, g5⟩ := g
    have g1 := z_beq g1
    have g3 := z_beq g3
    have g2 : ¬ n < 0 := by simpa using g2
    have g4 : ¬ k < 0 := by simpa using g4
    have g6 : ∀ j, j < n.toNatClampNeg → (w_kd (h.1 + 3 + j)).1 = 10 ∧ (w_kd (h.1 + 3 + j)).2 = k.toNatClampNeg := fun j hj => by
      have := List.all_eq_true.mp g5 j (List.mem_range.mpr hj)
      rw [Bool.and_eq_true] at this
      exact ⟨z_beq this.1, z_beq this.2⟩
    have hg1 : h.1 + 1 + n.toNatClampNeg ≤ r.2.1 := hge _ _ _ _ h5
    intro H locs mls cells slots a1 a2 a3 a4 a5 a6 a7
    have hz1 : z_sz (h.1 + 1 + n.toNatClampNeg) = z_sz h.1 + n.toNatClampNeg + n.toNatClampNeg * k.toNatClampNeg := by
      rw [z_sz_mul (n := h.1 + 1) (N := n.toNatClampNeg) (K := k.toNatClampNeg) n.toNatClampNeg (Nat.le_refl _) (fun j hj => by rw [show h.1 + 1 + 2 + j = h.1 + 3 + j by omega]; exact (g6 j hj).2)]
      show z_sz h.1 + (w_kd (h.1 + 2)).2 + _ = _
      rw [g3]
    have hz2 := z_sz_le hg1
    have hz3 := z_sz_le a5
    have hle := w_kd_le (h.1 + 2)
    have hn0 : 0 < n.toNatClampNeg := by
      have := w_kd15 _ g1
      omega
    have hkl : k.toNatClampNeg ≤ 500 := by
      have := w_kd_le (h.1 + 3 + 0)
      rw [(g6 0 hn0).2] at this
      exact this
    exact z_mnew hx hb hown (hts _ (z_wp_W hw rfl)) hKK.2.2.2 (hts _ z_arI) hdg g2 g4 (by omega) (by omega) (by omega) (by omega) fun H1 cA cB f1 f2 z1 e1 e2 p1 => z_new2 hKK (hK _ _ _ _ h5) g1 g3 g6 f1 f2 z1 e1 e2 p1 a1 a2 a3 a4 a5 a6 a7
  · cases hr
end SN3
