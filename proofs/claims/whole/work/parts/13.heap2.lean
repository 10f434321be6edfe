section SN3
variable {p : Program} {l : Launch} {e : Env} {R : Room} {s : State} {m : MethodId} {args : Array Value} {below : List Frame} {meth : Method} {c : Code} {Q : State → Prop} {D : va_G} {cy : Nat → ClassId} {base b n0 : Nat} {sc : z_Sc} {M : Nat}
variable {pc len : Nat} {ls : z_Ls} {st : List z_V} {h : z_Hp} {ins : Jvm.ClassFile.Instr} {x y z : Nat} {K : z_K} {r : z_R}
theorem z_fv_sI {a y k z : Nat} {v : Int32} : z_fv base b (z_sI h a y v) a k z = (match z with
    | 1 => va_rf (z_ro base b (z_F h a k))
    | 2 => .long (z_J h a k)
    | _ => .int (if k = y then v else z_I h a k)) := by
  have e : z_I (z_sI h a y v) a k = if k = y then v else z_I h a k := by
    show z_row h.2.1 a (z_up (h.2.1 a) y v) a k = _
    rw [z_row_eq]
    rfl
  match z with
  | 0 => exact congrArg Value.int e
  | 1 => rfl
  | 2 => rfl
  | n + 3 => exact congrArg Value.int e
theorem z_fv_sF {a y k z : Nat} {v : Nat} : z_fv base b (z_sF h a y v) a k z = (match z with
    | 1 => va_rf (z_ro base b (if k = y then v else z_F h a k))
    | 2 => .long (z_J h a k)
    | _ => .int (z_I h a k)) := by
  have e : z_F (z_sF h a y v) a k = if k = y then v else z_F h a k := by
    show z_row h.2.2.1 a (z_up (h.2.2.1 a) y v) a k = _
    rw [z_row_eq]
    rfl
  match z with
  | 0 => rfl
  | 1 => exact congrArg (fun w => va_rf (z_ro base b w)) e
  | 2 => rfl
  | n + 3 => rfl
theorem z_fv_sJ {a y k z : Nat} {v : Int64} : z_fv base b (z_sJ h a y v) a k z = (match z with
    | 1 => va_rf (z_ro base b (z_F h a k))
    | 2 => .long (if k = y then v else z_J h a k)
    | _ => .int (z_I h a k)) := by
  have e : z_J (z_sJ h a y v) a k = if k = y then v else z_J h a k := by
    show z_row h.2.2.2 a (z_up (h.2.2.2 a) y v) a k = _
    rw [z_row_eq]
    rfl
  match z with
  | 0 => rfl
  | 1 => rfl
  | 2 => exact congrArg Value.long e
  | n + 3 => rfl
theorem z_vpin {i : Int32} {n : Nat} (h1 : ¬ i < 0) (h2 : i.toNatClampNeg < n) : vp_in i n := fun q => q.elim h1 (fun q => by omega)
/-- a row of ints (bytes, booleans) after a place was written -/
theorem z_ast_end {H : Heap} {locs : List Loc} {mls : Array Slot} {cells slots : Nat} {t : List z_V} (hX : z_Cx p s m args meth c D cy base b sc M) {k tg : Nat} {j : Nat} {v : Int32} (hi : k < h.1) (hkd : (z_kd (k + 2)).1 = tg) (ht : ¬ tg < 9) (ht11 : tg = 10 ∨ tg = 12 ∨ tg = 13)
    (kk : z_at p l e R s m args below meth c Q D cy base b n0 (pc + 1) ls t (z_sI h (k + 2) j v)) (a1 : H.size = base + h.1) (a2 : va_P D vwCl (z_wl cy base b h) H) (a3 : va_S (fun q => base ≤ q) s.heap H locs) (a4 : z_lv base b mls c.maxLocals ls) (a5 : n0 ≤ h.1) (a6 : cells = h.1 - n0) (a7 : slots = z_sz h.1 - z_sz n0) :
    ∀ H1 : Heap, H1[base + k]? = some ((vp_cell (cy tg) ((z_kd (k + 2)).2, .inl (h.2.1 (k + 2)))).setSlot j (.int v)) → H1.size = H.size → (∀ q, q ≠ base + k → H1[q]? = H[q]?) → W p l e R s m args below meth c H1 (locs ++ [⟨base + k, j⟩]) cells slots Q (F0 m (pc + 1) mls (t.map (z_tv base b))) := by
  intro H1 e1 e2 e3
  refine kk H1 _ mls cells slots (by rw [e2, a1]; rfl) (z_wput a2 rfl z_sI_cel ?_ e3) (a3.put e2 e3 (Nat.le_add_right _ _)) a4 a5 a6 a7
  refine z_arrTo hkd ht ?_
  have e4 : z_arr base b (z_sI h (k + 2) j v) (k + 2) tg (z_kd (k + 2)).2 = ((z_kd (k + 2)).2, .inl (z_up (h.2.1 (k + 2)) j v)) := by
    rcases ht11 with rfl | rfl | rfl <;> (show (_, Sum.inl ((z_sI h (k + 2) j v).2.1 (k + 2))) = _; show (_, Sum.inl (z_row h.2.1 (k + 2) _ (k + 2))) = _; rw [z_row_eq])
  rw [e4, e1, vp_cell_i, vp_cell_i, arrV_store]
  congr 2
  funext q
  unfold updV z_up
  split <;> rfl
theorem z_sn3 (X : z_Cx p s m args meth c D cy base b sc M) (hdg : decode (z_bM M) pc = .ok (ins, len)) (hok : z_sok M pc len 3 ins x y z = true) {q : Nat × Nat} (hw : z_wp q = z_wd (z_yM M).cls ins x y z) (hr : z_i3 sc K ins x y z pc ls st h = some r) (hK : ∀ pc' ls' st' h', K pc' ls' st' h' = some r → z_at p l e R s m args below meth c Q D cy base b n0 pc' ls' st' h')
    (hge : ∀ pc' ls' st' h', K pc' ls' st' h' = some r → h'.1 ≤ r.2.1) (hRc : r.2.1 - n0 ≤ R.cells) (hRs : z_sz r.2.1 - z_sz n0 ≤ R.slots) : z_at p l e R s m args below meth c Q D cy base b n0 pc ls st h := by
  have XX := X
  obtain ⟨hx, hb, hml, hown, hts, hKK, hin, hscr, hbs⟩ := X
  unfold z_i3 at hr
  split at hr
  · -- getfield
    rename_i n
    unfold z_sok at hok
    simp only [Bool.and_eq_true, Nat.blt_eq] at hok
    obtain ⟨⟨⟨⟨k1, -⟩, k3⟩, k4⟩, k5⟩ := hok
    have e := z_beq k1
    subst e
    have e := z_beq k5
    subst e
    obtain ⟨a, t, rfl, h2⟩ := z_pr_some.mp hr
    obtain ⟨g, h5⟩ := z_gd_some.mp h2
    obtain ⟨i, rfl, hi, hkd⟩ := z_ob_spec k3 g
    obtain ⟨o1, o2, o3, o4⟩ := z_cOK x k3
    intro H locs mls cells slots a1 a2 a3 a4 a5 a6 a7
    have h3 := hK _ _ _ _ h5 H locs mls cells slots a1 a2 a3 a4 a5 a6 a7
    rw [List.map_cons, z_tv_gv] at h3
    rw [List.map_cons, z_tv_ref]
    exact va_get (ws := z_wl cy base b h) (ci := x) hx hb hts o2 hown hKK.1 a2 i (by rw [z_wl_get hi, z_cel_ob hkd k3]) o1 y k4 (hts _ (z_wp_W hw rfl)) (fun w h9 => by rw [← z_cT1 x y k3 k4]; exact h9) (z_fs_at k4) hdg h3
  · -- putfield
    rename_i n
    have hok' := hok
    unfold z_sok at hok
    simp only [Bool.and_eq_true, Nat.blt_eq] at hok
    obtain ⟨⟨⟨⟨-, -⟩, k3⟩, k4⟩, k5⟩ := hok.1
    have e := z_beq k5
    have hty := z_cYk x y k3 k4
    rw [← e] at hty
    split at hr
    · obtain ⟨v, t, rfl, h2⟩ := z_pi_some.mp hr
      obtain ⟨a, t, rfl, h2⟩ := z_pr_some.mp h2
      obtain ⟨g, h5⟩ := z_gd_some.mp h2
      obtain ⟨i, rfl, hi, hkd⟩ := z_ob_spec k3 g
      have hty : z_cY x y = .int := of_decide_eq_true hty
      refine z_put XX hdg hok' hw (v := z_vi v) (h' := z_sI h (i + 2) y v) g rfl z_sI_cel (by rw [hty]; rfl) (by rw [hty]; rfl) (fun k hk => ?_) (hK _ _ _ _ h5)
      rw [z_fv_sI]
      by_cases ek : k = y
      · subst ek
        rw [← e, if_pos rfl, if_pos rfl]
        rfl
      · rw [if_neg ek, if_neg ek]
        rfl
    · obtain ⟨v, t, rfl, h2⟩ := z_pr_some.mp hr
      obtain ⟨a, t, rfl, h2⟩ := z_pr_some.mp h2
      obtain ⟨g, h5⟩ := z_gd_some.mp h2
      obtain ⟨i, rfl, hi, hkd⟩ := z_ob_spec k3 g
      have hf := z_ref_fits (base := base) (b := b) (a := v) hty
      refine z_put XX hdg hok' hw (v := z_vr v) (h' := z_sF h (i + 2) y v) g rfl z_sF_cel hf.1 hf.2 (fun k hk => ?_) (hK _ _ _ _ h5)
      rw [z_fv_sF]
      by_cases ek : k = y
      · subst ek
        rw [← e, if_pos rfl, if_pos rfl]
        rfl
      · rw [if_neg ek, if_neg ek]
        rfl
    · obtain ⟨v, t, rfl, h2⟩ := z_pl_some.mp hr
      obtain ⟨a, t, rfl, h2⟩ := z_pr_some.mp h2
      obtain ⟨g, h5⟩ := z_gd_some.mp h2
      obtain ⟨i, rfl, hi, hkd⟩ := z_ob_spec k3 g
      have hty : z_cY x y = .long := of_decide_eq_true hty
      refine z_put XX hdg hok' hw (v := z_vl v) (h' := z_sJ h (i + 2) y v) g rfl z_sJ_cel (by rw [hty]; rfl) (by rw [hty]; rfl) (fun k hk => ?_) (hK _ _ _ _ h5)
      rw [z_fv_sJ]
      by_cases ek : k = y
      · subst ek
        rw [← e, if_pos rfl, if_pos rfl]
        rfl
      · rw [if_neg ek, if_neg ek]
        rfl
    · rename_i z0 z1 z2
      obtain ⟨v, t, rfl, h2⟩ := z_pi_some.mp hr
      obtain ⟨a, t, rfl, h2⟩ := z_pr_some.mp h2
      obtain ⟨g, h5⟩ := z_gd_some.mp h2
      rw [Bool.and_eq_true] at g
      obtain ⟨g, gb⟩ := g
      obtain ⟨i, rfl, hi, hkd⟩ := z_ob_spec k3 g
      have hz : z = 3 := by
        match z, hty with
        | 0, _ => exact absurd rfl z0
        | 1, _ => exact absurd rfl z1
        | 2, _ => exact absurd rfl z2
        | 3, _ => rfl
        | n + 4, hty => cases hty
      subst hz
      have hty : z_cY x y = .boolean := of_decide_eq_true hty
      have hvb := z_bo_of gb
      refine z_put XX hdg hok' hw (v := z_vi v) (h' := z_sI h (i + 2) y v) g rfl z_sI_cel (by rw [hty]; show narrow .boolean (.int v) = .int v; rcases hvb with rfl | rfl <;> decide) (by rw [hty]; show fits .boolean (.int v) = true; rcases hvb with rfl | rfl <;> decide) (fun k hk => ?_) (hK _ _ _ _ h5)
      rw [z_fv_sI]
      by_cases ek : k = y
      · subst ek
        rw [← e, if_pos rfl, if_pos rfl]
        rfl
      · rw [if_neg ek, if_neg ek]
        rfl
  · -- iaload
    split at hr
    · unfold z_sok at hok
      simp only [Bool.and_eq_true] at hok
      obtain ⟨⟨k1, -⟩, k3⟩ := hok
      have e := z_beq k1
      subst e
      have e := z_beq k3
      obtain ⟨i, t, rfl, h2⟩ := z_pi_some.mp hr
      obtain ⟨a, t, rfl, h2⟩ := z_pr_some.mp h2
      obtain ⟨g, h5⟩ := z_gd_some.mp h2
      rw [Bool.and_eq_true] at g
      have ea := z_beq g.1
      subst ea
      obtain ⟨g1, g2⟩ := z_in_spec g.2
      obtain ⟨s1, s2, s3⟩ := hscr e
      intro H locs mls cells slots a1 a2 a3 a4 a5 a6 a7
      exact va_sld hx hb s1 s2 (by show ¬ base ≤ b; omega) a3 (z_vpin g1 g2) hdg (hK _ _ _ _ h5 H locs mls cells slots a1 a2 a3 a4 a5 a6 a7)
    · have k1 : Nat.beq len 1 = true := by
        unfold z_sok at hok
        simp only [Bool.and_eq_true] at hok
        exact hok.1.1
      have e := z_beq k1
      subst e
      obtain ⟨i, t, rfl, h2⟩ := z_pi_some.mp hr
      obtain ⟨a, t, rfl, h2⟩ := z_pr_some.mp h2
      obtain ⟨g, h5⟩ := z_gd_some.mp h2
      obtain ⟨k, rfl, hi, hkd, g1, g2⟩ := z_ar_spec (by omega) g
      intro H locs mls cells slots a1 a2 a3 a4 a5 a6 a7
      rw [List.map_cons, List.map_cons, z_tv_ref]
      exact va_iald (ws := z_wl cy base b h) hx hb hKK.1 a2 k 0 (cA := cy 10) (n := (z_kd (k + 2)).2) (f := h.2.1 (k + 2)) (by rw [z_wl_get hi, z_cel_ar hkd (by omega)]; rfl) rfl (z_vpin g1 g2) hdg (hK _ _ _ _ h5 H locs mls cells slots a1 a2 a3 a4 a5 a6 a7)
  · -- baload
    unfold z_sok at hok
    simp only [Bool.and_eq_true, Bool.or_eq_true] at hok
    obtain ⟨⟨k1, -⟩, k3⟩ := hok
    have e := z_beq k1
    subst e
    obtain ⟨i, t, rfl, h2⟩ := z_pi_some.mp hr
    obtain ⟨a, t, rfl, h2⟩ := z_pr_some.mp h2
    obtain ⟨g, h5⟩ := z_gd_some.mp h2
    have hx9 : x = 12 ∨ x = 13 := k3.imp z_beq z_beq
    obtain ⟨k, rfl, hi, hkd, g1, g2⟩ := z_ar_spec (by omega) g
    intro H locs mls cells slots a1 a2 a3 a4 a5 a6 a7
    rw [List.map_cons, List.map_cons, z_tv_ref]
    rcases hx9 with rfl | rfl
    · exact va_bald (ws := z_wl cy base b h) hx hb hKK.1 a2 k 2 (cA := cy 12) (n := (z_kd (k + 2)).2) (f := h.2.1 (k + 2)) (by rw [z_wl_get hi, z_cel_ar hkd (by omega)]; rfl) rfl (z_vpin g1 g2) hdg (hK _ _ _ _ h5 H locs mls cells slots a1 a2 a3 a4 a5 a6 a7)
    · exact va_zald (ws := z_wl cy base b h) hx hb hKK.1 a2 k 3 (cA := cy 13) (n := (z_kd (k + 2)).2) (f := h.2.1 (k + 2)) (by rw [z_wl_get hi, z_cel_ar hkd (by omega)]; rfl) rfl (z_vpin g1 g2) hdg (hK _ _ _ _ h5 H locs mls cells slots a1 a2 a3 a4 a5 a6 a7)
  · -- laload
    unfold z_sok at hok
    simp only [Bool.and_eq_true] at hok
    have e := z_beq hok.1
    subst e
    obtain ⟨i, t, rfl, h2⟩ := z_pi_some.mp hr
    obtain ⟨a, t, rfl, h2⟩ := z_pr_some.mp h2
    obtain ⟨g, h5⟩ := z_gd_some.mp h2
    obtain ⟨k, rfl, hi, hkd, g1, g2⟩ := z_ar_spec (by omega) g
    intro H locs mls cells slots a1 a2 a3 a4 a5 a6 a7
    rw [List.map_cons, List.map_cons, z_tv_ref]
    exact va_lald (ws := z_wl cy base b h) hx hb hKK.1 a2 k 1 (cA := cy 11) (n := (z_kd (k + 2)).2) (f := h.2.2.2 (k + 2)) (by rw [z_wl_get hi, z_cel_ar hkd (by omega)]; rfl) rfl (z_vpin g1 g2) hdg (hK _ _ _ _ h5 H locs mls cells slots a1 a2 a3 a4 a5 a6 a7)
  · -- aaload
    unfold z_sok at hok
    simp only [Bool.and_eq_true, Bool.or_eq_true] at hok
    obtain ⟨⟨k1, -⟩, k3⟩ := hok
    have e := z_beq k1
    subst e
    obtain ⟨i, t, rfl, h2⟩ := z_pi_some.mp hr
    obtain ⟨a, t, rfl, h2⟩ := z_pr_some.mp h2
    obtain ⟨g, h5⟩ := z_gd_some.mp h2
    have hx9 : x = 14 ∨ x = 15 := k3.imp z_beq z_beq
    obtain ⟨k, rfl, hi, hkd, g1, g2⟩ := z_ar_spec (by omega) g
    intro H locs mls cells slots a1 a2 a3 a4 a5 a6 a7
    rw [List.map_cons, List.map_cons, z_tv_ref]
    rcases hx9 with rfl | rfl
    · exact va_aldq (ws := z_wl cy base b h) hx hb hKK.1 a2 k 4 (cA := cy 14) (C := RX4) (n := (z_kd (k + 2)).2) (f := fun j => z_ro base b (h.2.2.1 (k + 2) j)) (by rw [z_wl_get hi, z_cel_ar hkd (by omega)]; rfl) rfl (z_vpin g1 g2) hdg (hK _ _ _ _ h5 H locs mls cells slots a1 a2 a3 a4 a5 a6 a7)
    · have hcl := z_arrAt a2 hi hkd (by omega)
      exact W.aald (v := va_rf (z_ro base b (h.2.2.1 (k + 2) i.toNatClampNeg))) (ty := .array .int) hx hb hcl ((hKK.1.2 5 _ rfl).1 (z_kd (k + 2)).2 (fun j => va_rf (z_ro base b (h.2.2.1 (k + 2) j)))) rfl (fun q => by cases q) (by show ¬ (i < 0 ∨ (arrV _ _ _).slots.size ≤ _); rw [arrV_size]; exact z_vpin g1 g2) (by show (arrV _ _ _).slots[_]? = _; rw [arrV_read _ _ g2]) rfl rfl hdg (hK _ _ _ _ h5 H locs mls cells slots a1 a2 a3 a4 a5 a6 a7)
  · -- iastore
    unfold z_sok at hok
    simp only [Bool.and_eq_true] at hok
    have e := z_beq hok.1
    subst e
    obtain ⟨v, t, rfl, h2⟩ := z_pi_some.mp hr
    obtain ⟨i, t, rfl, h2⟩ := z_pi_some.mp h2
    obtain ⟨a, t, rfl, h2⟩ := z_pr_some.mp h2
    obtain ⟨g, h5⟩ := z_gd_some.mp h2
    obtain ⟨k, rfl, hi, hkd, g1, g2⟩ := z_ar_spec (by omega) g
    intro H locs mls cells slots a1 a2 a3 a4 a5 a6 a7
    rw [List.map_cons, List.map_cons, List.map_cons, z_tv_ref]
    have hcl := z_arrAt a2 hi hkd (by omega)
    exact W.iast hx hb hcl ((hKK.1.2 0 _ rfl).1 (z_kd (k + 2)).2 (fun j => .int (h.2.1 (k + 2) j))) (fun q => by cases q) (by show ¬ (i < 0 ∨ (arrV _ _ _).slots.size ≤ _); rw [arrV_size]; exact z_vpin g1 g2) rfl rfl hdg (z_ast_end XX hi hkd (by omega) (Or.inl rfl) (hK _ _ _ _ h5) a1 a2 a3 a4 a5 a6 a7)
  · -- bastore
    have k1 : Nat.beq len 1 = true := by
      unfold z_sok at hok
      simp only [Bool.and_eq_true] at hok
      exact hok.1.1
    have e := z_beq k1
    subst e
    split at hr
    · obtain ⟨v, t, rfl, h2⟩ := z_pi_some.mp hr
      obtain ⟨i, t, rfl, h2⟩ := z_pi_some.mp h2
      obtain ⟨a, t, rfl, h2⟩ := z_pr_some.mp h2
      obtain ⟨g, h5⟩ := z_gd_some.mp h2
      obtain ⟨k, rfl, hi, hkd, g1, g2⟩ := z_ar_spec (by omega) g
      intro H locs mls cells slots a1 a2 a3 a4 a5 a6 a7
      rw [List.map_cons, List.map_cons, List.map_cons, z_tv_ref]
      have hcl := z_arrAt a2 hi hkd (by omega)
      exact W.bast hx hb hcl ((hKK.1.2 2 _ rfl).1 (z_kd (k + 2)).2 (fun j => .int (h.2.1 (k + 2) j))) (fun q => by cases q) (by show ¬ (i < 0 ∨ (arrV _ _ _).slots.size ≤ _); rw [arrV_size]; exact z_vpin g1 g2) rfl rfl hdg (z_ast_end XX hi hkd (by omega) (Or.inr (Or.inl rfl)) (hK _ _ _ _ h5) a1 a2 a3 a4 a5 a6 a7)
    · obtain ⟨v, t, rfl, h2⟩ := z_pi_some.mp hr
      obtain ⟨i, t, rfl, h2⟩ := z_pi_some.mp h2
      obtain ⟨a, t, rfl, h2⟩ := z_pr_some.mp h2
      obtain ⟨g, h5⟩ := z_gd_some.mp h2
      rw [Bool.and_eq_true] at g
      obtain ⟨g, gb⟩ := g
      obtain ⟨k, rfl, hi, hkd, g1, g2⟩ := z_ar_spec (by omega) g
      intro H locs mls cells slots a1 a2 a3 a4 a5 a6 a7
      rw [List.map_cons, List.map_cons, List.map_cons, z_tv_ref]
      have hcl := z_arrAt a2 hi hkd (by omega)
      have hnb : narrow .boolean (.int v) = .int v := by rcases z_bo_of gb with rfl | rfl <;> decide
      refine W.zast hx hb hcl ((hKK.1.2 3 _ rfl).1 (z_kd (k + 2)).2 (fun j => .int (h.2.1 (k + 2) j))) (fun q => by cases q) (by show ¬ (i < 0 ∨ (arrV _ _ _).slots.size ≤ _); rw [arrV_size]; exact z_vpin g1 g2) rfl rfl hdg ?_
      rw [hnb]
      exact z_ast_end XX hi hkd (by omega) (Or.inr (Or.inr rfl)) (hK _ _ _ _ h5) a1 a2 a3 a4 a5 a6 a7
  · -- lastore
    unfold z_sok at hok
    simp only [Bool.and_eq_true] at hok
    have e := z_beq hok.1
    subst e
    obtain ⟨v, t, rfl, h2⟩ := z_pl_some.mp hr
    obtain ⟨i, t, rfl, h2⟩ := z_pi_some.mp h2
    obtain ⟨a, t, rfl, h2⟩ := z_pr_some.mp h2
    obtain ⟨g, h5⟩ := z_gd_some.mp h2
    obtain ⟨k, rfl, hi, hkd, g1, g2⟩ := z_ar_spec (by omega) g
    intro H locs mls cells slots a1 a2 a3 a4 a5 a6 a7
    rw [List.map_cons, List.map_cons, List.map_cons, z_tv_ref]
    have hcl := z_arrAt a2 hi hkd (by omega)
    refine W.last hx hb hcl ((hKK.1.2 1 _ rfl).1 (z_kd (k + 2)).2 (fun j => .long (h.2.2.2 (k + 2) j))) (fun q => by cases q) (by show ¬ (i < 0 ∨ (arrV _ _ _).slots.size ≤ _); rw [arrV_size]; exact z_vpin g1 g2) rfl rfl hdg fun H1 e1 e2 e3 => ?_
    refine hK _ _ _ _ h5 H1 _ mls cells slots (by rw [e2, a1]; rfl) (z_wput a2 rfl z_sJ_cel ?_ e3) (a3.put e2 e3 (Nat.le_add_right _ _)) a4 a5 a6 a7
    refine z_arrTo hkd (by omega) ?_
    have e4 : z_arr base b (z_sJ h (k + 2) i.toNatClampNeg v) (k + 2) 11 (z_kd (k + 2)).2 = ((z_kd (k + 2)).2, .inr (.inl (z_up (h.2.2.2 (k + 2)) i.toNatClampNeg v))) := by
      show (_, Sum.inr (Sum.inl (z_row h.2.2.2 (k + 2) _ (k + 2)))) = _
      rw [z_row_eq]
    rw [e4, e1]
    show some ((vp_cell (cy 11) ((z_kd (k + 2)).2, .inr (.inl (h.2.2.2 (k + 2))))).setSlot _ _) = _
    rw [vp_cell_l, vp_cell_l, arrV_store]
    congr 2
    funext q
    unfold updV z_up
    split <;> rfl
  · -- aastore
    unfold z_sok at hok
    simp only [Bool.and_eq_true] at hok
    have e := z_beq hok.1
    subst e
    obtain ⟨v, t, rfl, h2⟩ := z_pr_some.mp hr
    obtain ⟨i, t, rfl, h2⟩ := z_pi_some.mp h2
    obtain ⟨a, t, rfl, h2⟩ := z_pr_some.mp h2
    obtain ⟨g, h5⟩ := z_gd_some.mp h2
    rw [Bool.and_eq_true] at g
    obtain ⟨g, gv⟩ := g
    obtain ⟨k, rfl, hi, hkd, g1, g2⟩ := z_ar_spec (by omega) g
    obtain ⟨w, rfl, hw9, hwk⟩ := z_ob_spec (by omega) gv
    intro H locs mls cells slots a1 a2 a3 a4 a5 a6 a7
    rw [List.map_cons, List.map_cons, List.map_cons, z_tv_ref, z_tv_ref]
    have hcl := z_arrAt a2 hi hkd (by omega)
    obtain ⟨cellV, v1, v2, v3, -⟩ := z_clsAt a2 hw9 hwk (by omega)
    have hcls := (hKK.1.1 4 _ rfl).2
    obtain ⟨kA, comp, f1, f2, f3, -⟩ := (hKK.1.2 4 _ rfl).2
    have hcomp : comp = D.1 4 := Option.some.inj (f3.symm.trans hcls.1)
    subst hcomp
    obtain ⟨kC, hkC, -⟩ := hcls.2
    refine W.aast hx hb hcl (fun q h => by cases h) (fun h => by cases h) f1 f2 rfl hkC ⟨g1, by show _ < (arrV _ _ _).slots.size; rw [arrV_size]; exact g2⟩ v1 (fun q h => by rw [v3] at h; cases h) (by rw [v2]; exact hkC) (by rw [v2]; exact va_assign hcls) rfl rfl hdg fun H1 e1 e2 e3 => ?_
    refine hK _ _ _ _ h5 H1 _ mls cells slots (by rw [e2, a1]; rfl) (z_wput a2 rfl z_sF_cel ?_ e3) (a3.put e2 e3 (Nat.le_add_right _ _)) a4 a5 a6 a7
    refine z_arrTo hkd (by omega) ?_
    have e4 : z_arr base b (z_sF h (k + 2) i.toNatClampNeg (w + 2)) (k + 2) 14 (z_kd (k + 2)).2 = ((z_kd (k + 2)).2, .inr (.inr (.inr (.inr (fun j => z_ro base b (z_up (h.2.2.1 (k + 2)) i.toNatClampNeg (w + 2) j)))))) := by
      show (_, Sum.inr (Sum.inr (Sum.inr (Sum.inr (fun j => z_ro base b (z_row h.2.2.1 (k + 2) _ (k + 2) j)))))) = _
      rw [z_row_eq]
    rw [e4, e1]
    show some ((vp_cell (cy 14) ((z_kd (k + 2)).2, .inr (.inr (.inr (.inr (fun j => z_ro base b (h.2.2.1 (k + 2) j))))))).setSlot _ _) = _
    rw [vp_cell_q, vp_cell_q, arrV_store]
    congr 2
    funext q
    unfold updV z_up
    split
    · rw [z_ro_ref]; rfl
    · rfl
  · -- arraylength
    split at hr
    · unfold z_sok at hok
      simp only [Bool.and_eq_true] at hok
      obtain ⟨⟨k1, -⟩, k3⟩ := hok
      have e := z_beq k1
      subst e
      have e := z_beq k3
      obtain ⟨a, t, rfl, h2⟩ := z_pr_some.mp hr
      obtain ⟨g, h5⟩ := z_gd_some.mp h2
      have ea := z_beq g
      subst ea
      obtain ⟨s1, s2, s3⟩ := hscr e
      intro H locs mls cells slots a1 a2 a3 a4 a5 a6 a7
      exact va_slen hx hb s1 s2 (by show ¬ base ≤ b; omega) a3 hdg (hK _ _ _ _ h5 H locs mls cells slots a1 a2 a3 a4 a5 a6 a7)
    · unfold z_sok at hok
      simp only [Bool.and_eq_true] at hok
      obtain ⟨⟨k1, -⟩, k3⟩ := hok
      have e := z_beq k1
      subst e
      split at k3
      · exact absurd rfl (by assumption)
      · obtain ⟨a, t, rfl, h2⟩ := z_pr_some.mp hr
        obtain ⟨g, h5⟩ := z_gd_some.mp h2
        simp only [Bool.and_eq_true, Nat.blt_eq] at g
        have g1 := z_beq g.1
        have := z_kd_small (a := a) (by omega)
        obtain ⟨k, rfl⟩ : ∃ k, a = k + 2 := ⟨a - 2, by omega⟩
        intro H locs mls cells slots a1 a2 a3 a4 a5 a6 a7
        rw [List.map_cons, z_tv_ref]
        exact va_alen (ws := z_wl cy base b h) hx hb hKK.1 a2 k 0 (cA := cy 10) (x := ((z_kd (k + 2)).2, .inl (h.2.1 (k + 2)))) (by rw [z_wl_get (by omega), z_cel_ar g1 (by omega)]; rfl) rfl rfl hdg (hK _ _ _ _ h5 H locs mls cells slots a1 a2 a3 a4 a5 a6 a7)
      · cases k3
  · -- new
    sorry
  · -- newarray
    sorry
  · -- anewarray
    sorry
  · -- multianewarray
    sorry
  · cases hr
end SN3
