/-! group 3: fields, rows, what is made -/
theorem z_cT1 (c k : Nat) (hc : c < 8) (hk : k < z_cN c) : (z_cT c k).1 = z_cC c := by
  have key : ∀ c, c < 8 → ((List.range (z_cN c)).all fun k => decide ((z_cT c k).1 = z_cC c)) = true := by
    intro c hc
    match c, hc with
    | 0, _ => decide +kernel
    | 1, _ => decide +kernel
    | 2, _ => decide +kernel
    | 3, _ => decide +kernel
    | 4, _ => decide +kernel
    | 5, _ => decide +kernel
    | 6, _ => decide +kernel
    | 7, _ => decide +kernel
  exact of_decide_eq_true (List.all_eq_true.mp (key c hc) k (List.mem_range.mpr hk))
def z_kty (z : Nat) (ty : FieldType) : Bool := match z with
  | 0 => decide (ty = .int)
  | 1 => (match ty with
    | .object _ => true
    | .array _ => true
    | _ => false)
  | 2 => decide (ty = .long)
  | 3 => decide (ty = .boolean)
  | _ => false
theorem z_cYk (c k : Nat) (hc : c < 8) (hk : k < z_cN c) : z_kty (z_fk c k) (z_cY c k) = true := by
  have key : ∀ c, c < 8 → ((List.range (z_cN c)).all fun k => z_kty (z_fk c k) (z_cY c k)) = true := by
    intro c hc
    match c, hc with
    | 0, _ => decide +kernel
    | 1, _ => decide +kernel
    | 2, _ => decide +kernel
    | 3, _ => decide +kernel
    | 4, _ => decide +kernel
    | 5, _ => decide +kernel
    | 6, _ => decide +kernel
    | 7, _ => decide +kernel
  exact List.all_eq_true.mp (key c hc) k (List.mem_range.mpr hk)
theorem z_tv_ref {base b i : Nat} : z_tv base b (z_vr (i + 2)) = .ref (base + i) := by
  show va_rf (z_ro base b (i + 2)) = _
  unfold z_ro z_ad
  rw [if_neg (by omega), if_neg (by omega), show i + 2 - 2 = i by omega]
  rfl
theorem z_ro_ref {base b i : Nat} : z_ro base b (i + 2) = some (base + i) := by
  unfold z_ro z_ad
  rw [if_neg (by omega), if_neg (by omega), show i + 2 - 2 = i by omega]
theorem z_fs_at {base b : Nat} {h : z_Hp} {a c k : Nat} (hk : k < z_cN c) : (z_fs base b h a c)[k]? = some (z_fv base b h a k (z_fk c k)) := by
  unfold z_fs
  rw [List.getElem?_map, List.getElem?_range hk]
  rfl
theorem z_fs_V {base b : Nat} {h : z_Hp} {a c k : Nat} (hk : k < z_cN c) : vp_V (z_fs base b h a c) k = z_fv base b h a k (z_fk c k) := by
  unfold vp_V
  rw [List.getD_eq_getElem?_getD, z_fs_at hk]
  rfl
theorem z_clsAt {D : va_G} {cy : Nat → ClassId} {base b : Nat} {h : z_Hp} {H : Heap} (hP : va_P D vwCl (z_wl cy base b h) H) {i c : Nat} (hi : i < h.1) (hk : (w_kd (i + 2)).1 = c) (hc : c < 8) : t_OB (base + i) (D.1 c) (z_cN c) (D.2 c) H (vp_V (z_fs base b h (i + 2) c)) := by
  have h1 := hP i _ (z_wl_get hi)
  rw [z_cel_ob hk hc] at h1
  obtain ⟨r, h2, h3⟩ := h1
  have e := (z_cOK c hc).1
  have h2 : vwCl[c]? = some r := h2
  rw [e] at h2
  cases h2
  exact h3
theorem z_arrAt {D : va_G} {cy : Nat → ClassId} {base b : Nat} {h : z_Hp} {H : Heap} (hP : va_P D vwCl (z_wl cy base b h) H) {i t : Nat} (hi : i < h.1) (hk : (w_kd (i + 2)).1 = t) (ht : ¬ t < 8) : H[base + i]? = some (vp_cell (cy t) (z_arr base b h (i + 2) t (w_kd (i + 2)).2)) := by
  have h1 := hP i _ (z_wl_get hi)
  rw [z_cel_ar hk ht] at h1
  exact h1
theorem z_clsTo {D : va_G} {cy : Nat → ClassId} {base b : Nat} {h : z_Hp} {H : Heap} {i c : Nat} (hk : (w_kd (i + 2)).1 = c) (hc : c < 8) (h1 : t_OB (base + i) (D.1 c) (z_cN c) (D.2 c) H (vp_V (z_fs base b h (i + 2) c))) : va_at D vwCl (base + i, z_cel cy base b h (i + 2)) H := by
  rw [z_cel_ob hk hc]
  exact ⟨_, (z_cOK c hc).1, h1⟩
theorem z_arrTo {D : va_G} {cy : Nat → ClassId} {base b : Nat} {h : z_Hp} {H : Heap} {i t : Nat} (hk : (w_kd (i + 2)).1 = t) (ht : ¬ t < 8) (h1 : H[base + i]? = some (vp_cell (cy t) (z_arr base b h (i + 2) t (w_kd (i + 2)).2))) : va_at D vwCl (base + i, z_cel cy base b h (i + 2)) H := by
  rw [z_cel_ar hk ht]
  exact h1
theorem z_sI_cel {cy : Nat → ClassId} {base b : Nat} {h : z_Hp} {i k : Nat} {v : Int32} (j : Nat) (hj : j ≠ i) : z_cel cy base b (z_sI h (i + 2) k v) (j + 2) = z_cel cy base b h (j + 2) := z_cel_cg (z_row_ne (by omega)) rfl rfl
theorem z_sF_cel {cy : Nat → ClassId} {base b : Nat} {h : z_Hp} {i k : Nat} {v : Nat} (j : Nat) (hj : j ≠ i) : z_cel cy base b (z_sF h (i + 2) k v) (j + 2) = z_cel cy base b h (j + 2) := z_cel_cg rfl (z_row_ne (by omega)) rfl
theorem z_sJ_cel {cy : Nat → ClassId} {base b : Nat} {h : z_Hp} {i k : Nat} {v : Int64} (j : Nat) (hj : j ≠ i) : z_cel cy base b (z_sJ h (i + 2) k v) (j + 2) = z_cel cy base b h (j + 2) := z_cel_cg rfl rfl (z_row_ne (by omega))
section SN3
variable {p : Program} {l : Launch} {e : Env} {R : Room} {s : State} {m : MethodId} {args : Array Value} {below : List Frame} {meth : Method} {c : Code} {Q : State → Prop} {D : va_G} {cy : Nat → ClassId} {base b n0 : Nat} {sc : z_Sc} {M : Nat}
variable {pc len : Nat} {ls : z_Ls} {st : List z_V} {h : z_Hp} {ins : Jvm.ClassFile.Instr} {x y z : Nat} {K : z_K} {r : z_R}
/-- a field is written -/
theorem z_put (X : z_Cx p s m args meth c D cy base b sc M) {n len : Nat} (hdg : decode (z_bM M) pc = .ok (.putfield n, len)) (hok : z_sok M pc len 3 (.putfield n) x y z = true) {q : Nat × Nat} (hw : z_wp q = z_wd (z_yM M).cls (.putfield n) x y z) {i : Nat} {v : z_V} {h' : z_Hp} (hob : z_ob h (i + 2) x = true) (h1 : h'.1 = h.1) (hc : ∀ j, j ≠ i → z_cel cy base b h' (j + 2) = z_cel cy base b h (j + 2))
    (hn : narrow (z_cY x y) (z_tv base b v) = z_tv base b v) (hf : fits (z_cY x y) (z_tv base b v) = true) (hv : ∀ k, k < z_cN x → z_fv base b h' (i + 2) k (z_fk x k) = if k = y then z_tv base b v else z_fv base b h (i + 2) k (z_fk x k)) {t : List z_V} (kk : z_at p l e R s m args below meth c Q D cy base b n0 (pc + 3) ls t h') : z_at p l e R s m args below meth c Q D cy base b n0 pc ls (v :: z_vr (i + 2) :: t) h := by
  obtain ⟨hx, hb, hml, hown, hts, hKK, hin, hscr, hbs⟩ := X
  unfold z_sok at hok
  simp only [Bool.and_eq_true, Nat.blt_eq] at hok
  obtain ⟨⟨⟨⟨⟨k1, -⟩, k3⟩, k4⟩, -⟩, k6⟩ := hok
  have e := z_beq k1
  subst e
  obtain ⟨i', e1, hi, hkd⟩ := z_ob_spec k3 hob
  have e1 : i' = i := by omega
  subst e1
  obtain ⟨o1, o2, o3, o4⟩ := z_cOK x k3
  have hlink := hts _ (z_wp_W hw rfl)
  intro H locs mls cells slots a1 a2 a3 a4 a5 a6 a7
  have hob := z_clsAt a2 hi hkd k3
  obtain ⟨cell, q1, q2, q3, q4⟩ := hob
  have hKn := hKK.1.1 x _ o1
  have hap := va_apart (own := (z_yM M).cls) hts o2 (z_cY x) o3 o4 hKK.1 o1
  obtain ⟨hS, hfc, kC, hkC, hkind⟩ := hKn
  obtain ⟨cf, kf, fi, f, hi2, hsl⟩ := hS y k4
  have hlays := u_lays hts o2 k4
  have hst := (u_facts hfc hkC hlays hi2).1
  have hty := o3 y k4
  have hT1 := z_cT1 x y k3 k4
  have hi3 : s.fieldFound? (z_cC x) (z_cT x y).2.1 (z_cT x y).2.2.1 = some (cf, kf, fi, f) := by rw [← hT1]; exact hi2
  rw [List.map_cons, List.map_cons, z_tv_ref]
  have hend : ∀ H1 : Heap, H1[base + i']? = some (cell.setSlot f.slot (z_tv base b v)) → H1.size = H.size → (∀ q, q ≠ base + i' → H1[q]? = H[q]?) → W p l e R s m args below meth c H1 (locs ++ [⟨base + i', f.slot⟩]) cells slots Q (F0 m (pc + 3) mls (t.map (z_tv base b))) := by
    intro H1 e1 e2 e3
    refine kk H1 _ mls cells slots (by rw [e2, a1, h1]) (z_wput a2 h1 hc ?_ e3) (a3.put e2 e3 (Nat.le_add_right _ _)) a4 (by rw [h1]; exact a5) (by rw [h1]; exact a6) (by rw [h1]; exact a7)
    refine z_clsTo hkd k3 ?_
    rw [hsl] at e1
    refine t_OB.to (V := updV (vp_V (z_fs base b h (i' + 2) x)) y (z_tv base b v)) ⟨_, e1, q2, q3, t_set q4 hap k4 _⟩ (fun k hk => ?_)
    rw [z_fs_V hk, hv k hk]
    unfold updV
    split
    · rfl
    · exact z_fs_V hk
  rcases hfin : (z_cT x y).2.2.2 with _ | _
  · have hlay := hts _ (o2 _ (u_in_lay k4))
    unfold u_lay at hlay
    rw [if_neg (by rw [hfin]; decide)] at hlay
    have h6 := u_store hfc hkC hkind hlay hi2 hty hn hf
    exact W.putK hx hb (f := f) ⟨hown, hlink, ⟨_, _, _, hi3⟩, hst⟩ (by rw [q2]; exact h6) q1 q3 (by rw [hsl]; exact k2_hasslot (q4 y k4)) rfl rfl hdg hend
  · have hlay := hts _ (o2 _ (u_in_lay k4))
    unfold u_lay at hlay
    rw [if_pos hfin] at hlay
    rw [hfin] at k6
    simp only [Bool.not_true, Bool.false_or, Bool.and_eq_true, decide_eq_true_eq] at k6
    have hcf : m.cls = cf := by
      obtain ⟨_, _, c', _, _, _, -, -, hf', -, -, -, hown2, -⟩ := Cond.laysFinal_spec hlay
      have e1 : c' = cf := by have := hi2.symm.trans hf'; simp at this; exact this.1.symm
      rw [k6.2] at hown2
      rw [← e1]; exact Option.some.inj (hown.symm.trans hown2)
    have h6 := u_fits hfc hkC hkind (Or.inr hlay) hi2 hty hn hf
    exact W.putFinK hx hb hown hlink hi3 hst hcf (hin k6.1) (by rw [q2]; exact h6) q1 q3 (by rw [hsl]; exact k2_hasslot (q4 y k4)) rfl rfl hdg hend
theorem z_ref_fits {ty : FieldType} {base b a : Nat} (h : z_kty 1 ty = true) : narrow ty (z_tv base b (z_vr a)) = z_tv base b (z_vr a) ∧ fits ty (z_tv base b (z_vr a)) = true := by
  show narrow ty (va_rf (z_ro base b a)) = va_rf (z_ro base b a) ∧ fits ty (va_rf (z_ro base b a)) = true
  cases ty with
  | object q => rcases z_ro base b a with _ | w <;> exact ⟨rfl, rfl⟩
  | array q => rcases z_ro base b a with _ | w <;> exact ⟨rfl, rfl⟩
  | _ => cases h
theorem z_bo_of {v : Int32} (h : z_bo v = true) : v = 0 ∨ v = 1 := by
  unfold z_bo at h
  simpa using h
end SN3
