/-! WHAT IS MADE: one new cell, or a row of rows -/
theorem z_inst (c : Nat) (hc : c < 8) : Cond.instantiable (z_cC c) (z_cN c) ∈ z_W ∧ Cond.initialized (z_cC c) ∈ z_W := by
  match c, hc with
  | 0, _ => exact ⟨z_wp_W (q := (1, 185)) (by decide +kernel) rfl, z_wp_W (q := (1, 8)) (by decide +kernel) rfl⟩
  | 1, _ => exact ⟨z_wp_W (q := (1, 38)) (by decide +kernel) rfl, z_wp_W (q := (1, 3)) (by decide +kernel) rfl⟩
  | 2, _ => exact ⟨z_wp_W (q := (1, 66)) (by decide +kernel) rfl, z_wp_W (q := (1, 4)) (by decide +kernel) rfl⟩
  | 3, _ => exact ⟨z_wp_W (q := (1, 96)) (by decide +kernel) rfl, z_wp_W (q := (1, 6)) (by decide +kernel) rfl⟩
  | 4, _ => exact ⟨z_wp_W (q := (1, 79)) (by decide +kernel) rfl, z_wp_W (q := (1, 5)) (by decide +kernel) rfl⟩
  | 5, _ => exact ⟨z_wp_W (q := (1, 124)) (by decide +kernel) rfl, z_wp_W (q := (1, 7)) (by decide +kernel) rfl⟩
  | 6, _ => exact ⟨z_wp_W (q := (1, 20)) (by decide +kernel) rfl, z_wp_W (q := (1, 2)) (by decide +kernel) rfl⟩
  | 7, _ => exact ⟨z_wp_W (q := (1, 12)) (by decide +kernel) rfl, z_wp_W (q := (1, 1)) (by decide +kernel) rfl⟩
theorem z_arI : Cond.arrayClass .int ∈ z_W := z_wp_W (q := (1, 36)) (by decide +kernel) rfl
theorem z_arJ : Cond.arrayClass .long ∈ z_W := z_wp_W (q := (2, 51)) (by decide +kernel) rfl
theorem z_arZ : Cond.arrayClass .boolean ∈ z_W := z_wp_W (q := (2, 52)) (by decide +kernel) rfl
theorem w_kd_le (a : Nat) : (w_kd a).2 ≤ 500 := by
  have key : (w_kdl.all fun q => Nat.ble q.2 500) = true := by decide +kernel
  unfold w_kd
  split
  · rename_i q hq
    exact Nat.le_of_ble_eq_true (List.all_eq_true.mp key q (List.mem_of_getElem? hq))
  · exact Nat.zero_le _
def z_dfv (z : Nat) : Value := match z with
  | 1 => .null
  | 2 => .long 0
  | _ => .int 0
theorem z_dflt {z : Nat} {ty : FieldType} (h : z_kty z ty = true) : defaultValue ty = z_dfv z := by
  match z, h with
  | 0, h =>
    have e : ty = .int := of_decide_eq_true h
    subst e
    rfl
  | 1, h => cases ty <;> first | rfl | cases h
  | 2, h =>
    have e : ty = .long := of_decide_eq_true h
    subst e
    rfl
  | 3, h =>
    have e : ty = .boolean := of_decide_eq_true h
    subst e
    rfl
  | _ + 4, h => cases h
theorem z_fv_nw {base b : Nat} {h : z_Hp} {k z : Nat} : z_fv base b (z_nw h) (h.1 + 2) k z = z_dfv z := by
  have e1 : z_I (z_nw h) (h.1 + 2) k = 0 := by show z_row h.2.1 (h.1 + 2) _ (h.1 + 2) k = _; rw [z_row_eq]
  have e2 : z_F (z_nw h) (h.1 + 2) k = 0 := by show z_row h.2.2.1 (h.1 + 2) _ (h.1 + 2) k = _; rw [z_row_eq]
  have e3 : z_J (z_nw h) (h.1 + 2) k = 0 := by show z_row h.2.2.2 (h.1 + 2) _ (h.1 + 2) k = _; rw [z_row_eq]
  match z with
  | 0 => exact congrArg Value.int e1
  | 1 => show va_rf (z_ro base b (z_F (z_nw h) (h.1 + 2) k)) = _; rw [e2]; rfl
  | 2 => exact congrArg Value.long e3
  | n + 3 => exact congrArg Value.int e1
section NW
variable {p : Program} {l : Launch} {e : Env} {R : Room} {s : State} {m : MethodId} {args : Array Value} {below : List Frame} {meth : Method} {c : Code} {Q : State → Prop} {D : va_G} {cy : Nat → ClassId} {base b n0 : Nat}
variable {pc : Nat} {ls : z_Ls} {t : List z_V} {h : z_Hp} {H H1 : Heap} {locs : List Loc} {mls : Array Slot} {cells slots : Nat}
theorem z_new1 (kk : z_at p l e R s m args below meth c Q D cy base b n0 pc ls (z_vr (h.1 + 2) :: t) (z_nw h)) (z1 : H1.size = H.size + 1) (hn : va_at D vwCl (base + h.1, z_cel cy base b (z_nw h) (h.1 + 2)) H1) (p1 : ∀ q : Nat, q < H.size → H1[q]? = H[q]?) {N : Nat} (hN : (w_kd (h.1 + 2)).2 = N)
    (a1 : H.size = base + h.1) (a2 : va_P D vwCl (z_wl cy base b h) H) (a3 : va_S (fun q => base ≤ q) s.heap H locs) (a4 : z_lv base b mls c.maxLocals ls) (a5 : n0 ≤ h.1) (a6 : cells = h.1 - n0) (a7 : slots = z_sz h.1 - z_sz n0) : W p l e R s m args below meth c H1 locs (cells + 1) (slots + N) Q (F0 m pc mls (.ref H.size :: t.map (z_tv base b))) := by
  have hz3 := z_sz_le a5
  have hz1 : z_sz (h.1 + 1) = z_sz h.1 + N := by
    show z_sz h.1 + (w_kd (h.1 + 2)).2 = _
    rw [hN]
  have h3 := kk H1 locs mls (cells + 1) (slots + N) (by rw [z1, a1]; rfl) (z_wnew a2 a1 (fun j hj => z_cel_cg (z_row_ne (by omega)) (z_row_ne (by omega)) (z_row_ne (by omega))) (fun j q1 q2 => ?_) p1) ⟨Nat.le_trans a3.1 (by omega), fun q hq hA => (p1 q (Nat.lt_of_lt_of_le hq a3.1)).trans (a3.2.1 q hq hA), a3.2.2⟩ a4 (Nat.le_succ_of_le a5) (by show _ = h.1 + 1 - n0; omega) (by show _ = z_sz (h.1 + 1) - z_sz n0; omega)
  · rw [List.map_cons, z_tv_ref, ← a1] at h3
    exact h3
  · have q2 : j < h.1 + 1 := q2
    have e : j = h.1 := by omega
    subst e
    exact hn
/-- a new array of numbers -/
theorem z_newN {t9 : Nat} (hkd : (w_kd (h.1 + 2)).1 = t9) {n : Nat} (hkn : (w_kd (h.1 + 2)).2 = n) {ty : FieldType} (ht : t9 = 10 ∧ ty = .int ∨ t9 = 11 ∧ ty = .long ∨ t9 = 13 ∧ ty = .boolean) (a1 : H.size = base + h.1) (e1 : H1[H.size]? = some (arrV (cy t9) n (fun _ => defaultValue ty))) : va_at D vwCl (base + h.1, z_cel cy base b (z_nw h) (h.1 + 2)) H1 := by
  refine z_arrTo hkd (by omega) ?_
  rw [← a1, e1, hkn]
  congr 1
  have e4 : (z_nw h).2.1 (h.1 + 2) = fun _ => 0 := z_row_eq
  have e5 : (z_nw h).2.2.2 (h.1 + 2) = fun _ => 0 := z_row_eq
  rcases ht with ⟨rfl, rfl⟩ | ⟨rfl, rfl⟩ | ⟨rfl, rfl⟩
  · show _ = vp_cell (cy 10) (n, .inl ((z_nw h).2.1 (h.1 + 2)))
    rw [e4]; rfl
  · show _ = vp_cell (cy 11) (n, .inr (.inl ((z_nw h).2.2.2 (h.1 + 2))))
    rw [e5]; rfl
  · show _ = vp_cell (cy 13) (n, .inl ((z_nw h).2.1 (h.1 + 2)))
    rw [e4]; rfl
theorem z_newA (X1 : z_KK D cy s) {at9 : ArrayType} {t9 : Nat} {ty : FieldType} (ht : t9 = 10 ∧ ty = .int ∨ t9 = 11 ∧ ty = .long ∨ t9 = 13 ∧ ty = .boolean) {cA : ClassId} (h1 : s.vm.findClass ("[" ++ ty.toString) = some cA) : cA = cy t9 := by
  rcases ht with ⟨rfl, rfl⟩ | ⟨rfl, rfl⟩ | ⟨rfl, rfl⟩
  · have := (X1.1.2 0 _ rfl).2
    exact Option.some.inj (h1.symm.trans this)
  · have := (X1.1.2 1 _ rfl).2
    exact Option.some.inj (h1.symm.trans this)
  · have := (X1.1.2 2 _ rfl).2
    exact Option.some.inj (h1.symm.trans this)
theorem z_sz_mul {n N K : Nat} : ∀ i, i ≤ N → (∀ j, j < N → (w_kd (n + 2 + j)).2 = K) → z_sz (n + i) = z_sz n + i * K
  | 0, _, _ => by simp
  | i + 1, hi, hk => by
    show z_sz (n + i) + (w_kd (n + i + 2)).2 = _
    rw [z_sz_mul i (by omega) hk, show n + i + 2 = n + 2 + i by omega, hk i (by omega), Nat.succ_mul]
    omega
theorem z_new2 (X1 : z_KK D cy s) {N K : Nat} (kk : z_at p l e R s m args below meth c Q D cy base b n0 pc ls (z_vr (h.1 + 2) :: t) (z_nwm h N)) (hk0 : (w_kd (h.1 + 2)).1 = 15) (hk1 : (w_kd (h.1 + 2)).2 = N) (hk2 : ∀ j, j < N → (w_kd (h.1 + 3 + j)).1 = 10 ∧ (w_kd (h.1 + 3 + j)).2 = K) {cA cB : ClassId} (hcA : s.vm.findClass "[[I" = some cA) (hcB : s.vm.findClass "[I" = some cB)
    (z1 : H1.size = H.size + 1 + N) (e1 : H1[H.size]? = some (arrV cA N (z_mrow H.size N))) (e2 : ∀ j, j < N → H1[H.size + 1 + j]? = some (arrV cB K (fun _ => .int 0))) (p1 : ∀ q : Nat, q < H.size → H1[q]? = H[q]?)
    (a1 : H.size = base + h.1) (a2 : va_P D vwCl (z_wl cy base b h) H) (a3 : va_S (fun q => base ≤ q) s.heap H locs) (a4 : z_lv base b mls c.maxLocals ls) (a5 : n0 ≤ h.1) (a6 : cells = h.1 - n0) (a7 : slots = z_sz h.1 - z_sz n0) : W p l e R s m args below meth c H1 (locs ++ (List.range N).map fun j => ⟨H.size, j⟩) (cells + 1 + N) (slots + N + N * K) Q (F0 m pc mls (.ref H.size :: t.map (z_tv base b))) := by
  have hz3 := z_sz_le a5
  have hz1 : z_sz (h.1 + 1 + N) = z_sz h.1 + N + N * K := by
    rw [z_sz_mul (n := h.1 + 1) (N := N) (K := K) N (Nat.le_refl _) (fun j hj => by rw [show h.1 + 1 + 2 + j = h.1 + 3 + j by omega]; exact (hk2 j hj).2)]
    show z_sz h.1 + (w_kd (h.1 + 2)).2 + _ = _
    rw [hk1]
  have f1 : cA = cy 15 := by
    have := (X1.1.2 4 _ rfl).2
    exact Option.some.inj (hcA.symm.trans this)
  have f2 : cB = cy 10 := by
    have := (X1.1.2 0 _ rfl).2
    exact Option.some.inj (hcB.symm.trans this)
  subst f1 f2
  have hb' : base ≤ H.size := by omega
  have h3 := kk H1 (locs ++ (List.range N).map fun j => ⟨H.size, j⟩) mls (cells + 1 + N) (slots + N + N * K) (by rw [z1, a1]; show _ = base + (h.1 + 1 + N); omega) (z_wnew a2 a1 (fun j hj => z_cel_cg (if_neg (by omega)) (z_row_ne (by omega)) rfl) (fun j q1 q2 => ?_) p1) ⟨Nat.le_trans a3.1 (by omega), fun q hq hA => (p1 q (Nat.lt_of_lt_of_le hq a3.1)).trans (a3.2.1 q hq hA), fun q hq => ?_⟩ a4 (by show n0 ≤ h.1 + 1 + N; omega) (by show _ = h.1 + 1 + N - n0; omega) (by show _ = z_sz (h.1 + 1 + N) - z_sz n0; omega)
  · rw [List.map_cons, z_tv_ref, ← a1] at h3
    exact h3
  · have q2 : j < h.1 + 1 + N := q2
    by_cases ej : j = h.1
    · subst ej
      refine z_arrTo hk0 (by omega) ?_
      rw [← a1, e1, hk1]
      show _ = some (arrV (cy 15) N (fun j => va_rf (z_ro base b ((z_nwm h N).2.2.1 (h.1 + 2) j))))
      have e4 : (z_nwm h N).2.2.1 (h.1 + 2) = fun i => if i < N then h.1 + 3 + i else 0 := z_row_eq
      rw [e4]
      congr 2
      funext i
      unfold z_mrow
      show _ = va_rf (z_ro base b (if i < N then h.1 + 3 + i else 0))
      by_cases hi : i < N
      · rw [if_pos hi, if_pos hi]
        have e5 : z_ro base b (h.1 + 3 + i) = some (base + (h.1 + 1 + i)) := by
          rw [show h.1 + 3 + i = (h.1 + 1 + i) + 2 by omega]
          exact z_ro_ref
        rw [e5, a1]
        exact congrArg Value.ref (show (base + h.1 + 1 + i : Nat) = base + (h.1 + 1 + i) by omega)
      · rw [if_neg hi, if_neg hi]
        rfl
    · obtain ⟨i, rfl⟩ : ∃ i, j = h.1 + 1 + i := ⟨j - h.1 - 1, by omega⟩
      have hi : i < N := by omega
      have e6 : h.1 + 1 + i + 2 = h.1 + 3 + i := by omega
      refine z_arrTo (t := 10) (by rw [e6]; exact (hk2 i hi).1) (by omega) ?_
      rw [show base + (h.1 + 1 + i) = H.size + 1 + i by omega, e2 i hi, e6, (hk2 i hi).2]
      show _ = some (vp_cell (cy 10) (K, .inl ((z_nwm h N).2.1 (h.1 + 3 + i))))
      have e4 : (z_nwm h N).2.1 (h.1 + 3 + i) = fun _ => 0 := if_pos ⟨by omega, by omega⟩
      rw [e4]
      rfl
  · rcases List.mem_append.mp hq with hq | hq
    · exact a3.2.2 q hq
    · obtain ⟨j, -, rfl⟩ := List.mem_map.mp hq
      exact hb'
end NW
