/-! THE PAPER GOES ROUND BY A RULE: plans that come, the model's call runs -/
noncomputable def g_in (G : u_G) (kd : Int) (cd : Int → Int) (t : Int) : Nat → u_P → u_P
  | 0, P => P
  | n + 1, P => if g_cho G P kd cd t = -9 then P else g_in G kd cd t n (u_up P (g_cho G P kd cd t) t)
noncomputable def g_out (G : u_G) (kd : Int) (cd : Int → Int) : Nat → Int → u_P → u_P
  | 0, _, P => P
  | n + 1, t, P => g_out G kd cd n (t + 1) (g_in G kd cd t 24 P)
noncomputable def g_run (G : u_G) (kd : Int) (cd : Int → Int) : u_P := g_out G kd cd (g_la G).toNat 0 (fun _ => -9)
noncomputable def g_unr (G : u_G) (P : u_P) : Int := u_sum (fun w => y_bi (P w = -9)) 0 (g_wm G).toNat
theorem u_fold_inv {F : Int → Int → Int} {I : Int → Prop} : ∀ {n : Nat} {k a : Int}, I a → (∀ b j, k ≤ j → j < k + n → I b → I (F b j)) → I (u_fold F a k n)
  | 0, _, _, h, _ => h
  | n + 1, k, a, h, f => by
    rw [u_fold_s]
    exact u_fold_inv (f a k (by omega) (by omega) h) fun b j h1 h2 => f b j (by omega) (by omega)
section GC
variable {G : u_G} {P Q : u_P}
theorem g_has_cg (e : p_eq G P Q) {r t : Int} : g_has G P r t ↔ g_has G Q r t := u_all_cg fun j h1 h2 => by rw [e j h1 (by omega)]
theorem g_kep_cg (e : p_eq G P Q) {w t : Int} (h1 : 0 ≤ w) (h2 : w < g_wm G) : g_kep G P w t ↔ g_kep G Q w t := by
  unfold g_kep
  rw [e w h1 h2, g_has_cg e]
theorem g_tk_cg (e : p_eq G P Q) {K p t : Int} : g_tk G P K p t = g_tk G Q K p t := u_sum_cg fun j h1 h2 => bi_cg (by rw [g_rg_cg e h1 (by omega), g_kep_cg e h1 (by omega)])
theorem g_may_cg (e : p_eq G P Q) {K w t : Int} (h1 : 0 ≤ w) (h2 : w < g_wm G) : g_may G P K w t ↔ g_may G Q K w t := by
  unfold g_may
  rw [e w h1 h2, g_does_cg e, g_tk_cg e, g_due_cg e h2, g_spo_cg e]
theorem g_fst_cg (e : p_eq G P Q) {K r t : Int} : g_fst G P K r t = g_fst G Q K r t := u_find_cg fun j h1 h2 => by rw [g_may_cg e h1 (by omega)]
theorem g_ws_cg (e : p_eq G P Q) {r : Int} : g_ws G P r = g_ws G Q r := u_fold_cg fun a j h1 h2 => by
  unfold g_wsf
  rw [e j h1 (by omega)]
theorem g_cho_cg (e : p_eq G P Q) {kd : Int} {cd : Int → Int} {t : Int} : g_cho G P kd cd t = g_cho G Q kd cd t := by
  unfold g_cho
  rw [u_fold_cg (F := g_c4 G P kd t) (G := g_c4 G Q kd t) fun a j h1 h2 => by
    unfold g_c4
    rw [propext (g_may_cg (w := j) (K := 0) (t := t) e h1 (by omega))], u_fold_cg (F := g_c3 G P kd cd t) (G := g_c3 G Q kd cd t) fun a j h1 h2 => by
    unfold g_c3
    rw [g_fst_cg e, g_ws_cg e, g_ws_cg e]]
theorem g_cho_cd {kd : Int} {cd ce : Int → Int} {t : Int} (e : ∀ i, 0 ≤ i → i < g_rm G → kd ≤ 2 → cd i = ce i) : g_cho G P kd cd t = g_cho G P kd ce t := by
  unfold g_cho
  by_cases c : 3 < kd
  · rw [if_pos c, if_pos c]
  · rw [if_neg c, if_neg c]
    refine u_fold_cg fun a j h1 h2 => ?_
    unfold g_c3
    by_cases c3 : kd = 3
    · rw [if_pos c3, if_pos c3]
    · rw [if_neg c3, if_neg c3, e j h1 (by omega) (by omega)]
theorem g_in_cg {kd : Int} {cd : Int → Int} {t : Int} : ∀ {n : Nat} {P Q : u_P}, p_eq G P Q → p_eq G (g_in G kd cd t n P) (g_in G kd cd t n Q)
  | 0, P, Q, e => e
  | n + 1, P, Q, e => by
    unfold g_in
    rw [← g_cho_cg e]
    by_cases c : g_cho G P kd cd t = -9
    · rw [if_pos c, if_pos c]; exact e
    · rw [if_neg c, if_neg c]; exact g_in_cg (p_eq_up e)
theorem g_out_cg {kd : Int} {cd : Int → Int} : ∀ {n : Nat} {t : Int} {P Q : u_P}, p_eq G P Q → p_eq G (g_out G kd cd n t P) (g_out G kd cd n t Q)
  | 0, t, P, Q, e => e
  | n + 1, t, P, Q, e => g_out_cg (n := n) (t := t + 1) (g_in_cg e)
theorem g_in_cd {kd : Int} {cd ce : Int → Int} {t : Int} (e : ∀ i, 0 ≤ i → i < g_rm G → kd ≤ 2 → cd i = ce i) : ∀ {n : Nat} {P : u_P}, g_in G kd cd t n P = g_in G kd ce t n P
  | 0, P => rfl
  | n + 1, P => by
    unfold g_in
    rw [g_cho_cd e, g_in_cd e]
theorem g_out_cd {kd : Int} {cd ce : Int → Int} (e : ∀ i, 0 ≤ i → i < g_rm G → kd ≤ 2 → cd i = ce i) : ∀ {n : Nat} {t : Int} {P : u_P}, g_out G kd cd n t P = g_out G kd ce n t P
  | 0, t, P => rfl
  | n + 1, t, P => by
    unfold g_out
    rw [g_in_cd e, g_out_cd e]
theorem g_run_cd {kd : Int} {cd ce : Int → Int} (e : ∀ i, 0 ≤ i → i < g_rm G → kd ≤ 2 → cd i = ce i) : g_run G kd cd = g_run G kd ce := g_out_cd e
theorem g_cho_in {kd : Int} {cd : Int → Int} {t : Int} (hw : 0 ≤ g_wm G) : g_cho G P kd cd t = -9 ∨ ((0 ≤ g_cho G P kd cd t ∧ g_cho G P kd cd t < g_wm G) ∧ g_may G P (if kd = 2 then 1 else 0) (g_cho G P kd cd t) t) := by
  unfold g_cho
  by_cases c : 3 < kd
  · rw [if_pos c, if_neg (by omega)]
    exact u_fold_inv (I := fun b => b = -9 ∨ ((0 ≤ b ∧ b < g_wm G) ∧ g_may G P 0 b t)) (Or.inl rfl) fun b j h1 h2 q => g_c4_in q (by omega)
  · rw [if_neg c]
    exact u_fold_inv (I := fun b => b = -9 ∨ ((0 ≤ b ∧ b < g_wm G) ∧ g_may G P (if kd = 2 then 1 else 0) b t)) (Or.inl rfl) fun b j h1 h2 q => g_c3_in hw q
theorem g_unr_up {w t : Int} (hw : 0 ≤ w ∧ w < g_wm G) (e : P w = -9) (ht : t ≠ -9) : g_unr G (u_up P w t) = g_unr G P - 1 := by
  have key : g_unr G P = u_sum (fun j => y_bi (u_up P w t j = -9) + if j = w then 1 else 0) 0 (g_wm G).toNat := u_sum_cg fun j h1 h2 => by
    by_cases c : j = w
    · subst c
      rw [bi_t e, bi_f (show ¬ u_up P j t j = -9 from fun q => ht (by unfold u_up at q; rwa [if_pos rfl] at q)), if_pos rfl]
      rfl
    · rw [if_neg c, Int.add_zero]
      refine bi_cg ?_
      unfold u_up
      rw [if_neg (by omega)]
  rw [key, u_sum_ind, if_pos (by omega)]
  unfold g_unr
  omega
theorem g_unr_0 {w : Int} (h : g_unr G P ≤ 0) (hw : 0 ≤ w ∧ w < g_wm G) : P w ≠ -9 := fun e => by
  have h1 := g_unr_up (G := G) (P := P) (t := 0) hw e (by omega)
  have h2 := (u_sum_bd (f := fun j => y_bi (u_up P w 0 j = -9)) (lo := 0) (hi := 1) (n := (g_wm G).toNat) (k := 0) fun j _ _ => bi_bd).1
  unfold g_unr at h1 h
  omega
theorem g_unr_bd (hw : 0 ≤ g_wm G ∧ g_wm G ≤ 24) : g_unr G P ≤ 24 := by
  have h2 := (u_sum_bd (f := fun j => y_bi (P j = -9)) (lo := 0) (hi := 1) (n := (g_wm G).toNat) (k := 0) fun j _ _ => bi_bd).2
  unfold g_unr
  omega
theorem g_in_ok {kd : Int} {cd : Int → Int} {t : Int} (ht : 0 ≤ t ∧ t ≤ 59) : ∀ {n : Nat} {P : u_P}, p_ok G P → p_ok G (g_in G kd cd t n P)
  | 0, P, e => e
  | n + 1, P, e => by
    unfold g_in
    by_cases c : g_cho G P kd cd t = -9
    · rw [if_pos c]; exact e
    · rw [if_neg c]; exact g_in_ok ht (p_ok_up e (Or.inr ht))
theorem g_out_ok {kd : Int} {cd : Int → Int} : ∀ {n : Nat} {t : Int} {P : u_P}, 0 ≤ t → t + n ≤ 60 → p_ok G P → p_ok G (g_out G kd cd n t P)
  | 0, t, P, _, _, e => e
  | n + 1, t, P, h1, h2, e => g_out_ok (n := n) (t := t + 1) (by omega) (by omega) (g_in_ok (by omega) e)
theorem g_run_ok (hg : g_ok G) {kd : Int} {cd : Int → Int} : p_ok G (g_run G kd cd) := g_out_ok (by omega) (by have := hg.2.2.2.2.2.1; omega) fun w _ _ => Or.inl rfl
end GC
section MR
variable {sc : z_Sc}
theorem l219a (d : Nat) (kd : Int) (g : y_Hp) (hg : g_ok (hv g)) : ∀ (m : Nat) (k : Int), 0 ≤ k → k + m = g_wm (hv g) → y_ev z_pg sc d pgX8_runs 2 [some (y_vr 94), some (y_vi kd), some (y_vi k), none] [] (y_fill g 111 0 (Int.toNat k) (fun _ => -9)) = y_ev z_pg sc d pgX8_runs 26 [some (y_vr 94), some (y_vi kd), some (y_vi 0), none] [] (y_fill g 111 0 (Int.toNat (g_wm (hv g))) (fun _ => -9))
  | 0, k, hk, hm => by
    rw [b219_2, yI_fill_o (by omega), hvwm, if_neg (by omega), show k = g_wm (hv g) by omega]
  | m + 1, k, hk, hm => by
    have kw := hg.2.2.1
    have := l219a d kd g hg m (k + 1) (by omega) (by omega)
    rw [show Int.toNat (k + 1) = Int.toNat k + 1 by omega] at this
    rw [b219_2, yI_fill_o (by omega), hvwm, if_pos (by omega), yi_t (by omega), yr_t (by omega), y_fill_s (Nat.zero_le _) rfl, this]
theorem l219c (kd t : Int) (hkd : 1 ≤ kd ∧ kd ≤ 5) (ht : 0 ≤ t ∧ t ≤ 59) : ∀ (n : Nat) (h : y_Hp), g_ok (hv h) → p_ok (hv h) (pl h 111) → g_unr (hv h) (pl h 111) ≤ n → ∃ h', pl h' 111 = g_in (hv h) kd (pl h 114) t n (pl h 111) ∧ (∀ b k, b ≠ 111 → y_I h' b k = y_I h b k) ∧ h'.2 = h.2 ∧ ∀ d, 7 ≤ d → y_ev z_pg sc d pgX8_runs 41 [some (y_vr 94), some (y_vi kd), some (y_vi t), some (y_vi (g_cho (hv h) (pl h 111) kd (pl h 114) t))] [] h = y_ev z_pg sc d pgX8_runs 26 [some (y_vr 94), some (y_vi kd), some (y_vi (t + 1)), some (y_vi (-9))] [] h'
  | 0, h, hg, hp, hu => by
    have kw := hg.2.2.1
    have e : g_cho (hv h) (pl h 111) kd (pl h 114) t = -9 := by
      rcases g_cho_in (G := hv h) (P := pl h 111) (kd := kd) (cd := pl h 114) (t := t) kw.1 with q | q
      · exact q
      · exact absurd q.2.2.1 (g_unr_0 hu q.1)
    refine ⟨h, rfl, fun _ _ _ => rfl, rfl, fun d hd => ?_⟩
    rw [e, b219_41, if_pos rfl, yr_t (by omega)]
  | n + 1, h, hg, hp, hu => by
    have kw := hg.2.2.1
    by_cases c : g_cho (hv h) (pl h 111) kd (pl h 114) t = -9
    · refine ⟨h, ?_, fun _ _ _ => rfl, rfl, fun d hd => ?_⟩
      · rw [g_in, if_pos c]
      · rw [c, b219_41, if_pos rfl, yr_t (by omega)]
    · rcases g_cho_in (G := hv h) (P := pl h 111) (kd := kd) (cd := pl h 114) (t := t) kw.1 with q | q
      · exact absurd q c
      · have e1 : hv (y_sI h 111 (Int.toNat (g_cho (hv h) (pl h 111) kd (pl h 114) t)) t) = hv h := hv_s111
        have e2 : pl (y_sI h 111 (Int.toNat (g_cho (hv h) (pl h 111) kd (pl h 114) t)) t) 111 = u_up (pl h 111) (g_cho (hv h) (pl h 111) kd (pl h 114) t) t := pl_up
        have e3 : pl (y_sI h 111 (Int.toNat (g_cho (hv h) (pl h 111) kd (pl h 114) t)) t) 114 = pl h 114 := pl_o (by omega)
        have hp' : p_ok (hv h) (u_up (pl h 111) (g_cho (hv h) (pl h 111) kd (pl h 114) t) t) := p_ok_up hp (Or.inr ht)
        obtain ⟨h', i1, i2, i3, i4⟩ := l219c kd t hkd ht n (y_sI h 111 (Int.toNat (g_cho (hv h) (pl h 111) kd (pl h 114) t)) t) (by rw [e1]; exact hg) (by rw [e1, e2]; exact hp') (by rw [e1, e2, g_unr_up q.1 q.2.2.1 (by omega)]; omega)
        rw [e1, e2, e3] at i1
        refine ⟨h', ?_, fun b k z => ?_, i3, fun d hd => ?_⟩
        · rw [g_in, if_neg c, i1]
        · rw [i2 b k z, yI_sI_o (by omega)]
        · rw [← i4 d hd, b219_41, if_neg c, yi_t (by omega), s218 d hd kd t hkd (by rw [e1]; exact hg) (by rw [e1, e2]; exact hp') (by omega), yci_s]
theorem l219d (kd : Int) (hkd : 1 ≤ kd ∧ kd ≤ 5) : ∀ (n : Nat) (t : Int) (h : y_Hp), g_ok (hv h) → p_ok (hv h) (pl h 111) → 0 ≤ t → t + n = g_la (hv h) → ∃ h', pl h' 111 = g_out (hv h) kd (pl h 114) n t (pl h 111) ∧ (∀ b k, b ≠ 111 → y_I h' b k = y_I h b k) ∧ h'.2 = h.2 ∧ ∀ d o, 7 ≤ d → y_ev z_pg sc d pgX8_runs 26 [some (y_vr 94), some (y_vi kd), some (y_vi t), o] [] h = some (none, h')
  | 0, t, h, hg, hp, ht, hn => by
    refine ⟨h, rfl, fun _ _ _ => rfl, rfl, fun d o hd => ?_⟩
    rw [b219_26, hvla, if_neg (by omega)]
  | n + 1, t, h, hg, hp, ht, hn => by
    have kl := hg.2.2.2.2.2.1
    obtain ⟨g, j1, j2, j3, j4⟩ := l219c (sc := sc) kd t hkd (by omega) 24 h hg hp (g_unr_bd hg.2.2.1)
    have e1 : hv g = hv h := hv_cg fun b k q => j2 b k (by unfold RG at q; omega)
    have e2 : pl g 114 = pl h 114 := funext fun w => j2 _ _ (by omega)
    obtain ⟨h', i1, i2, i3, i4⟩ := l219d kd hkd n (t + 1) g (by rw [e1]; exact hg) (by rw [e1, j1]; exact g_in_ok (by omega) hp) (by omega) (by rw [e1]; omega)
    rw [e1, e2, j1] at i1
    refine ⟨h', i1, fun b k z => by rw [i2 b k z, j2 b k z], i3.trans j3, fun d o hd => ?_⟩
    rw [b219_26, hvla, if_pos (by omega), s218 d hd kd t hkd hg hp (by omega), yci_s, j4 d hd, i4 d _ hd]
theorem s219 {h : y_Hp} (kd : Int) (hkd : 1 ≤ kd ∧ kd ≤ 5) (hg : g_ok (hv h)) : ∃ h', p_eq (hv h) (pl h' 111) (g_run (hv h) kd (pl h 114)) ∧ (∀ b k, b ≠ 111 → y_I h' b k = y_I h b k) ∧ h'.2 = h.2 ∧ ∀ d, 8 ≤ d → y_se z_pg sc d 219 [y_vr 94, y_vi kd] h = some (none, h') := by
  have kw := hg.2.2.1
  have kl := hg.2.2.2.2.2.1
  have e1 : hv (y_fill h 111 0 (Int.toNat (g_wm (hv h))) (fun _ => -9)) = hv h := hv_cg fun b k q => yI_fill_o (by unfold RG at q; omega)
  have e2 : pl (y_fill h 111 0 (Int.toNat (g_wm (hv h))) (fun _ => -9)) 114 = pl h 114 := funext fun w => yI_fill_o (by omega)
  have e3 : p_eq (hv h) (pl (y_fill h 111 0 (Int.toNat (g_wm (hv h))) (fun _ => -9)) 111) (fun _ => -9) := fun w h1 h2 => yI_fill_e (by omega)
  obtain ⟨h', i1, i2, i3, i4⟩ := l219d (sc := sc) kd hkd (g_la (hv h)).toNat 0 (y_fill h 111 0 (Int.toNat (g_wm (hv h))) (fun _ => -9)) (by rw [e1]; exact hg) (by rw [e1]; exact fun w h1 h2 => Or.inl (e3 w h1 h2)) (by omega) (by rw [e1]; omega)
  rw [e1, e2] at i1
  refine ⟨h', by rw [i1]; exact g_out_cg e3, fun b k z => by rw [i2 b k z, yI_fill_o (by omega)], i3, fun d hd => ?_⟩
  obtain ⟨d, rfl⟩ : ∃ e, d = e + 1 := ⟨d - 1, by omega⟩
  have la := l219a (sc := sc) d kd h hg (g_wm (hv h)).toNat 0 (by omega) (by omega)
  rw [show Int.toNat 0 = 0 from rfl, y_fill_0] at la
  rw [e219, b219_0, la, i4 d _ (by omega)]
end MR
