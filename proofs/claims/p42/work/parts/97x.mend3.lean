/-! CALL: mend -/
section MO
variable {sc : z_Sc} {h : y_Hp} {N : Nat}
theorem q_M_cg {G : u_G} {P Q : u_P} (hg : g_ok G) (e : p_eq G P Q) (t : Int) : q_M G P t = q_M G Q t := by
  have kw := hg.2.2.1
  have c : q_ct (LO P t) (g_wm G) = q_ct (LO Q t) (g_wm G) := q_ct_cg fun j h1 h2 => by unfold LO; rw [e j h1 h2]
  have k : k_all G P t = k_all G Q t := u_fold_cg fun s m _ _ => u_fold_cg fun s w h1 h2 => by unfold k_st; rw [e w h1 (by omega)]
  unfold q_M
  rw [c, k]
theorem o_mend (t : Int) (I : INV N h) (hN : N ≤ 1000) : OP sc 115 238 [y_vr 2, y_vi t] [y_vr 94, y_vi t] N h := by
  have II := I
  obtain ⟨a, ⟨hF, hD, X, hg⟩, i2, i3, i4, i5, i6⟩ := I
  have ha := X.1
  have kw := hg.2.2.1
  have x3 : y_I h a 3 = g_wm (hv h) := X.2.2.2.2.1
  have pe : p_eq (hv h) (pl h 111) (pl h 21) := i4.2
  have hp21 : p_ok (hv h) (pl h 21) := p_ok.cg pe i4.1
  by_cases c0 : 0 ≤ t ∧ t ≤ 59
  rotate_left
  · refine OP_same II (-1) (fun d hd => ?_) (fun d hd => ?_)
    · rw [e115, b115_0]
      by_cases z : t < 0
      · rw [if_pos z]
      · rw [if_neg z, if_pos (by omega)]
    · rw [e238, b238_0, s136 d (by omega), yci_s, bi_f c0, if_pos rfl]
  by_cases c1 : g_bad (hv h) (pl h 21) = -9
  rotate_left
  · refine OP_same II (-4) (fun d hd => ?_) (fun d hd => ?_)
    · have s40' : y_se z_pg sc d 40 [y_vr 20, y_vr a] h = some (some (y_vi (g_bad (hv h) (pl h 21))), h) := s40 (sc := sc) (h := h) (b := 20) d (by omega) (Or.inl rfl) X hg hp21
      rw [e115, b115_0, if_neg (by omega), if_neg (by omega), hF, s40', yci_s, if_neg c1]
    · rw [e238, b238_0, s136 d (by omega), yci_s, bi_t c0, if_neg (by omega), s200 d (by omega) hg i4.1, yci_s, g_bad_cg pe, if_neg c1]
  have c1' : g_bad (hv h) (pl h 111) = -9 := by rw [g_bad_cg pe]; exact c1
  have ec : q_ct (LO (pl h 111) t) (g_wm (hv h)) = q_ct (LO (pl h 21) t) (g_wm (hv h)) := q_ct_cg fun j h1 h2 => by unfold LO; rw [pe j h1 h2]
  have ba := LO_ba (G := hv h) (P := pl h 21) (t := t)
  have cb := q_ct_bd (TD := LO (pl h 21) t) (w := g_wm (hv h))
  have cn := q_ct_mn (TD := LO (pl h 21) t) (g_wm (hv h)).toNat 0 (by omega)
  by_cases c2 : 8 < q_ct (LO (pl h 21) t) (g_wm (hv h))
  · refine OP_same II (-6) (fun d hd => ?_) (fun d hd => ?_)
    · have s40' : y_se z_pg sc d 40 [y_vr 20, y_vr a] h = some (some (y_vi (g_bad (hv h) (pl h 21))), h) := s40 (sc := sc) (h := h) (b := 20) d (by omega) (Or.inl rfl) X hg hp21
      have s35' : y_se z_pg sc d 35 [y_vr 20, y_vr a, y_vi t] h = some (some (y_vi (g_ba (hv h) (pl h 21) t)), h) := s35 (sc := sc) (h := h) (b := 20) d (by omega) (Or.inl rfl) X hg t
      have bb : 0 ≤ g_ba (hv h) (pl h 21) t ∧ g_ba (hv h) (pl h 21) t ≤ g_wm (hv h) := by
        have := u_sum_bd (f := fun w => y_bi (pl h 21 w ≠ -9 ∧ pl h 21 w < t)) (lo := 0) (hi := 1) (n := (g_wm (hv h)).toNat) (k := 0) fun j _ _ => bi_rng
        unfold g_ba
        omega
      rw [e115, b115_0, if_neg (by omega), if_neg (by omega), hF, s40', yci_s, c1, if_pos rfl, hF, yH0 ha, s35', yci_s, x3, yr_t (by omega), if_pos (by omega)]
    · have l' := l238a (sc := sc) (h := h) d (by omega) t hg (g_wm (hv h)).toNat 0 0 (by omega) (by omega) (by omega)
      rw [Int.zero_add] at l'
      have l'' : y_ev z_pg sc d pgX8_mend 28 [some (y_vr 94), some (y_vi t), some (y_vi 0), some (y_vi 0), none] [] h = y_ev z_pg sc d pgX8_mend 28 [some (y_vr 94), some (y_vi t), some (y_vi (q_ct (LO (pl h 111) t) (g_wm (hv h)))), some (y_vi (g_wm (hv h))), none] [] h := l'
      rw [e238, b238_0, s136 d (by omega), yci_s, bi_t c0, if_neg (by omega), s200 d (by omega) hg i4.1, yci_s, c1', if_pos rfl, l'', b238_28, hvwm, if_neg (by omega), if_pos (by omega)]
  · obtain ⟨h0, a1, a2, a3, a4, a5⟩ := x_mend (sc := sc) X hg hF hp21 t c0 c1 (by omega)
    have K := k_KI2 hg hp21 c1 c0.1
    have ge := q_M_ge hg c0.1 K
    have gd := (q_M_good hg c0.1 K).resolve_left (by omega)
    generalize eA : q_M (hv h) (pl h 21) t = A at *
    have e0 := (a2.2 ge).2
    generalize e1 : y_fill h0 21 0 (Int.toNat (g_wm (hv h))) (fun q => y_I h0 44 q) = h1 at *
    have I1 : ∀ b k, b ≠ 21 → y_I h1 b k = y_I h0 b k := fun b k q => by rw [← e1, yI_fill_o (by omega)]
    have v1 : hv h1 = hv h := hv_cg fun b k q => by rw [I1 b k (by unfold RG at q; omega), a3 b k (by unfold RG at q; omega)]
    have p1 : pl h1 111 = pl h 111 := funext fun w => by
      show y_I h1 111 _ = y_I h 111 _
      rw [I1 _ _ (by omega), a3 _ _ (by omega)]
    obtain ⟨g5, b1, b2, b3, b4⟩ := m_mend (sc := sc) (h := h1) (by rw [v1]; exact hg) (by rw [v1, p1]; exact i4.1) t c0 (by rw [v1, p1]; exact c1') (by rw [v1, p1]; omega)
    rw [v1, p1, q_M_cg hg pe t, eA] at b1 b2
    have fr : ∀ b k, ¬ ((43 ≤ b ∧ b ≤ 60) ∨ b = 21 ∨ (b = 94 ∧ 39 ≤ k ∧ k ≤ 45) ∨ b = 111 ∨ (115 ≤ b ∧ b ≤ 118)) → y_I g5 b k = y_I h b k := fun b k q => by
      rw [b3 b k (by omega), I1 b k (by omega), a3 b k (by omega)]
    have S5 : g5.2 = h0.2 := b4.trans (by rw [← e1]; rfl)
    have fF : ∀ b k, b ≠ 43 → y_F g5 b k = y_F h b k := fun b k q => by
      have : y_F g5 b k = y_F h0 b k := by unfold y_F; rw [S5]
      rw [this, a4 b k q]
    have fJ : y_J g5 = y_J h := by
      have : y_J g5 = y_J h0 := by unfold y_J; rw [S5]
      rw [this, a5]
    have eg : hv g5 = hv h := hv_cg fun b k q => fr b k (by unfold RG at q; omega)
    have p111 := b2 ge
    have p21 : p_eq (hv h) (pl g5 21) A.2.2 := fun w w1 w2 => by
      have : pl g5 21 w = y_I h0 44 (Int.toNat w) := by
        show y_I g5 21 _ = _
        rw [b3 _ _ (by omega), ← e1, yI_fill_e ⟨rfl, by omega, by omega⟩]
      rw [this]
      exact e0 w w1 w2
    have hp : I_pln g5 := by
      unfold I_pln
      rw [eg]
      exact ⟨p_ok.cg (p_eq.symm p111) gd.2, p111.trans (p_eq.symm p21)⟩
    refine OP_do A.1 h1 g5 (fun d hd => ?_) (fun d hd => b1 (d + 1) (by omega)) (INV_sk II (fun b k q => fr b k (by omega)) fF fJ hp ?_)
    · have qb : q_best A = A.1 := if_neg (by omega)
      have s33' := s33b (sc := sc) (h := h0) d (by omega) (g_wm (hv h)) (by omega)
      rw [e1] at s33'
      rw [a1 (d + 1) (by omega), Nat.add_sub_cancel, s33', ycv_s, qb]
    · rw [fr _ _ (by omega), fr _ _ (by omega)]; exact i6.1
end MO
