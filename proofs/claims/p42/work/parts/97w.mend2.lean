/-! CALL: mend, the call itself -/
section MD
variable {sc : z_Sc} {h : y_Hp} {a : Nat} {G : u_G} {P : u_P} {N : Nat}
theorem q_ct_cg {TD TE : Int → Prop} {w : Int} (e : ∀ j, 0 ≤ j → j < w → (TD j ↔ TE j)) : q_ct TD w = q_ct TE w := u_sum_cg fun j h1 h2 => bi_cg (e j h1 (by omega))
theorem LO_ba {t : Int} : q_ct (LO P t) (g_wm G) = (((g_wm G).toNat : Nat) : Int) - g_ba G P t := by
  have : ∀ (n : Nat) (k : Int), u_sum (fun j => y_bi (LO P t j)) k n + u_sum (fun w => y_bi (P w ≠ -9 ∧ P w < t)) k n = (n : Int) := by
    intro n
    induction n with
    | zero => intro k; rw [u_sum_0, u_sum_0]; omega
    | succ n ih =>
      intro k
      have := ih (k + 1)
      rw [u_sum_s, u_sum_s]
      by_cases c : P k ≠ -9 ∧ P k < t
      · rw [bi_t c, bi_f (show ¬ LO P t k from fun q => q c)]; omega
      · rw [bi_f c, bi_t (show LO P t k from c)]; omega
  have := this (g_wm G).toNat 0
  unfold q_ct g_ba
  omega
theorem k_KI2 (hg : g_ok G) (hp : p_ok G P) (hbad : g_bad G P = -9) {t : Int} (ht : 0 ≤ t) : KI2 G P (k_all G P t) t 0 := by
  have st : ∀ (m : Int), 0 ≤ m → ∀ (n : Nat) (w : Int) (s : k_A), 0 ≤ w → w + n = g_wm G → KI2 G P s m w → KI2 G P (u_fold (k_st G P m) s w n) m (g_wm G) := by
    intro m hm n
    induction n with
    | zero => intro w s h1 h2 K; rw [u_fold_0]; rw [show w = g_wm G by omega] at K; exact K
    | succ n ih => intro w s h1 h2 K; rw [u_fold_s]; exact ih (w + 1) _ (by omega) (by omega) (KI2_st hg hp hbad K ⟨h1, by omega⟩ hm)
  have kw := hg.2.2.1
  have all : ∀ (n : Nat) (m : Int) (s : k_A), 0 ≤ m → KI2 G P s m 0 → KI2 G P (u_fold (k_in G P) s m n) (m + n) 0 := by
    intro n
    induction n with
    | zero => intro m s h1 K; rw [u_fold_0, show m + ((0 : Nat) : Int) = m by omega]; exact K
    | succ n ih =>
      intro m s h1 K
      have := ih (m + 1) (k_in G P s m) (by omega) (KI2_nx (st m h1 (g_wm G).toNat 0 s (by omega) (by omega) K))
      rw [u_fold_s, show m + ((n + 1 : Nat) : Int) = m + 1 + n by omega]
      exact this
  have := all t.toNat 0 k_0 (by omega) (KI2_0 hg hp)
  rw [show (0 : Int) + (t.toNat : Int) = t by omega] at this
  exact this
theorem q_M_good (hg : g_ok G) {t : Int} (ht : 0 ≤ t) (K : KI2 G P (k_all G P t) t 0) : q_good G (q_M G P t) := q_tr_good hg ht _ _ _ _ K.2.2 (Or.inl rfl)
theorem q_M_ge (hg : g_ok G) {t : Int} (ht : 0 ≤ t) (K : KI2 G P (k_all G P t) t 0) : 0 ≤ (q_M G P t).1 := q_tr_ge _ _ _ _ hg ht K.2.2 (Or.inr ⟨by show (-9 : Int) < 0; omega, by omega⟩)
/-- x's half -/
theorem x_mend (X : xm h a) (hg : g_ok (hv h)) (hF : y_F h 2 10 = a) (hp : p_ok (hv h) (pl h 21)) (t : Int) (ht : 0 ≤ t ∧ t ≤ 59) (hb : g_bad (hv h) (pl h 21) = -9) (h8 : q_ct (LO (pl h 21) t) (g_wm (hv h)) ≤ 8) : ∃ h', (∀ d, 23 ≤ d → y_se z_pg sc d 115 [y_vr 2, y_vi t] h = y_cv (y_se z_pg sc (d - 1) 33 [y_vr 20, y_vr 44, y_vi (g_wm (hv h))] h') (fun g3 => some (some (y_vi (q_best (q_M (hv h) (pl h 21) t))), g3))) ∧ XA h' (hv h) (q_M (hv h) (pl h 21) t) ∧ (∀ b k, ¬ (43 ≤ b ∧ b ≤ 60) → y_I h' b k = y_I h b k) ∧ (∀ b k, b ≠ 43 → y_F h' b k = y_F h b k) ∧ y_J h' = y_J h := by
  have ha := X.1
  have kw := hg.2.2.1
  have x3 : y_I h a 3 = g_wm (hv h) := X.2.2.2.2.1
  have K := k_KI2 hg hp hb ht.1
  have ba := LO_ba (G := hv h) (P := pl h 21) (t := t)
  have cb := q_ct_bd (TD := LO (pl h 21) t) (w := g_wm (hv h))
  obtain ⟨g1, a1, a2, a3, a4, a5, a6⟩ := s64 (sc := sc) (b0 := t) (oc := 1) (xmg_xm.mpr X) hg (Or.inr rfl)
  have pe1 : p_eq (hv h) (pl g1 21) (pl h 21) := fun w _ _ => a4 21 _ (by omega)
  have F1 : y_F g1 2 10 = a := (a5 _ _ (by omega)).trans hF
  obtain ⟨g2, b1, b2, b3, b4, b5⟩ := l133 (sc := sc) (a := a) hg hp hb t (by omega) t.toNat 0 k_0 g1 (by omega) (by omega) (KI2_0 hg hp) (XQ_L hg a2 fun j _ _ => ⟨fun q => q.elim, fun q => q rfl⟩) pe1 F1
  have S0 : XS0 g2 a (hv h) (LK (k_all (hv h) (pl h 21) t)) (LO (pl h 21) t) t 1 (k_all (hv h) (pl h 21) t).1 (k_all (hv h) (pl h 21) t).2 0 := XS0_0 hg b3 ((b4 43 9 (by omega)).trans a3)
  have pe2 : p_eq (hv h) (pl g2 21) (pl h 21) := fun w w1 w2 => (b4 21 _ (by omega)).trans (pe1 w w1 w2)
  have F2 : y_F g2 2 10 = a := by unfold y_F; rw [b5]; exact F1
  obtain ⟨g3, c1, c2, c3, c4⟩ := l115 (sc := sc) hg t (by omega) _ rfl K h8 (g_wm (hv h)).toNat 0 g2 (by omega) (by omega) S0 pe2 F2
  refine ⟨g3, fun d hd => ?_, c2, fun b k q => by rw [c3 b k q, b4 b k (by omega), a4 b k q], fun b k q => ?_, ?_⟩
  · obtain ⟨d, rfl⟩ : ∃ e, d = e + 1 := ⟨d - 1, by omega⟩
    have s40' := s40 (sc := sc) (h := h) (b := 20) d (by omega) (Or.inl rfl) X hg hp
    have s35' := s35 (sc := sc) (h := h) (b := 20) d (by omega) (Or.inl rfl) X hg t
    have e40 : y_se z_pg sc d 40 [y_vr 20, y_vr a] h = some (some (y_vi (g_bad (hv h) (pl h 21))), h) := s40'
    have e35 : y_se z_pg sc d 35 [y_vr 20, y_vr a, y_vi t] h = some (some (y_vi (g_ba (hv h) (pl h 21) t)), h) := s35'
    have e133' : y_se z_pg sc d 133 [y_vr 2, y_vi t] g1 = some (none, g2) := by
      obtain ⟨d, rfl⟩ : ∃ e, d = e + 1 := ⟨d - 1, by omega⟩
      rw [e133, b133_0, b1 d _ (by omega)]
    rw [e115, b115_0, if_neg (by omega), if_neg (by omega), hF, e40, yci_s, hb, if_pos rfl, hF, yH0 ha, e35, yci_s, x3, yr_t (by omega), if_neg (by omega), hF, a1 d (by omega), ycv_s, e133', ycv_s, c1 d (by omega), Nat.add_sub_cancel]
  · have : y_F g3 b k = y_F g1 b k := by unfold y_F; rw [c4, b5]
    rw [this, a5 b k q]
  · have : y_J g3 = y_J g1 := by unfold y_J; rw [c4, b5]
    rw [this, a6]
/-- the model's half -/
theorem m_mend (hg : g_ok (hv h)) (hp : p_ok (hv h) (pl h 111)) (t : Int) (ht : 0 ≤ t ∧ t ≤ 59) (hb : g_bad (hv h) (pl h 111) = -9) (h8 : q_ct (LO (pl h 111) t) (g_wm (hv h)) ≤ 8) : ∃ h', (∀ d, 14 ≤ d → y_se z_pg sc d 238 [y_vr 94, y_vi t] h = some (some (y_vi (q_M (hv h) (pl h 111) t).1), h')) ∧ (0 ≤ (q_M (hv h) (pl h 111) t).1 → p_eq (hv h) (pl h' 111) (q_M (hv h) (pl h 111) t).2.2) ∧ (∀ b k, ¬ ((b = 94 ∧ 39 ≤ k ∧ k ≤ 45) ∨ b = 111 ∨ (115 ≤ b ∧ b ≤ 118)) → y_I h' b k = y_I h b k) ∧ h'.2 = h.2 := by
  have kw := hg.2.2.1
  have sb := shl_bd kw
  have K := k_KI2 hg hp hb ht.1
  have cb := q_ct_bd (TD := LO (pl h 111) t) (w := g_wm (hv h))
  generalize eP : pl h 111 = P at *
  generalize eG : hv h = G at *
  generalize e1 : y_fill h 115 0 24 (fun j => y_I h 111 j) = g1
  have I1 : ∀ b k, b ≠ 115 → y_I g1 b k = y_I h b k := fun b k q => by rw [← e1, yI_fill_o (by omega)]
  have v1 : hv g1 = G := by rw [← eG]; exact hv_cg fun b k q => I1 b k (by unfold RG at q; omega)
  obtain ⟨g2, u, a1, a2, a3, a4⟩ := s235 (sc := sc) (h := g1) (L := LT) (by rw [v1]; exact hg) (y_shl 1 (g_wm G) - 1) (by omega) (fun w w1 w2 => ⟨fun _ => trivial, fun _ => by rw [v1] at w2; exact (ub_all kw (by omega)).mpr w2⟩)
  rw [v1] at a2
  have pe2 : p_eq G (pl g2 115) P := fun w w1 w2 => by
    show y_I g2 115 _ = _
    rw [a3 _ _ (by omega), ← e1, yI_fill_e ⟨rfl, by omega, by omega⟩, ← eP]; rfl
  obtain ⟨g3, b1, b2, b3, b4, b5⟩ := l238d (sc := sc) hg hp hb t (q_ct (LO P t) (g_wm G)) (by omega) t.toNat 0 k_0 g2 (by omega) (by omega) (KI2_0 hg hp) a2 pe2
  have b3 : MSQ g3 G LT 0 1 (k_all G P t).1 (k_all G P t).2 := b3
  have I4 : ∀ b k, ¬ (b = 94 ∧ k = 40) → y_I (y_sI g3 94 40 t) b k = y_I g3 b k := fun b k q => yI_sI_o q
  have v4 : hv (y_sI g3 94 40 t) = G := by
    rw [← b3.1.1]
    exact hv_cg fun b k q => I4 b k (by unfold RG at q; omega)
  have Q4 : MSQ (y_sI g3 94 40 t) G LT t 1 (k_all G P t).1 (k_all G P t).2 := by
    obtain ⟨⟨q1, q2⟩, ⟨q3, q4⟩, q5, q6⟩ := b3
    refine ⟨⟨v4, fun w w1 w2 => by rw [I4 _ _ (by omega)]; exact q2 w w1 w2⟩, ⟨yI_sI_e ⟨rfl, rfl⟩, by rw [I4 _ _ (by omega)]; exact q4⟩, fun w w1 w2 => (I4 111 _ (by omega)).trans (q5 w w1 w2), fun p p1 p2 => ?_⟩
    have : pl (y_sI g3 94 40 t) 117 = pl g3 117 := funext fun w => I4 117 _ (by omega)
    rw [this]
    exact q6 p p1 p2
  obtain ⟨g5, c1, c2, c3, c4⟩ := s234 (sc := sc) (wt := 0) hg (b0 := t) (by omega) (by omega) (Or.inr rfl) (fun q => by omega) K.2.2 Q4 (q_ct (LO P t) (g_wm G)).toNat (by omega) (by rw [k_lf hg K]; omega)
  have c2 : MSA g5 G (q_M G P t) := c2
  generalize e6 : y_fill g5 111 0 24 (fun j => y_I g5 116 j) = g6
  have I6 : ∀ b k, b ≠ 111 → y_I g6 b k = y_I g5 b k := fun b k q => by rw [← e6, yI_fill_o (by omega)]
  refine ⟨g6, fun d hd => ?_, fun q w w1 w2 => ?_, fun b k q => by rw [I6 b k (by omega), c3 b k (by omega), I4 b k (by omega), b4 b k (by omega) (by omega), a3 b k (by omega), I1 b k (by omega)], ?_⟩
  · obtain ⟨d, rfl⟩ : ∃ e, d = e + 1 := ⟨d - 1, by omega⟩
    have s200' := s200 (sc := sc) (h := h) d (by omega) (by rw [eG]; exact hg) (by rw [eG, eP]; exact hp)
    rw [eG, eP, hb] at s200'
    have l' := l238a (sc := sc) (h := h) d (by omega) t (by rw [eG]; exact hg) (g_wm G).toNat 0 0 (by omega) (by rw [eG]; omega) (by omega)
    rw [eG, eP, Int.zero_add] at l'
    have l'' : y_ev z_pg sc d pgX8_mend 28 [some (y_vr 94), some (y_vi t), some (y_vi 0), some (y_vi 0), none] [] h = y_ev z_pg sc d pgX8_mend 28 [some (y_vr 94), some (y_vi t), some (y_vi (q_ct (LO P t) (g_wm G))), some (y_vi (g_wm G)), none] [] h := l'
    have w11 : y_I h 94 11 = g_wm G := by rw [← eG]; rfl
    have s221' := s221 (sc := sc) (h := h) d (by omega) 115 (Or.inl rfl)
    rw [e1] at s221'
    have s222' := s222 (sc := sc) (h := g5) d (by omega) 116 (Or.inr rfl)
    rw [e6] at s222'
    have s236' := s236 (sc := sc) (h := g1) d (by omega) (by rw [v1]; exact hg)
    rw [v1] at s236'
    obtain ⟨o', ee⟩ := b1 d none (by omega)
    have v43 : y_I g6 94 43 = (q_M G P t).1 := by rw [I6 _ _ (by omega)]; exact c2.1
    rw [e238, b238_0, s136 d (by omega), yci_s, bi_t ⟨ht.1, ht.2⟩, if_neg (by omega), s200', yci_s, if_pos rfl, l'', b238_28, w11, if_neg (by omega), if_neg (by omega), s221', ycv_s, s236', yci_s, a1 d (by omega), yci_s, ee, b238_96, if_neg (by omega), c1 d (by omega), ycv_s, s222', ycv_s, v43]
  · show y_I g6 111 _ = _
    rw [← e6, yI_fill_e ⟨rfl, by omega, by omega⟩]
    exact (c2.2 q).2 w w1 w2
  · have : g6.2 = g5.2 := by rw [← e6]; rfl
    have h4 : (y_sI g3 94 40 t).2 = g3.2 := rfl
    have h5 : g1.2 = h.2 := by rw [← e1]; rfl
    rw [this, c4, h4, b5, a4, h5]
end MD
