/-! CALLS: quarrel, twice -/
def LRS (G : u_G) (S : Int) : Int → Prop := fun w => u_bs S (g_rd G w)
/-- readers of a set can all have all -/
def g_can (G : u_G) (S : Int) : Prop := 0 ≤ q_S G (LRS G S) 1 3
noncomputable def g_qr (G : u_G) : Nat → Int → Int → Int
  | 0, _, S => S
  | n + 1, r, S => g_qr G n (r + 1) (@ite _ (g_can G (y_and S (y_xor (y_shl 1 r) (-1)))) (Classical.propDecidable _) S (y_and S (y_xor (y_shl 1 r) (-1))))
theorem yand_m1 {v : Int} (h : y_inr v) : y_and v (-1) = v := ub_ext (y_inr_to _) h fun k k1 k2 => by
  rw [ub_and]
  have : u_bs (-1) k := by
    have q := (ub_not (a := 0) ⟨k1, k2⟩).mpr ub_0
    rwa [show y_xor 0 (-1) = -1 by decide] at q
  exact ⟨fun q => q.1, fun q => ⟨q, this⟩⟩
theorem q_ct_wm {G : u_G} {TD : Int → Prop} (hw : 0 ≤ g_wm G) : q_ct TD (g_wm G) ≤ g_wm G := by
  have := (u_sum_bd (f := fun j => y_bi (TD j)) (lo := 0) (hi := 1) (n := (g_wm G).toNat) (k := 0) fun j _ _ => bi_bd).2
  unfold q_ct
  omega
section QU
variable {sc : z_Sc} {h : y_Hp} {a : Nat} {G : u_G} {N : Nat}
theorem l132 (hg : g_ok G) (h8 : g_wm G ≤ 8) (s : Int) : ∀ (m : Nat) (k : Int) (h : y_Hp), 0 ≤ k → k + m = g_wm G → XS0 h a G (fun _ => False) (LRS G s) 0 1 (fun _ => -9) (fun _ => 0) k → y_F h 2 10 = a → ∃ h', (∀ d, 20 ≤ d → y_ev z_pg sc d pgX7_canAllHaveAll 15 [some (y_vr 2), some (y_vi s), some (y_vi k)] [] h = some (some (y_vi (y_bi (g_can G s))), h')) ∧ (∀ b k, ¬ (43 ≤ b ∧ b ≤ 60) → y_I h' b k = y_I h b k) ∧ h'.2 = h.2
  | 0, k, h, h1, h2, S, hF => by
    have kw := hg.2.2.1
    have ha := S.1.1.2.1
    have x3 : y_I h a 3 = g_wm G := S.1.1.2.2.2.2.2.1
    have ek : k = g_wm G := by omega
    have qg := q_S_good (L := LRS G s) (oc := 1) (wt := 3) hg
    have cw := q_ct_wm (TD := LRS G s) kw.1
    rw [ek] at S
    obtain ⟨h', a1, a3, a4⟩ := s67S (sc := sc) (wt := 3) (by omega) (Or.inr rfl) hg (by omega) S
    refine ⟨h', fun d hd => ?_, a3, a4⟩
    have a1' : y_se z_pg sc d 67 [y_vr 43, y_vi 3] h = some (some (y_vi (if q_S G (LRS G s) 1 3 < 0 then 1000000 else q_S G (LRS G s) 1 3)), h') := a1 d hd
    rw [b132_15, hF, yH0 ha, x3, if_neg (by omega), a1', yci_s]
    by_cases z : q_S G (LRS G s) 1 3 < 0
    · rw [if_pos z, if_pos rfl]
      exact ab_f (fun q : 0 ≤ q_S G (LRS G s) 1 3 => by omega)
    · rw [if_neg z, if_neg (by omega)]
      exact ab_t (show 0 ≤ q_S G (LRS G s) 1 3 by omega)
  | m + 1, k, h, h1, h2, S, hF => by
    have kw := hg.2.2.1
    have kr := hg.2.1
    have ha := S.1.1.2.1
    have k1 := (hg.2.2.2.2.2.2.2.2.1 k h1 (by omega)).1
    have x3 : y_I h a 3 = g_wm G := S.1.1.2.2.2.2.2.1
    have x9 : y_I h (a + 9) (Int.toNat k) = g_rd G k := S.1.1.2.2.2.2.2.2.2.2.2.2.2.2.2.2.1 k h1 (by omega)
    have cw := q_ct_wm (TD := LRS G s) kw.1
    by_cases c : LRS G s k
    · obtain ⟨h1', a1, a2, a3, a4⟩ := XS0_add (sc := sc) hg q_in_0 ⟨h1, by omega⟩ S c (by omega) id rfl
      obtain ⟨h', b1, b3, b4⟩ := l132 hg h8 s m (k + 1) h1' (by omega) (by omega) a2 (by unfold y_F; rw [a4]; exact hF)
      refine ⟨h', fun d hd => ?_, fun b j q => (b3 b j q).trans (a3 b j q), b4.trans a4⟩
      rw [b132_15, hF, yH0 ha, x3, if_pos (by omega), yH0 ha, yH9 ha, lH9 ha, yi_t (by omega), x9, ub_has (by omega), if_neg (by rw [bi_t (show u_bs s (g_rd G k) from c)]; omega), a1 d (by omega), ycv_s, yr_t (by omega), b1 d hd]
    · obtain ⟨h', b1, b3, b4⟩ := l132 hg h8 s m (k + 1) h (by omega) (by omega) (XS0_no hg h1 S c) hF
      refine ⟨h', fun d hd => ?_, b3, b4⟩
      rw [b132_15, hF, yH0 ha, x3, if_pos (by omega), yH0 ha, yH9 ha, lH9 ha, yi_t (by omega), x9, ub_has (by omega), if_pos (bi_f (show ¬ u_bs s (g_rd G k) from c)), yr_t (by omega), b1 d hd]
theorem s132 (hg : g_ok G) (h8 : g_wm G ≤ 8) (X : xmg h a G) (hF : y_F h 2 10 = a) (s : Int) : ∃ h', (∀ d, 21 ≤ d → y_se z_pg sc d 132 [y_vr 2, y_vi s] h = some (some (y_vi (y_bi (g_can G s))), h')) ∧ (∀ b k, ¬ (43 ≤ b ∧ b ≤ 60) → y_I h' b k = y_I h b k) ∧ (∀ b k, b ≠ 43 → y_F h' b k = y_F h b k) ∧ y_J h' = y_J h := by
  obtain ⟨g1, a1, a2, a3, a4, a5, a6⟩ := s64 (sc := sc) (b0 := 0) (oc := 1) X hg (Or.inr rfl)
  have kw := hg.2.2.1
  obtain ⟨h', b1, b3, b4⟩ := l132 (sc := sc) hg h8 s (g_wm G).toNat 0 g1 (by omega) (by omega) (XS0_0 hg a2 a3) ((a5 _ _ (by omega)).trans hF)
  refine ⟨h', fun d hd => ?_, fun b k q => (b3 b k q).trans (a4 b k q), fun b k q => ?_, ?_⟩
  · obtain ⟨d, rfl⟩ : ∃ e, d = e + 1 := ⟨d - 1, by omega⟩
    rw [e132, b132_0, hF, a1 d (by omega), ycv_s, b1 d (by omega)]
  · have : y_F h' b k = y_F g1 b k := by unfold y_F; rw [b4]
    rw [this, a5 b k q]
  · have : y_J h' = y_J g1 := by unfold y_J; rw [b4]
    rw [this, a6]
theorem l242 (hg : g_ok (hv h)) (s : Int) : ∀ (m : Nat) (k v : Int), 0 ≤ k → k + m = g_wm (hv h) → (0 ≤ v ∧ v < 16777216) → (∀ j, 0 ≤ j → j < 24 → (u_bs v j ↔ (LRS (hv h) s j ∧ j < k))) → ∃ v', (0 ≤ v' ∧ v' < 16777216) ∧ (∀ j, 0 ≤ j → j < 24 → (u_bs v' j ↔ (LRS (hv h) s j ∧ j < g_wm (hv h)))) ∧ ∀ d, 1 ≤ d → y_ev z_pg sc d pgX8_canAll 4 [some (y_vr 94), some (y_vi s), some (y_vi v), some (y_vi k)] [] h = y_ev z_pg sc d pgX8_canAll 4 [some (y_vr 94), some (y_vi s), some (y_vi v'), some (y_vi (g_wm (hv h)))] [] h
  | 0, k, v, h1, h2, h3, h4 => by
    have e : k = g_wm (hv h) := by omega
    subst e
    exact ⟨v, h3, h4, fun _ _ => rfl⟩
  | m + 1, k, v, h1, h2, h3, h4 => by
    have kw := hg.2.2.1
    have kr := hg.2.1
    have k1 := (hg.2.2.2.2.2.2.2.2.1 k h1 (by omega)).1
    by_cases c : LRS (hv h) s k
    · obtain ⟨s', a1, a2, a3⟩ := l242 hg s m (k + 1) (y_or v (y_shl 1 k)) (by omega) (by omega) (yor_bd h3 (yshl_bd (by omega))) (fun j j1 j2 => by
        rw [ub_or, h4 j j1 j2, ub_shl (by omega) (by omega)]
        refine ⟨fun q => q.elim (fun q => ⟨q.1, by omega⟩) (fun q => ⟨by rw [q]; exact c, by omega⟩), fun q => ?_⟩
        by_cases z : j = k
        · exact Or.inr z
        · exact Or.inl ⟨q.1, by omega⟩)
      refine ⟨s', a1, a2, fun d hd => ?_⟩
      rw [b242_4, hvwm, if_pos (by omega), s173 d hd k (by omega), yci_s, s137 d hd _ _ (by omega), yci_s, if_neg (by rw [bi_t (show u_bs s (g_rd (hv h) k) from c)]; omega), yr_t (by omega), a3 d hd]
    · obtain ⟨s', a1, a2, a3⟩ := l242 hg s m (k + 1) (y_or v 0) (by omega) (by omega) (yor_bd h3 (by omega)) (fun j j1 j2 => by
        rw [ub_or, h4 j j1 j2]
        refine ⟨fun q => q.elim (fun q => ⟨q.1, by omega⟩) (fun q => absurd q ub_0), fun q => Or.inl ⟨q.1, ?_⟩⟩
        have : j ≠ k := fun z => c (by rw [← z]; exact q.1)
        omega)
      refine ⟨s', a1, a2, fun d hd => ?_⟩
      rw [b242_4, hvwm, if_pos (by omega), s173 d hd k (by omega), yci_s, s137 d hd _ _ (by omega), yci_s, if_pos (bi_f (show ¬ u_bs s (g_rd (hv h) k) from c)), yr_t (by omega), a3 d hd]
theorem s242 (hg : g_ok (hv h)) (h8 : g_wm (hv h) ≤ 8) (s : Int) : ∃ h', (∀ d, 13 ≤ d → y_se z_pg sc d 242 [y_vr 94, y_vi s] h = some (some (y_vi (y_bi (g_can (hv h) s))), h')) ∧ (∀ b k, ¬ ((b = 94 ∧ 39 ≤ k ∧ k ≤ 45) ∨ b = 111 ∨ (116 ≤ b ∧ b ≤ 118)) → y_I h' b k = y_I h b k) ∧ h'.2 = h.2 := by
  have kw := hg.2.2.1
  have cw := q_ct_wm (TD := LRS (hv h) s) kw.1
  obtain ⟨v, a1, a2, a3⟩ := l242 (sc := sc) (h := h) hg s (g_wm (hv h)).toNat 0 0 (by omega) (by omega) (by omega) (fun j _ _ => ⟨fun q => absurd q ub_0, fun q => by omega⟩)
  obtain ⟨g1, g2, u, c1, c2, c3, c4, c5, c6⟩ := m_S (sc := sc) (h := h) (L := LRS (hv h) s) (wt := 3) (Or.inr (Or.inr rfl)) hg (by omega) v a1 (fun w w1 w2 => by
    rw [a2 w w1 (by omega)]
    exact ⟨fun q => q.1, fun q => ⟨q, w2⟩⟩) 1 (Or.inr rfl)
  rw [y_sI_id c6] at c2
  refine ⟨g2, fun d hd => ?_, c4, c5⟩
  obtain ⟨d, rfl⟩ : ∃ e, d = e + 1 := ⟨d - 1, by omega⟩
  rw [e242, b242_0, a3 d (by omega), b242_4, hvwm, if_neg (by omega), c1 d (by omega), yci_s, c2 d (by omega), ycv_s, c3]
  by_cases z : q_S (hv h) (LRS (hv h) s) 1 3 < 0
  · rw [if_pos z]
    exact ab_f (fun q : 0 ≤ q_S (hv h) (LRS (hv h) s) 1 3 => by omega)
  · rw [if_neg z]
    exact ab_t (show 0 ≤ q_S (hv h) (LRS (hv h) s) 1 3 by omega)
theorem l119 (hg : g_ok G) (h8 : g_wm G ≤ 8) : ∀ (m : Nat) (r s : Int) (h : y_Hp) (o : Option y_V), 0 ≤ r → r + m = g_rm G → xmg h a G → y_F h 2 10 = a → ∃ h', (∀ d, 21 ≤ d → y_ev z_pg sc d pgX7_quarrel 40 [some (y_vr 2), some (y_vi s), some (y_vi r), o] [] h = some (some (y_vi (g_qr G m r s)), h')) ∧ (∀ b k, ¬ (43 ≤ b ∧ b ≤ 60) → y_I h' b k = y_I h b k) ∧ (∀ b k, b ≠ 43 → y_F h' b k = y_F h b k) ∧ y_J h' = y_J h
  | 0, r, s, h, o, h1, h2, X, hF => by
    have ha := X.1
    have x2 : y_I h a 2 = g_rm G := X.2.2.2.1
    refine ⟨h, fun d hd => ?_, fun _ _ _ => rfl, fun _ _ _ => rfl, rfl⟩
    rw [b119_40, hF, yH0 ha, x2, if_neg (by omega)]
    rfl
  | m + 1, r, s, h, o, h1, h2, X, hF => by
    have ha := X.1
    have kr := hg.2.1
    have x2 : y_I h a 2 = g_rm G := X.2.2.2.1
    obtain ⟨g1, a1, a3, a4, a5⟩ := s132 (sc := sc) hg h8 X hF (y_and s (y_xor (y_shl 1 r) (-1)))
    obtain ⟨h', b1, b3, b4, b5⟩ := l119 hg h8 m (r + 1) (@ite _ (g_can G (y_and s (y_xor (y_shl 1 r) (-1)))) (Classical.propDecidable _) s (y_and s (y_xor (y_shl 1 r) (-1)))) g1 (some (y_vi (y_and s (y_xor (y_shl 1 r) (-1))))) (by omega) (by omega) (xmg_cg (h := h) (fun b k q => a3 b k (by omega)) (fun p => by rw [a5]) X) ((a4 _ _ (by omega)).trans hF)
    refine ⟨h', fun d hd => ?_, fun b k q => (b3 b k q).trans (a3 b k q), fun b k q => (b4 b k q).trans (a4 b k q), b5.trans a5⟩
    have b1' := b1 d hd
    rw [b119_40, hF, yH0 ha, x2, if_pos (by omega), a1 d hd, yci_s]
    by_cases c : g_can G (y_and s (y_xor (y_shl 1 r) (-1)))
    · rw [if_pos c] at b1'
      rw [if_neg (by rw [bi_t c]; omega), yr_t (by omega), b1']
      show _ = some (some (y_vi (g_qr G m (r + 1) _)), h')
      rw [if_pos c]
    · rw [if_neg c] at b1'
      rw [if_pos (bi_f c), yr_t (by omega), b1']
      show _ = some (some (y_vi (g_qr G m (r + 1) _)), h')
      rw [if_neg c]
theorem l243 (G : u_G) (hg : g_ok G) (h8 : g_wm G ≤ 8) : ∀ (m : Nat) (r s : Int) (h : y_Hp), 0 ≤ r → r + m = g_rm G → y_inr s → hv h = G → ∃ h', (∀ d, 13 ≤ d → y_ev z_pg sc d pgX8_quarrel 37 [some (y_vr 94), some (y_vi s), some (y_vi 0), some (y_vi r)] [] h = y_cv (y_se z_pg sc d 222 [y_vr 94, y_vr 115] h') (fun g1 => some (some (y_vi (g_qr G m r s)), g1))) ∧ (∀ b k, ¬ ((b = 94 ∧ 39 ≤ k ∧ k ≤ 45) ∨ b = 111 ∨ (116 ≤ b ∧ b ≤ 118)) → y_I h' b k = y_I h b k) ∧ h'.2 = h.2
  | 0, r, s, h, h1, h2, h3, e => by
    refine ⟨h, fun d hd => ?_, fun _ _ _ => rfl, rfl⟩
    rw [b243_37, hvrm, e, if_neg (by omega)]
    rfl
  | m + 1, r, s, h, h1, h2, h3, e => by
    have kr := hg.2.1
    obtain ⟨g1, a1, a2, a3⟩ := s242 (sc := sc) (h := h) (by rw [e]; exact hg) (by rw [e]; exact h8) (y_and s (y_xor (y_shl 1 r) (-1)))
    rw [e] at a1
    have e1 : hv g1 = G := (hv_cg fun b k q => a2 b k (by unfold RG at q; omega)).trans e
    obtain ⟨h', b1, b2, b3⟩ := l243 G hg h8 m (r + 1) (@ite _ (g_can G (y_and s (y_xor (y_shl 1 r) (-1)))) (Classical.propDecidable _) s (y_and s (y_xor (y_shl 1 r) (-1)))) g1 (by omega) (by omega) (by
      by_cases c : g_can G (y_and s (y_xor (y_shl 1 r) (-1)))
      · rw [if_pos c]; exact h3
      · rw [if_neg c]; exact y_inr_to _) e1
    refine ⟨h', fun d hd => ?_, fun b k q => (b2 b k q).trans (a2 b k q), b3.trans a3⟩
    have b1' := b1 d hd
    rw [b243_37, hvrm, e, if_pos (by omega), if_pos rfl, a1 d hd, yci_s]
    by_cases c : g_can G (y_and s (y_xor (y_shl 1 r) (-1)))
    · rw [if_pos c] at b1'
      rw [if_neg (by rw [bi_t c]; omega), yand_m1 h3, yr_t (by omega), b1']
      show _ = y_cv _ (fun g1 => some (some (y_vi (g_qr G m (r + 1) _)), g1))
      rw [if_pos c]
    · rw [if_neg c] at b1'
      rw [if_pos (bi_f c), yr_t (by omega), b1']
      show _ = y_cv _ (fun g1 => some (some (y_vi (g_qr G m (r + 1) _)), g1))
      rw [if_neg c]
theorem o_quarrel (I : INV N h) (hN : N ≤ 1000) : OP sc 119 243 [y_vr 2] [y_vr 94] N h := by
  have II := I
  obtain ⟨a, ⟨hF, hD, X, hg⟩, i2, i3, i4, i5, i6⟩ := I
  have ha := X.1
  have kw := hg.2.2.1
  have kr := hg.2.1
  have x3 : y_I h a 3 = g_wm (hv h) := X.2.2.2.2.1
  have x2 : y_I h a 2 = g_rm (hv h) := X.2.2.2.1
  have sb := shl_bd (n := g_rm (hv h)) (by omega)
  by_cases c : 8 < g_wm (hv h)
  · refine OP_same II (-6) (fun d hd => ?_) (fun d hd => ?_)
    · rw [e119, b119_0, hF, yH0 ha, x3, if_pos c]
    · rw [e243, b243_0, hvwm, if_pos c]
  · generalize es : y_shl 1 (g_rm (hv h)) - 1 = s at sb
    have sin : y_inr s := by unfold y_inr; omega
    -- x
    obtain ⟨h0, a1, a3, a4, a5⟩ := s132 (sc := sc) hg (by omega) (xmg_xm.mpr X) hF s
    obtain ⟨h0', q1, q3, q4, q5⟩ := l119 (sc := sc) hg (by omega) (g_rm (hv h)).toNat 0 s h0 none (by omega) (by omega) (xmg_cg (h := h) (fun b k q => a3 b k (by omega)) (fun p => by rw [a5]) (xmg_xm.mpr X)) ((a4 _ _ (by omega)).trans hF)
    have xrun : ∃ h1, (∀ d, 59 ≤ d → y_se z_pg sc (d + 1) 119 [y_vr 2] h = some (some (y_vi (@ite _ (g_can (hv h) s) (Classical.propDecidable _) (-9) (g_qr (hv h) (g_rm (hv h)).toNat 0 s))), h1)) ∧ (∀ b k, ¬ (43 ≤ b ∧ b ≤ 60) → y_I h1 b k = y_I h b k) ∧ (∀ b k, b ≠ 43 → y_F h1 b k = y_F h b k) ∧ y_J h1 = y_J h := by
      by_cases z : g_can (hv h) s
      · refine ⟨h0, fun d hd => ?_, a3, a4, a5⟩
        rw [if_pos z, e119, b119_0, hF, yH0 ha, x3, if_neg c, yH0 ha, x2, es, yr_t (by omega), a1 d (by omega), yci_s, if_neg (by rw [bi_t z]; omega)]
      · refine ⟨h0', fun d hd => ?_, fun b k q => (q3 b k q).trans (a3 b k q), fun b k q => (q4 b k q).trans (a4 b k q), q5.trans a5⟩
        rw [if_neg z, e119, b119_0, hF, yH0 ha, x3, if_neg c, yH0 ha, x2, es, yr_t (by omega), a1 d (by omega), yci_s, if_pos (bi_f z), q1 d (by omega)]
    obtain ⟨h1, r1, r3, r4, r5⟩ := xrun
    generalize e2 : y_fill h1 115 0 24 (fun j => y_I h1 111 j) = g2
    have I2 : ∀ b k, b ≠ 115 → y_I g2 b k = y_I h1 b k := fun b k q => by rw [← e2, yI_fill_o (by omega)]
    have v2 : hv g2 = hv h := hv_cg fun b k q => by rw [I2 b k (by unfold RG at q; omega), r3 b k (by unfold RG at q; omega)]
    obtain ⟨g3, b1, b4, b5⟩ := s242 (sc := sc) (h := g2) (by rw [v2]; exact hg) (by rw [v2]; omega) s
    rw [v2] at b1
    have v3 : hv g3 = hv h := (hv_cg fun b k q => b4 b k (by unfold RG at q; omega)).trans v2
    obtain ⟨g4', c1, c2, c3⟩ := l243 (sc := sc) (hv h) hg (by omega) (g_rm (hv h)).toNat 0 s g3 (by omega) (by omega) sin v3
    have mrun : ∃ g4, (∀ d, 59 ≤ d → y_se z_pg sc (d + 1) 243 [y_vr 94] h1 = y_cv (y_se z_pg sc d 222 [y_vr 94, y_vr 115] g4) (fun g1 => some (some (y_vi (@ite _ (g_can (hv h) s) (Classical.propDecidable _) (-9) (g_qr (hv h) (g_rm (hv h)).toNat 0 s))), g1))) ∧ (∀ b k, ¬ ((b = 94 ∧ 39 ≤ k ∧ k ≤ 45) ∨ b = 111 ∨ (116 ≤ b ∧ b ≤ 118)) → y_I g4 b k = y_I g2 b k) ∧ g4.2 = g2.2 := by
      have st : ∀ d, 59 ≤ d → y_se z_pg sc (d + 1) 243 [y_vr 94] h1 = y_ev z_pg sc d pgX8_quarrel 37 [some (y_vr 94), some (y_vi s), some (y_vi (y_bi (g_can (hv h) s))), some (y_vi 0)] [] g3 := fun d hd => by
        have s221' := s221 (sc := sc) (h := h1) d (by omega) 115 (Or.inl rfl)
        rw [e2] at s221'
        have w10 : y_I g2 94 10 = g_rm (hv h) := by rw [hvrm, v2]
        rw [e243, b243_0, r3 _ _ (by omega), hvwm, if_neg c, s221', ycv_s, w10, es, yr_t (by omega), b1 d (by omega), yci_s]
      by_cases z : g_can (hv h) s
      · refine ⟨g3, fun d hd => ?_, b4, b5⟩
        have w10 : y_I g3 94 10 = g_rm (hv h) := by rw [hvrm, v3]
        rw [st d hd, bi_t z, if_pos z, b243_37, w10]
        by_cases y : 0 < g_rm (hv h)
        · rw [if_pos y, if_neg (by omega)]
          rfl
        · rw [if_neg y]
          rfl
      · refine ⟨g4', fun d hd => ?_, fun b k q => (c2 b k q).trans (b4 b k q), c3.trans b5⟩
        rw [st d hd, bi_f z, if_neg z, c1 d (by omega)]
    obtain ⟨g4, d1, d4, d5⟩ := mrun
    generalize e5 : y_fill g4 111 0 24 (fun j => y_I g4 115 j) = g5
    have I5 : ∀ b k, b ≠ 111 → y_I g5 b k = y_I g4 b k := fun b k q => by rw [← e5, yI_fill_o (by omega)]
    have fr : ∀ b k, ¬ ((43 ≤ b ∧ b ≤ 60) ∨ (b = 94 ∧ 39 ≤ k ∧ k ≤ 45) ∨ b = 111 ∨ (115 ≤ b ∧ b ≤ 118)) → y_I g5 b k = y_I h b k := fun b k q => by
      rw [I5 b k (by omega), d4 b k (by omega), I2 b k (by omega), r3 b k (by omega)]
    have p111 : ∀ j, j < 24 → y_I g5 111 j = y_I h 111 j := fun j q => by
      rw [← e5, yI_fill_e ⟨rfl, by omega, q⟩, d4 _ _ (by omega), ← e2, yI_fill_e ⟨rfl, by omega, q⟩, r3 _ _ (by omega)]
    have S5 : g5.2 = h1.2 := by rw [← e5]; exact d5.trans (by rw [← e2]; rfl)
    have fF : ∀ b k, b ≠ 43 → y_F g5 b k = y_F h b k := fun b k q => by
      have : y_F g5 b k = y_F h1 b k := by unfold y_F; rw [S5]
      rw [this, r4 b k q]
    have fJ : y_J g5 = y_J h := by
      have : y_J g5 = y_J h1 := by unfold y_J; rw [S5]
      rw [this, r5]
    have eg : hv g5 = hv h := hv_cg fun b k q => fr b k (by unfold RG at q; omega)
    refine OP_do _ h1 g5 r1 (fun d hd => ?_) (INV_sk II (fun b k q => fr b k (by omega)) fF fJ (I_pln_sk i4 hg eg p111 (fun j => fr _ _ (by omega))) ?_)
    · have s222' := s222 (sc := sc) (h := g4) d (by omega) 115 (Or.inl rfl)
      rw [e5] at s222'
      rw [d1 d hd, s222', ycv_s]
    · rw [fr _ _ (by omega), fr _ _ (by omega)]; exact i6.1
end QU
