/-! CALL: twice -/
/-- the house with a copy more of a part -/
def g_two (G : u_G) (p : Int) : u_G := fun x => if x = 101 then (fun k => if k = Int.toNat (3 * p) then 2 else G 101 k) else G x
section TW
variable {sc : z_Sc} {h : y_Hp} {a : Nat} {G : u_G} {N : Nat} {p : Int}
theorem two_o {x : Nat} (hx : x ≠ 101) : g_two G p x = G x := if_neg hx
theorem two_1 {k : Nat} (hk : k ≠ Int.toNat (3 * p)) : g_two G p 101 k = G 101 k := if_neg hk
theorem two_cp (hp : 0 ≤ p) {q : Int} (hq : 0 ≤ q) : g_cp (g_two G p) q = if q = p then 2 else g_cp G q := by
  show (if Int.toNat (3 * q) = Int.toNat (3 * p) then 2 else G 101 (Int.toNat (3 * q))) = _
  by_cases c : q = p
  · rw [if_pos c, if_pos (by rw [c])]
  · rw [if_neg c, if_neg (by omega)]
    rfl
theorem two_cm (hp : 0 ≤ p) {q : Int} (hq : 0 ≤ q) : g_cm (g_two G p) q = g_cm G q := two_1 (by omega)
theorem two_sl (hp : 0 ≤ p) {q : Int} (hq : 0 ≤ q) : g_sl (g_two G p) q = g_sl G q := two_1 (by omega)
theorem two_ok (hg : g_ok G) (hp : 0 ≤ p) : g_ok (g_two G p) := by
  obtain ⟨k1, k2, k3, k4, k5, k6, k7, k8, k9, k10, k11⟩ := hg
  refine ⟨k1, k2, k3, k4, k5, k6, fun q q1 q2 => ?_, k8, k9, k10, k11⟩
  have := k7 q q1 q2
  rw [two_cp hp q1, two_cm hp q1, two_sl hp q1]
  refine ⟨?_, this.2⟩
  by_cases c : q = p
  · rw [if_pos c]; exact Or.inr rfl
  · rw [if_neg c]; exact this.1
theorem two_xmg (X : xmg h a G) (hp : 0 ≤ p ∧ p < 6) : xmg (y_sI h (a + 1) (Int.toNat p) 2) a (g_two G p) := by
  obtain ⟨ha, x0, x1, x2, x3, x4, x5, x6, x7, x8, x9, x10, x11, x12, x13, x14, x15, x16, x17, x18⟩ := X
  refine ⟨ha, ?_, ?_, ?_, ?_, fun q q1 q2 => ?_, fun q q1 q2 => ?_, fun q q1 q2 => ?_, fun q q1 q2 => x7 q q1 q2, fun q q1 q2 => ?_, fun q q1 q2 => ?_, fun q q1 q2 => ?_, fun q q1 q2 => ?_, fun q q1 q2 => ?_, fun q q1 q2 => ?_, fun q q1 q2 => ?_, fun q q1 q2 => ?_, fun q q1 q2 => ?_, fun q q1 q2 => ?_, fun q q1 q2 => ?_⟩
  · rw [yI_sI_o (by omega)]; exact x0
  · rw [yI_sI_o (by omega)]; exact x1
  · rw [yI_sI_o (by omega)]; exact x2
  · rw [yI_sI_o (by omega)]; exact x3
  · rw [two_cp hp.1 q1, yI_sI]
    by_cases c : q = p
    · rw [if_pos (by omega), if_pos c]
    · rw [if_neg (by omega), if_neg c]; exact x4 q q1 q2
  · rw [yI_sI_o (by omega), two_cm hp.1 q1]; exact x5 q q1 q2
  · rw [yI_sI_o (by omega), two_sl hp.1 q1]; exact x6 q q1 q2
  · rw [yI_sI_o (by omega)]; exact x8 q q1 q2
  · rw [yI_sI_o (by omega)]; exact x9 q q1 q2
  · rw [yI_sI_o (by omega)]; exact x10 q q1 q2
  · rw [yI_sI_o (by omega)]; exact x11 q q1 q2
  · rw [yI_sI_o (by omega)]; exact x12 q q1 q2
  · rw [yI_sI_o (by omega)]; exact x13 q q1 q2
  · rw [yI_sI_o (by omega)]; exact x14 q q1 q2
  · rw [yI_sI_o (by omega)]; exact x15 q q1 q2
  · rw [yI_sI_o (by omega)]; exact x16 q q1 q2
  · rw [yI_sI_o (by omega)]; exact x17 q q1 q2
  · rw [yI_sI_o (by omega)]; exact x18 q q1 q2
theorem two_hv : hv (y_sI h 101 (Int.toNat (3 * p)) 2) = g_two (hv h) p := by
  funext x
  by_cases c : x = 101
  · subst c
    funext k
    show y_I (y_sI h 101 (Int.toNat (3 * p)) 2) 101 k = if k = Int.toNat (3 * p) then 2 else y_I h 101 k
    rw [yI_sI]
    by_cases z : k = Int.toNat (3 * p)
    · rw [if_pos ⟨rfl, z⟩, if_pos z]
    · rw [if_neg (fun q => z q.2), if_neg z]
  · rw [two_o c]
    have e : ∀ b k, ¬ (b = 101) → y_I (y_sI h 101 (Int.toNat (3 * p)) 2) b k = y_I h b k := fun b k q => yI_sI_o (fun z => q z.1)
    unfold hv
    split
    · funext k
      split
      · exact e 94 8 (by omega)
      · exact e 94 9 (by omega)
      · exact e 94 10 (by omega)
      · exact e 94 11 (by omega)
      · exact e 94 12 (by omega)
      · exact e 94 13 (by omega)
      · rfl
    · exact absurd rfl c
    · exact funext fun k => e 102 k (by omega)
    · exact funext fun k => e 103 k (by omega)
    · exact funext fun k => e 104 k (by omega)
    · exact funext fun k => e 105 k (by omega)
    · rfl
noncomputable def g_tl (G : u_G) (p : Int) : Int := (q_R (g_two G p) 0).1
theorem g_tl_bd (hg : g_ok G) (hp : 0 ≤ p) : 0 ≤ g_tl G p ∧ g_tl G p ≤ 1000 := by
  have ge := q_R_ge (wt := 0) (two_ok hg hp) (by omega)
  have gd := (q_R_good (wt := 0) (two_ok hg hp)).resolve_left (by omega)
  exact ⟨ge, gd.1.2⟩
noncomputable def g_tw (G : u_G) (s : Int × Int) (p : Int) : Int × Int := if g_cp G p = 1 ∧ g_tl G p < s.2 then (p, g_tl G p) else s
theorem l120 (hg : g_ok G) (h8 : g_wm G ≤ 8) : ∀ (m : Nat) (p : Int) (s : Int × Int) (h : y_Hp) (o : Option y_V), 0 ≤ p → p + m = g_pm G → xmg h a G → y_F h 2 10 = a → ∃ h', (∀ d, 22 ≤ d → y_ev z_pg sc d pgX7_twice 23 [some (y_vr 2), some (y_vi s.1), some (y_vi s.2), some (y_vi p), o] [] h = some (some (y_vi (u_fold (g_tw G) s p m).1), if (u_fold (g_tw G) s p m).1 = -9 then h' else y_sI h' 2 13 (u_fold (g_tw G) s p m).2)) ∧ (∀ b k, ¬ (43 ≤ b ∧ b ≤ 60) → y_I h' b k = y_I h b k) ∧ (∀ b k, b ≠ 43 → y_F h' b k = y_F h b k) ∧ y_J h' = y_J h
  | 0, p, s, h, o, h1, h2, X, hF => by
    have ha := X.1
    have x1 : y_I h a 1 = g_pm G := X.2.2.1
    refine ⟨h, fun d hd => ?_, fun _ _ _ => rfl, fun _ _ _ => rfl, rfl⟩
    rw [b120_23, hF, yH0 ha, x1, if_neg (by omega), u_fold_0]
    by_cases z : s.1 = -9
    · rw [if_pos z, if_pos z]
    · rw [if_neg z, if_neg z]
  | m + 1, p, s, h, o, h1, h2, X, hF => by
    have ha := X.1
    have kp := hg.1
    have x1 : y_I h a 1 = g_pm G := X.2.2.1
    have x4 : y_I h (a + 1) (Int.toNat p) = g_cp G p := X.2.2.2.2.2.1 p h1 (by omega)
    by_cases c : g_cp G p = 1
    · have tb := g_tl_bd hg h1
      have hgt := two_ok hg h1
      obtain ⟨g1, a1, a2, a3, a4, a5⟩ := s131 (sc := sc) 0 (by omega) hgt (two_xmg X (by omega)) hF h8
      have a1' : ∀ d, 21 ≤ d → y_se z_pg sc d 131 [y_vr 2, y_vi 0] (y_sI h (a + 1) (Int.toNat p) 2) = some (some (y_vi (g_tl G p)), g1) := fun d hd => by
        have e := a1 d hd
        rwa [show q_best (q_R (g_two G p) 0) = g_tl G p from if_neg (show ¬ g_tl G p < 0 by omega)] at e
      generalize e2 : y_sI g1 (a + 1) (Int.toNat p) 1 = g2
      have I2 : ∀ b k, ¬ (43 ≤ b ∧ b ≤ 60) → y_I g2 b k = y_I h b k := fun b k q => by
        rw [← e2, yI_sI]
        by_cases z : b = a + 1 ∧ k = Int.toNat p
        · rw [if_pos z, z.1, z.2, x4, c]
        · rw [if_neg z, a3 b k q, yI_sI_o z]
      have S2 : g2.2 = g1.2 := by rw [← e2]; rfl
      have F2 : ∀ b k, b ≠ 43 → y_F g2 b k = y_F h b k := fun b k q => by
        have : y_F g2 b k = y_F g1 b k := by unfold y_F; rw [S2]
        rw [this, a4 b k q]
        rfl
      have J2 : y_J g2 = y_J h := by
        have : y_J g2 = y_J g1 := by unfold y_J; rw [S2]
        rw [this, a5]
        rfl
      obtain ⟨h', b1, b3, b4, b5⟩ := l120 hg h8 m (p + 1) (g_tw G s p) g2 (some (y_vi (g_tl G p))) (by omega) (by omega) (xmg_cg (h := h) (fun b k q => I2 b k (by omega)) (fun q => by rw [J2]) X) ((F2 _ _ (by omega)).trans hF)
      refine ⟨h', fun d hd => ?_, fun b k q => (b3 b k q).trans (I2 b k q), fun b k q => (b4 b k q).trans (F2 b k q), b5.trans J2⟩
      have b1' := b1 d hd
      have F1 : y_F g1 2 10 = a := (a4 _ _ (by omega)).trans hF
      rw [u_fold_s, b120_23, hF, yH0 ha, x1, if_pos (by omega), yH0 ha, yH1 ha, lH1 ha, yi_t (by omega), x4, if_pos c, yH0 ha, yH1 ha, yi_t (by omega), a1' d (by omega), yci_s, F1, yH0 ha, yH1 ha, lH1 ha, yi_t (by omega), e2]
      by_cases z : g_tl G p < s.2
      · have et : g_tw G s p = (p, g_tl G p) := if_pos ⟨c, z⟩
        rw [et] at b1' ⊢
        rw [if_pos z, yr_t (by omega)]
        exact b1'
      · have et : g_tw G s p = s := if_neg (fun q => z q.2)
        rw [et] at b1' ⊢
        rw [if_neg z, yr_t (by omega)]
        exact b1'
    · have et : g_tw G s p = s := if_neg (fun q => c q.1)
      obtain ⟨h', b1, b3, b4, b5⟩ := l120 hg h8 m (p + 1) s h o (by omega) (by omega) X hF
      refine ⟨h', fun d hd => ?_, b3, b4, b5⟩
      rw [u_fold_s, et, b120_23, hF, yH0 ha, x1, if_pos (by omega), yH0 ha, yH1 ha, lH1 ha, yi_t (by omega), x4, if_neg c, yr_t (by omega), b1 d hd]
theorem l244 (G : u_G) (hg : g_ok G) (h8 : g_wm G ≤ 8) : ∀ (m : Nat) (p : Int) (s : Int × Int) (h : y_Hp), 0 ≤ p → p + m = g_pm G → hv h = G → (s.1 = -9 → s.2 = 1000000) → ∃ h', (∀ d, 13 ≤ d → y_ev z_pg sc d pgX8_twice 27 [some (y_vr 94), some (y_vi s.1), some (y_vi (if s.1 = -9 then 0 else s.2)), some (y_vi p)] [] h = y_cv (y_se z_pg sc d 222 [y_vr 94, y_vr 115] h') (fun g1 => (if (u_fold (g_tw G) s p m).1 = -9 then some (some (y_vi (-9)), g1) else y_ci (y_se z_pg sc d 143 [y_vr 94, y_vi (u_fold (g_tw G) s p m).2, y_vi (u_fold (g_tw G) s p m).1] g1) (fun u3 g2 => some (some (y_vi u3), g2))))) ∧ (∀ b k, ¬ ((b = 94 ∧ 39 ≤ k ∧ k ≤ 45) ∨ b = 111 ∨ (116 ≤ b ∧ b ≤ 118)) → y_I h' b k = y_I h b k) ∧ h'.2 = h.2
  | 0, p, s, h, h1, h2, e, hs => by
    refine ⟨h, fun d hd => ?_, fun _ _ _ => rfl, rfl⟩
    rw [b244_27, hvpm, e, if_neg (by omega), u_fold_0]
    by_cases z : s.1 = -9
    · rw [if_pos z]
      simp only [if_pos z]
    · rw [if_neg z]
  | m + 1, p, s, h, h1, h2, e, hs => by
    have kp := hg.1
    have cpe : g_cp (hv h) p = g_cp G p := by rw [e]
    by_cases c : g_cp G p = 1
    · have tb := g_tl_bd hg h1
      have hgt := two_ok hg h1
      have v1 : hv (y_sI h 101 (Int.toNat (3 * p)) 2) = g_two G p := by rw [two_hv, e]
      obtain ⟨g3, g4, u, b1, b2, b3, b4, b5⟩ := m_all (sc := sc) (h := y_sI h 101 (Int.toNat (3 * p)) 2) 0 (by omega) (by rw [v1]; exact hgt) (by rw [v1]; exact h8)
      rw [v1] at b1 b3
      generalize e5 : y_sI g4 101 (Int.toNat (3 * p)) 1 = g5
      have I5 : ∀ b k, ¬ ((b = 94 ∧ 39 ≤ k ∧ k ≤ 45) ∨ b = 111 ∨ (116 ≤ b ∧ b ≤ 118)) → y_I g5 b k = y_I h b k := fun b k q => by
        rw [← e5, yI_sI]
        by_cases z : b = 101 ∧ k = Int.toNat (3 * p)
        · rw [if_pos z, z.1, z.2]
          have : g_cp (hv h) p = y_I h 101 (Int.toNat (3 * p)) := rfl
          rw [← this, cpe, c]
        · rw [if_neg z, b4 b k q, yI_sI_o z]
      have v43 : y_I g5 94 43 = g_tl G p := by
        rw [← e5, yI_sI_o (by omega)]
        exact b3.1
      have eg5 : hv g5 = G := (hv_cg fun b k q => I5 b k (by unfold RG at q; omega)).trans e
      have S5 : g5.2 = h.2 := by rw [← e5]; exact b5
      obtain ⟨h', d1, d2, d3⟩ := l244 G hg h8 m (p + 1) (g_tw G s p) g5 (by omega) (by omega) eg5 (fun q => by
        unfold g_tw at q ⊢
        by_cases z : g_cp G p = 1 ∧ g_tl G p < s.2
        · rw [if_pos z] at q
          have : p = -9 := q
          omega
        · rw [if_neg z] at q ⊢
          exact hs q)
      refine ⟨h', fun d hd => ?_, fun b k q => (d2 b k q).trans (I5 b k q), d3.trans S5⟩
      have s236' := s236 (sc := sc) (h := y_sI h 101 (Int.toNat (3 * p)) 2) d (by omega) (by rw [v1]; exact hgt)
      rw [v1] at s236'
      have d1' := d1 d hd
      rw [u_fold_s, b244_27, hvpm, e, if_pos (by omega), s176 d (by omega) p (by omega), yci_s, cpe, if_pos c, yr_t (by omega), yi_t (by omega), s236', yci_s, b1 d (by omega), yci_s, b2 d (by omega), ycv_s, yr_t (by omega), yi_t (by omega), e5, v43]
      by_cases z9 : s.1 = -9
      · have l : g_tl G p < s.2 := by rw [hs z9]; omega
        have et : g_tw G s p = (p, g_tl G p) := if_pos ⟨c, l⟩
        rw [et] at d1' ⊢
        have n9 : ¬ (p, g_tl G p).1 = -9 := show ¬ p = -9 by omega
        rw [if_neg n9] at d1'
        rw [if_pos z9, yr_t (by omega)]
        exact d1'
      · rw [if_neg z9, if_neg z9]
        by_cases z : g_tl G p < s.2
        · have et : g_tw G s p = (p, g_tl G p) := if_pos ⟨c, z⟩
          rw [et] at d1' ⊢
          have n9 : ¬ (p, g_tl G p).1 = -9 := show ¬ p = -9 by omega
          rw [if_neg n9] at d1'
          rw [if_pos z, yr_t (by omega)]
          exact d1'
        · have et : g_tw G s p = s := if_neg (fun q => z q.2)
          rw [et, if_neg z9] at d1'
          rw [et, if_neg z, yr_t (by omega)]
          exact d1'
    · have et : g_tw G s p = s := if_neg (fun q => c q.1)
      obtain ⟨h', d1, d2, d3⟩ := l244 G hg h8 m (p + 1) s h (by omega) (by omega) e hs
      refine ⟨h', fun d hd => ?_, d2, d3⟩
      rw [u_fold_s, et, b244_27, hvpm, e, if_pos (by omega), s176 d (by omega) p (by omega), yci_s, cpe, if_neg c, yr_t (by omega), d1 d hd]
theorem o_twice (I : INV N h) (hN : N ≤ 1000) : OP sc 120 244 [y_vr 2] [y_vr 94] N h := by
  have II := I
  obtain ⟨a, ⟨hF, hD, X, hg⟩, i2, i3, i4, i5, i6⟩ := I
  have ha := X.1
  have kp := hg.1
  have x3 : y_I h a 3 = g_wm (hv h) := X.2.2.2.2.1
  by_cases c : 8 < g_wm (hv h)
  · refine OP_same II (-6) (fun d hd => ?_) (fun d hd => ?_)
    · rw [e120, b120_0, hF, yH0 ha, x3, if_pos c]
    · rw [e244, b244_0, hvwm, if_pos c]
  · obtain ⟨h0, a1, a3, a4, a5⟩ := l120 (sc := sc) hg (by omega) (g_pm (hv h)).toNat 0 (-9, 1000000) h none (by omega) (by omega) (xmg_xm.mpr X) hF
    have lm := fun g e => l244 (sc := sc) (hv h) hg (by omega) (g_pm (hv h)).toNat 0 (-9, 1000000) g (by omega) (by omega) e (fun _ => rfl)
    generalize u_fold (g_tw (hv h)) (-9, 1000000) 0 (g_pm (hv h)).toNat = R at a1 lm
    generalize e1 : (if R.1 = -9 then h0 else y_sI h0 2 13 R.2) = h1 at a1
    have I1 : ∀ b k, ¬ (b = 2 ∧ k = 13) → y_I h1 b k = y_I h0 b k := fun b k q => by
      rw [← e1]
      by_cases z : R.1 = -9
      · rw [if_pos z]
      · rw [if_neg z, yI_sI_o q]
    have S1 : h1.2 = h0.2 := by
      rw [← e1]
      by_cases z : R.1 = -9
      · rw [if_pos z]
      · rw [if_neg z]; rfl
    generalize e2 : y_fill h1 115 0 24 (fun j => y_I h1 111 j) = g2
    have I2 : ∀ b k, b ≠ 115 → y_I g2 b k = y_I h1 b k := fun b k q => by rw [← e2, yI_fill_o (by omega)]
    have v2 : hv g2 = hv h := hv_cg fun b k q => by rw [I2 b k (by unfold RG at q; omega), I1 b k (by unfold RG at q; omega), a3 b k (by unfold RG at q; omega)]
    obtain ⟨g4, b1, b4, b5⟩ := lm g2 v2
    generalize e5 : y_fill g4 111 0 24 (fun j => y_I g4 115 j) = g5 at *
    have I5 : ∀ b k, b ≠ 111 → y_I g5 b k = y_I g4 b k := fun b k q => by rw [← e5, yI_fill_o (by omega)]
    generalize e6 : (if R.1 = -9 then g5 else y_sI g5 94 2 R.2) = g6
    have I6 : ∀ b k, ¬ (b = 94 ∧ k = 2) → y_I g6 b k = y_I g5 b k := fun b k q => by
      rw [← e6]
      by_cases z : R.1 = -9
      · rw [if_pos z]
      · rw [if_neg z, yI_sI_o q]
    have fr : ∀ b k, ¬ ((43 ≤ b ∧ b ≤ 60) ∨ (b = 94 ∧ (k = 2 ∨ (39 ≤ k ∧ k ≤ 45))) ∨ (b = 2 ∧ k = 13) ∨ b = 111 ∨ (115 ≤ b ∧ b ≤ 118)) → y_I g6 b k = y_I h b k := fun b k q => by
      rw [I6 b k (by omega), I5 b k (by omega), b4 b k (by omega), I2 b k (by omega), I1 b k (by omega), a3 b k (by omega)]
    have p111 : ∀ j, j < 24 → y_I g6 111 j = y_I h 111 j := fun j q => by
      rw [I6 _ _ (by omega), ← e5, yI_fill_e ⟨rfl, by omega, q⟩, b4 _ _ (by omega), ← e2, yI_fill_e ⟨rfl, by omega, q⟩, I1 _ _ (by omega), a3 _ _ (by omega)]
    have S6 : g6.2 = h0.2 := by
      have s5 : g5.2 = h0.2 := by
        rw [← e5]
        exact b5.trans (by rw [← e2]; exact S1)
      rw [← e6]
      by_cases z : R.1 = -9
      · rw [if_pos z]; exact s5
      · rw [if_neg z]; exact s5
    have fF : ∀ b k, b ≠ 43 → y_F g6 b k = y_F h b k := fun b k q => by
      have : y_F g6 b k = y_F h0 b k := by unfold y_F; rw [S6]
      rw [this, a4 b k q]
    have fJ : y_J g6 = y_J h := by
      have : y_J g6 = y_J h0 := by unfold y_J; rw [S6]
      rw [this, a5]
    have eg : hv g6 = hv h := hv_cg fun b k q => fr b k (by unfold RG at q; omega)
    refine OP_do R.1 h1 g6 (fun d hd => ?_) (fun d hd => ?_) (INV_sk II (fun b k q => fr b k (by omega)) fF fJ (I_pln_sk i4 hg eg p111 (fun j => fr _ _ (by omega))) ?_)
    · rw [e120, b120_0, hF, yH0 ha, x3, if_neg c]
      exact a1 d (by omega)
    · have s221' := s221 (sc := sc) (h := h1) d (by omega) 115 (Or.inl rfl)
      rw [e2] at s221'
      have s222' := s222 (sc := sc) (h := g4) d (by omega) 115 (Or.inl rfl)
      rw [e5] at s222'
      have b1' : y_ev z_pg sc d pgX8_twice 27 [some (y_vr 94), some (y_vi (-9)), some (y_vi 0), some (y_vi 0)] [] g2 = _ := b1 d (by omega)
      rw [e244, b244_0, I1 _ _ (by omega), a3 _ _ (by omega), hvwm, if_neg c, s221', ycv_s, b1', s222', ycv_s, ← e6]
      by_cases z : R.1 = -9
      · rw [if_pos z, if_pos z, z]
      · rw [if_neg z, if_neg z, s143 d (by omega), yci_s]
    · rw [← e6]
      by_cases z : R.1 = -9
      · have t1 : y_I g5 2 13 = y_I h 2 13 := by
          rw [I5 _ _ (by omega), b4 _ _ (by omega), I2 _ _ (by omega), ← e1, if_pos z, a3 _ _ (by omega)]
        have t2 : y_I g5 94 2 = y_I h 94 2 := by
          rw [I5 _ _ (by omega), b4 _ _ (by omega), I2 _ _ (by omega), I1 _ _ (by omega), a3 _ _ (by omega)]
        rw [if_pos z, t1, t2]
        exact i6.1
      · have t1 : y_I g5 2 13 = R.2 := by
          rw [I5 _ _ (by omega), b4 _ _ (by omega), I2 _ _ (by omega), ← e1, if_neg z, yI_sI_e ⟨rfl, rfl⟩]
        rw [if_neg z, yI_sI_o (by omega), yI_sI_e ⟨rfl, rfl⟩, t1]
end TW
