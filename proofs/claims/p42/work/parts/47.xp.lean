/-! x's queries of a plan -/
noncomputable def g_rmany (G : u_G) (P : u_P) (r t : Int) : Int := u_sum (fun w => y_bi (g_rd G w = r ∧ g_rg G P w t)) 0 (g_wm G).toNat
def g_crowd (G : u_G) (P : u_P) (w : Int) : Prop := 1 < g_rmany G P (g_rd G w) (P w) ∨ g_cp G (g_pt G w) < g_many G P (g_pt G w) (P w)
/-- the first wrong minute that shows at a reading -/
noncomputable def g_fo (G : u_G) (P : u_P) (w : Int) : Int :=
  @ite _ (P w < g_fr G (g_rd G w) ∨ P w < g_cm G (g_pt G w) ∨ g_crowd G P w ∨ ¬ g_due G P w (P w) ∨ g_spo G P w (P w)) (Classical.propDecidable _) (P w)
    (if g_cf G w (P w) = -9 then (if min (g_ti G (g_rd G w)) (g_la G) - g_mn G w < P w then max (P w) (min (g_ti G (g_rd G w)) (g_la G)) else 61)
      else min (if min (g_ti G (g_rd G w)) (g_la G) - g_mn G w < P w then max (P w) (min (g_ti G (g_rd G w)) (g_la G)) else 61) (g_cf G w (P w)))
noncomputable def g_fi (G : u_G) (P : u_P) : Int := u_fold (fun s w => if P w = -9 then s else min s (g_fo G P w)) 61 0 (g_wm G).toNat
section XP
variable {sc : z_Sc} {h : y_Hp} {a b : Nat}
theorem l16 (d : Nat) (X : xm h a) (hg : g_ok (hv h)) {c : Nat} (hc : y_pr9 c) (w t : Int) (hw : 0 ≤ w ∧ w < g_wm (hv h)) : ∀ (n : Nat) (k : Int), 0 ≤ k → k + n = g_wm (hv h) → y_ev z_pg sc d pgX0_comesAfter 11 [some (y_vr a), some (y_vi w), some (y_vi t), some (y_vr c), some (y_vi (y_I h (a + 14) (Int.toNat w))), some (y_vi k)] [] h = some (some (y_vi (y_bi (u_any (fun v => g_pt (hv h) v = g_pt (hv h) w ∧ pl h c v ≠ -9 ∧ pl h c v < t ∧ g_na (hv h) (g_rd (hv h) w) (g_rd (hv h) v) (g_pt (hv h) w)) k n))), h)
  | 0, k, hk, hn => by
    obtain ⟨ha, x0, x1, x2, x3, x4, x5, x6, x7, x8, x9, x10, x11, x12, x13, x14, x15, x16, x17, x18⟩ := X
    rw [b16_11]
    simp (disch := first | omega | assumption) only [yH0, x3]
    by_cases c0 : y_I h (a + 14) (Int.toNat w) = 0
    · rw [if_pos c0]; exact ab_f (by simp [u_any])
    · rw [if_neg c0, if_neg (by omega)]; exact ab_f (by simp [u_any])
  | n + 1, k, hk, hn => by
    have ih := l16 d X hg hc w t hw n (k + 1) (by omega) (by omega)
    obtain ⟨ha, x0, x1, x2, x3, x4, x5, x6, x7, x8, x9, x10, x11, x12, x13, x14, x15, x16, x17, x18⟩ := X
    have h1 := hg.2.2.1
    obtain ⟨hr, hb⟩ := x17 w hw.1 hw.2
    have ep : y_I h c (Int.toNat k) = pl h c k := rfl
    rw [b16_11]
    simp (disch := first | omega | assumption) only [yH0, x3, yB0, lB0, yi_t, yr_t, ep, ub_has]
    by_cases c0 : y_I h (a + 14) (Int.toNat w) = 0
    · rw [if_pos c0]
      refine ab_f fun g => ?_
      obtain ⟨j, g1, g2, g3⟩ := u_any_iff.mp g
      have := (hb j (by omega) (by omega)).mpr ⟨by omega, g3.1, g3.2.2.2⟩
      rw [c0] at this
      exact ub_0 this
    · rw [if_neg c0, if_pos (by omega), ih]
      have hbk := hb k (by omega) (by omega)
      by_cases c1 : u_bs (y_I h (a + 14) (Int.toNat w)) k
      · have c2 := hbk.mp c1
        rw [if_neg (by rw [bi_t c1]; omega)]
        by_cases c3 : pl h c k = -9
        · rw [if_pos c3]
          exact ab_cg (by simp [u_any_s, c3])
        · rw [if_neg c3]
          by_cases c4 : pl h c k < t
          · rw [if_pos c4]
            exact ab_t (Or.inl ⟨c2.2.1, c3, c4, c2.2.2⟩)
          · rw [if_neg c4]
            exact ab_cg (by simp [u_any_s, c4])
      · rw [if_pos (bi_f c1)]
        exact ab_cg ⟨fun g => Or.inr g, fun g => g.elim (fun g => absurd (hbk.mpr ⟨by omega, g.1, g.2.2.2⟩) c1) id⟩
theorem s16 (d : Nat) (hd : 1 ≤ d) (X : xm h a) (hg : g_ok (hv h)) {c : Nat} (hc : y_pr9 c) (w t : Int) (hw : 0 ≤ w ∧ w < g_wm (hv h)) : y_se z_pg sc d 16 [y_vr a, y_vi w, y_vi t, y_vr c] h = some (some (y_vi (y_bi (g_spo (hv h) (pl h c) w t))), h) := by
  rcases d with _ | d
  · omega
  have h1 := hg.2.2.1
  have ha := X.1
  rw [e16, b16_0]
  simp (disch := first | omega | assumption) only [yH0, yH14, lH14, yi_t]
  rw [l16 d X hg hc w t hw (g_wm (hv h)).toNat 0 (by omega) (by omega)]
  rfl
theorem pr9_of (hb : b = 20 ∨ b = 22) : y_pr9 (b + 1) := by rcases hb with rfl | rfl <;> simp [y_pr9]
theorem s34 (d : Nat) (hd : 1 ≤ d) (hb : b = 20 ∨ b = 22) (w t : Int) (hw : 0 ≤ w ∧ w < 24) : y_se z_pg sc d 34 [y_vr b, y_vi w, y_vi t] h = some (some (y_vi (y_bi (pl h (b + 1) w ≠ -9 ∧ pl h (b + 1) w < t))), h) := by
  rcases d with _ | d
  · omega
  have ep : y_I h (b + 1) (Int.toNat w) = pl h (b + 1) w := rfl
  rw [e34, b34_0]
  simp (disch := first | omega | assumption) only [yP0, yP1, lP1, yi_t, ep]
  by_cases c1 : pl h (b + 1) w = -9
  · rw [if_pos c1]; exact ab_f (fun g => g.1 c1)
  · rw [if_neg c1]
    by_cases c2 : pl h (b + 1) w < t
    · rw [if_pos c2]; exact ab_t ⟨c1, c2⟩
    · rw [if_neg c2]; exact ab_f (fun g => c2 g.2)
theorem s36 (d : Nat) (hd : 1 ≤ d) (hb : b = 20 ∨ b = 22) (X : xm h a) (hg : g_ok (hv h)) (hp : p_ok (hv h) (pl h (b + 1))) (w t : Int) (hw : 0 ≤ w ∧ w < g_wm (hv h)) : y_se z_pg sc d 36 [y_vr b, y_vr a, y_vi w, y_vi t] h = some (some (y_vi (y_bi (g_rg (hv h) (pl h (b + 1)) w t))), h) := by
  rcases d with _ | d
  · omega
  have ep : y_I h (b + 1) (Int.toNat w) = pl h (b + 1) w := rfl
  obtain ⟨k1, k2, k3, k4, k5, k6, k7, k8, k9, k10, k11⟩ := g_ok_w hg hw
  obtain ⟨ha, x0, x1, x2, x3, x4, x5, x6, x7, x8, x9, x10, x11, x12, x13, x14, x15, x16, x17, x18⟩ := X
  have hpw := hp w hw.1 hw.2
  rw [e36, b36_0]
  simp (disch := first | omega | assumption) only [yP0, yP1, lP1, yH0, yH11, lH11, x14, yi_t, yr_t, ep]
  by_cases c1 : pl h (b + 1) w = -9
  · rw [if_pos c1]; exact ab_f (fun g => g.1 c1)
  · rw [if_neg c1]
    by_cases c2 : t < pl h (b + 1) w
    · rw [if_pos c2]; exact ab_f (fun g => by have := g.2.1; omega)
    · rw [if_neg c2]
      by_cases c3 : t < pl h (b + 1) w + g_mn (hv h) w
      · rw [if_pos c3]; exact ab_t ⟨c1, by omega, c3⟩
      · rw [if_neg c3]; exact ab_f (fun g => c3 g.2.2)
theorem l35 (d : Nat) (hd : 1 ≤ d) (hb : b = 20 ∨ b = 22) (X : xm h a) (hg : g_ok (hv h)) (t : Int) : ∀ (n : Nat) (k s : Int), 0 ≤ k → k + n = g_wm (hv h) → (0 ≤ s ∧ s ≤ k) → y_ev z_pg sc d pgX2_begunAhead 5 [some (y_vr b), some (y_vr a), some (y_vi t), some (y_vi s), some (y_vi k)] [] h = some (some (y_vi (s + u_sum (fun w => y_bi (pl h (b + 1) w ≠ -9 ∧ pl h (b + 1) w < t)) k n)), h)
  | 0, k, s, hk, hn, hs => by
    have ha := X.1
    have x3 := X.2.2.2.2.1
    rw [b35_5]
    simp (disch := first | omega | assumption) only [yH0, x3]
    rw [if_neg (by omega)]
    exact av_cg (by simp [u_sum])
  | n + 1, k, s, hk, hn, hs => by
    have ih := fun s hs => l35 d hd hb X hg t n (k + 1) s (by omega) (by omega) hs
    have ha := X.1
    have x3 := X.2.2.2.2.1
    have h1 := hg.2.2.1
    rw [b35_5]
    simp (disch := first | omega | assumption) only [yH0, x3, yP0, yci_s, yr_t, s34]
    rw [if_pos (by omega)]
    by_cases c1 : pl h (b + 1) k ≠ -9 ∧ pl h (b + 1) k < t
    · rw [if_neg (by rw [bi_t c1]; omega), ih _ (by omega)]
      exact av_cg (by rw [u_sum_s, bi_t c1]; omega)
    · rw [if_pos (bi_f c1), ih _ (by omega)]
      exact av_cg (by rw [u_sum_s, bi_f c1]; omega)
noncomputable def g_ba (G : u_G) (P : u_P) (t : Int) : Int := u_sum (fun w => y_bi (P w ≠ -9 ∧ P w < t)) 0 (g_wm G).toNat
theorem s35 (d : Nat) (hd : 2 ≤ d) (hb : b = 20 ∨ b = 22) (X : xm h a) (hg : g_ok (hv h)) (t : Int) : y_se z_pg sc d 35 [y_vr b, y_vr a, y_vi t] h = some (some (y_vi (g_ba (hv h) (pl h (b + 1)) t)), h) := by
  rcases d with _ | d
  · omega
  have h1 := hg.2.2.1
  rw [e35, b35_0, l35 d (by omega) hb X hg t (g_wm (hv h)).toNat 0 0 (by omega) (by omega) (by omega)]
  exact av_cg (by unfold g_ba; omega)
theorem s39 (d : Nat) (hd : 2 ≤ d) (hb : b = 20 ∨ b = 22) (X : xm h a) (hg : g_ok (hv h)) (hp : p_ok (hv h) (pl h (b + 1))) (w : Int) (hw : 0 ≤ w ∧ w < g_wm (hv h)) : y_se z_pg sc d 39 [y_vr b, y_vr a, y_vi w] h = some (some (y_vi (g_ls (hv h) (pl h (b + 1)) w)), h) := by
  rcases d with _ | d
  · omega
  have ep : y_I h (b + 1) (Int.toNat w) = pl h (b + 1) w := rfl
  have XX := X
  obtain ⟨k1, k2, k3, k4, k5, k6, k7, k8, k9, k10, k11⟩ := g_ok_w hg hw
  obtain ⟨ha, x0, x1, x2, x3, x4, x5, x6, x7, x8, x9, x10, x11, x12, x13, x14, x15, x16, x17, x18⟩ := X
  rw [e39, b39_0]
  simp (disch := first | omega | assumption) only [yP0, yP1, lP1, yH0, yH12, lH12, x15, yi_t, yr_t, ep]
  by_cases c1 : pl h (b + 1) w = -9
  · rw [if_pos c1]
    exact av_cg (by unfold g_ls; rw [if_pos c1])
  · rw [if_neg c1]
    have hpw := (hp w hw.1 hw.2).resolve_left c1
    have hbd := g_wa_bd hg hw hpw.1
    rw [s14 d (by omega) XX hg w _ hw (by omega), yci_s, yr_t (by omega)]
    exact av_cg (by unfold g_ls; rw [if_neg c1])
theorem l37 (d : Nat) (hd : 2 ≤ d) (hb : b = 20 ∨ b = 22) (X : xm h a) (hg : g_ok (hv h)) (hp : p_ok (hv h) (pl h (b + 1))) (r : Int) : ∀ (n : Nat) (k s : Int), 0 ≤ k → k + n = g_wm (hv h) → (0 ≤ s ∧ s ≤ 9 * k) → y_ev z_pg sc d pgX2_lossOf 5 [some (y_vr b), some (y_vr a), some (y_vi r), some (y_vi s), some (y_vi k)] [] h = some (some (y_vi (s + u_sum (fun w => if g_rd (hv h) w = r then g_ls (hv h) (pl h (b + 1)) w else 0) k n)), h)
  | 0, k, s, hk, hn, hs => by
    have ha := X.1
    have x3 := X.2.2.2.2.1
    rw [b37_5]
    simp (disch := first | omega | assumption) only [yH0, x3]
    rw [if_neg (by omega)]
    exact av_cg (by simp [u_sum])
  | n + 1, k, s, hk, hn, hs => by
    have ih := fun s hs => l37 d hd hb X hg hp r n (k + 1) s (by omega) (by omega) hs
    have XX := X
    obtain ⟨ha, x0, x1, x2, x3, x4, x5, x6, x7, x8, x9, x10, x11, x12, x13, x14, x15, x16, x17, x18⟩ := X
    have h1 := hg.2.2.1
    have hl := g_ls_bd hg hp (w := k) (by omega)
    rw [b37_5]
    simp (disch := first | omega | assumption) only [yH0, yH9, lH9, x3, x12, yi_t, yP0, yci_s, yr_t, s39]
    rw [if_pos (by omega)]
    by_cases c1 : g_rd (hv h) k = r
    · rw [if_pos c1, ih _ (by omega)]
      exact av_cg (by rw [u_sum_s, if_pos c1]; omega)
    · rw [if_neg c1, ih _ (by omega)]
      exact av_cg (by rw [u_sum_s, if_neg c1]; omega)
theorem s37 (d : Nat) (hd : 3 ≤ d) (hb : b = 20 ∨ b = 22) (X : xm h a) (hg : g_ok (hv h)) (hp : p_ok (hv h) (pl h (b + 1))) (r : Int) (hr : r ≠ -9) : y_se z_pg sc d 37 [y_vr b, y_vr a, y_vi r] h = some (some (y_vi (g_ms (hv h) (pl h (b + 1)) r)), h) := by
  rcases d with _ | d
  · omega
  have h1 := hg.2.2.1
  rw [e37, b37_0, l37 d (by omega) hb X hg hp r (g_wm (hv h)).toNat 0 0 (by omega) (by omega) (by omega)]
  refine av_cg ?_
  unfold g_ms
  rw [Int.zero_add]
  exact u_sum_cg fun j _ _ => by simp [hr]
theorem l38 (d : Nat) (hd : 2 ≤ d) (hb : b = 20 ∨ b = 22) (X : xm h a) (hg : g_ok (hv h)) (hp : p_ok (hv h) (pl h (b + 1))) : ∀ (n : Nat) (k s : Int), 0 ≤ k → k + n = g_wm (hv h) → (0 ≤ s ∧ s ≤ 9 * k) → y_ev z_pg sc d pgX2_lossOfAll 4 [some (y_vr b), some (y_vr a), some (y_vi s), some (y_vi k)] [] h = some (some (y_vi (s + u_sum (fun w => g_ls (hv h) (pl h (b + 1)) w) k n)), h)
  | 0, k, s, hk, hn, hs => by
    have ha := X.1
    have x3 := X.2.2.2.2.1
    rw [b38_4]
    simp (disch := first | omega | assumption) only [yH0, x3]
    rw [if_neg (by omega)]
    exact av_cg (by simp [u_sum])
  | n + 1, k, s, hk, hn, hs => by
    have ih := fun s hs => l38 d hd hb X hg hp n (k + 1) s (by omega) (by omega) hs
    have XX := X
    obtain ⟨ha, x0, x1, x2, x3, x4, x5, x6, x7, x8, x9, x10, x11, x12, x13, x14, x15, x16, x17, x18⟩ := X
    have h1 := hg.2.2.1
    have hl := g_ls_bd hg hp (w := k) (by omega)
    rw [b38_4]
    simp (disch := first | omega | assumption) only [yH0, x3, yi_t, yP0, yci_s, yr_t, s39]
    rw [if_pos (by omega), ih _ (by omega)]
    exact av_cg (by rw [u_sum_s]; omega)
theorem s38 (d : Nat) (hd : 3 ≤ d) (hb : b = 20 ∨ b = 22) (X : xm h a) (hg : g_ok (hv h)) (hp : p_ok (hv h) (pl h (b + 1))) : y_se z_pg sc d 38 [y_vr b, y_vr a] h = some (some (y_vi (g_ms (hv h) (pl h (b + 1)) (-9))), h) := by
  rcases d with _ | d
  · omega
  have h1 := hg.2.2.1
  rw [e38, b38_0, l38 d (by omega) hb X hg hp (g_wm (hv h)).toNat 0 0 (by omega) (by omega) (by omega)]
  refine av_cg ?_
  unfold g_ms
  rw [Int.zero_add]
  exact u_sum_cg fun j _ _ => by simp
theorem l43 (d : Nat) (hb : b = 20 ∨ b = 22) (X : xm h a) (hg : g_ok (hv h)) (hp : p_ok (hv h) (pl h (b + 1))) (w : Int) (hw : 0 ≤ w ∧ w < g_wm (hv h)) : ∀ (n : Nat) (k : Int) (o : Option y_V), 0 ≤ k → k + n = w → y_ev z_pg sc d pgX2_isInOrder 2 [some (y_vr b), some (y_vr a), some (y_vi w), some (y_vi k), o] [] h = some (some (y_vi (y_bi (g_or (hv h) (g_rd (hv h) w) = 1 → u_all (fun v => g_rd (hv h) v = g_rd (hv h) w → pl h (b + 1) v ≠ -9 ∧ pl h (b + 1) v + g_mn (hv h) v ≤ pl h (b + 1) w) k n))), h)
  | 0, k, o, hk, hn => by
    rw [b43_2, if_neg (by omega)]
    exact ab_t (fun _ => trivial)
  | n + 1, k, o, hk, hn => by
    have ih := fun o => l43 d hb X hg hp w hw n (k + 1) o (by omega) (by omega)
    obtain ⟨ha, x0, x1, x2, x3, x4, x5, x6, x7, x8, x9, x10, x11, x12, x13, x14, x15, x16, x17, x18⟩ := X
    have h1 := hg.2.2.1
    have hbk := (x18 w hw.1 hw.2).2 k (by omega) (by omega)
    have ep : ∀ v, y_I h (b + 1) (Int.toNat v) = pl h (b + 1) v := fun _ => rfl
    obtain ⟨k1, k2, k3, k4, k5, k6, k7, k8, k9, k10, k11⟩ := g_ok_w hg (w := k) (by omega)
    have hpw := hp k (by omega) (by omega)
    rw [b43_2, if_pos (by omega)]
    simp (disch := first | omega | assumption) only [yP0, yP1, lP1, yH0, yH15, lH15, yH11, lH11, x14, yi_t, yr_t, ep, ub_has, ih]
    by_cases c1 : u_bs (y_I h (a + 15) (Int.toNat w)) k
    · have c2 := hbk.mp c1
      rw [if_neg (by rw [bi_t c1]; omega)]
      by_cases c3 : pl h (b + 1) k = -9
      · rw [if_pos c3]
        exact ab_f (fun g => (((g c2.2.1).1 c2.2.2).1 c3))
      · rw [if_neg c3]
        by_cases c4 : pl h (b + 1) w < pl h (b + 1) k + g_mn (hv h) k
        · rw [if_pos c4]
          exact ab_f (fun g => by have := ((g c2.2.1).1 c2.2.2).2; omega)
        · rw [if_neg c4]
          exact ab_cg ⟨fun g e => ⟨fun _ => ⟨c3, by omega⟩, g e⟩, fun g e => (g e).2⟩
    · rw [if_pos (bi_f c1)]
      exact ab_cg ⟨fun g e => ⟨fun q => absurd (hbk.mpr ⟨by omega, e, q⟩) c1, g e⟩, fun g e => (g e).2⟩
theorem s43 (d : Nat) (hd : 1 ≤ d) (hb : b = 20 ∨ b = 22) (X : xm h a) (hg : g_ok (hv h)) (hp : p_ok (hv h) (pl h (b + 1))) (w : Int) (hw : 0 ≤ w ∧ w < g_wm (hv h)) : y_se z_pg sc d 43 [y_vr b, y_vr a, y_vi w] h = some (some (y_vi (y_bi (g_due (hv h) (pl h (b + 1)) w (pl h (b + 1) w)))), h) := by
  rcases d with _ | d
  · omega
  rw [e43, b43_0, l43 d hb X hg hp w hw w.toNat 0 none (by omega) (by omega)]
  rfl
theorem l42 (d : Nat) (hd : 1 ≤ d) (hb : b = 20 ∨ b = 22) (X : xm h a) (hg : g_ok (hv h)) (hp : p_ok (hv h) (pl h (b + 1))) (w : Int) (hw : 0 ≤ w ∧ w < g_wm (hv h)) : ∀ (n : Nat) (k s u : Int), 0 ≤ k → k + n = g_wm (hv h) → (0 ≤ s ∧ s ≤ k) → (0 ≤ u ∧ u ≤ k) → y_ev z_pg sc d pgX2_isCrowded 8 [some (y_vr b), some (y_vr a), some (y_vi w), some (y_vi s), some (y_vi u), some (y_vi k)] [] h = some (some (y_vi (y_bi (1 < u + u_sum (fun v => y_bi (g_rd (hv h) v = g_rd (hv h) w ∧ g_rg (hv h) (pl h (b + 1)) v (pl h (b + 1) w))) k n ∨ g_cp (hv h) (g_pt (hv h) w) < s + u_sum (fun v => y_bi (g_pt (hv h) v = g_pt (hv h) w ∧ g_rg (hv h) (pl h (b + 1)) v (pl h (b + 1) w))) k n))), h)
  | 0, k, s, u, hk, hn, hs, hu => by
    obtain ⟨ha, x0, x1, x2, x3, x4, x5, x6, x7, x8, x9, x10, x11, x12, x13, x14, x15, x16, x17, x18⟩ := X
    obtain ⟨k1, k2, k3, k4, k5, k6, k7, k8, k9, k10, k11⟩ := g_ok_w hg hw
    rw [b42_8]
    simp (disch := first | omega | assumption) only [yH0, yH1, lH1, yH10, lH10, x3, x4, x13, yi_t]
    rw [if_neg (by omega), u_sum_0, u_sum_0]
    by_cases c1 : 1 < u
    · rw [if_pos c1]; exact ab_t (Or.inl (by omega))
    · rw [if_neg c1]
      by_cases c2 : g_cp (hv h) (g_pt (hv h) w) < s
      · rw [if_pos c2]; exact ab_t (Or.inr (by omega))
      · rw [if_neg c2]; exact ab_f (by omega)
  | n + 1, k, s, u, hk, hn, hs, hu => by
    have ih := fun s u hs hu => l42 d hd hb X hg hp w hw n (k + 1) s u (by omega) (by omega) hs hu
    have XX := X
    obtain ⟨ha, x0, x1, x2, x3, x4, x5, x6, x7, x8, x9, x10, x11, x12, x13, x14, x15, x16, x17, x18⟩ := X
    have h1 := hg.2.2.1
    have ep : ∀ v, y_I h (b + 1) (Int.toNat v) = pl h (b + 1) v := fun _ => rfl
    have hkw : 0 ≤ k ∧ k < g_wm (hv h) := by omega
    rw [b42_8]
    simp (disch := first | omega | assumption) only [yH0, yH9, lH9, yH10, lH10, yP0, yP1, lP1, x3, x12, x13, yi_t, yr_t, ep, yci_s, s36]
    rw [if_pos (by omega), u_sum_s, u_sum_s]
    by_cases c1 : g_rg (hv h) (pl h (b + 1)) k (pl h (b + 1) w)
    · rw [if_neg (by rw [bi_t c1]; omega)]
      by_cases c2 : g_pt (hv h) k = g_pt (hv h) w
      · rw [if_pos c2, bi_t (p := g_pt (hv h) k = g_pt (hv h) w ∧ _) ⟨c2, c1⟩]
        by_cases c3 : g_rd (hv h) k = g_rd (hv h) w
        · rw [if_pos c3, bi_t (p := g_rd (hv h) k = g_rd (hv h) w ∧ _) ⟨c3, c1⟩, ih _ _ (by omega) (by omega)]
          exact ab_cg (by omega)
        · rw [if_neg c3, bi_f (p := g_rd (hv h) k = g_rd (hv h) w ∧ _) (fun g => c3 g.1), ih _ _ (by omega) (by omega)]
          exact ab_cg (by omega)
      · rw [if_neg c2, bi_f (p := g_pt (hv h) k = g_pt (hv h) w ∧ _) (fun g => c2 g.1)]
        by_cases c3 : g_rd (hv h) k = g_rd (hv h) w
        · rw [if_pos c3, bi_t (p := g_rd (hv h) k = g_rd (hv h) w ∧ _) ⟨c3, c1⟩, ih _ _ (by omega) (by omega)]
          exact ab_cg (by omega)
        · rw [if_neg c3, bi_f (p := g_rd (hv h) k = g_rd (hv h) w ∧ _) (fun g => c3 g.1), ih _ _ (by omega) (by omega)]
          exact ab_cg (by omega)
    · rw [if_pos (bi_f c1), bi_f (p := g_pt (hv h) k = g_pt (hv h) w ∧ _) (fun g => c1 g.2), bi_f (p := g_rd (hv h) k = g_rd (hv h) w ∧ _) (fun g => c1 g.2), ih _ _ (by omega) (by omega)]
      exact ab_cg (by omega)
theorem s42 (d : Nat) (hd : 2 ≤ d) (hb : b = 20 ∨ b = 22) (X : xm h a) (hg : g_ok (hv h)) (hp : p_ok (hv h) (pl h (b + 1))) (w : Int) (hw : 0 ≤ w ∧ w < g_wm (hv h)) : y_se z_pg sc d 42 [y_vr b, y_vr a, y_vi w] h = some (some (y_vi (y_bi (g_crowd (hv h) (pl h (b + 1)) w))), h) := by
  rcases d with _ | d
  · omega
  have h1 := hg.2.2.1
  rw [e42, b42_0, l42 d (by omega) hb X hg hp w hw (g_wm (hv h)).toNat 0 0 0 (by omega) (by omega) (by omega) (by omega)]
  exact ab_cg (by unfold g_crowd g_rmany g_many; rw [Int.zero_add, Int.zero_add])
end XP
