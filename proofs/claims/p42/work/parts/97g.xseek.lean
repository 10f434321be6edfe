/-! THE BEST OF ALL, x's: where a want comes next -/
section XS
variable {sc : z_Sc} {h : y_Hp} {a : Nat}
theorem s14g (d : Nat) (hd : 1 ≤ d) {G : u_G} (X : xmg h a G) (hg : g_ok G) (w t : Int) (hw : 0 ≤ w ∧ w < g_wm G) (ht : 0 ≤ t ∧ t ≤ 1000) : y_se z_pg sc d 14 [y_vr a, y_vi w, y_vi t] h = some (some (y_vi (g_wa G w t)), h) := by
  rcases d with _ | d
  · omega
  obtain ⟨ha, x0, x1, x2, x3, x4, x5, x6, x7, x8, x9, x10, x11, x12, x13, x14, x15, x16, x17, x18⟩ := X
  obtain ⟨k1, k2, k3, k4, k5, k6, k7, k8, k9, k10, k11⟩ := g_ok_w hg hw
  have h0 : 0 ≤ Int.tdiv t 10 ∧ Int.tdiv t 10 ≤ 100 := by
    rw [Int.tdiv_eq_ediv_of_nonneg ht.1]
    omega
  have h1 : 0 ≤ g_sl G (g_pt G w) * Int.tdiv t 10 ∧ g_sl G (g_pt G w) * Int.tdiv t 10 ≤ 900 := by
    constructor
    · exact Int.mul_nonneg k10.1 h0.1
    · calc g_sl G (g_pt G w) * Int.tdiv t 10 ≤ 9 * Int.tdiv t 10 := Int.mul_le_mul_of_nonneg_right k10.2 h0.1
        _ ≤ 900 := by omega
  rw [e14, b14_0]
  simp (disch := first | omega | assumption) only [yH0, yH3, yH10, yH12, lH3, lH10, lH12, x6, x13, x15, yi_t, yr_t, yz_t]
  rfl
theorem s17g (d : Nat) (hd : 1 ≤ d) {G : u_G} (X : xmg h a G) (hg : g_ok G) (w : Int) (hw : 0 ≤ w ∧ w < g_wm G) : y_se z_pg sc d 17 [y_vr a, y_vi w] h = some (some (y_vi (min (g_ti G (g_rd G w)) (g_la G) - g_mn G w)), h) := by
  rcases d with _ | d
  · omega
  obtain ⟨ha, x0, x1, x2, x3, x4, x5, x6, x7, x8, x9, x10, x11, x12, x13, x14, x15, x16, x17, x18⟩ := X
  obtain ⟨k1, k2, k3, k4, k5, k6, k7, k8, k9, k10, k11⟩ := g_ok_w hg hw
  have k12 := hg.2.2.2.2.2.1
  rw [e17, b17_0]
  simp (disch := first | omega | assumption) only [yH0, yH6, yH9, yH11, lH6, lH9, lH11, x0, x9, x12, x14, yi_t, yr_t, yz_t]
/-- the first minute under a cushion, from t on, of n -/
theorem l15g (d : Nat) {G : u_G} (X : xmg h a G) (hg : g_ok G) (w t : Int) (hw : 0 ≤ w ∧ w < g_wm G) (ht : 0 ≤ t ∧ t + g_mn G w ≤ 100) : ∀ (n : Nat) (k : Int), t ≤ k → k + n = max k (min 61 (t + g_mn G w)) → y_ev z_pg sc d pgX0_coveredFrom 15 [some (y_vr a), some (y_vi w), some (y_vi t), some (y_vl (y_J h (a + 4) (Int.toNat (g_pt G w)))), none, some (y_vi k)] [] h = some (some (y_vi (u_find (fun m => g_cv G (g_pt G w) m) k n)), h)
  | 0, k, hk, hn => by
    obtain ⟨ha, x0, x1, x2, x3, x4, x5, x6, x7, x8, x9, x10, x11, x12, x13, x14, x15, x16, x17, x18⟩ := X
    obtain ⟨k1, k2, k3, k4, k5, k6, k7, k8, k9, k10, k11⟩ := g_ok_w hg hw
    rw [b15_15]
    simp (disch := first | omega | assumption) only [yH0, yH11, lH11, x14, yi_t, yr_t]
    by_cases c1 : k < t + g_mn G w
    · rw [if_pos c1, if_pos (by omega)]
      rfl
    · rw [if_neg c1]
      rfl
  | n + 1, k, hk, hn => by
    have ih := l15g d X hg w t hw ht n (k + 1) (by omega) (by omega)
    obtain ⟨ha, x0, x1, x2, x3, x4, x5, x6, x7, x8, x9, x10, x11, x12, x13, x14, x15, x16, x17, x18⟩ := X
    obtain ⟨k1, k2, k3, k4, k5, k6, k7, k8, k9, k10, k11⟩ := g_ok_w hg hw
    have hb := x7 (g_pt G w) k3.1 k3.2 k (by omega) (by omega)
    rw [b15_15]
    simp (disch := first | omega | assumption) only [yH0, yH11, lH11, x14, yi_t, yr_t]
    rw [if_pos (by omega), if_neg (by omega), ih]
    by_cases c1 : g_cv G (g_pt G w) k
    · have := hb.mpr c1
      unfold u_lb at this
      rw [if_neg this, u_find_t c1]
    · have : y_lcmp ((y_lshr (y_J h (a + 4) (Int.toNat (g_pt G w))) k) &&& (Int64.ofNat 1)) (Int64.ofNat 0) = 0 := Classical.byContradiction fun q => c1 (hb.mp q)
      rw [if_pos this, u_find_f c1]
theorem s15g (d : Nat) (hd : 1 ≤ d) {G : u_G} (X : xmg h a G) (hg : g_ok G) (w t : Int) (hw : 0 ≤ w ∧ w < g_wm G) (ht : 0 ≤ t ∧ t ≤ 80) : y_se z_pg sc d 15 [y_vr a, y_vi w, y_vi t] h = some (some (y_vi (g_cf G w t)), h) := by
  rcases d with _ | d
  · omega
  have XX := X
  obtain ⟨ha, x0, x1, x2, x3, x4, x5, x6, x7, x8, x9, x10, x11, x12, x13, x14, x15, x16, x17, x18⟩ := X
  obtain ⟨k1, k2, k3, k4, k5, k6, k7, k8, k9, k10, k11⟩ := g_ok_w hg hw
  rw [e15, b15_0]
  simp (disch := first | omega | assumption) only [yH0, yH4, yH10, lH4, lH10, x13, yi_t, yr_t]
  rw [l15g d XX hg w t hw (by omega) (g_cn G w t) t (Int.le_refl _) (by unfold g_cn; omega)]
  rfl
end XS
theorem u_find_eq {p q : Int → Prop} {k j : Int} {n m : Nat} (hk : 0 ≤ k) (hj : 0 ≤ j) (e : ∀ t, ((k ≤ t ∧ t < k + n) ∧ p t) ↔ ((j ≤ t ∧ t < j + m) ∧ q t)) : u_find p k n = u_find q j m := by
  rcases u_find_cs (p := p) (n := n) hk with ⟨a1, a2⟩ | ⟨a1, a2, a3⟩
  · rw [a1]
    refine Eq.symm ((u_find_none hj).mpr fun t h1 h2 h3 => ?_)
    have := (e t).mpr ⟨⟨h1, h2⟩, h3⟩
    exact a2 t this.1.1 this.1.2 this.2
  · have b := (e _).mp ⟨⟨a1, a2⟩, a3⟩
    have ne : u_find q j m ≠ -9 := fun z => (u_find_none hj).mp z _ b.1.1 b.1.2 b.2
    have ne2 : u_find p k n ≠ -9 := by omega
    obtain ⟨c1, c2, c3, c4⟩ := u_find_val hj ne
    obtain ⟨d1, d2, d3, d4⟩ := u_find_val hk ne2
    have f := (e _).mpr ⟨⟨c1, c2⟩, c3⟩
    rcases Int.lt_or_le (u_find p k n) (u_find q j m) with z | z
    · exact absurd b.2 (c4 _ b.1.1 z)
    · rcases Int.lt_or_le (u_find q j m) (u_find p k n) with y | y
      · exact absurd f.2 (d4 _ f.1.1 y)
      · omega
noncomputable def q_ct (TD : Int → Prop) (w : Int) : Int := u_sum (fun j => y_bi (TD j)) 0 w.toNat
def XQ (h : y_Hp) (a : Nat) (G : u_G) (L : Int → Prop) (b0 oc : Int) (P : u_P) (E : Int → Int) : Prop := (y_F h 43 2 = a ∧ xmg h a G) ∧ (y_I h 43 4 = b0 ∧ y_I h 43 5 = oc) ∧ y_I h 43 7 = q_lk G L P ∧ (y_inr (y_I h 43 8) ∧ ∀ w, 0 ≤ w → w < 32 → (u_bs (y_I h 43 8) w ↔ (w < g_wm G ∧ P w ≠ -9))) ∧ (∀ r, 0 ≤ r → r < 8 → y_I h 56 (Int.toNat r) = q_lr G L P r) ∧ p_eq G (pl h 58) P ∧ (∀ r, 0 ≤ r → r < 8 → y_I h 59 (Int.toNat r) = q_re G P r) ∧ (∀ c, 0 ≤ c → c < 12 → y_I h 60 (Int.toNat c) = E c)
def XA (h : y_Hp) (G : u_G) (A : q_A) : Prop := y_I h 43 6 = q_best A ∧ (0 ≤ A.1 → y_I h 43 0 = A.2.1 ∧ p_eq G (pl h 44) A.2.2)
def XT (h : y_Hp) (G : u_G) (TD : Int → Prop) : Prop := y_I h 43 9 = q_ct TD (g_wm G) ∧ ∀ w, 0 ≤ w → w < g_wm G → TD w → y_I h 45 (Int.toNat (q_ct TD w)) = w
section XS
variable {sc : z_Sc} {h : y_Hp} {a : Nat} {G : u_G} {L : Int → Prop} {b0 oc : Int} {P : u_P} {E : Int → Int}
theorem s74 (d : Nat) (hd : 1 ≤ d) (Q : XQ h a G L b0 oc P E) (hg : g_ok G) (p : Int) (hp : 0 ≤ p ∧ p < g_pm G) : y_se z_pg sc d 74 [y_vr 43, y_vi p] h = some (some (y_vi (q_fc G E p)), h) := by
  rcases d with _ | d
  · omega
  obtain ⟨⟨f2, X⟩, -, -, -, -, -, -, e60⟩ := Q
  obtain ⟨ha, x0, x1, x2, x3, x4, -⟩ := X
  have kp := hg.1
  have cpp := (hg.2.2.2.2.2.2.1 p hp.1 hp.2).1
  rw [e74, b74_0, Int.mul_comm p 2, yr_t (by omega), f2, yH0 ha, yH1 ha, lH1 ha, yi_t (by omega), x4 p hp.1 hp.2]
  unfold q_fc
  by_cases c : g_cp G p = 2
  · rw [if_pos (by omega), yr_t (by omega), yi_t (by omega), yi_t (by omega), e60 _ (by omega) (by omega), e60 _ (by omega) (by omega)]
    by_cases c2 : E (2 * p + 1) < E (2 * p)
    · rw [if_pos c2, if_pos ⟨c, c2⟩, yr_t (by omega)]
    · rw [if_neg c2, if_neg (fun q => c2 q.2)]
  · rw [if_neg (by omega), if_neg (fun q => c q.1)]
theorem l73 (Q : XQ h a G L b0 oc P E) (hg : g_ok G) (w v2 v3 : Int) (hw : 0 ≤ w ∧ w < g_wm G) : ∀ (n : Nat) (k lo hi : Int), 0 ≤ k → k + n = g_wm G → ∃ lo' hi', (∀ d, y_ev z_pg sc d pgX5_earliest 89 [some (y_vr 43), some (y_vi w), some (y_vi v2), some (y_vi v3), some (y_vi lo), some (y_vi hi), some (y_vi k)] [] h = y_ev z_pg sc d pgX5_earliest 197 [some (y_vr 43), some (y_vi w), some (y_vi v2), some (y_vi v3), some (y_vi lo'), some (y_vi hi'), some (y_vi lo')] [] h) ∧ (∀ T, lo' ≤ T ↔ (lo ≤ T ∧ ∀ x, k ≤ x → x < k + n → P x ≠ -9 → g_pt G w = g_pt G x → g_na G (g_rd G x) (g_rd G w) (g_pt G x) → P x ≤ T)) ∧ (∀ T, T ≤ hi' ↔ (T ≤ hi ∧ ∀ x, k ≤ x → x < k + n → P x ≠ -9 → g_pt G x = g_pt G w → g_na G (g_rd G w) (g_rd G x) (g_pt G w) → T ≤ P x))
  | 0, k, lo, hi, hk, hn => by
    obtain ⟨⟨f2, X⟩, -⟩ := Q
    obtain ⟨ha, x0, x1, x2, x3, -⟩ := X
    refine ⟨lo, hi, fun d => ?_, fun T => ⟨fun q => ⟨q, fun x h1 h2 => by omega⟩, fun q => q.1⟩, fun T => ⟨fun q => ⟨q, fun x h1 h2 => by omega⟩, fun q => q.1⟩⟩
    rw [b73_89, f2, yH0 ha, x3, if_neg (by omega)]
  | n + 1, k, lo, hi, hk, hn => by
    have QQ := Q
    obtain ⟨⟨f2, X⟩, -, -, -, -, e58, -, -⟩ := Q
    obtain ⟨ha, x0, x1, x2, x3, x4, x5, x6, x7, x8, x9, x10, x11, x12, x13, x14, x15, x16, x17, x18⟩ := X
    have kw := hg.2.2.1
    have p58 : y_I h 58 (Int.toNat k) = P k := e58 k hk (by omega)
    obtain ⟨-, y1⟩ := x17 k hk (by omega)
    obtain ⟨-, y2⟩ := x17 w hw.1 hw.2
    have y1 := y1 w (by omega) (by omega)
    have y2 := y2 k (by omega) (by omega)
    by_cases c1 : P k = -9
    · obtain ⟨lo', hi', i1, i2, i3⟩ := l73 QQ hg w v2 v3 hw n (k + 1) lo hi (by omega) (by omega)
      refine ⟨lo', hi', fun d => ?_, fun T => (i2 T).trans (and_congr Iff.rfl ⟨fun q x h1 h2 h3 => ?_, fun q x h1 h2 => q x (by omega) (by omega)⟩), fun T => (i3 T).trans (and_congr Iff.rfl ⟨fun q x h1 h2 h3 => ?_, fun q x h1 h2 => q x (by omega) (by omega)⟩)⟩
      · rw [b73_89, f2, yH0 ha, x3, if_pos (by omega), yi_t (by omega), p58, if_pos c1, yi_t (by omega), if_pos c1, yr_t (by omega), i1]
      · have : x ≠ k := fun z => h3 (by rw [z]; exact c1)
        exact q x (by omega) (by omega) h3
      · have : x ≠ k := fun z => h3 (by rw [z]; exact c1)
        exact q x (by omega) (by omega) h3
    · -- rivals of w: the least; of whom w is a rival: the greatest
      by_cases r2 : u_bs (y_I h (a + 14) (Int.toNat w)) k
      · have z2 := y2.mp r2
        by_cases r1 : u_bs (y_I h (a + 14) (Int.toNat k)) w
        · have z1 := y1.mp r1
          obtain ⟨lo', hi', i1, i2, i3⟩ := l73 QQ hg w v2 v3 hw n (k + 1) (max lo (P k)) (min hi (P k)) (by omega) (by omega)
          refine ⟨lo', hi', fun d => ?_, fun T => (i2 T).trans ⟨fun q => ⟨by omega, fun x h1 h2 h3 h4 h5 => ?_⟩, fun q => ⟨?_, fun x h1 h2 => q.2 x (by omega) (by omega)⟩⟩, fun T => (i3 T).trans ⟨fun q => ⟨by omega, fun x h1 h2 h3 h4 h5 => ?_⟩, fun q => ⟨?_, fun x h1 h2 => q.2 x (by omega) (by omega)⟩⟩⟩
          · rw [b73_89, f2, yH0 ha, x3, if_pos (by omega), yi_t (by omega), p58, if_neg c1, yH0 ha, yH14 ha, lH14 ha, yi_t (by omega), ub_has (by omega), if_neg (by rw [bi_t r2]; omega), yi_t (by omega), yi_t (by omega), if_neg c1, yH0 ha, yH14 ha, yi_t (by omega), ub_has (by omega), if_neg (by rw [bi_t r1]; omega), yi_t (by omega), yr_t (by omega), i1]
          · by_cases e : x = k
            · subst e; omega
            · exact q.2 x (by omega) (by omega) h3 h4 h5
          · have := q.2 k (by omega) (by omega) c1 z1.2.1 z1.2.2
            have := q.1
            omega
          · by_cases e : x = k
            · subst e; omega
            · exact q.2 x (by omega) (by omega) h3 h4 h5
          · have := q.2 k (by omega) (by omega) c1 z2.2.1 z2.2.2
            have := q.1
            omega
        · obtain ⟨lo', hi', i1, i2, i3⟩ := l73 QQ hg w v2 v3 hw n (k + 1) lo (min hi (P k)) (by omega) (by omega)
          refine ⟨lo', hi', fun d => ?_, fun T => (i2 T).trans (and_congr Iff.rfl ⟨fun q x h1 h2 h3 h4 h5 => ?_, fun q x h1 h2 => q x (by omega) (by omega)⟩), fun T => (i3 T).trans ⟨fun q => ⟨by omega, fun x h1 h2 h3 h4 h5 => ?_⟩, fun q => ⟨?_, fun x h1 h2 => q.2 x (by omega) (by omega)⟩⟩⟩
          · rw [b73_89, f2, yH0 ha, x3, if_pos (by omega), yi_t (by omega), p58, if_neg c1, yH0 ha, yH14 ha, lH14 ha, yi_t (by omega), ub_has (by omega), if_neg (by rw [bi_t r2]; omega), yi_t (by omega), yi_t (by omega), if_neg c1, yH0 ha, yH14 ha, yi_t (by omega), ub_has (by omega), if_pos (bi_f r1), yr_t (by omega), i1]
          · have : x ≠ k := fun z => r1 (y1.mpr ⟨hw.2, by rw [← z]; exact h4, by rw [← z]; exact h5⟩)
            exact q x (by omega) (by omega) h3 h4 h5
          · by_cases e : x = k
            · subst e; omega
            · exact q.2 x (by omega) (by omega) h3 h4 h5
          · have := q.2 k (by omega) (by omega) c1 z2.2.1 z2.2.2
            have := q.1
            omega
      · by_cases r1 : u_bs (y_I h (a + 14) (Int.toNat k)) w
        · have z1 := y1.mp r1
          obtain ⟨lo', hi', i1, i2, i3⟩ := l73 QQ hg w v2 v3 hw n (k + 1) (max lo (P k)) hi (by omega) (by omega)
          refine ⟨lo', hi', fun d => ?_, fun T => (i2 T).trans ⟨fun q => ⟨by omega, fun x h1 h2 h3 h4 h5 => ?_⟩, fun q => ⟨?_, fun x h1 h2 => q.2 x (by omega) (by omega)⟩⟩, fun T => (i3 T).trans (and_congr Iff.rfl ⟨fun q x h1 h2 h3 h4 h5 => ?_, fun q x h1 h2 => q x (by omega) (by omega)⟩)⟩
          · rw [b73_89, f2, yH0 ha, x3, if_pos (by omega), yi_t (by omega), p58, if_neg c1, yH0 ha, yH14 ha, lH14 ha, yi_t (by omega), ub_has (by omega), if_pos (bi_f r2), yi_t (by omega), if_neg c1, yH0 ha, yH14 ha, yi_t (by omega), ub_has (by omega), if_neg (by rw [bi_t r1]; omega), yi_t (by omega), yr_t (by omega), i1]
          · by_cases e : x = k
            · subst e; omega
            · exact q.2 x (by omega) (by omega) h3 h4 h5
          · have := q.2 k (by omega) (by omega) c1 z1.2.1 z1.2.2
            have := q.1
            omega
          · have : x ≠ k := fun z => r2 (y2.mpr ⟨by omega, by rw [← z]; exact h4, by rw [← z]; exact h5⟩)
            exact q x (by omega) (by omega) h3 h4 h5
        · obtain ⟨lo', hi', i1, i2, i3⟩ := l73 QQ hg w v2 v3 hw n (k + 1) lo hi (by omega) (by omega)
          refine ⟨lo', hi', fun d => ?_, fun T => (i2 T).trans (and_congr Iff.rfl ⟨fun q x h1 h2 h3 h4 h5 => ?_, fun q x h1 h2 => q x (by omega) (by omega)⟩), fun T => (i3 T).trans (and_congr Iff.rfl ⟨fun q x h1 h2 h3 h4 h5 => ?_, fun q x h1 h2 => q x (by omega) (by omega)⟩)⟩
          · rw [b73_89, f2, yH0 ha, x3, if_pos (by omega), yi_t (by omega), p58, if_neg c1, yH0 ha, yH14 ha, lH14 ha, yi_t (by omega), ub_has (by omega), if_pos (bi_f r2), yi_t (by omega), if_neg c1, yH0 ha, yH14 ha, yi_t (by omega), ub_has (by omega), if_pos (bi_f r1), yr_t (by omega), i1]
          · have : x ≠ k := fun z => r1 (y1.mpr ⟨hw.2, by rw [← z]; exact h4, by rw [← z]; exact h5⟩)
            exact q x (by omega) (by omega) h3 h4 h5
          · have : x ≠ k := fun z => r2 (y2.mpr ⟨by omega, by rw [← z]; exact h4, by rw [← z]; exact h5⟩)
            exact q x (by omega) (by omega) h3 h4 h5
theorem l197e (d : Nat) (hd : 1 ≤ d) (f2 : y_F h 43 2 = a) (X : xmg h a G) (hg : g_ok G) (w v2 v3 v4 hi : Int) (hw : 0 ≤ w ∧ w < g_wm G) (hh : hi ≤ q_hi G w) : ∀ (n : Nat) (k : Int), 0 ≤ k → k + n = max k (hi + 1) → y_ev z_pg sc d pgX5_earliest 197 [some (y_vr 43), some (y_vi w), some (y_vi v2), some (y_vi v3), some (y_vi v4), some (y_vi hi), some (y_vi k)] [] h = some (some (y_vi (u_find (fun t => ¬ g_un G (g_pt G w) t (g_mn G w)) k n)), h)
  | 0, k, hk, hn => by
    rw [b73_197, if_pos (by omega)]
    rfl
  | n + 1, k, hk, hn => by
    have ha := X.1
    have km := (hg.2.2.2.2.2.2.2.2.1 w hw.1 hw.2).2.2.1
    have kl := hg.2.2.2.2.2.1
    have ih := l197e d hd f2 X hg w v2 v3 v4 hi hw hh n (k + 1) (by omega) (by omega)
    unfold q_hi at hh
    have cu := g_cf_un (G := G) (w := w) (t := k) hk (by omega) hg (by omega)
    rw [b73_197, if_neg (by omega), f2, yH0 ha, s15g d hd X hg w k hw (by omega), yci_s]
    by_cases c : g_cf G w k = -9
    · rw [if_pos c, u_find_t (cu.mp c)]
    · rw [if_neg c, yr_t (by omega), ih, u_find_f (fun q => c (cu.mpr q))]
theorem s73 (d : Nat) (hd : 2 ≤ d) (Q : XQ h a G L b0 oc P E) (hg : g_ok G) (I : q_in G P E) (hb : 0 ≤ b0 ∧ b0 ≤ 60) (w : Int) (hw : 0 ≤ w ∧ w < g_wm G) : y_se z_pg sc d 73 [y_vr 43, y_vi w] h = some (some (y_vi (q_t G b0 P E w)), h) := by
  rcases d with _ | d
  · omega
  have QQ := Q
  obtain ⟨⟨f2, X⟩, ⟨e4, e5⟩, e7, e8, e56, e58, e59, e60⟩ := Q
  have XX := X
  obtain ⟨ha, x0, x1, x2, x3, x4, x5, x6, x7, x8, x9, x10, x11, x12, x13, x14, x15, x16, x17, x18⟩ := X
  have kw := hg.2.2.1
  have kr := hg.2.1
  have kp := hg.1
  obtain ⟨k1, k2, k3, -⟩ := hg.2.2.2.2.2.2.2.2.1 w hw.1 hw.2
  have fcr := q_fc_r (E := E) hg k2
  have cpp := (hg.2.2.2.2.2.2.1 _ k2.1 k2.2)
  have re := q_re_ws (P := P) hg k1
  obtain ⟨lo', hi', i1, i2, i3⟩ := l73 (sc := sc) QQ hg w (g_rd G w) (g_pt G w) hw (g_wm G).toNat 0 (q_lo G b0 P E w) (q_hi G w) (by omega) (by omega)
  have lo0 : 0 ≤ q_lo G b0 P E w := by unfold q_lo; omega
  have lo'0 : 0 ≤ lo' := Int.le_trans lo0 ((i2 lo').mp (Int.le_refl _)).1
  have hi'0 : hi' ≤ q_hi G w := ((i3 hi').mp (Int.le_refl _)).1
  have elo : max (max (max b0 (q_re G P (g_rd G w))) (E (q_fc G E (g_pt G w)))) (max (g_fr G (g_rd G w)) (g_cm G (g_pt G w))) = q_lo G b0 P E w := by unfold q_lo; omega
  rw [e73, b73_0, f2, yH0 ha, yH9 ha, lH9 ha, yi_t (by omega), yH0 ha, yH10 ha, lH10 ha, yi_t (by omega), x12 w hw.1 hw.2, x13 w hw.1 hw.2, yi_t (by omega), s74 d (by omega) QQ hg _ k2, yci_s, yi_t (by omega), f2, yH0 ha, yH5 ha, lH5 ha, yi_t (by omega), yH0 ha, yH2 ha, lH2 ha, yi_t (by omega), yH0 ha, s17g d (by omega) XX hg w hw, yci_s, e4, e59 _ k1.1 (by omega), e60 _ (by omega) (by omega), x8 _ k1.1 k1.2, x5 _ k2.1 k2.2, elo]
  show y_ev z_pg sc d pgX5_earliest 89 [some (y_vr 43), some (y_vi w), some (y_vi (g_rd G w)), some (y_vi (g_pt G w)), some (y_vi (q_lo G b0 P E w)), some (y_vi (q_hi G w)), some (y_vi 0)] [] h = _
  rw [i1, l197e d (by omega) f2 XX hg w _ _ _ hi' hw hi'0 (max lo' (hi' + 1) - lo').toNat lo' lo'0 (by omega)]
  refine av_cg ?_
  unfold q_t
  refine u_find_eq lo'0 lo0 fun t => ?_
  unfold q_ok q_let
  constructor
  · rintro ⟨⟨t1, t2⟩, t3⟩
    have l := (i2 t).mp t1
    have u := (i3 t).mp (by omega)
    refine ⟨⟨l.1, by omega⟩, t3, fun q => ?_, fun v v1 v2 v3 v4 v5 v6 => ?_⟩
    · obtain ⟨v, v1, v2, v3, v4, v5, v6⟩ := u_any_iff.mp q
      have := u.2 v v1 (by omega) v4 v3 v6
      omega
    · have := l.2 v v1 (by omega) v4 v3.symm (by rw [v3]; exact v6)
      omega
  · rintro ⟨⟨t1, t2⟩, t3, t4, t5⟩
    have l := (i2 t).mpr ⟨t1, fun x h1 h2 h3 h4 h5 => by
      rcases Int.lt_or_le t (P x) with z | z
      · exact absurd (by rw [h4]; exact h5) (t5 x h1 (by omega) h4.symm h3 z)
      · exact z⟩
    have u := (i3 t).mpr ⟨by omega, fun x h1 h2 h3 h4 h5 => by
      rcases Int.lt_or_le (P x) t with z | z
      · exact absurd (u_any_iff.mpr ⟨x, h1, by omega, h4, h3, z, h5⟩) t4
      · exact z⟩
    exact ⟨⟨l, by omega⟩, t3⟩
theorem s72 (d : Nat) (hd : 1 ≤ d) (Q : XQ h a G L b0 oc P E) (hg : g_ok G) (hoc : oc = 0 ∨ oc = 1) (w : Int) (hw : 0 ≤ w ∧ w < g_wm G) : y_se z_pg sc d 72 [y_vr 43, y_vi w] h = some (some (y_vi (y_bi (q_nx G oc P w ∧ P w = -9))), h) := by
  rcases d with _ | d
  · omega
  obtain ⟨⟨f2, X⟩, ⟨e4, e5⟩, e7, ⟨b1, b2⟩, e56, e58, e59, e60⟩ := Q
  obtain ⟨ha, x0, x1, x2, x3, x4, x5, x6, x7, x8, x9, x10, x11, x12, x13, x14, x15, x16, x17, x18⟩ := X
  have kw := hg.2.2.1
  obtain ⟨-, y2⟩ := x18 w hw.1 hw.2
  rw [e72, b72_0, e5, ub_has (by omega)]
  have bw := b2 w hw.1 (by omega)
  rcases hoc with rfl | rfl
  · rw [if_pos rfl]
    by_cases c : P w = -9
    · rw [if_pos (bi_f (fun q => (bw.mp q).2 c))]
      exact ab_t ⟨fun q => by omega, c⟩
    · rw [if_neg (by rw [bi_t (bw.mpr ⟨hw.2, c⟩)]; omega)]
      exact ab_f (fun q => c q.2)
  · rw [if_neg (by omega), f2, yH0 ha, yH15 ha, lH15 ha, yi_t (by omega)]
    have key : (y_and (y_I h (a + 15) (Int.toNat w)) (y_xor (y_I h 43 8) (-1)) = 0) ↔ q_nx G 1 P w := by
      rw [ub_sub]
      unfold q_nx
      constructor
      · intro q _ o v h1 h2 h3
        exact ((b2 v h1 (by omega)).mp (q v h1 (by omega) ((y2 v h1 (by omega)).mpr ⟨h2, o, h3⟩))).2
      · intro q v h1 h2 h3
        obtain ⟨z1, z2, z3⟩ := (y2 v h1 h2).mp h3
        exact (b2 v h1 h2).mpr ⟨by omega, q rfl z2 v h1 z1 z3⟩
    by_cases c0 : y_and (y_I h (a + 15) (Int.toNat w)) (y_xor (y_I h 43 8) (-1)) = 0
    · rw [if_pos c0]
      by_cases c : P w = -9
      · rw [if_pos (bi_f (fun q => (bw.mp q).2 c))]
        exact ab_t ⟨key.mp c0, c⟩
      · rw [if_neg (by rw [bi_t (bw.mpr ⟨hw.2, c⟩)]; omega)]
        exact ab_f (fun q => c q.2)
    · rw [if_neg c0]
      exact ab_f (fun q => c0 (key.mpr q.1))
theorem l71 (d : Nat) {c : Nat} (hc : c = 56 ∨ c = 57 ∨ c = 59) : ∀ (n : Nat) (k s : Int), 0 ≤ k → k + n = 8 → y_ev z_pg sc d pgX5_worst 4 [some (y_vr c), some (y_vi s), some (y_vi k)] [] h = some (some (y_vi (u_fold (fun s r => max s (y_I h c (Int.toNat r))) s k n)), h)
  | 0, k, s, hk, hn => by
    have e1 : ∀ x : y_O, y_kt c 10 x = x := fun x => by rcases hc with rfl | rfl | rfl <;> rfl
    have e2 : (z_kd c).2 = 8 := by rcases hc with rfl | rfl | rfl <;> rfl
    rw [b71_4, e1, e2, if_neg (by omega)]
    rfl
  | n + 1, k, s, hk, hn => by
    have e1 : ∀ x : y_O, y_kt c 10 x = x := fun x => by rcases hc with rfl | rfl | rfl <;> rfl
    have e2 : (z_kd c).2 = 8 := by rcases hc with rfl | rfl | rfl <;> rfl
    rw [b71_4, e1, e2, if_pos (by omega), e1, yi_t (by omega), yr_t (by omega), l71 d hc n (k + 1) _ (by omega) (by omega)]
    rfl
theorem s71 (d : Nat) (hd : 1 ≤ d) {c : Nat} (hc : c = 56 ∨ c = 57 ∨ c = 59) : y_se z_pg sc d 71 [y_vr c] h = some (some (y_vi (q_mx (fun r => y_I h c (Int.toNat r)) 8)), h) := by
  rcases d with _ | d
  · omega
  rw [e71, b71_0, l71 d hc 8 0 0 (by omega) (by omega)]
  rfl
theorem q_mx_cg {f g : Int → Int} {n : Nat} (e : ∀ r, 0 ≤ r → r < (n : Int) → f r = g r) : q_mx f n = q_mx g n := u_fold_cg fun s r h1 h2 => by rw [e r h1 (by omega)]
end XS
