/-! x's HOUSE, PLANS, RULES: kinds of their cells; how the house agrees with the model's; x's queries of a house -/
theorem yH0 {a : Nat} {x : y_O} (ha : a = 62 ∨ a = 78) : y_kt a 0 x = x := by rcases ha with rfl | rfl <;> rfl
theorem yH1 {a : Nat} {x : y_O} (ha : a = 62 ∨ a = 78) : y_kt (a + 1) 10 x = x := by rcases ha with rfl | rfl <;> rfl
theorem lH1 {a : Nat} (ha : a = 62 ∨ a = 78) : (z_kd (a + 1)).2 = 6 := by rcases ha with rfl | rfl <;> rfl
theorem yH2 {a : Nat} {x : y_O} (ha : a = 62 ∨ a = 78) : y_kt (a + 2) 10 x = x := by rcases ha with rfl | rfl <;> rfl
theorem lH2 {a : Nat} (ha : a = 62 ∨ a = 78) : (z_kd (a + 2)).2 = 6 := by rcases ha with rfl | rfl <;> rfl
theorem yH3 {a : Nat} {x : y_O} (ha : a = 62 ∨ a = 78) : y_kt (a + 3) 10 x = x := by rcases ha with rfl | rfl <;> rfl
theorem lH3 {a : Nat} (ha : a = 62 ∨ a = 78) : (z_kd (a + 3)).2 = 6 := by rcases ha with rfl | rfl <;> rfl
theorem yH4 {a : Nat} {x : y_O} (ha : a = 62 ∨ a = 78) : y_kt (a + 4) 11 x = x := by rcases ha with rfl | rfl <;> rfl
theorem lH4 {a : Nat} (ha : a = 62 ∨ a = 78) : (z_kd (a + 4)).2 = 6 := by rcases ha with rfl | rfl <;> rfl
theorem yH5 {a : Nat} {x : y_O} (ha : a = 62 ∨ a = 78) : y_kt (a + 5) 10 x = x := by rcases ha with rfl | rfl <;> rfl
theorem lH5 {a : Nat} (ha : a = 62 ∨ a = 78) : (z_kd (a + 5)).2 = 8 := by rcases ha with rfl | rfl <;> rfl
theorem yH6 {a : Nat} {x : y_O} (ha : a = 62 ∨ a = 78) : y_kt (a + 6) 10 x = x := by rcases ha with rfl | rfl <;> rfl
theorem lH6 {a : Nat} (ha : a = 62 ∨ a = 78) : (z_kd (a + 6)).2 = 8 := by rcases ha with rfl | rfl <;> rfl
theorem yH7 {a : Nat} {x : y_O} (ha : a = 62 ∨ a = 78) : y_kt (a + 7) 10 x = x := by rcases ha with rfl | rfl <;> rfl
theorem lH7 {a : Nat} (ha : a = 62 ∨ a = 78) : (z_kd (a + 7)).2 = 8 := by rcases ha with rfl | rfl <;> rfl
theorem yH8 {a : Nat} {x : y_O} (ha : a = 62 ∨ a = 78) : y_kt (a + 8) 13 x = x := by rcases ha with rfl | rfl <;> rfl
theorem lH8 {a : Nat} (ha : a = 62 ∨ a = 78) : (z_kd (a + 8)).2 = 8 := by rcases ha with rfl | rfl <;> rfl
theorem yH9 {a : Nat} {x : y_O} (ha : a = 62 ∨ a = 78) : y_kt (a + 9) 10 x = x := by rcases ha with rfl | rfl <;> rfl
theorem lH9 {a : Nat} (ha : a = 62 ∨ a = 78) : (z_kd (a + 9)).2 = 24 := by rcases ha with rfl | rfl <;> rfl
theorem yH10 {a : Nat} {x : y_O} (ha : a = 62 ∨ a = 78) : y_kt (a + 10) 10 x = x := by rcases ha with rfl | rfl <;> rfl
theorem lH10 {a : Nat} (ha : a = 62 ∨ a = 78) : (z_kd (a + 10)).2 = 24 := by rcases ha with rfl | rfl <;> rfl
theorem yH11 {a : Nat} {x : y_O} (ha : a = 62 ∨ a = 78) : y_kt (a + 11) 10 x = x := by rcases ha with rfl | rfl <;> rfl
theorem lH11 {a : Nat} (ha : a = 62 ∨ a = 78) : (z_kd (a + 11)).2 = 24 := by rcases ha with rfl | rfl <;> rfl
theorem yH12 {a : Nat} {x : y_O} (ha : a = 62 ∨ a = 78) : y_kt (a + 12) 10 x = x := by rcases ha with rfl | rfl <;> rfl
theorem lH12 {a : Nat} (ha : a = 62 ∨ a = 78) : (z_kd (a + 12)).2 = 24 := by rcases ha with rfl | rfl <;> rfl
theorem yH13 {a : Nat} {x : y_O} (ha : a = 62 ∨ a = 78) : y_kt (a + 13) 10 x = x := by rcases ha with rfl | rfl <;> rfl
theorem lH13 {a : Nat} (ha : a = 62 ∨ a = 78) : (z_kd (a + 13)).2 = 24 := by rcases ha with rfl | rfl <;> rfl
theorem yH14 {a : Nat} {x : y_O} (ha : a = 62 ∨ a = 78) : y_kt (a + 14) 10 x = x := by rcases ha with rfl | rfl <;> rfl
theorem lH14 {a : Nat} (ha : a = 62 ∨ a = 78) : (z_kd (a + 14)).2 = 24 := by rcases ha with rfl | rfl <;> rfl
theorem yH15 {a : Nat} {x : y_O} (ha : a = 62 ∨ a = 78) : y_kt (a + 15) 10 x = x := by rcases ha with rfl | rfl <;> rfl
theorem lH15 {a : Nat} (ha : a = 62 ∨ a = 78) : (z_kd (a + 15)).2 = 24 := by rcases ha with rfl | rfl <;> rfl
theorem yP0 {b : Nat} {x : y_O} (hb : b = 20 ∨ b = 22) : y_kt b 2 x = x := by rcases hb with rfl | rfl <;> rfl
theorem yP1 {b : Nat} {x : y_O} (hb : b = 20 ∨ b = 22) : y_kt (b + 1) 10 x = x := by rcases hb with rfl | rfl <;> rfl
theorem lP1 {b : Nat} (hb : b = 20 ∨ b = 22) : (z_kd (b + 1)).2 = 24 := by rcases hb with rfl | rfl <;> rfl
/-- a plan's row: of x's plan, of the plan for trials, of the search -/
def y_pr9 (c : Nat) : Prop := c = 21 ∨ c = 23 ∨ c = 58
theorem yB0 {c : Nat} {x : y_O} (hc : y_pr9 c) : y_kt c 10 x = x := by rcases hc with rfl | rfl | rfl <;> rfl
theorem lB0 {c : Nat} (hc : y_pr9 c) : (z_kd c).2 = 24 := by rcases hc with rfl | rfl | rfl <;> rfl
/-- a minute of a part under a cushion, by the model's row, by x's bits -/
def g_cv (G : u_G) (p t : Int) : Prop := u_any (fun k => G 105 (Int.toNat (3 * k)) = p ∧ G 105 (Int.toNat ((3 * k) + 1)) ≤ t ∧ t ≤ G 105 (Int.toNat ((3 * k) + 2))) 0 (g_um G).toNat
def u_lb (j : Int64) (t : Int) : Prop := ¬ y_lcmp ((y_lshr j t) &&& (Int64.ofNat 1)) (Int64.ofNat 0) = 0
/-- x's house at a is the model's -/
def xm (h : y_Hp) (a : Nat) : Prop :=
  (a = 62 ∨ a = 78) ∧ y_I h a 0 = g_la (hv h) ∧ y_I h a 1 = g_pm (hv h) ∧ y_I h a 2 = g_rm (hv h) ∧ y_I h a 3 = g_wm (hv h) ∧
  (∀ p, 0 ≤ p → p < g_pm (hv h) → y_I h (a + 1) (Int.toNat p) = g_cp (hv h) p) ∧
  (∀ p, 0 ≤ p → p < g_pm (hv h) → y_I h (a + 2) (Int.toNat p) = g_cm (hv h) p) ∧
  (∀ p, 0 ≤ p → p < g_pm (hv h) → y_I h (a + 3) (Int.toNat p) = g_sl (hv h) p) ∧
  (∀ p, 0 ≤ p → p < g_pm (hv h) → ∀ t, 0 ≤ t → t ≤ 60 → (u_lb (y_J h (a + 4) (Int.toNat p)) t ↔ g_cv (hv h) p t)) ∧
  (∀ r, 0 ≤ r → r < g_rm (hv h) → y_I h (a + 5) (Int.toNat r) = g_fr (hv h) r) ∧
  (∀ r, 0 ≤ r → r < g_rm (hv h) → y_I h (a + 6) (Int.toNat r) = g_ti (hv h) r) ∧
  (∀ r, 0 ≤ r → r < g_rm (hv h) → y_inr (y_I h (a + 7) (Int.toNat r)) ∧ ∀ w, 0 ≤ w → w < 32 → (u_bs (y_I h (a + 7) (Int.toNat r)) w ↔ (w < g_wm (hv h) ∧ g_rd (hv h) w = r))) ∧
  (∀ r, 0 ≤ r → r < g_rm (hv h) → y_I h (a + 8) (Int.toNat r) = g_or (hv h) r) ∧
  (∀ w, 0 ≤ w → w < g_wm (hv h) → y_I h (a + 9) (Int.toNat w) = g_rd (hv h) w) ∧
  (∀ w, 0 ≤ w → w < g_wm (hv h) → y_I h (a + 10) (Int.toNat w) = g_pt (hv h) w) ∧
  (∀ w, 0 ≤ w → w < g_wm (hv h) → y_I h (a + 11) (Int.toNat w) = g_mn (hv h) w) ∧
  (∀ w, 0 ≤ w → w < g_wm (hv h) → y_I h (a + 12) (Int.toNat w) = g_wo (hv h) w) ∧
  (∀ w, 0 ≤ w → w < g_wm (hv h) → y_inr (y_I h (a + 13) (Int.toNat w)) ∧ ∀ q, 0 ≤ q → q < 32 → (u_bs (y_I h (a + 13) (Int.toNat w)) q ↔ (q < g_rm (hv h) ∧ g_na (hv h) (g_rd (hv h) w) q (g_pt (hv h) w)))) ∧
  (∀ w, 0 ≤ w → w < g_wm (hv h) → y_inr (y_I h (a + 14) (Int.toNat w)) ∧ ∀ v, 0 ≤ v → v < 32 → (u_bs (y_I h (a + 14) (Int.toNat w)) v ↔ (v < g_wm (hv h) ∧ g_pt (hv h) v = g_pt (hv h) w ∧ g_na (hv h) (g_rd (hv h) w) (g_rd (hv h) v) (g_pt (hv h) w)))) ∧
  (∀ w, 0 ≤ w → w < g_wm (hv h) → y_inr (y_I h (a + 15) (Int.toNat w)) ∧ ∀ v, 0 ≤ v → v < 32 → (u_bs (y_I h (a + 15) (Int.toNat w)) v ↔ (v < w ∧ g_or (hv h) (g_rd (hv h) w) = 1 ∧ g_rd (hv h) v = g_rd (hv h) w)))
section XH
variable {sc : z_Sc} {h : y_Hp} {a : Nat}
theorem s2 (d : Nat) (hd : 1 ≤ d) (X : xm h a) (p : Int) : y_se z_pg sc d 2 [y_vr a, y_vi p] h = some (some (y_vi (y_bi (0 ≤ p ∧ p < g_pm (hv h)))), h) := by
  rcases d with _ | d
  · omega
  obtain ⟨ha, x0, x1, -⟩ := X
  rw [e2, b2_0]
  simp (disch := first | omega | assumption) only [yH0, x1]
  by_cases c1 : p < 0
  · rw [if_pos c1]; exact ab_f (by omega)
  · rw [if_neg c1]
    by_cases c2 : p < g_pm (hv h)
    · rw [if_pos c2]; exact ab_t (by omega)
    · rw [if_neg c2]; exact ab_f (by omega)
theorem s3 (d : Nat) (hd : 1 ≤ d) (X : xm h a) (p : Int) : y_se z_pg sc d 3 [y_vr a, y_vi p] h = some (some (y_vi (y_bi (0 ≤ p ∧ p < g_rm (hv h)))), h) := by
  rcases d with _ | d
  · omega
  obtain ⟨ha, x0, x1, x2, -⟩ := X
  rw [e3, b3_0]
  simp (disch := first | omega | assumption) only [yH0, x2]
  by_cases c1 : p < 0
  · rw [if_pos c1]; exact ab_f (by omega)
  · rw [if_neg c1]
    by_cases c2 : p < g_rm (hv h)
    · rw [if_pos c2]; exact ab_t (by omega)
    · rw [if_neg c2]; exact ab_f (by omega)
theorem s4 (d : Nat) (hd : 1 ≤ d) (X : xm h a) (p : Int) : y_se z_pg sc d 4 [y_vr a, y_vi p] h = some (some (y_vi (y_bi (0 ≤ p ∧ p < g_wm (hv h)))), h) := by
  rcases d with _ | d
  · omega
  obtain ⟨ha, x0, x1, x2, x3, -⟩ := X
  rw [e4, b4_0]
  simp (disch := first | omega | assumption) only [yH0, x3]
  by_cases c1 : p < 0
  · rw [if_pos c1]; exact ab_f (by omega)
  · rw [if_neg c1]
    by_cases c2 : p < g_wm (hv h)
    · rw [if_pos c2]; exact ab_t (by omega)
    · rw [if_neg c2]; exact ab_f (by omega)
theorem s14 (d : Nat) (hd : 1 ≤ d) (X : xm h a) (hg : g_ok (hv h)) (w t : Int) (hw : 0 ≤ w ∧ w < g_wm (hv h)) (ht : 0 ≤ t ∧ t ≤ 1000) : y_se z_pg sc d 14 [y_vr a, y_vi w, y_vi t] h = some (some (y_vi (g_wa (hv h) w t)), h) := by
  rcases d with _ | d
  · omega
  obtain ⟨ha, x0, x1, x2, x3, x4, x5, x6, x7, x8, x9, x10, x11, x12, x13, x14, x15, x16, x17, x18⟩ := X
  obtain ⟨k1, k2, k3, k4, k5, k6, k7, k8, k9, k10, k11⟩ := g_ok_w hg hw
  have h0 : 0 ≤ Int.tdiv t 10 ∧ Int.tdiv t 10 ≤ 100 := by
    rw [Int.tdiv_eq_ediv_of_nonneg ht.1]
    omega
  have h1 : 0 ≤ g_sl (hv h) (g_pt (hv h) w) * Int.tdiv t 10 ∧ g_sl (hv h) (g_pt (hv h) w) * Int.tdiv t 10 ≤ 900 := by
    constructor
    · exact Int.mul_nonneg k10.1 h0.1
    · calc g_sl (hv h) (g_pt (hv h) w) * Int.tdiv t 10 ≤ 9 * Int.tdiv t 10 := Int.mul_le_mul_of_nonneg_right k10.2 h0.1
        _ ≤ 900 := by omega
  rw [e14, b14_0]
  simp (disch := first | omega | assumption) only [yH0, yH3, yH10, yH12, lH3, lH10, lH12, x6, x13, x15, yi_t, yr_t, yz_t]
  rfl
theorem s17 (d : Nat) (hd : 1 ≤ d) (X : xm h a) (hg : g_ok (hv h)) (w : Int) (hw : 0 ≤ w ∧ w < g_wm (hv h)) : y_se z_pg sc d 17 [y_vr a, y_vi w] h = some (some (y_vi (min (g_ti (hv h) (g_rd (hv h) w)) (g_la (hv h)) - g_mn (hv h) w)), h) := by
  rcases d with _ | d
  · omega
  obtain ⟨ha, x0, x1, x2, x3, x4, x5, x6, x7, x8, x9, x10, x11, x12, x13, x14, x15, x16, x17, x18⟩ := X
  obtain ⟨k1, k2, k3, k4, k5, k6, k7, k8, k9, k10, k11⟩ := g_ok_w hg hw
  have k12 := hg.2.2.2.2.2.1
  rw [e17, b17_0]
  simp (disch := first | omega | assumption) only [yH0, yH6, yH9, yH11, lH6, lH9, lH11, x0, x9, x12, x14, yi_t, yr_t, yz_t]
/-- the first minute under a cushion, from t on, of n -/
theorem l15 (d : Nat) (X : xm h a) (hg : g_ok (hv h)) (w t : Int) (hw : 0 ≤ w ∧ w < g_wm (hv h)) (ht : 0 ≤ t ∧ t + g_mn (hv h) w ≤ 100) : ∀ (n : Nat) (k : Int), t ≤ k → k + n = max k (min 61 (t + g_mn (hv h) w)) → y_ev z_pg sc d pgX0_coveredFrom 15 [some (y_vr a), some (y_vi w), some (y_vi t), some (y_vl (y_J h (a + 4) (Int.toNat (g_pt (hv h) w)))), none, some (y_vi k)] [] h = some (some (y_vi (u_find (fun m => g_cv (hv h) (g_pt (hv h) w) m) k n)), h)
  | 0, k, hk, hn => by
    obtain ⟨ha, x0, x1, x2, x3, x4, x5, x6, x7, x8, x9, x10, x11, x12, x13, x14, x15, x16, x17, x18⟩ := X
    obtain ⟨k1, k2, k3, k4, k5, k6, k7, k8, k9, k10, k11⟩ := g_ok_w hg hw
    rw [b15_15]
    simp (disch := first | omega | assumption) only [yH0, yH11, lH11, x14, yi_t, yr_t]
    by_cases c1 : k < t + g_mn (hv h) w
    · rw [if_pos c1, if_pos (by omega)]
      rfl
    · rw [if_neg c1]
      rfl
  | n + 1, k, hk, hn => by
    have ih := l15 d X hg w t hw ht n (k + 1) (by omega) (by omega)
    obtain ⟨ha, x0, x1, x2, x3, x4, x5, x6, x7, x8, x9, x10, x11, x12, x13, x14, x15, x16, x17, x18⟩ := X
    obtain ⟨k1, k2, k3, k4, k5, k6, k7, k8, k9, k10, k11⟩ := g_ok_w hg hw
    have hb := x7 (g_pt (hv h) w) k3.1 k3.2 k (by omega) (by omega)
    rw [b15_15]
    simp (disch := first | omega | assumption) only [yH0, yH11, lH11, x14, yi_t, yr_t]
    rw [if_pos (by omega), if_neg (by omega), ih]
    by_cases c1 : g_cv (hv h) (g_pt (hv h) w) k
    · have := hb.mpr c1
      unfold u_lb at this
      rw [if_neg this, u_find_t c1]
    · have : y_lcmp ((y_lshr (y_J h (a + 4) (Int.toNat (g_pt (hv h) w))) k) &&& (Int64.ofNat 1)) (Int64.ofNat 0) = 0 := Classical.byContradiction fun q => c1 (hb.mp q)
      rw [if_pos this, u_find_f c1]
/-- how many minutes are looked at -/
def g_cn (G : u_G) (w t : Int) : Nat := (max t (min 61 (t + g_mn G w)) - t).toNat
noncomputable def g_cf (G : u_G) (w t : Int) : Int := u_find (fun m => g_cv G (g_pt G w) m) t (g_cn G w t)
theorem s15 (d : Nat) (hd : 1 ≤ d) (X : xm h a) (hg : g_ok (hv h)) (w t : Int) (hw : 0 ≤ w ∧ w < g_wm (hv h)) (ht : 0 ≤ t ∧ t ≤ 80) : y_se z_pg sc d 15 [y_vr a, y_vi w, y_vi t] h = some (some (y_vi (g_cf (hv h) w t)), h) := by
  rcases d with _ | d
  · omega
  have XX := X
  obtain ⟨ha, x0, x1, x2, x3, x4, x5, x6, x7, x8, x9, x10, x11, x12, x13, x14, x15, x16, x17, x18⟩ := X
  obtain ⟨k1, k2, k3, k4, k5, k6, k7, k8, k9, k10, k11⟩ := g_ok_w hg hw
  rw [e15, b15_0]
  simp (disch := first | omega | assumption) only [yH0, yH4, yH10, lH4, lH10, x13, yi_t, yr_t]
  rw [l15 d XX hg w t hw (by omega) (g_cn (hv h) w t) t (Int.le_refl _) (by unfold g_cn; omega)]
  rfl
end XH
