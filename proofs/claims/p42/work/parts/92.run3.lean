/-! THE PAPER GOES ROUND BY A RULE: x's round -/
def y_rl (rl : Nat) : Prop := rl = 25 ∨ rl = 27 ∨ rl = 29 ∨ rl = 31 ∨ rl = 33 ∨ rl = 35 ∨ rl = 37
theorem yK0 {rl : Nat} {x : y_O} (h : y_rl rl) : y_kt rl 4 x = x := by rcases h with rfl | rfl | rfl | rfl | rfl | rfl | rfl <;> rfl
theorem yK1 {rl : Nat} {x : y_O} (h : y_rl rl) : y_kt (rl + 1) 10 x = x := by rcases h with rfl | rfl | rfl | rfl | rfl | rfl | rfl <;> rfl
theorem lK1 {rl : Nat} (h : y_rl rl) : (z_kd (rl + 1)).2 = 8 := by rcases h with rfl | rfl | rfl | rfl | rfl | rfl | rfl <;> rfl
def XR (h : y_Hp) (a rl bg : Nat) (kd : Int) (G : u_G) (P : u_P) (κ : Int → Int) (t : Int) : Prop :=
  (y_F h 39 0 = a ∧ y_F h 39 1 = rl ∧ y_F h 39 2 = bg) ∧ (hv h = G ∧ xm h a ∧ g_ok G) ∧ (y_I h rl 0 = kd ∧ p_eq G (pl h bg) P ∧ g_pi G P t) ∧ (y_inr (y_I h 39 3) ∧ ∀ w, 0 ≤ w → w < 32 → (u_bs (y_I h 39 3) w ↔ (w < g_wm G ∧ P w ≠ -9))) ∧ (∀ r, 0 ≤ r → r < g_rm G → y_I h 40 (Int.toNat r) = g_ws G P r) ∧ KC G P (if kd = 2 then 1 else 0) (fun c => y_I h 41 (Int.toNat c)) (fun c => y_I h 42 (Int.toNat c)) κ t
def x_fc (G : u_G) (A : Int → Int) (p t : Int) : Int := if A (2 * p) ≤ t then 2 * p else if g_cp G p = 2 ∧ A (2 * p + 1) ≤ t then 2 * p + 1 else -9
section XR
variable {sc : z_Sc} {h : y_Hp} {a rl bg : Nat} {kd t : Int} {G : u_G} {P : u_P} {κ : Int → Int}
theorem s53 (d : Nat) (hd : 1 ≤ d) (X : XR h a rl bg kd G P κ t) (r : Int) (hr : 0 ≤ r ∧ r < g_rm G) : y_se z_pg sc d 53 [y_vr 39, y_vi r] h = some (some (y_vi (y_bi (g_thr G P r))), h) := by
  rcases d with _ | d
  · omega
  obtain ⟨⟨f0, f1, f2⟩, ⟨rfl, X, hg⟩, -, ⟨b1, b2⟩, -, -⟩ := X
  obtain ⟨ha, x0, x1, x2, x3, x4, x5, x6, x7, x8, x9, x10, x11, x12, x13, x14, x15, x16, x17, x18⟩ := X
  have kr := hg.2.1
  have kw := hg.2.2.1
  obtain ⟨y1, y2⟩ := x10 r hr.1 hr.2
  have key : (y_and (y_I h (a + 7) (Int.toNat r)) (y_xor (y_I h 39 3) (-1)) = 0) ↔ g_thr (hv h) P r := by
    rw [ub_sub]
    constructor
    · intro q w h1 h2 h3
      exact ((b2 w h1 (by omega)).mp (q w h1 (by omega) ((y2 w h1 (by omega)).mpr ⟨h2, h3⟩))).2
    · intro q w h1 h2 h3
      have := (y2 w h1 h2).mp h3
      exact (b2 w h1 h2).mpr ⟨this.1, q w h1 this.1 this.2⟩
  rw [e53, b53_0, f0, yH0 ha, yH7 ha, lH7 ha, yi_t (by omega)]
  by_cases c : y_and (y_I h (a + 7) (Int.toNat r)) (y_xor (y_I h 39 3) (-1)) = 0
  · rw [if_pos c]; exact ab_t (key.mp c)
  · rw [if_neg c]; exact ab_f (fun q => c (key.mpr q))
theorem s54 (d : Nat) (hd : 1 ≤ d) (f0 : y_F h 39 0 = a) (X : xm h a) (hg : g_ok (hv h)) (p t : Int) (hp : 0 ≤ p ∧ p < g_pm (hv h)) : y_se z_pg sc d 54 [y_vr 39, y_vi p, y_vi t] h = some (some (y_vi (x_fc (hv h) (fun c => y_I h 41 (Int.toNat c)) p t)), h) := by
  rcases d with _ | d
  · omega
  obtain ⟨ha, x0, x1, x2, x3, x4, -⟩ := X
  have kp := hg.1
  have cpp := (hg.2.2.2.2.2.2.1 p hp.1 hp.2).1
  have e4 := x4 p hp.1 hp.2
  unfold x_fc
  show _ = some (some (y_vi (if y_I h 41 (Int.toNat (2 * p)) ≤ t then 2 * p else if g_cp (hv h) p = 2 ∧ y_I h 41 (Int.toNat (2 * p + 1)) ≤ t then 2 * p + 1 else -9)), h)
  rw [e54, b54_0, yr_t (by omega), Int.mul_comm p 2, b54_4, Int.mul_comm p 2, yr_t (by omega), f0, yH0 ha, yH1 ha, lH1 ha, yi_t (by omega), e4, yr_t (by omega), if_pos (by omega), yi_t (by omega)]
  by_cases c1 : y_I h 41 (Int.toNat (2 * p)) ≤ t
  · rw [if_neg (by omega), if_pos c1]
  · rw [if_pos (by omega), if_neg c1, yr_t (by omega), b54_4, Int.mul_comm p 2, yr_t (by omega), f0, yH0 ha, yH1 ha, lH1 ha, yi_t (by omega), e4, yr_t (by omega)]
    by_cases c2 : g_cp (hv h) p = 2
    · rw [if_pos (by omega), yi_t (by omega)]
      by_cases c3 : y_I h 41 (Int.toNat (2 * p + 1)) ≤ t
      · rw [if_neg (by omega), if_pos ⟨c2, c3⟩]
      · rw [if_pos (by omega), if_neg (fun q => c3 q.2), yr_t (by omega), b54_4, Int.mul_comm p 2, yr_t (by omega), f0, yH0 ha, yH1 ha, lH1 ha, yi_t (by omega), e4, yr_t (by omega), if_neg (by omega)]
    · rw [if_neg (by omega), if_neg (fun q => c2 q.1)]
theorem XR_fc (X : XR h a rl bg kd G P κ t) (ht : 0 ≤ t) {p : Int} (hp : 0 ≤ p ∧ p < g_pm G) : x_fc G (fun c => y_I h 41 (Int.toNat c)) p t = -9 ↔ ¬ g_tk G P (if kd = 2 then 1 else 0) p t < g_cp G p := by
  obtain ⟨-, ⟨-, -, hg⟩, ⟨-, -, hpi⟩, -, -, C⟩ := X
  rw [KC_tk C hg hpi (by by_cases c : kd = 2; rw [if_pos c]; omega; rw [if_neg c]; omega) ht hp]
  unfold x_fc
  by_cases c1 : y_I h 41 (Int.toNat (2 * p)) ≤ t
  · rw [if_pos c1]
    exact ⟨fun q => by omega, fun q => absurd (Or.inl c1) q⟩
  · rw [if_neg c1]
    by_cases c2 : g_cp G p = 2 ∧ y_I h 41 (Int.toNat (2 * p + 1)) ≤ t
    · rw [if_pos c2]
      exact ⟨fun q => by omega, fun q => absurd (Or.inr c2) q⟩
    · rw [if_neg c2]
      exact ⟨fun _ q => q.elim c1 c2, fun _ => rfl⟩
theorem s52 (d : Nat) (hd : 2 ≤ d) (X : XR h a rl bg kd G P κ t) (hbg : bg = 21 ∨ bg = 23) (ht : 0 ≤ t ∧ t ≤ 60) (w : Int) (hw : 0 ≤ w ∧ w < g_wm G) : y_se z_pg sc d 52 [y_vr 39, y_vi w, y_vi t] h = some (some (y_vi (y_bi (g_may G P (if kd = 2 then 1 else 0) w t))), h) := by
  rcases d with _ | d
  · omega
  have fc := XR_fc (p := g_pt G w) X ht.1 (X.2.1.2.2.2.2.2.2.2.2.2.2.1 w hw.1 hw.2).2.1
  obtain ⟨⟨f0, f1, f2⟩, ⟨rfl, X, hg⟩, ⟨k1, k2, hpi⟩, ⟨b1, b2⟩, w40, C⟩ := X
  have XX := X
  obtain ⟨ha, x0, x1, x2, x3, x4, x5, x6, x7, x8, x9, x10, x11, x12, x13, x14, x15, x16, x17, x18⟩ := X
  have kp := hg.1
  have kr := hg.2.1
  have kw := hg.2.2.1
  obtain ⟨kr1, kp1, km1, -⟩ := hg.2.2.2.2.2.2.2.2.1 w hw.1 hw.2
  have wf := ws_free (G := hv h) (P := P) (r := g_rd (hv h) w) kw.1 hpi
  have hla := hg.2.2.2.2.2.1
  generalize eK : (if kd = 2 then (1 : Int) else 0) = K at *
  rw [e52, b52_0, f0, yH0 ha, yH10 ha, lH10 ha, yi_t (by omega), ub_has (by omega)]
  by_cases c1 : P w = -9
  · rw [if_pos (bi_f (fun q => ((b2 w hw.1 (by omega)).mp q).2 c1)), yH0 ha, yH9 ha, lH9 ha, yi_t (by omega), x12 w hw.1 hw.2, yi_t (by omega), w40 _ kr1.1 kr1.2]
    by_cases c2 : t < g_ws (hv h) P (g_rd (hv h) w)
    · rw [if_pos c2]
      exact ab_f (q := g_may (hv h) P K w t) (fun q => by
        have := wf.mpr ⟨q.1.1, q.2.2.1⟩
        omega)
    · obtain ⟨fr, nd⟩ := wf.mp (by omega)
      rw [if_neg c2, yH0 ha, s17 d (by omega) XX hg w hw, yci_s]
      by_cases c3 : min (g_ti (hv h) (g_rd (hv h) w)) (g_la (hv h)) - g_mn (hv h) w < t
      · rw [if_pos c3]
        exact ab_f (q := g_may (hv h) P K w t) (fun q => by have := q.1; omega)
      · rw [if_neg c3, f0, yH0 ha, yH2 ha, x13 w hw.1 hw.2, lH2 ha, yi_t (by omega), x5 _ kp1.1 kp1.2]
        by_cases c4 : t < g_cm (hv h) (g_pt (hv h) w)
        · rw [if_pos c4]
          exact ab_f (q := g_may (hv h) P K w t) (fun q => by have := q.1; omega)
        · rw [if_neg c4, yH0 ha, yH15 ha, lH15 ha, yi_t (by omega)]
          obtain ⟨y1, y2⟩ := x18 w hw.1 hw.2
          have due : (y_and (y_I h (a + 15) (Int.toNat w)) (y_xor (y_I h 39 3) (-1)) = 0) ↔ g_due (hv h) P w t := by
            rw [ub_sub]
            unfold g_due
            rw [u_all_iff]
            have wl := (ws_le (G := hv h) (P := P) (r := g_rd (hv h) w) (T := t) kw.1).mp (by omega)
            constructor
            · intro q o v h1 h2 h3
              have pv := ((b2 v h1 (by omega)).mp (q v h1 (by omega) ((y2 v h1 (by omega)).mpr ⟨by omega, o, h3⟩))).2
              exact ⟨pv, wl.2 v h1 (by omega) h3 pv⟩
            · intro q v h1 h2 h3
              obtain ⟨z1, z2, z3⟩ := (y2 v h1 h2).mp h3
              exact (b2 v h1 h2).mpr ⟨by omega, (q z2 v h1 (by omega) z3).1⟩
          by_cases c5 : y_and (y_I h (a + 15) (Int.toNat w)) (y_xor (y_I h 39 3) (-1)) = 0
          · rw [if_pos c5, s54 d (by omega) f0 XX hg _ t kp1, yci_s]
            by_cases c6 : x_fc (hv h) (fun c => y_I h 41 (Int.toNat c)) (g_pt (hv h) w) t = -9
            · rw [if_pos c6]
              exact ab_f (q := g_may (hv h) P K w t) (fun q => fc.mp c6 q.2.2.2.1)
            · have c6' : g_tk (hv h) P K (g_pt (hv h) w) t < g_cp (hv h) (g_pt (hv h) w) := Classical.byContradiction fun z => c6 (fc.mpr z)
              have cu := g_cf_un (G := hv h) (w := w) ht.1 (by omega) hg (by omega)
              rw [if_neg c6, f0, yH0 ha, s15 d (by omega) XX hg w t hw (by omega), yci_s]
              by_cases c7 : g_cf (hv h) w t = -9
              · rw [if_pos c7, f0, yH0 ha, f2, s16 d (by omega) XX hg (c := bg) (by rcases hbg with rfl | rfl; exact Or.inl rfl; exact Or.inr (Or.inl rfl)) w t hw, yci_s]
                have sp := g_spo_cg (G := hv h) (w := w) (t := t) k2
                by_cases c8 : g_spo (hv h) (pl h bg) w t
                · rw [if_neg (by rw [bi_t c8]; omega)]
                  exact ab_f (q := g_may (hv h) P K w t) (fun q => q.2.2.2.2.2 (sp.mp c8))
                · rw [if_pos (bi_f c8)]
                  exact ab_t ⟨⟨fr, by omega, by omega, by omega, cu.mp c7⟩, c1, nd, c6', due.mp c5, fun q => c8 (sp.mpr q)⟩
              · rw [if_neg c7]
                exact ab_f (q := g_may (hv h) P K w t) (fun q => c7 (cu.mpr q.1.2.2.2.2))
          · rw [if_neg c5]
            exact ab_f (q := g_may (hv h) P K w t) (fun q => c5 (due.mpr q.2.2.2.2.1))
  · rw [if_neg (by rw [bi_t ((b2 w hw.1 (by omega)).mpr ⟨hw.2, c1⟩)]; omega)]
    exact ab_f (q := g_may (hv h) P K w t) (fun q => c1 q.2.1)
end XR
