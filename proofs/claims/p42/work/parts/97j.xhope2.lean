/-! THE BEST OF ALL, x's: what can be hoped -/
section XS
variable {sc : z_Sc} {h : y_Hp} {a : Nat} {G : u_G} {L TD : Int → Prop} {b0 oc wt : Int} {P : u_P} {E : Int → Int} {A : q_A}
theorem l70z (hwt : 0 ≤ wt ∧ wt ≤ 3) (len w v2 v3 v4 : Int) (hw : 0 ≤ w) (hn : w + ((0 : Nat) : Int) = g_wm G) (T : XT h G TD) (eg : y_I h 43 3 = q_gl wt) (b4 : v4 = 0 ∨ v4 = 1) : ∃ (h' : y_Hp) (u : Int), (∀ d o6 o7 o8, 3 ≤ d → y_ev z_pg sc d pgX5_hope 49 [some (y_vr 43), some (y_vi len), some (y_vi v2), some (y_vi v3), some (y_vi v4), some (y_vi (q_ct TD w)), o6, o7, o8] [] h = some (some (y_vi u), h')) ∧ ((wt = 0 → u = v2 - u_sum (q_f1 G TD b0 P E) w 0) ∧ (wt = 2 → u = q_mx (fun r => y_I h 57 (Int.toNat r) - u_sum (q_f2 G TD b0 P E r) w 0) 8) ∧ (wt = 1 → u = @ite _ (v4 = 1 ∧ ∀ j, w ≤ j → j < w + ((0 : Nat) : Int) → TD j → P j = -9 → q_t G b0 P E j ≠ -9) (Classical.propDecidable _) (u_fold (q_f3 G TD b0 P E) v3 w 0) 1000000) ∧ (wt = 3 → u = @ite _ (v4 = 1 ∧ ∀ j, w ≤ j → j < w + ((0 : Nat) : Int) → TD j → P j = -9 → q_t G b0 P E j ≠ -9) (Classical.propDecidable _) 0 1000000)) ∧ (∀ j, w ≤ j → j < g_wm G → TD j → P j = -9 → y_I h' (47 + Int.toNat len) (Int.toNat (q_ct TD j)) = q_t G b0 P E j) ∧ (∀ b k, b ≠ 57 → ¬ (b = 47 + Int.toNat len ∧ Int.toNat (q_ct TD w) ≤ k) → y_I h' b k = y_I h b k) ∧ h'.2 = h.2 := by
  have ew : w = g_wm G := by omega
  have c0 := q_ct_bd (TD := TD) (w := w)
  have e9 : ∀ d o6 o7 o8, y_ev z_pg sc d pgX5_hope 49 [some (y_vr 43), some (y_vi len), some (y_vi v2), some (y_vi v3), some (y_vi v4), some (y_vi (q_ct TD w)), o6, o7, o8] [] h = (if (y_I h 43 3) = 0 then some (some (y_vi v2), h) else (if (y_I h 43 3) = 1 then y_ci (y_se z_pg sc d 71 [y_vr 57] h) (fun u2 g1 => some (some (y_vi u2), g1)) else (if (y_I h 43 3) = 2 then (if v4 = 0 then some (some (y_vi 1000000), h) else some (some (y_vi v3), h)) else (if v4 = 0 then some (some (y_vi 1000000), h) else some (some (y_vi 0), h))))) := fun d o6 o7 o8 => by
    rw [b70_49, T.1, ew, if_neg (by omega), b70_241, b70_241, b70_253, b70_253]
  rcases (show wt = 0 ∨ wt = 1 ∨ wt = 2 ∨ wt = 3 by omega) with rfl | rfl | rfl | rfl
  · have g3 : y_I h 43 3 = 0 := eg
    refine ⟨h, v2, fun d o6 o7 o8 hd => ?_, ⟨fun _ => by rw [u_sum_0]; omega, fun q => by omega, fun q => by omega, fun q => by omega⟩, fun j j1 j2 => by omega, fun _ _ _ _ => rfl, rfl⟩
    rw [e9, if_pos g3]
  · have g3 : y_I h 43 3 = 2 := eg
    refine ⟨h, if v4 = 0 then 1000000 else v3, fun d o6 o7 o8 hd => ?_, ⟨fun q => by omega, fun q => by omega, fun _ => ?_, fun q => by omega⟩, fun j j1 j2 => by omega, fun _ _ _ _ => rfl, rfl⟩
    · rw [e9, if_neg (by omega), if_neg (by omega), if_pos g3]
      by_cases z : v4 = 0
      · rw [if_pos z, if_pos z]
      · rw [if_neg z, if_neg z]
    · by_cases z : v4 = 0
      · rw [if_pos z, if_neg (fun q => by omega)]
      · rw [if_neg z, if_pos ⟨by omega, fun j j1 j2 => by omega⟩]
        rfl
  · have g3 : y_I h 43 3 = 1 := eg
    refine ⟨h, q_mx (fun r => y_I h 57 (Int.toNat r)) 8, fun d o6 o7 o8 hd => ?_, ⟨fun q => by omega, fun _ => ?_, fun q => by omega, fun q => by omega⟩, fun j j1 j2 => by omega, fun _ _ _ _ => rfl, rfl⟩
    · rw [e9, if_neg (by omega), if_pos g3, s71 d (by omega) (Or.inr (Or.inl rfl)), yci_s]
    · refine q_mx_cg fun r _ _ => ?_
      rw [u_sum_0]; omega
  · have g3 : y_I h 43 3 = 3 := eg
    refine ⟨h, if v4 = 0 then 1000000 else 0, fun d o6 o7 o8 hd => ?_, ⟨fun q => by omega, fun q => by omega, fun q => by omega, fun _ => ?_⟩, fun j j1 j2 => by omega, fun _ _ _ _ => rfl, rfl⟩
    · rw [e9, if_neg (by omega), if_neg (by omega), if_neg (by omega)]
      by_cases z : v4 = 0
      · rw [if_pos z, if_pos z]
      · rw [if_neg z, if_neg z]
    · by_cases z : v4 = 0
      · rw [if_pos z, if_neg (fun q => by omega)]
      · rw [if_neg z, if_pos ⟨by omega, fun j j1 j2 => by omega⟩]
theorem l70t (hg : g_ok G) (I : q_in G P E) (hb : 0 ≤ b0 ∧ b0 ≤ 60) (len : Int) (hl : 0 ≤ len ∧ len < 9) (hct : q_ct TD (g_wm G) ≤ 8) (w v2 v3 v4 : Int) (hw : 0 ≤ w) (hn : w < g_wm G) (Q : XQ h a G L b0 oc P E) (T : XT h G TD) (b2 : -9 * w ≤ v2 ∧ v2 ≤ 300) (b57 : ∀ r, 0 ≤ r → r < 8 → -9 * w ≤ y_I h 57 (Int.toNat r) ∧ y_I h 57 (Int.toNat r) ≤ 300) (b3 : 0 ≤ v3 ∧ v3 ≤ 100) (td : TD w) (pw : P w = -9) : (0 ≤ q_wq G b0 P E w ∧ q_wq G b0 P E w ≤ 9) ∧ q_t G b0 P E w + g_mn G w ≤ 60 ∧ ∃ g2, (∀ d o6 o7 o8, 3 ≤ d → ∃ o6' o7' o8', y_ev z_pg sc d pgX5_hope 49 [some (y_vr 43), some (y_vi len), some (y_vi v2), some (y_vi v3), some (y_vi v4), some (y_vi (q_ct TD w)), o6, o7, o8] [] h = y_ev z_pg sc d pgX5_hope 49 [some (y_vr 43), some (y_vi len), some (y_vi (v2 - q_wq G b0 P E w)), some (y_vi (max v3 (q_t G b0 P E w + g_mn G w))), some (y_vi (if v4 = 0 ∨ q_t G b0 P E w = -9 then 0 else 1)), some (y_vi (q_ct TD (w + 1))), o6', o7', o8'] [] g2) ∧ (∀ r, 0 ≤ r → y_I g2 57 (Int.toNat r) = y_I h 57 (Int.toNat r) - (if r = g_rd G w then q_wq G b0 P E w else 0)) ∧ XQ g2 a G L b0 oc P E ∧ XT g2 G TD ∧ y_I g2 (47 + Int.toNat len) (Int.toNat (q_ct TD w)) = q_t G b0 P E w ∧ (∀ b k, b ≠ 57 → ¬ (b = 47 + Int.toNat len ∧ k = Int.toNat (q_ct TD w)) → y_I g2 b k = y_I h b k) ∧ g2.2 = h.2 := by
  have kw := hg.2.2.1
  have cb := q_ct_bd (TD := TD) (w := w)
  have cs := q_ct_s (TD := TD) hw
  have cl := q_ct_lt (TD := TD) (w := w) (v := g_wm G) hw (by omega) td
  rw [bi_t td] at cs
  have t45 := T.2 w hw (by omega) td
  have T2' := T
  have QQ := Q
  obtain ⟨⟨f2, X⟩, ⟨e4, e5⟩, e7, ⟨p1, p2⟩, e56, e58, e59, e60⟩ := Q
  have XX := X
  obtain ⟨ha, x0, x1, x2, x3, x4, x5, x6, x7, x8, x9, x10, x11, x12, x13, x14, x15, x16, x17, x18⟩ := X
  obtain ⟨k1, k2, k3, k4⟩ := hg.2.2.2.2.2.2.2.2.1 w hw (by omega)
  have kr := hg.2.1
  have kl := hg.2.2.2.2.2.1
  have qb : q_t G b0 P E w = -9 ∨ (0 ≤ q_t G b0 P E w ∧ q_t G b0 P E w + g_mn G w ≤ 60) := by
    by_cases z : q_t G b0 P E w = -9
    · exact Or.inl z
    · have i := (q_t_in hg ⟨hw, by omega⟩ z hb.1).1
      have lb : 0 ≤ q_lo G b0 P E w := by unfold q_lo; omega
      unfold q_hi at i
      exact Or.inr (by omega)
  have wqb : 0 ≤ q_wq G b0 P E w ∧ q_wq G b0 P E w ≤ 9 := by
    unfold q_wq
    by_cases z : q_t G b0 P E w = -9
    · rw [if_pos z]; omega
    · rw [if_neg z]
      have := g_wa_bd hg (w := w) (t := q_t G b0 P E w) ⟨hw, by omega⟩ (by omega)
      omega
  generalize eg1 : y_sI h (47 + Int.toNat len) (Int.toNat (q_ct TD w)) (q_t G b0 P E w) = g1
  have I1 : ∀ b k, ¬ (b = 47 + Int.toNat len ∧ k = Int.toNat (q_ct TD w)) → y_I g1 b k = y_I h b k := fun b k q => by rw [← eg1, yI_sI_o q]
  have S1 : g1.2 = h.2 := by rw [← eg1]; rfl
  have r57 := b57 (g_rd G w) k1.1 (by omega)
  generalize eg2 : y_sI g1 57 (Int.toNat (g_rd G w)) (y_I h 57 (Int.toNat (g_rd G w)) - q_wq G b0 P E w) = g2
  have I2 : ∀ b k, b ≠ 57 → y_I g2 b k = y_I g1 b k := fun b k q => by rw [← eg2, yI_sI_o (by omega)]
  have S2 : g2.2 = h.2 := by rw [← eg2]; exact S1
  have Fh : ∀ {g : y_Hp}, g.2 = h.2 → ∀ b k, y_F g b k = y_F h b k := fun q b k => by unfold y_F; rw [q]
  have ht57 : ∀ r, 0 ≤ r → y_I g2 57 (Int.toNat r) = y_I h 57 (Int.toNat r) - (if r = g_rd G w then q_wq G b0 P E w else 0) := fun r r1 => by
    rw [← eg2, yI_sI]
    by_cases c : r = g_rd G w
    · rw [if_pos ⟨rfl, by omega⟩, if_pos c, c]
    · rw [if_neg (fun q => by omega), if_neg c, I1 _ _ (by omega)]; omega
  have Q1 : XQ g1 a G L b0 oc P E := XQ_cg QQ (fun b k q => I1 b k (by omega)) S1
  have Q2 : XQ g2 a G L b0 oc P E := XQ_cg Q1 (fun b k q => I2 b k (by omega)) (S2.trans S1.symm)
  have T2 : XT g2 G TD := ⟨by rw [I2 _ _ (by omega), I1 _ _ (by omega)]; exact T.1, fun j j1 j2 j3 => by rw [I2 _ _ (by omega), I1 _ _ (by omega)]; exact T.2 j j1 j2 j3⟩

  have v57 : y_I g1 57 (Int.toNat (g_rd G w)) = y_I h 57 (Int.toNat (g_rd G w)) := I1 _ _ (by omega)
  have v9 : y_I g1 (a + 9) (Int.toNat w) = g_rd G w := by rw [I1 _ _ (by omega)]; exact x12 w hw (by omega)
  have v11 : y_I g2 (a + 11) (Int.toNat w) = g_mn G w := by rw [I2 _ _ (by omega), I1 _ _ (by omega)]; exact x14 w hw (by omega)
  have np : ¬ u_bs (y_I h 43 8) w := fun q => ((p2 w hw (by omega)).mp q).2 pw
  clear p2 x0 x1 x2 x3 x4 x5 x6 x7 x8 x9 x10 x11 x12 x13 x14 x15 x16 x17 x18 e7 e56 e58 e59 e60 p1 e4 e5 b57 T
  refine ⟨wqb, by omega, g2, fun d o6 o7 o8 hd => ⟨some (y_vi w), some (y_vi (q_t G b0 P E w)), some (y_vi (q_wq G b0 P E w)), ?_⟩, ht57, Q2, T2, by rw [I2 _ _ (by omega), ← eg1, yI_sI_e ⟨rfl, rfl⟩], fun b k q1 q2 => by rw [I2 b k q1, I1 b k q2], S2⟩
  have s73' := s73 (sc := sc) d (by omega) QQ hg I hb w ⟨hw, by omega⟩
  have s139 : ∀ o8 w4, y_ev z_pg sc d pgX5_hope 139 [some (y_vr 43), some (y_vi len), some (y_vi v2), some (y_vi v3), some (y_vi w4), some (y_vi (q_ct TD w)), some (y_vi w), some (y_vi (q_t G b0 P E w)), o8] [y_vi (q_wq G b0 P E w)] g1 = y_ev z_pg sc d pgX5_hope 49 [some (y_vr 43), some (y_vi len), some (y_vi (v2 - q_wq G b0 P E w)), some (y_vi (max v3 (q_t G b0 P E w + g_mn G w))), some (y_vi w4), some (y_vi (q_ct TD (w + 1))), some (y_vi w), some (y_vi (q_t G b0 P E w)), some (y_vi (q_wq G b0 P E w))] [] g2 := fun o8 w4 => by
    rw [b70_139, yr_t (by omega), Fh S1, f2, yH0 ha, yH9 ha, lH9 ha, yi_t (by omega), v9, yi_t (by omega), v57, yr_t (by omega), yi_t (by omega), eg2, yhb_s, Fh S2, f2, yH0 ha, yH11 ha, lH11 ha, yi_t (by omega), v11, yr_t (by omega), b70_184, yr_t (by omega), ← cs]
  have s115 : ∀ o8 w4, y_ev z_pg sc d pgX5_hope 115 [some (y_vr 43), some (y_vi len), some (y_vi v2), some (y_vi v3), some (y_vi v4), some (y_vi (q_ct TD w)), some (y_vi w), some (y_vi (q_t G b0 P E w)), o8] [y_vi w4] g1 = y_ev z_pg sc d pgX5_hope 49 [some (y_vr 43), some (y_vi len), some (y_vi (v2 - q_wq G b0 P E w)), some (y_vi (max v3 (q_t G b0 P E w + g_mn G w))), some (y_vi w4), some (y_vi (q_ct TD (w + 1))), some (y_vi w), some (y_vi (q_t G b0 P E w)), some (y_vi (q_wq G b0 P E w))] [] g2 := fun o8 w4 => by
    have s := s139 o8 w4
    rw [b70_115]
    by_cases z : q_t G b0 P E w = -9
    · have ez : q_wq G b0 P E w = 0 := if_pos z
      rw [if_pos z, ← s, ez]
    · have ez : q_wq G b0 P E w = g_wa G w (q_t G b0 P E w) := if_neg z
      rw [if_neg z, Fh S1, f2, yH0 ha, s14g d (by omega) Q1.1.2 hg w _ ⟨hw, by omega⟩ (by omega), yci_s, ← s, ez]
  rw [b70_49, T2'.1, if_pos (by omega), yi_t (by omega), t45, ub_has (by omega), if_pos (bi_f np), s73', yci_s, yi_t (by omega), yNx hl, lNx hl, yi_t (by omega), eg1]
  by_cases z4 : v4 = 0
  · rw [if_pos z4, b70_114, if_pos (Or.inl z4)]
    exact s115 o8 0
  · rw [if_neg z4]
    by_cases z5 : q_t G b0 P E w = -9
    · rw [if_pos z5, b70_114, if_pos (Or.inr z5)]
      exact s115 o8 0
    · rw [if_neg z5, if_neg (show ¬ (v4 = 0 ∨ q_t G b0 P E w = -9) from fun q => q.elim z4 z5)]
      exact s115 o8 1
theorem l70 (hg : g_ok G) (I : q_in G P E) (hb : 0 ≤ b0 ∧ b0 ≤ 60) (hwt : 0 ≤ wt ∧ wt ≤ 3) (len : Int) (hl : 0 ≤ len ∧ len < 9) (hct : q_ct TD (g_wm G) ≤ 8) : ∀ (n : Nat) (w : Int) (h : y_Hp) (v2 v3 v4 : Int), 0 ≤ w → w + n = g_wm G → XQ h a G L b0 oc P E → XT h G TD → y_I h 43 3 = q_gl wt → (-9 * w ≤ v2 ∧ v2 ≤ 300) → (∀ r, 0 ≤ r → r < 8 → -9 * w ≤ y_I h 57 (Int.toNat r) ∧ y_I h 57 (Int.toNat r) ≤ 300) → (0 ≤ v3 ∧ v3 ≤ 100) → (v4 = 0 ∨ v4 = 1) → ∃ (h' : y_Hp) (u : Int), (∀ d o6 o7 o8, 3 ≤ d → y_ev z_pg sc d pgX5_hope 49 [some (y_vr 43), some (y_vi len), some (y_vi v2), some (y_vi v3), some (y_vi v4), some (y_vi (q_ct TD w)), o6, o7, o8] [] h = some (some (y_vi u), h')) ∧ ((wt = 0 → u = v2 - u_sum (q_f1 G TD b0 P E) w n) ∧ (wt = 2 → u = q_mx (fun r => y_I h 57 (Int.toNat r) - u_sum (q_f2 G TD b0 P E r) w n) 8) ∧ (wt = 1 → u = @ite _ (v4 = 1 ∧ ∀ j, w ≤ j → j < w + n → TD j → P j = -9 → q_t G b0 P E j ≠ -9) (Classical.propDecidable _) (u_fold (q_f3 G TD b0 P E) v3 w n) 1000000) ∧ (wt = 3 → u = @ite _ (v4 = 1 ∧ ∀ j, w ≤ j → j < w + n → TD j → P j = -9 → q_t G b0 P E j ≠ -9) (Classical.propDecidable _) 0 1000000)) ∧ (∀ j, w ≤ j → j < g_wm G → TD j → P j = -9 → y_I h' (47 + Int.toNat len) (Int.toNat (q_ct TD j)) = q_t G b0 P E j) ∧ (∀ b k, b ≠ 57 → ¬ (b = 47 + Int.toNat len ∧ Int.toNat (q_ct TD w) ≤ k) → y_I h' b k = y_I h b k) ∧ h'.2 = h.2 := by
  intro n
  induction n with
  | zero =>
    intro w h v2 v3 v4 hw hn Q T eg b2 b57 b3 b4
    exact l70z hwt len w v2 v3 v4 hw hn T eg b4
  | succ n ih =>
    intro w h v2 v3 v4 hw hn Q T eg b2 b57 b3 b4
    have kw := hg.2.2.1
    have cb := q_ct_bd (TD := TD) (w := w)
    have cs := q_ct_s (TD := TD) hw
    by_cases td : TD w
    · have cl := q_ct_lt (TD := TD) (w := w) (v := g_wm G) hw (by omega) td
      rw [bi_t td] at cs
      have t45 := T.2 w hw (by omega) td
      by_cases pw : P w = -9
      · -- to be placed yet
        obtain ⟨wqb, tmb, g2, i1, ht57, Q2, T2, i5, i6, S2⟩ := l70t (sc := sc) hg I hb len hl hct w v2 v3 v4 hw (by omega) Q T b2 b57 b3 td pw
        obtain ⟨h', u, c1, ⟨d0, d2, d1, d3⟩, c3, c4, c5⟩ := ih (w + 1) g2 (v2 - q_wq G b0 P E w) (max v3 (q_t G b0 P E w + g_mn G w)) (if v4 = 0 ∨ q_t G b0 P E w = -9 then 0 else 1) (by omega) (by omega) Q2 T2 (by rw [i6 _ _ (by omega) (by omega)]; exact eg) (by omega) (fun r r1 r2 => by
          have := b57 r r1 r2
          rw [ht57 r r1]
          by_cases c : r = g_rd G w
          · rw [if_pos c]; omega
          · rw [if_neg c]; omega) (by omega) (by
          by_cases c : v4 = 0 ∨ q_t G b0 P E w = -9
          · rw [if_pos c]; omega
          · rw [if_neg c]; omega)
        have f1 : q_f1 G TD b0 P E w = q_wq G b0 P E w := if_pos ⟨td, pw⟩
        have f3 : q_f3 G TD b0 P E v3 w = max v3 (q_t G b0 P E w + g_mn G w) := if_pos ⟨td, pw⟩
        have cond : ((if v4 = 0 ∨ q_t G b0 P E w = -9 then (0 : Int) else 1) = 1 ∧ ∀ j, w + 1 ≤ j → j < w + 1 + (n : Int) → TD j → P j = -9 → q_t G b0 P E j ≠ -9) ↔ (v4 = 1 ∧ ∀ j, w ≤ j → j < w + ((n + 1 : Nat) : Int) → TD j → P j = -9 → q_t G b0 P E j ≠ -9) := by
          by_cases c : v4 = 0 ∨ q_t G b0 P E w = -9
          · rw [if_pos c]
            refine ⟨fun q => by omega, fun q => ?_⟩
            rcases c with c | c
            · omega
            · exact absurd c (q.2 w (by omega) (by omega) td pw)
          · rw [if_neg c]
            refine ⟨fun q => ⟨by omega, fun j j1 j2 => ?_⟩, fun q => ⟨rfl, fun j j1 j2 => q.2 j (by omega) (by omega)⟩⟩
            by_cases z : j = w
            · subst z
              exact fun _ _ z => c (Or.inr z)
            · exact q.2 j (by omega) (by omega)
        refine ⟨h', u, fun d o6 o7 o8 hd => ?_, ⟨fun q => ?_, fun q => ?_, fun q => ?_, fun q => ?_⟩, fun j j1 j2 j3 j4 => ?_, fun b k q1 q2 => ?_, c5.trans S2⟩
        · obtain ⟨o6', o7', o8', st⟩ := i1 d o6 o7 o8 hd
          rw [st]
          exact c1 d _ _ _ hd
        · rw [d0 q, u_sum_s, f1]; omega
        · rw [d2 q]
          refine q_mx_cg fun r r1 r2 => ?_
          have f2' : q_f2 G TD b0 P E r w = if r = g_rd G w then q_wq G b0 P E w else 0 := by
            unfold q_f2
            by_cases c : r = g_rd G w
            · rw [if_pos c, if_pos ⟨⟨td, pw⟩, c.symm⟩]
            · rw [if_neg c, if_neg (fun q => c q.2.symm)]
          rw [ht57 r r1, u_sum_s, f2']; omega
        · rw [d1 q, u_fold_s, f3, propext cond]
        · rw [d3 q, propext cond]
        · by_cases z : j = w
          · subst z
            rw [c4 _ _ (by omega) (by omega), i5]
          · exact c3 j (by omega) j2 j3 j4
        · rw [c4 b k q1 (by omega), i6 b k q1 (by omega)]
      · -- placed
        obtain ⟨h', u, c1, ⟨d0, d2, d1, d3⟩, c3, c4, c5⟩ := ih (w + 1) h v2 v3 v4 (by omega) (by omega) Q T eg (by omega) (fun r r1 r2 => by have := b57 r r1 r2; omega) b3 b4
        have f1 : q_f1 G TD b0 P E w = 0 := if_neg (fun q => pw q.2)
        have f3 : q_f3 G TD b0 P E v3 w = v3 := if_neg (fun q => pw q.2)
        have cond : (v4 = 1 ∧ ∀ j, w + 1 ≤ j → j < w + 1 + (n : Int) → TD j → P j = -9 → q_t G b0 P E j ≠ -9) ↔ (v4 = 1 ∧ ∀ j, w ≤ j → j < w + ((n + 1 : Nat) : Int) → TD j → P j = -9 → q_t G b0 P E j ≠ -9) := by
          refine and_congr Iff.rfl ⟨fun q j j1 j2 => ?_, fun q j j1 j2 => q j (by omega) (by omega)⟩
          by_cases z : j = w
          · subst z
            exact fun _ z => absurd z pw
          · exact q j (by omega) (by omega)
        refine ⟨h', u, fun d o6 o7 o8 hd => ?_, ⟨fun q => ?_, fun q => ?_, fun q => ?_, fun q => ?_⟩, fun j j1 j2 j3 j4 => ?_, fun b k q1 q2 => c4 b k q1 (by omega), c5⟩
        · have p2 := (Q.2.2.2.1.2 w hw (by omega)).mpr ⟨by omega, pw⟩
          rw [b70_49, T.1, if_pos (by omega), yi_t (by omega), t45, ub_has (by omega), if_neg (by rw [bi_t p2]; omega), b70_184, yr_t (by omega), ← cs]
          exact c1 d _ _ _ hd
        · rw [d0 q, u_sum_s, f1]; omega
        · rw [d2 q]
          refine q_mx_cg fun r r1 r2 => ?_
          have f2' : q_f2 G TD b0 P E r w = 0 := if_neg (fun q => pw q.1.2)
          rw [u_sum_s, f2']; omega
        · rw [d1 q, u_fold_s, f3, propext cond]
        · rw [d3 q, propext cond]
        · by_cases z : j = w
          · subst z; exact absurd j4 pw
          · exact c3 j (by omega) j2 j3 j4
    · rw [bi_f td, Int.add_zero] at cs
      obtain ⟨h', u, c1, ⟨d0, d2, d1, d3⟩, c3, c4, c5⟩ := ih (w + 1) h v2 v3 v4 (by omega) (by omega) Q T eg (by omega) (fun r r1 r2 => by have := b57 r r1 r2; omega) b3 b4
      have f1 : q_f1 G TD b0 P E w = 0 := if_neg (fun q => td q.1)
      have f3 : q_f3 G TD b0 P E v3 w = v3 := if_neg (fun q => td q.1)
      have cond : (v4 = 1 ∧ ∀ j, w + 1 ≤ j → j < w + 1 + (n : Int) → TD j → P j = -9 → q_t G b0 P E j ≠ -9) ↔ (v4 = 1 ∧ ∀ j, w ≤ j → j < w + ((n + 1 : Nat) : Int) → TD j → P j = -9 → q_t G b0 P E j ≠ -9) := by
        refine and_congr Iff.rfl ⟨fun q j j1 j2 => ?_, fun q j j1 j2 => q j (by omega) (by omega)⟩
        by_cases z : j = w
        · subst z
          exact fun z => absurd z td
        · exact q j (by omega) (by omega)
      refine ⟨h', u, fun d o6 o7 o8 hd => ?_, ⟨fun q => ?_, fun q => ?_, fun q => ?_, fun q => ?_⟩, fun j j1 j2 j3 j4 => ?_, fun b k q1 q2 => c4 b k q1 (by rw [cs]; exact q2), c5⟩
      · rw [← cs]
        exact c1 d _ _ _ hd
      · rw [d0 q, u_sum_s, f1]; omega
      · rw [d2 q]
        refine q_mx_cg fun r r1 r2 => ?_
        have f2' : q_f2 G TD b0 P E r w = 0 := if_neg (fun q => td q.1.1)
        rw [u_sum_s, f2']; omega
      · rw [d1 q, u_fold_s, f3, propext cond]
      · rw [d3 q, propext cond]
      · by_cases z : j = w
        · subst z; exact absurd j3 td
        · exact c3 j (by omega) j2 j3 j4
theorem l70a (d : Nat) (len v2 v3 v4 : Int) (g : y_Hp) : ∀ (m : Nat) (k : Int), 0 ≤ k → k + m = 8 → y_ev z_pg sc d pgX5_hope 19 [some (y_vr 43), some (y_vi len), some (y_vi v2), some (y_vi v3), some (y_vi v4), some (y_vi k), none, none, none] [] (y_fill g 57 0 (Int.toNat k) (fun j => y_I g 56 j)) = y_ev z_pg sc d pgX5_hope 49 [some (y_vr 43), some (y_vi len), some (y_vi v2), some (y_vi v3), some (y_vi v4), some (y_vi 0), none, none, none] [] (y_fill g 57 0 8 (fun j => y_I g 56 j))
  | 0, k, hk, hm => by
    have e : k = 8 := by omega
    subst e
    rw [b70_19, if_neg (by omega)]
    rfl
  | m + 1, k, hk, hm => by
    have := l70a d len v2 v3 v4 g m (k + 1) (by omega) (by omega)
    rw [show Int.toNat (k + 1) = Int.toNat k + 1 by omega] at this
    rw [b70_19, if_pos (by omega), yi_t (by omega), yi_t (by omega), yr_t (by omega), yI_fill_o (by omega), y_fill_s (Nat.zero_le _) rfl, this]
theorem s70 (hg : g_ok G) (I : q_in G P E) (hb : 0 ≤ b0 ∧ b0 ≤ 60) (hwt : 0 ≤ wt ∧ wt ≤ 3) (len : Int) (hl : 0 ≤ len ∧ len < 9) (hct : q_ct TD (g_wm G) ≤ 8) (Q : XQ h a G L b0 oc P E) (T : XT h G TD) (eg : y_I h 43 3 = q_gl wt) (hTD : ∀ j, 0 ≤ j → j < g_wm G → P j = -9 → (TD j ↔ L j)) : ∃ (h' : y_Hp), (∀ d, 4 ≤ d → y_se z_pg sc d 70 [y_vr 43, y_vi len] h = some (some (y_vi (q_h G L b0 wt P E)), h')) ∧ (∀ j, 0 ≤ j → j < g_wm G → TD j → P j = -9 → y_I h' (47 + Int.toNat len) (Int.toNat (q_ct TD j)) = q_t G b0 P E j) ∧ (∀ b k, b ≠ 57 → b ≠ 47 + Int.toNat len → y_I h' b k = y_I h b k) ∧ h'.2 = h.2 := by
  have kw := hg.2.2.1
  have lbd := q_ls_bd (L := L) hg I
  have eq7 := Q.2.2.1
  have e56 := Q.2.2.2.2.1
  have e59 := Q.2.2.2.2.2.2.1
  have endb : 0 ≤ q_end G P ∧ q_end G P ≤ 60 := by
    have := (q_mx_le.mp (Int.le_refl (q_end G P))).1
    exact ⟨this, (q_end_le hg).mpr ⟨by omega, fun w h1 h2 h3 => (I.1 w h1 h2 h3).2⟩⟩
  generalize e1 : y_fill h 57 0 8 (fun j => y_I h 56 j) = g1
  have I1 : ∀ b k, b ≠ 57 → y_I g1 b k = y_I h b k := fun b k q => by rw [← e1, yI_fill_o (by omega)]
  have S1 : g1.2 = h.2 := by rw [← e1]; rfl
  have r57 : ∀ r, 0 ≤ r → r < 8 → y_I g1 57 (Int.toNat r) = q_lr G L P r := fun r r1 r2 => by
    rw [← e1, yI_fill_e ⟨rfl, by omega, by omega⟩]; exact e56 r r1 r2
  obtain ⟨h', u, c1, ⟨d0, d2, d1, d3⟩, c3, c4, c5⟩ := l70 (sc := sc) (a := a) (L := L) (oc := oc) (TD := TD) hg I hb hwt len hl hct (g_wm G).toNat 0 g1 (q_lk G L P) (q_end G P) 1 (by omega) (by omega) (XQ_cg Q (fun b k q => I1 b k (by omega)) S1) ⟨by rw [I1 _ _ (by omega)]; exact T.1, fun j j1 j2 j3 => by rw [I1 _ _ (by omega)]; exact T.2 j j1 j2 j3⟩ (by rw [I1 _ _ (by omega)]; exact eg) (by omega) (fun r r1 r2 => by
    rw [r57 r r1 r2]
    have := lbd.2 r
    omega) (by omega) (by omega)
  have td : ∀ j, 0 ≤ j → j < 0 + (((g_wm G).toNat : Nat) : Int) → ((TD j ∧ P j = -9) ↔ (L j ∧ P j = -9)) := fun j j1 j2 => ⟨fun q => ⟨(hTD j j1 (by omega) q.2).mp q.1, q.2⟩, fun q => ⟨(hTD j j1 (by omega) q.2).mpr q.1, q.2⟩⟩
  have ov : ∀ j, q_ov G b0 P E j = g_ls G P j - (if P j = -9 then q_wq G b0 P E j else 0) := fun j => by
    unfold q_ov q_wq g_ls
    by_cases z : P j = -9
    · rw [if_pos z, if_pos z, if_pos z]; omega
    · rw [if_neg z, if_neg z, if_neg z]; omega
  have all : ((1 : Int) = 1 ∧ ∀ j, 0 ≤ j → j < 0 + (((g_wm G).toNat : Nat) : Int) → TD j → P j = -9 → q_t G b0 P E j ≠ -9) ↔ q_all G L b0 P E := ⟨fun q j j1 j2 j3 j4 => q.2 j j1 (by omega) ((hTD j j1 j2 j4).mpr j3) j4, fun q => ⟨rfl, fun j j1 j2 j3 j4 => q j j1 (by omega) ((hTD j j1 (by omega) j4).mp j3) j4⟩⟩
  have eu : u = q_h G L b0 wt P E := by
    unfold q_h
    rcases (show wt = 0 ∨ wt = 1 ∨ wt = 2 ∨ wt = 3 by omega) with z | z | z | z
    · rw [d0 z, if_pos z]
      unfold q_hk q_lk
      rw [← u_sum_sub]
      refine u_sum_cg fun j j1 j2 => ?_
      unfold q_f1
      rw [propext (td j j1 j2), ov]
      by_cases c : L j
      · by_cases p : P j = -9
        · rw [if_pos c, if_pos c, if_pos ⟨c, p⟩, if_pos p]
        · rw [if_pos c, if_pos c, if_neg (fun q => p q.2), if_neg p]
      · rw [if_neg c, if_neg c, if_neg (fun q => c q.1)]; rfl
    · rw [d1 z, propext all, if_neg (show ¬ wt = 0 by omega), if_pos (show wt = 1 from z)]
      have ef : u_fold (q_f3 G TD b0 P E) (q_end G P) 0 (g_wm G).toNat = q_he G L b0 P E := u_fold_cg fun s j j1 j2 => by
        unfold q_f3
        rw [propext (td j j1 j2)]
      rw [ef]
    · rw [d2 z, if_neg (by omega), if_neg (by omega), if_pos z]
      refine q_mx_cg fun r r1 r2 => ?_
      rw [r57 r r1 (by omega)]
      unfold q_hr q_lr
      rw [← u_sum_sub]
      refine u_sum_cg fun j j1 j2 => ?_
      unfold q_f2
      rw [propext (td j j1 j2), ov]
      by_cases c : L j ∧ g_rd G j = r
      · by_cases p : P j = -9
        · rw [if_pos c, if_pos c, if_pos ⟨⟨c.1, p⟩, c.2⟩, if_pos p]
        · rw [if_pos c, if_pos c, if_neg (fun q => p q.1.2), if_neg p]
      · rw [if_neg c, if_neg c, if_neg (fun q => c ⟨q.1.1, q.2⟩)]; rfl
    · rw [d3 z, propext all, if_neg (show ¬ wt = 0 by omega), if_neg (show ¬ wt = 1 by omega), if_neg (show ¬ wt = 2 by omega)]
  refine ⟨h', fun d hd => ?_, c3, fun b k q1 q2 => by rw [c4 b k q1 (by omega), I1 b k q1], c5.trans S1⟩
  obtain ⟨d, rfl⟩ : ∃ e, d = e + 1 := ⟨d - 1, by omega⟩
  have la := l70a (sc := sc) d len (q_lk G L P) (q_end G P) 1 h 8 0 (by omega) (by omega)
  rw [show Int.toNat 0 = 0 from rfl, y_fill_0, e1] at la
  have s71' := s71 (sc := sc) (h := h) d (by omega) (c := 59) (Or.inr (Or.inr rfl))
  rw [q_mx_cg (g := q_re G P) (fun r r1 r2 => e59 r r1 (by omega))] at s71'
  have s71'' : y_se z_pg sc d 71 [y_vr 59] h = some (some (y_vi (q_end G P)), h) := s71'
  rw [e70, b70_0, s71'', yci_s, eq7, la, ← eu]
  exact c1 d _ _ _ (by omega)
end XS
