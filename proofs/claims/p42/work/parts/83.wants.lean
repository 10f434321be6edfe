/-! READING A HOUSE, the wants of a reader -/
theorem u_find_n9 {p : Int → Prop} {n : Nat} : u_find p 0 n ≠ -9 ↔ ∃ w, 0 ≤ w ∧ w < (n : Int) ∧ p w := by
  constructor
  · intro e
    obtain ⟨a, b, c, -⟩ := u_find_val (p := p) (n := n) (k := 0) (by omega) e
    exact ⟨_, a, by omega, c⟩
  · rintro ⟨w, a, b, c⟩ e
    exact (u_find_none (p := p) (n := n) (k := 0) (by omega)).mp e w a (by omega) c
theorem g_wf_n9 {G : u_G} {r q : Int} (hw : 0 ≤ g_wm G) : g_wf G r q ≠ -9 ↔ ∃ w, 0 ≤ w ∧ w < g_wm G ∧ g_rd G w = r ∧ g_pt G w = q := by
  unfold g_wf
  rw [u_find_n9]
  constructor
  · rintro ⟨w, a, b, c⟩
    exact ⟨w, a, by omega, c⟩
  · rintro ⟨w, a, b, c⟩
    exact ⟨w, a, by omega, c⟩
theorem want_view {g g' : y_Hp} {R W q : Int} (hW : y_I g 94 24 = W) (kW : 0 ≤ W ∧ W < 24) (fr : ∀ a k, ¬ (a = 94 ∧ (k = 19 ∨ k = 20 ∨ k = 24)) → ¬ (a = 108 ∧ Int.toNat (4 * W) ≤ k ∧ k ≤ Int.toNat (4 * W) + 3) → y_I g' a k = y_I g a k) (w' : y_I g' 94 24 = W + 1) (c1 : y_I g' 108 (Int.toNat (4 * W)) = R - 1) (c2 : y_I g' 108 (Int.toNat (4 * W + 1)) = q) : (∀ r q p, g_na (dv (y_sI g' 94 23 R)) r q p = g_na (dv (y_sI g 94 23 R)) r q p) ∧ (∀ j, g_wf (dv (y_sI g' 94 23 R)) (R - 1) j ≠ -9 ↔ (g_wf (dv (y_sI g 94 23 R)) (R - 1) j ≠ -9 ∨ j = q)) := by
  have ga : ∀ a k, ¬ (a = 94 ∧ k = 11) → ¬ (a = 103 ∧ Int.toNat (4 * W) ≤ k ∧ k ≤ Int.toNat (4 * W) + 3) → dv (y_sI g' 94 23 R) a k = dv (y_sI g 94 23 R) a k := fun a k q r => dv_pt a k (fun e e1 e2 => by rw [yI_sI, yI_sI, fr _ _ (by omega) (by omega)]) (fun e => by rw [yI_sI, yI_sI, fr _ _ (by omega) (by omega)]) (fun e => by rw [yI_sI, yI_sI, fr _ _ (by omega) (by omega)])
  have wm : g_wm (dv (y_sI g' 94 23 R)) = W + 1 := by
    show y_I (y_sI g' 94 23 R) 94 24 = _
    rw [yI_sI_o (by omega), w']
  have wm0 : g_wm (dv (y_sI g 94 23 R)) = W := by
    show y_I (y_sI g 94 23 R) 94 24 = _
    rw [yI_sI_o (by omega), hW]
  have tk : ∀ k, k < 96 → dv (y_sI g' 94 23 R) 103 k = y_I g' 108 k := fun k hk => by
    show (if k < 96 then y_I (y_sI g' 94 23 R) 108 k else _) = _
    rw [if_pos hk, yI_sI_o (by omega)]
  have t1 := (tk (Int.toNat (4 * W)) (by omega)).trans c1
  have t2 := (tk (Int.toNat (4 * W + 1)) (by omega)).trans c2
  clear tk
  generalize dv (y_sI g' 94 23 R) = G at ga wm t1 t2
  generalize dv (y_sI g 94 23 R) = G0 at ga wm0
  have nm : g_nm G = g_nm G0 := ga _ _ (by omega) (by omega)
  have r4 : G 104 = G0 104 := funext fun k => ga _ _ (by omega) (by omega)
  have rdW : g_rd G W = R - 1 := t1
  have ptW : g_pt G W = q := t2
  have rd : ∀ w, 0 ≤ w → w < W → g_rd G w = g_rd G0 w := fun w u1 u2 => ga _ _ (by omega) (by omega)
  have pt : ∀ w, 0 ≤ w → w < W → g_pt G w = g_pt G0 w := fun w u1 u2 => ga _ _ (by omega) (by omega)
  refine ⟨fun r q p => by unfold g_na; rw [nm, r4], fun j => ?_⟩
  rw [g_wf_n9 (by omega), g_wf_n9 (by omega), wm, wm0]
  constructor
  · rintro ⟨w, a, e, f1, f2⟩
    by_cases z : w = W
    · subst z
      exact Or.inr (f2.symm.trans ptW)
    · exact Or.inl ⟨w, a, by omega, by rw [← rd w a (by omega)]; exact f1, by rw [← pt w a (by omega)]; exact f2⟩
  · rintro (⟨w, a, e, f1, f2⟩ | e)
    · exact ⟨w, a, by omega, by rw [rd w a e]; exact f1, by rw [pt w a e]; exact f2⟩
    · exact ⟨W, by omega, by omega, rdW, by rw [ptW, e]⟩
section IT
variable {sc : z_Sc} {h g : y_Hp} {c b : Nat} {t n p : Int} {T : Int → Int}
theorem x28_f (d : Nat) (hd : 4 ≤ d) (S : XS c b n T p h) {G : u_G} (X : xmg h b G) (kw : 0 ≤ g_wm G ∧ g_wm G ≤ 24) (R : Int) (xR : y_I h b 2 = R) (h1 : 1 ≤ R ∧ R ≤ 8) (hc : 14 ≤ c ∧ c ≤ 17) (hn : n ≤ 120) (hp : 0 ≤ p) (v : Int) (ev : @ite _ (u_fg T n p) (Classical.propDecidable _) (T p - 48) (-9) = v) (hf : g_wm G = 24 ∨ ¬ (0 ≤ v ∧ v < g_pm G) ∨ g_wf G (R - 1) v ≠ -9) : y_se z_pg sc d 28 [y_vr 19] h = some (some (y_vi 0), h) := by
  have hb := X.1
  have xW : y_I h b 3 = g_wm G := X.2.2.2.2.1
  rcases d with _ | d
  · omega
  rw [e28, b28_0, s22 d (by omega) S hc hn hp, ev, yci_s, S.2.1, yH0 hb]
  by_cases z1 : y_I h b 3 < 24
  · rw [if_pos z1, yH0 hb, s2g d (by omega) X, yci_s]
    by_cases z2 : 0 ≤ v ∧ v < g_pm G
    · rw [bi_t z2, if_neg (by omega), S.2.1, yH0 hb, xR, yr_t (by omega), yH0 hb, s13 d (by omega) X kw, yci_s, if_neg (by
        rcases hf with f | f | f
        · omega
        · exact absurd z2 f
        · exact f)]
    · rw [bi_f z2, if_pos rfl]
  · rw [if_neg z1]
theorem K_wants (hT : ∀ i, 0 ≤ i → i < n → -128 ≤ T i ∧ T i ≤ 127) (hc : 14 ≤ c ∧ c ≤ 17) (ht : 0 ≤ t ∧ t < 4) (hn : n ≤ 120) (R : Int) (h1 : 1 ≤ R ∧ R ≤ 8) : ∀ (m : Nat) (p : Int) (h g : y_Hp) (s k : Int), n - p ≤ m → XS c b n T p h → MS t n T p g → DR h b (y_sI g 94 23 R) → y_I g 94 23 = R - 1 → (∀ r q p, g_na (dv (y_sI g 94 23 R)) r q p → r < R - 1 ∧ q < R - 1) → (∀ q, 0 ≤ q → q < 6 → (u_bs s q ↔ g_wf (dv (y_sI g 94 23 R)) (R - 1) q ≠ -9)) → u_mks s = k → (0 ≤ p ∧ p ≤ n) → ∃ (u q' : Int) (h' g' : y_Hp), (∀ d v1 v2, 10 ≤ d → y_ev z_pg sc d pgX1_takeReader 97 [some (y_vr 19), some (y_vi v1), some (y_vi v2), some (y_vi k)] [] h = some (some (y_vi u), h')) ∧ (∀ d v2 v3 o6, 10 ≤ d → y_ev z_pg sc d pgX8_readsReader 131 [some (y_vr 94), some (y_vi t), some (y_vi v2), some (y_vi v3), some (y_vi s), some (y_vi 1), o6] [] g = some (some (y_vi u), g')) ∧ XS c b n T q' h' ∧ MS t n T q' g' ∧ FXX b h h' ∧ FMM g g' ∧ (u = 0 ∨ u = 1) ∧ (p ≤ q' ∧ q' ≤ n) ∧ (u = 1 → DR h' b g')
  | 0, p, h, g, s, k, hm, S, M, D, gR, hN, hs, hk, hp => by
    have hb := D.1.1
    have kb := u_mks_bd (s := s)
    have kw := D.2.1.2.2.1
    have kp := D.2.1.1
    have rmV : g_rm (dv (y_sI g 94 23 R)) = R := yI_sI_e ⟨rfl, rfl⟩
    have xR : y_I h b 2 = R := D.1.2.2.2.1.trans rmV
    have pmV : g_pm (dv (y_sI g 94 23 R)) = y_I g 94 22 := by
      show y_I (y_sI g 94 23 R) 94 22 = _
      rw [yI_sI_o (by omega)]
    have nf : ¬ u_fg T n p := fun z => by have := z.1; omega
    refine ⟨0, p, h, g, fun d v1 v2 hd => ?_, fun d v2 v3 o6 hd => ?_, S, M, FX.refl.xx, FM.refl.mm, Or.inl rfl, by omega, fun q => by omega⟩
    · rw [b27_97, if_neg (by omega), x28_f d (by omega) S D.1 kw R xR h1 hc hn hp.1 (-9) (if_neg nf) (Or.inr (Or.inl (by omega))), yci_s, if_pos rfl]
    · rw [b162_131, if_neg (by omega), M.2.1, s156w d (by omega) M ht hn hp.1, yci_s, if_neg (by omega), yr_t (by omega), yr_t (by omega), s136 d (by omega), yci_s, if_pos (bi_f (by omega))]
  | m + 1, p, h, g, s, k, hm, S, M, D, gR, hN, hs, hk, hp => by
    have hb := D.1.1
    have kb := u_mks_bd (s := s)
    have kw := D.2.1.2.2.1
    have kp := D.2.1.1
    have rmV : g_rm (dv (y_sI g 94 23 R)) = R := yI_sI_e ⟨rfl, rfl⟩
    have xR : y_I h b 2 = R := D.1.2.2.2.1.trans rmV
    have pmV : g_pm (dv (y_sI g 94 23 R)) = y_I g 94 22 := by
      show y_I (y_sI g 94 23 R) 94 22 = _
      rw [yI_sI_o (by omega)]
    have wmV : g_wm (dv (y_sI g 94 23 R)) = y_I g 94 24 := by
      show y_I (y_sI g 94 23 R) 94 24 = _
      rw [yI_sI_o (by omega)]
    have hT' : -128 ≤ (if p < n then T p else 0) ∧ (if p < n then T p else 0) ≤ 127 := by
      by_cases z : p < n
      · rw [if_pos z]; exact hT p hp.1 z
      · rw [if_neg z]; omega
    have hfg := fg_look (T := T) (n := n) (p := p)
    by_cases f1 : u_fg T n p
    · have fp := f1.1
      have f2 := f1.2
      rw [if_pos fp] at hT'
      by_cases f3 : T p - 48 < y_I g 94 22
      · have hq6 : 0 ≤ T p - 48 ∧ T p - 48 < 6 := by omega
        by_cases f4 : u_bs s (T p - 48)
        · have f5 := (hs _ hq6.1 hq6.2).mp f4
          refine ⟨0, p, h, g, fun d v1 v2 hd => ?_, fun d v2 v3 o6 hd => ?_, S, M, FX.refl.xx, FM.refl.mm, Or.inl rfl, by omega, fun q => by omega⟩
          · rw [b27_97, if_neg (by omega), x28_f d (by omega) S D.1 kw R xR h1 hc hn hp.1 (T p - 48) (if_pos f1) (Or.inr (Or.inr f5)), yci_s, if_pos rfl]
          · rw [b162_131, if_neg (by omega), M.2.1, s156w d (by omega) M ht hn hp.1, yci_s, if_pos fp, yr_t (by omega), yr_t (by omega), s136 d (by omega), yci_s, if_neg (by rw [bi_t (by omega)]; omega), s137 d (by omega) _ _ (by omega), yci_s, if_neg (by rw [bi_t f4]; omega)]
        · have f5 : g_wf (dv (y_sI g 94 23 R)) (R - 1) (T p - 48) = -9 := Classical.byContradiction fun z => f4 ((hs _ hq6.1 hq6.2).mpr z)
          by_cases f6 : y_I g 94 24 = 24
          · refine ⟨0, p, h, g, fun d v1 v2 hd => ?_, fun d v2 v3 o6 hd => ?_, S, M, FX.refl.xx, FM.refl.mm, Or.inl rfl, by omega, fun q => by omega⟩
            · rw [b27_97, if_neg (by omega), x28_f d (by omega) S D.1 kw R xR h1 hc hn hp.1 (T p - 48) (if_pos f1) (Or.inl (wmV.trans f6)), yci_s, if_pos rfl]
            · rw [b162_131, if_neg (by omega), M.2.1, s156w d (by omega) M ht hn hp.1, yci_s, if_pos fp, yr_t (by omega), yr_t (by omega), s136 d (by omega), yci_s, if_neg (by rw [bi_t (by omega)]; omega), s137 d (by omega) _ _ (by omega), yci_s, if_pos (bi_f f4), if_pos f6]
          · obtain ⟨u, q', h', g', a1, a2, a3, a4, a5, a6, a7, a8, a9⟩ := K_want (sc := sc) S M R _ D gR rfl h1.1 (by omega) hT hc ht hn ⟨hp.1, fp⟩ (T p - 48) rfl (by omega) hN f5
            have X28 : ∀ d v1 v2, 10 ≤ d → y_ev z_pg sc d pgX1_takeReader 97 [some (y_vr 19), some (y_vi v1), some (y_vi v2), some (y_vi k)] [] h = (if u = 0 then some (some (y_vi 0), h') else y_ci (y_se z_pg sc d 21 [y_vr 19, y_vi 44] h') (fun u6 g5 => (if u6 = 0 then y_ci (y_se z_pg sc d 21 [y_vr 19, y_vi 41] g5) (fun u8 g7 => y_b1 u8 (some (some (y_vi u8), g7))) else y_rg (k + 1) (y_ev z_pg sc d pgX1_takeReader 97 [some (y_vr 19), some (y_vi v1), some (y_vi v2), some (y_vi (k + 1))] [] g5)))) := fun d v1 v2 hd => by
              rw [b27_97, if_neg (by omega), a1 d hd, yci_s]
            have M28 : ∀ d v2 v3 o6, 10 ≤ d → y_ev z_pg sc d pgX8_readsReader 131 [some (y_vr 94), some (y_vi t), some (y_vi v2), some (y_vi v3), some (y_vi s), some (y_vi 1), o6] [] g = (if u = 0 then some (some (y_vi 0), g') else y_ci (y_se z_pg sc d 157 [y_vr 94, y_vi t, y_vi 44] g') (fun u12 g11 => y_ev z_pg sc d pgX8_readsReader 131 [some (y_vr 94), some (y_vi t), some (y_vi v2), some (y_vi v3), some (y_vi (y_or s (y_shl 1 (T p - 48)))), some (y_vi u12), some (y_vi (T p - 48))] [] g11)) := fun d v2 v3 o6 hd => by
              rw [b162_131, if_neg (by omega), M.2.1, s156w d (by omega) M ht hn hp.1, yci_s, if_pos fp, yr_t (by omega), yr_t (by omega), s136 d (by omega), yci_s, if_neg (by rw [bi_t (by omega)]; omega), s137 d (by omega) _ _ (by omega), yci_s, if_pos (bi_f f4), if_neg f6, a2 d hd, yci_s]
            rcases a7 with e | e
            · refine ⟨0, q', h', g', fun d v1 v2 hd => ?_, fun d v2 v3 o6 hd => ?_, a3, a4, a5, a6, Or.inl rfl, a8, fun q => by omega⟩
              · rw [X28 d v1 v2 hd, if_pos e]
              · rw [M28 d v2 v3 o6 hd, if_pos e]
            · obtain ⟨b1, b2, b3, b4, b5, b6⟩ := a9 e
              obtain ⟨u2, q2, h2, g2, c1, c2, c3, c4, c5, c6, c7, c8, -, -⟩ := K_sign (sc := sc) a3 a4 hc ht hn (by omega) 44 (by omega)
              have D2 : DR h2 b (y_sI g2 94 23 R) := DR_cg b2 c5 ⟨c6.1, fun a k z => by rw [yI_sI, yI_sI, c6.2 a k z]⟩
              have gR2 : y_I g2 94 23 = R - 1 := by rw [c6.2 _ _ (by omega), b3 _ _ (by omega) (by omega)]; exact gR
              rcases c7 with f | f
              · subst f
                obtain ⟨u3, q3, h3, g3, d1, d2, d3, d4, d5, d6, d7, d8, -, -⟩ := K_sign (sc := sc) c3 c4 hc ht hn (by omega) 41 (by omega)
                have gR3 : y_I g3 94 23 = R - 1 := by rw [d6.2 _ _ (by omega)]; exact gR2
                have D3 : DR h3 b (y_sI g3 94 23 R) := DR_cg D2 d5 ⟨d6.1, fun a k z => by rw [yI_sI, yI_sI, d6.2 a k z]⟩
                have mx : FXX b h h3 := (a5.trans c5.xx).trans d5.xx
                have mm : FMM g g3 := (a6.trans c6.mm).trans d6.mm
                rcases d7 with f | f
                · subst f
                  refine ⟨0, q3, h3, g3, fun d v1 v2 hd => ?_, fun d v2 v3 o6 hd => ?_, d3, d4, mx, mm, Or.inl rfl, by omega, fun q => by omega⟩
                  · rw [X28 d v1 v2 hd, if_neg (by omega), c1 d (by omega), yci_s, if_pos rfl, d1 d (by omega), yci_s, yb_t (by omega)]
                  · rw [M28 d v2 v3 o6 hd, if_neg (by omega), c2 d (by omega), yci_s, b162_131, if_pos rfl, d2 d (by omega), yci_s, if_pos rfl]
                · subst f
                  refine ⟨1, q3, h3, y_sI g3 94 23 R, fun d v1 v2 hd => ?_, fun d v2 v3 o6 hd => ?_, d3, ⟨by rw [yI_sI_o (by omega)]; exact d4.1, by rw [yI_sI_o (by omega)]; exact d4.2.1, fun i i1 i2 => by rw [yI_sI_o (by omega)]; exact d4.2.2 i i1 i2⟩, mx, mm.trans ⟨fun a k z1 z2 => yI_sI_o (by omega), rfl⟩, Or.inr rfl, by omega, fun q => D3⟩
                  · rw [X28 d v1 v2 hd, if_neg (by omega), c1 d (by omega), yci_s, if_pos rfl, d1 d (by omega), yci_s, yb_t (by omega)]
                  · rw [M28 d v2 v3 o6 hd, if_neg (by omega), c2 d (by omega), yci_s, b162_131, if_pos rfl, d2 d (by omega), yci_s, if_neg (by omega), gR3, yr_t (by omega), Int.sub_add_cancel]
              · subst f
                obtain ⟨w1, w2⟩ := want_view (R := R) (q := T p - 48) (g := g) (g' := g2) rfl (by omega) (fun a k z1 z2 => by rw [c6.2 a k (by omega)]; exact b3 a k z1 z2) (by rw [c6.2 _ _ (by omega)]; exact b4) (by rw [c6.2 _ _ (by omega)]; exact b5) (by rw [c6.2 _ _ (by omega)]; exact b6)
                obtain ⟨u3, q3, h3, g3, d1, d2, d3, d4, d5, d6, d7, d8, d9⟩ := K_wants hT hc ht hn R h1 m q2 h2 g2 (y_or s (y_shl 1 (T p - 48))) (k + 1) (by omega) c3 c4 D2 gR2 (fun r q p z => hN r q p (by rw [← w1]; exact z)) (fun q z1 z2 => by
                  rw [w2, ← hs q z1 z2, ub_or, ub_shl (by omega) (by omega)]) (by rw [u_mks_up hq6 f4, hk]) (by omega)
                refine ⟨u3, q3, h3, g3, fun d v1 v2 hd => ?_, fun d v2 v3 o6 hd => ?_, d3, d4, (a5.trans c5.xx).trans d5, (a6.trans c6.mm).trans d6, d7, by omega, d9⟩
                · rw [X28 d v1 v2 hd, if_neg (by omega), c1 d (by omega), yci_s, if_neg (by omega), yr_t (by omega), d1 d v1 v2 hd]
                · rw [M28 d v2 v3 o6 hd, if_neg (by omega), c2 d (by omega), yci_s, d2 d v2 v3 _ hd]
      · refine ⟨0, p, h, g, fun d v1 v2 hd => ?_, fun d v2 v3 o6 hd => ?_, S, M, FX.refl.xx, FM.refl.mm, Or.inl rfl, by omega, fun q => by omega⟩
        · rw [b27_97, if_neg (by omega), x28_f d (by omega) S D.1 kw R xR h1 hc hn hp.1 (T p - 48) (if_pos f1) (Or.inr (Or.inl (by omega))), yci_s, if_pos rfl]
        · rw [b162_131, if_neg (by omega), M.2.1, s156w d (by omega) M ht hn hp.1, yci_s, if_pos fp, yr_t (by omega), yr_t (by omega), s136 d (by omega), yci_s, if_pos (bi_f (by omega))]
    · refine ⟨0, p, h, g, fun d v1 v2 hd => ?_, fun d v2 v3 o6 hd => ?_, S, M, FX.refl.xx, FM.refl.mm, Or.inl rfl, by omega, fun q => by omega⟩
      · rw [b27_97, if_neg (by omega), x28_f d (by omega) S D.1 kw R xR h1 hc hn hp.1 (-9) (if_neg f1) (Or.inr (Or.inl (by omega))), yci_s, if_pos rfl]
      · have nz : ¬ (48 ≤ (if p < n then T p else 0) ∧ (if p < n then T p else 0) ≤ 57) := fun z => f1 (hfg.mpr z)
        rw [b162_131, if_neg (by omega), M.2.1, s156w d (by omega) M ht hn hp.1, yci_s]
        generalize (if p < n then T p else 0) = L at hT' nz
        rw [yr_t (by omega), yr_t (by omega), s136 d (by omega), yci_s, if_pos (bi_f (by omega))]
end IT
