/-! READING A HOUSE, a want -/
section IT
variable {sc : z_Sc} {h g : y_Hp} {c b : Nat} {t n p : Int} {T : Int → Int}
theorem s2g (d : Nat) (hd : 1 ≤ d) {G : u_G} (X : xmg h b G) (p : Int) : y_se z_pg sc d 2 [y_vr b, y_vi p] h = some (some (y_vi (y_bi (0 ≤ p ∧ p < g_pm G))), h) := by
  rcases d with _ | d
  · omega
  obtain ⟨ha, x0, x1, -⟩ := X
  rw [e2, b2_0, yH0 ha, x1]
  by_cases c1 : p < 0
  · rw [if_pos c1]; exact ab_f (by omega)
  · rw [if_neg c1]
    by_cases c2 : p < g_pm G
    · rw [if_pos c2]; exact ab_t (by omega)
    · rw [if_neg c2]; exact ab_f (by omega)
theorem FQ.trans {W : Int} {h i j : y_Hp} (e : FQ W h i) (f : FQ W i j) : FQ W h j := ⟨f.1.trans e.1, fun b k q r => (f.2 b k q r).trans (e.2 b k q r)⟩
theorem FM.fq {W : Int} {g g' : y_Hp} (e : FM g g') : FQ W g g' := ⟨e.1, fun b k q _ => e.2 b k q⟩
theorem FQ.w {W : Int} {g : y_Hp} {k : Nat} {v : Int} (hk : Int.toNat (4 * W) ≤ k ∧ k ≤ Int.toNat (4 * W) + 3) : FQ W g (y_sI g 108 k v) := ⟨rfl, fun b j q r => yI_sI_o (by omega)⟩
theorem FQ.mm {W : Int} {g g' : y_Hp} (e : FQ W g g') : FMM g g' := ⟨fun b k q r => e.2 b k (by omega) (by omega), e.1⟩
theorem FQ.up {W R : Int} {g g' : y_Hp} (e : FQ W g g') : FQ W (y_sI g 94 23 R) (y_sI g' 94 23 R) := ⟨e.1, fun b k q r => by
  rw [yI_sI, yI_sI, e.2 b k q r]⟩
theorem y_sI_cm {g : y_Hp} {k j : Nat} {u v : Int} (e : k ≠ j) : y_sI (y_sI g 94 k u) 94 j v = y_sI (y_sI g 94 j v) 94 k u := y_ext (fun a i => by
  rw [yI_sI, yI_sI, yI_sI, yI_sI]
  by_cases z1 : a = 94 ∧ i = j
  · rw [if_pos z1, if_neg (by omega), if_pos z1]
  · rw [if_neg z1, if_neg z1]) rfl
theorem K_want (S : XS c b n T p h) (M : MS t n T p g) (R W : Int) (D : DR h b (y_sI g 94 23 R)) (gR : y_I g 94 23 = R - 1) (hW : y_I g 94 24 = W) (h1 : 1 ≤ R) (h24 : W < 24) (hT : ∀ i, 0 ≤ i → i < n → -128 ≤ T i ∧ T i ≤ 127) (hc : 14 ≤ c ∧ c ≤ 17) (ht : 0 ≤ t ∧ t < 4) (hn : n ≤ 120) (hp : 0 ≤ p ∧ p < n) (q : Int) (hq : T p - 48 = q) (bq : 0 ≤ q ∧ q < y_I g 94 22) (hN : ∀ r q p, g_na (dv (y_sI g 94 23 R)) r q p → r < R - 1 ∧ q < R - 1) (hw : g_wf (dv (y_sI g 94 23 R)) (R - 1) q = -9) : ∃ (u q' : Int) (h' g' : y_Hp), (∀ d, 10 ≤ d → y_se z_pg sc d 28 [y_vr 19] h = some (some (y_vi u), h')) ∧ (∀ d, 10 ≤ d → y_se z_pg sc d 163 [y_vr 94, y_vi t, y_vi q] g = some (some (y_vi u), g')) ∧ XS c b n T q' h' ∧ MS t n T q' g' ∧ FXX b h h' ∧ FMM g g' ∧ (u = 0 ∨ u = 1) ∧ (p ≤ q' ∧ q' ≤ n) ∧ (u = 1 → p < q' ∧ DR h' b (y_sI g' 94 23 R) ∧ (∀ a k, ¬ (a = 94 ∧ (k = 19 ∨ k = 20 ∨ k = 24)) → ¬ (a = 108 ∧ Int.toNat (4 * W) ≤ k ∧ k ≤ Int.toNat (4 * W) + 3) → y_I g' a k = y_I g a k) ∧ y_I g' 94 24 = W + 1 ∧ y_I g' 108 (Int.toNat (4 * W)) = R - 1 ∧ y_I g' 108 (Int.toNat (4 * W + 1)) = q) := by
  have hb := D.1.1
  have i2 := S.2.2.2.1
  have m2 := M.2.1
  have kw := D.2.1.2.2.1
  have kr := D.2.1.2.1
  have kp := D.2.1.1
  have rmV : g_rm (dv (y_sI g 94 23 R)) = R := yI_sI_e ⟨rfl, rfl⟩
  have wmV : g_wm (dv (y_sI g 94 23 R)) = W := by
    show y_I (y_sI g 94 23 R) 94 24 = W
    rw [yI_sI_o (by omega)]; exact hW
  have pmV : g_pm (dv (y_sI g 94 23 R)) = y_I g 94 22 := by
    show y_I (y_sI g 94 23 R) 94 22 = _
    rw [yI_sI_o (by omega)]
  have xR : y_I h b 2 = R := D.1.2.2.2.1.trans rmV
  have xW : y_I h b 3 = W := D.1.2.2.2.2.1.trans wmV
  have cf : u_fg T n p := by unfold u_fg; omega
  have mW1 : y_I (y_sI g 94 19 (p + 1)) 94 24 = W := by rw [yI_sI_o (by omega)]; exact hW
  have mR1 : y_I (y_sI g 94 19 (p + 1)) 94 23 = R - 1 := by rw [yI_sI_o (by omega)]; exact gR
  have S1 := S.at hc (p + 1)
  generalize eA : y_sI (y_sI (y_sI g 94 19 (p + 1)) 108 (Int.toNat (4 * W)) (R - 1)) 108 (Int.toNat (4 * W + 1)) q = gA
  have MA : MS t n T (p + 1) gA := by rw [← eA]; exact ((M.at (p + 1)).w (by omega)).w (by omega)
  have FA : FQ W g gA := by rw [← eA]; exact (FM.p.fq.trans (FQ.w (by omega))).trans (FQ.w (by omega))
  have A1 : y_I gA 108 (Int.toNat (4 * W)) = R - 1 := by rw [← eA, yI_sI_o (by omega), yI_sI_e ⟨rfl, rfl⟩]
  have A2 : y_I gA 108 (Int.toNat (4 * W + 1)) = q := by rw [← eA, yI_sI_e ⟨rfl, rfl⟩]
  obtain ⟨u2, q2, h2, g2, c1, c2, c3, c4, c5, c6, c7, c8, -, -⟩ := K_sign (sc := sc) S1 MA hc ht hn (by omega) 42 (by omega)
  have fx2 : FX h h2 := FX.p.trans c5
  have fp2 : FQ W g g2 := FA.trans c6.fq
  rcases c7 with e | e
  · subst e
    refine ⟨0, q2, h2, g2, fun d hd => ?_, fun d hd => ?_, c3, c4, fx2.xx, fp2.mm, Or.inl rfl, by omega, fun q => by omega⟩
    · obtain ⟨d, rfl⟩ : ∃ e, d = e + 1 := ⟨d - 1, by omega⟩
      rw [e28, b28_0, s22 d (by omega) S hc hn (by omega), yci_s, if_pos cf, hq, S.2.1, yH0 hb, xW, if_pos h24, yH0 hb, s2g d (by omega) D.1, pmV, yci_s, if_neg (by rw [bi_t (by omega)]; omega), S.2.1, yH0 hb, xR, yr_t (by omega), yH0 hb, s13 d (by omega) D.1 kw, yci_s, if_pos hw, i2, yr_t (by omega), c1 d (by omega), yci_s, if_pos rfl]
    · obtain ⟨d, rfl⟩ : ∃ e, d = e + 1 := ⟨d - 1, by omega⟩
      rw [e163, b163_0, m2, yr_t (by omega), mW1, yr_t (by omega), yi_t (by omega), mR1, yhb_s, yr_t (by omega), yi_t (by omega), eA, c2 d (by omega), yci_s, if_pos rfl]
  · subst e
    obtain ⟨u5, q5, h5, g5, m1, n2, n3, n4, n5, n6, n7, n8, n9⟩ := K_min (sc := sc) c3 c4 hc ht hn (by omega) 1 20
    have fx5 : FX h h5 := fx2.trans n5
    have fp5 : FQ W g g5 := fp2.trans n6.fq
    rcases n7 with e | e
    · subst e
      refine ⟨0, q5, h5, g5, fun d hd => ?_, fun d hd => ?_, n3, n4, fx5.xx, fp5.mm, Or.inl rfl, by omega, fun q => by omega⟩
      · obtain ⟨d, rfl⟩ : ∃ e, d = e + 1 := ⟨d - 1, by omega⟩
        rw [e28, b28_0, s22 d (by omega) S hc hn (by omega), yci_s, if_pos cf, hq, S.2.1, yH0 hb, xW, if_pos h24, yH0 hb, s2g d (by omega) D.1, pmV, yci_s, if_neg (by rw [bi_t (by omega)]; omega), S.2.1, yH0 hb, xR, yr_t (by omega), yH0 hb, s13 d (by omega) D.1 kw, yci_s, if_pos hw, i2, yr_t (by omega), c1 d (by omega), yci_s, if_neg (by omega), m1 d (by omega), yci_s, if_pos rfl]
      · obtain ⟨d, rfl⟩ : ∃ e, d = e + 1 := ⟨d - 1, by omega⟩
        rw [e163, b163_0, m2, yr_t (by omega), mW1, yr_t (by omega), yi_t (by omega), mR1, yhb_s, yr_t (by omega), yi_t (by omega), eA, c2 d (by omega), yci_s, if_neg (by omega), n2 d (by omega), yci_s, if_pos rfl]
    · subst e
      obtain ⟨y1, y2⟩ := n9 rfl
      generalize ew2 : y_I g5 94 20 = w2 at y1 y2
      generalize eB : y_sI g5 108 (Int.toNat (4 * W + 2)) w2 = gB
      have MB : MS t n T q5 gB := by rw [← eB]; exact n4.w (by omega)
      have FB : FQ W g gB := by rw [← eB]; exact fp5.trans (FQ.w (by omega))
      have B1 : y_I gB 108 (Int.toNat (4 * W)) = R - 1 := by rw [← eB, yI_sI_o (by omega), n6.2 _ _ (by omega), c6.2 _ _ (by omega)]; exact A1
      have B2 : y_I gB 108 (Int.toNat (4 * W + 1)) = q := by rw [← eB, yI_sI_o (by omega), n6.2 _ _ (by omega), c6.2 _ _ (by omega)]; exact A2
      have B3 : y_I gB 108 (Int.toNat (4 * W + 2)) = w2 := by rw [← eB, yI_sI_e ⟨rfl, rfl⟩]
      obtain ⟨u6, q6, h6, g6, d1, d2, d3, d4, d5, d6, d7, d8, -, -⟩ := K_sign (sc := sc) n3 MB hc ht hn (by omega) 61 (by omega)
      have fx6 : FX h h6 := fx5.trans d5
      have fp6 : FQ W g g6 := FB.trans d6.fq
      rcases d7 with e | e
      · subst e
        refine ⟨0, q6, h6, g6, fun d hd => ?_, fun d hd => ?_, d3, d4, fx6.xx, fp6.mm, Or.inl rfl, by omega, fun q => by omega⟩
        · obtain ⟨d, rfl⟩ : ∃ e, d = e + 1 := ⟨d - 1, by omega⟩
          rw [e28, b28_0, s22 d (by omega) S hc hn (by omega), yci_s, if_pos cf, hq, S.2.1, yH0 hb, xW, if_pos h24, yH0 hb, s2g d (by omega) D.1, pmV, yci_s, if_neg (by rw [bi_t (by omega)]; omega), S.2.1, yH0 hb, xR, yr_t (by omega), yH0 hb, s13 d (by omega) D.1 kw, yci_s, if_pos hw, i2, yr_t (by omega), c1 d (by omega), yci_s, if_neg (by omega), m1 d (by omega), yci_s, if_neg (by omega), d1 d (by omega), yci_s, if_pos rfl]
        · obtain ⟨d, rfl⟩ : ∃ e, d = e + 1 := ⟨d - 1, by omega⟩
          rw [e163, b163_0, m2, yr_t (by omega), mW1, yr_t (by omega), yi_t (by omega), mR1, yhb_s, yr_t (by omega), yi_t (by omega), eA, c2 d (by omega), yci_s, if_neg (by omega), n2 d (by omega), yci_s, if_neg (by omega), yr_t (by omega), yi_t (by omega), ew2, eB, yhb_s, d2 d (by omega), yci_s, if_pos rfl]
      · subst e
        obtain ⟨u7, q7, h7, g7, f1, f2, f3, f4, f5, f6, f7, f8, f9⟩ := K_fig (sc := sc) d3 d4 hT hc ht hn (by omega) 1 9
        have fx7 : FX h h7 := fx6.trans f5
        have fp7 : FQ W g g7 := fp6.trans f6.fq
        rcases f7 with e | e
        · subst e
          refine ⟨0, q7, h7, g7, fun d hd => ?_, fun d hd => ?_, f3, f4, fx7.xx, fp7.mm, Or.inl rfl, by omega, fun q => by omega⟩
          · obtain ⟨d, rfl⟩ : ∃ e, d = e + 1 := ⟨d - 1, by omega⟩
            rw [e28, b28_0, s22 d (by omega) S hc hn (by omega), yci_s, if_pos cf, hq, S.2.1, yH0 hb, xW, if_pos h24, yH0 hb, s2g d (by omega) D.1, pmV, yci_s, if_neg (by rw [bi_t (by omega)]; omega), S.2.1, yH0 hb, xR, yr_t (by omega), yH0 hb, s13 d (by omega) D.1 kw, yci_s, if_pos hw, i2, yr_t (by omega), c1 d (by omega), yci_s, if_neg (by omega), m1 d (by omega), yci_s, if_neg (by omega), d1 d (by omega), yci_s, if_neg (by omega), f1 d (by omega), yci_s, if_pos rfl]
          · obtain ⟨d, rfl⟩ : ∃ e, d = e + 1 := ⟨d - 1, by omega⟩
            rw [e163, b163_0, m2, yr_t (by omega), mW1, yr_t (by omega), yi_t (by omega), mR1, yhb_s, yr_t (by omega), yi_t (by omega), eA, c2 d (by omega), yci_s, if_neg (by omega), n2 d (by omega), yci_s, if_neg (by omega), yr_t (by omega), yi_t (by omega), ew2, eB, yhb_s, d2 d (by omega), yci_s, if_neg (by omega), f2 d (by omega), yci_s, if_pos rfl]
        · subst e
          obtain ⟨o1, o2, o3⟩ := f9 rfl
          generalize ew3 : y_I g7 94 20 = w3 at o1 o2 o3
          generalize eC : y_sI g7 108 (Int.toNat (4 * W + 3)) w3 = gC
          have MC : MS t n T q7 gC := by rw [← eC]; exact f4.w (by omega)
          have FC : FQ W g gC := by rw [← eC]; exact fp7.trans (FQ.w (by omega))
          have C1 : y_I gC 108 (Int.toNat (4 * W)) = R - 1 := by rw [← eC, yI_sI_o (by omega), f6.2 _ _ (by omega), d6.2 _ _ (by omega)]; exact B1
          have C2 : y_I gC 108 (Int.toNat (4 * W + 1)) = q := by rw [← eC, yI_sI_o (by omega), f6.2 _ _ (by omega), d6.2 _ _ (by omega)]; exact B2
          have C3 : y_I gC 108 (Int.toNat (4 * W + 2)) = w2 := by rw [← eC, yI_sI_o (by omega), f6.2 _ _ (by omega), d6.2 _ _ (by omega)]; exact B3
          have C4 : y_I gC 108 (Int.toNat (4 * W + 3)) = w3 := by rw [← eC, yI_sI_e ⟨rfl, rfl⟩]
          have mW7 : y_I gC 94 24 = W := (FC.2 _ _ (by omega) (by omega)).trans hW
          have xR7 : y_I h7 b 2 = R := (fx7.2 _ _ (by omega)).trans xR
          have xW7 : y_I h7 b 3 = W := (fx7.2 _ _ (by omega)).trans xW
          have DD := want_fin D R W rmV wmV h1 h24 fx7 (FQ.up (R := R) FC) q w2 w3 (by rw [yI_sI_o (by omega)]; exact C1) (by rw [yI_sI_o (by omega)]; exact C2) (by rw [yI_sI_o (by omega)]; exact C3) (by rw [yI_sI_o (by omega)]; exact C4) hN hw (by rw [pmV]; exact bq) y2 o2
          rw [y_sI_cm (by omega)] at DD
          have xo : ∀ a k, ¬ (b ≤ a ∧ a ≤ b + 15) → y_I (x_aw h7 b R W q w2 w3) a k = y_I h7 a k := fun a k z => by
            unfold x_aw
            simp (disch := omega) only [yI_sI_o]
          refine ⟨1, q7, x_aw h7 b R W q w2 w3, y_sI gC 94 24 (W + 1), fun d hd => ?_, fun d hd => ?_, ?_, ?_, fx7.xx.trans ⟨fun a k z1 z2 => xo a k z2, rfl, fun a k z => rfl⟩, FC.mm.trans ⟨fun a k z1 z2 => yI_sI_o (by omega), rfl⟩, Or.inr rfl, by omega, fun _ => ⟨by omega, DD, fun a k z1 z2 => ?_, yI_sI_e ⟨rfl, rfl⟩, ?_, ?_⟩⟩
          · obtain ⟨d, rfl⟩ : ∃ e, d = e + 1 := ⟨d - 1, by omega⟩
            rw [e28, b28_0, s22 d (by omega) S hc hn (by omega), yci_s, if_pos cf, hq, S.2.1, yH0 hb, xW, if_pos h24, yH0 hb, s2g d (by omega) D.1, pmV, yci_s, if_neg (by rw [bi_t (by omega)]; omega), S.2.1, yH0 hb, xR, yr_t (by omega), yH0 hb, s13 d (by omega) D.1 kw, yci_s, if_pos hw, i2, yr_t (by omega), c1 d (by omega), yci_s, if_neg (by omega), m1 d (by omega), yci_s, if_neg (by omega), d1 d (by omega), yci_s, if_neg (by omega), f1 d (by omega), yci_s, if_neg (by omega), f3.2.1, yH0 hb, y1, o1, s10 d (by omega) hb R W xR7 xW7 (by omega) (by omega), ycv_s]
          · obtain ⟨d, rfl⟩ : ∃ e, d = e + 1 := ⟨d - 1, by omega⟩
            rw [e163, b163_0, m2, yr_t (by omega), mW1, yr_t (by omega), yi_t (by omega), mR1, yhb_s, yr_t (by omega), yi_t (by omega), eA, c2 d (by omega), yci_s, if_neg (by omega), n2 d (by omega), yci_s, if_neg (by omega), yr_t (by omega), yi_t (by omega), ew2, eB, yhb_s, d2 d (by omega), yci_s, if_neg (by omega), f2 d (by omega), yci_s, if_neg (by omega), yr_t (by omega), yi_t (by omega), ew3, eC, yhb_s, mW7, yr_t (by omega)]
          · exact ⟨f3.1, f3.2.1, by rw [xo _ _ (by omega)]; exact f3.2.2.1, by rw [xo _ _ (by omega)]; exact f3.2.2.2.1, fun i i1 i2 => by rw [xo _ _ (by omega)]; exact f3.2.2.2.2 i i1 i2⟩
          · exact ⟨by rw [yI_sI_o (by omega)]; exact MC.1, by rw [yI_sI_o (by omega)]; exact MC.2.1, fun i i1 i2 => by rw [yI_sI_o (by omega)]; exact MC.2.2 i i1 i2⟩
          · rw [yI_sI_o (by omega)]; exact FC.2 a k (by omega) z2
          · rw [yI_sI_o (by omega)]; exact C1
          · rw [yI_sI_o (by omega)]; exact C2
end IT
