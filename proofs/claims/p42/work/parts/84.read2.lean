/-! READING A HOUSE, an item for a reader -/
section IT
variable {sc : z_Sc} {h g : y_Hp} {c b : Nat} {t n p : Int} {T : Int → Int}
theorem K_read (S : XS c b n T p h) (M : MS t n T p g) (D : DR h b g) (hT : ∀ i, 0 ≤ i → i < n → -128 ≤ T i ∧ T i ≤ 127) (hc : 14 ≤ c ∧ c ≤ 17) (ht : 0 ≤ t ∧ t < 4) (hn : n ≤ 120) (hp : 0 ≤ p ∧ p < n) : KI sc c b t n T p h g 27 162 := by
  have hb := D.1.1
  have i2 := S.2.2.2.1
  have m2 := M.2.1
  have kw := D.2.1.2.2.1
  have kr := D.2.1.2.1
  have kp := D.2.1.1
  generalize hR : g_rm (dv g) = R at kr
  have mR : y_I g 94 23 = R := hR
  have xR : y_I h b 2 = R := D.1.2.2.2.1.trans hR
  by_cases h8 : R < 8
  · have S1 := S.at hc (p + 1)
    obtain ⟨u1, q1, h1, g1, a1, a2, a3, a4, a5, a6, a7, a8, a9⟩ := K_min (sc := sc) S1 (M.at (p + 1)) hc ht hn (by omega) 0 60
    have fx1 : FX h h1 := FX.p.trans a5
    have fm1 : FM g g1 := FM.p.trans a6
    rcases a7 with e | e
    · subst e
      refine ⟨0, q1, h1, g1, fun d hd => ?_, fun d hd => ?_, a3, a4, fx1.xx, fm1.mm, Or.inl rfl, by omega, fun q => by omega⟩
      · obtain ⟨d, rfl⟩ : ∃ e, d = e + 1 := ⟨d - 1, by omega⟩
        rw [e27, b27_0, S.2.1, yH0 hb, xR, if_pos h8, i2, yr_t (by omega), a1 d (by omega), yci_s, if_pos rfl]
      · obtain ⟨d, rfl⟩ : ∃ e, d = e + 1 := ⟨d - 1, by omega⟩
        rw [e162, b162_0, mR, if_neg (by omega), m2, yr_t (by omega), a2 d (by omega), yci_s, if_pos rfl]
    · subst e
      obtain ⟨v1, v2⟩ := a9 rfl
      generalize ew1 : y_I g1 94 20 = w1 at v1 v2
      obtain ⟨u2, q2, h2, g2, c1, c2, c3, c4, c5, c6, c7, c8, -, -⟩ := K_sign (sc := sc) a3 a4 hc ht hn (by omega) 45 (by omega)
      have fx2 : FX h h2 := fx1.trans c5
      have fm2 : FM g g2 := fm1.trans c6
      rcases c7 with e | e
      · subst e
        refine ⟨0, q2, h2, g2, fun d hd => ?_, fun d hd => ?_, c3, c4, fx2.xx, fm2.mm, Or.inl rfl, by omega, fun q => by omega⟩
        · obtain ⟨d, rfl⟩ : ∃ e, d = e + 1 := ⟨d - 1, by omega⟩
          rw [e27, b27_0, S.2.1, yH0 hb, xR, if_pos h8, i2, yr_t (by omega), a1 d (by omega), yci_s, if_neg (by omega), c1 d (by omega), yci_s, if_pos rfl]
        · obtain ⟨d, rfl⟩ : ∃ e, d = e + 1 := ⟨d - 1, by omega⟩
          rw [e162, b162_0, mR, if_neg (by omega), m2, yr_t (by omega), a2 d (by omega), yci_s, if_neg (by omega), c2 d (by omega), yci_s, if_pos rfl]
      · subst e
        obtain ⟨u5, q5, h5, g5, m1, n2, n3, n4, n5, n6, n7, n8, n9⟩ := K_min (sc := sc) c3 c4 hc ht hn (by omega) (w1 + 1) 60
        have fx5 : FX h h5 := fx2.trans n5
        have fm5 : FM g g5 := fm2.trans n6
        rcases n7 with e | e
        · subst e
          refine ⟨0, q5, h5, g5, fun d hd => ?_, fun d hd => ?_, n3, n4, fx5.xx, fm5.mm, Or.inl rfl, by omega, fun q => by omega⟩
          · obtain ⟨d, rfl⟩ : ∃ e, d = e + 1 := ⟨d - 1, by omega⟩
            rw [e27, b27_0, S.2.1, yH0 hb, xR, if_pos h8, i2, yr_t (by omega), a1 d (by omega), yci_s, if_neg (by omega), c1 d (by omega), yci_s, if_neg (by omega), v1, yr_t (by omega), m1 d (by omega), yci_s, if_pos rfl]
          · obtain ⟨d, rfl⟩ : ∃ e, d = e + 1 := ⟨d - 1, by omega⟩
            rw [e162, b162_0, mR, if_neg (by omega), m2, yr_t (by omega), a2 d (by omega), yci_s, if_neg (by omega), c2 d (by omega), yci_s, if_neg (by omega), ew1, yr_t (by omega), n2 d (by omega), yci_s, if_pos rfl]
        · subst e
          obtain ⟨y1, y2⟩ := n9 rfl
          generalize ew2 : y_I g5 94 20 = w2 at y1 y2
          have mR5 : y_I g5 94 23 = R := (fm5.2 _ _ (by omega)).trans mR
          have e20 : y_I (y_sI g5 107 (Int.toNat (3 * R)) w1) 94 20 = w2 := by rw [yI_sI_o (by omega)]; exact ew2
          generalize eB : y_sI (y_sI g5 107 (Int.toNat (3 * R)) w1) 107 (Int.toNat (3 * R + 1)) w2 = gB
          have MB : MS t n T q5 gB := by rw [← eB]; exact (n4.w (by omega)).w (by omega)
          have FB : FP 107 R g gB := by rw [← eB]; exact (fm5.fp.trans (FP.w (by omega))).trans (FP.w (by omega))
          have B1 : y_I gB 107 (Int.toNat (3 * R)) = w1 := by rw [← eB, yI_sI_o (by omega), yI_sI_e ⟨rfl, rfl⟩]
          have B2 : y_I gB 107 (Int.toNat (3 * R + 1)) = w2 := by rw [← eB, yI_sI_e ⟨rfl, rfl⟩]
          obtain ⟨u6, q6, h6, g6, d1, d2, d3, d4, d5, d6, d7, d8, -, -⟩ := K_sign (sc := sc) n3 MB hc ht hn (by omega) 40 (by omega)
          have fx6 : FX h h6 := fx5.trans d5
          have fp6 : FP 107 R g g6 := FB.trans d6.fp
          rcases d7 with e | e
          · subst e
            refine ⟨0, q6, h6, g6, fun d hd => ?_, fun d hd => ?_, d3, d4, fx6.xx, fp6.mm (by omega), Or.inl rfl, by omega, fun q => by omega⟩
            · obtain ⟨d, rfl⟩ : ∃ e, d = e + 1 := ⟨d - 1, by omega⟩
              rw [e27, b27_0, S.2.1, yH0 hb, xR, if_pos h8, i2, yr_t (by omega), a1 d (by omega), yci_s, if_neg (by omega), c1 d (by omega), yci_s, if_neg (by omega), v1, yr_t (by omega), m1 d (by omega), yci_s, if_neg (by omega), d1 d (by omega), yci_s, if_pos rfl]
            · obtain ⟨d, rfl⟩ : ∃ e, d = e + 1 := ⟨d - 1, by omega⟩
              rw [e162, b162_0, mR, if_neg (by omega), m2, yr_t (by omega), a2 d (by omega), yci_s, if_neg (by omega), c2 d (by omega), yci_s, if_neg (by omega), ew1, yr_t (by omega), n2 d (by omega), yci_s, if_neg (by omega), mR5, yr_t (by omega), yi_t (by omega), yr_t (by omega), yi_t (by omega), e20, eB, yhb_s, d2 d (by omega), yci_s, if_pos rfl]
          · subst e
            obtain ⟨u7, q7, h7, g7, f1, f2, f3, f4, f5, f6, f7, f8, -, -⟩ := K_sign (sc := sc) d3 d4 hc ht hn (by omega) 33 (by omega)
            have fx7 : FX h h7 := fx6.trans f5
            have fp7 : FP 107 R g g7 := fp6.trans f6.fp
            have xR7 : y_I h7 b 2 = R := (fx7.2 _ _ (by omega)).trans xR
            generalize eC : y_sI g7 107 (Int.toNat (3 * R + 2)) u7 = gC
            have MC : MS t n T q7 gC := by rw [← eC]; exact f4.w (by omega)
            have FC : FP 107 R g gC := by rw [← eC]; exact fp7.trans (FP.w (by omega))
            have C1 : y_I gC 107 (Int.toNat (3 * R)) = w1 := by rw [← eC, yI_sI_o (by omega), f6.2 _ _ (by omega), d6.2 _ _ (by omega)]; exact B1
            have C2 : y_I gC 107 (Int.toNat (3 * R + 1)) = w2 := by rw [← eC, yI_sI_o (by omega), f6.2 _ _ (by omega), d6.2 _ _ (by omega)]; exact B2
            have C3 : y_I gC 107 (Int.toNat (3 * R + 2)) = u7 := by rw [← eC, yI_sI_e ⟨rfl, rfl⟩]
            have DD := reader_fin D R hR h8 fx7 FC w1 w2 u7 C1 C2 C3 (by omega) f7
            have xo : ∀ a k, ¬ (b ≤ a ∧ a ≤ b + 15) → y_I (x_ar h7 b R w1 w2 u7) a k = y_I h7 a k := fun a k z => by
              unfold x_ar
              simp (disch := omega) only [yI_sI_o]
            have XC : XS c b n T q7 (x_ar h7 b R w1 w2 u7) := ⟨f3.1, f3.2.1, by rw [xo _ _ (by omega)]; exact f3.2.2.1, by rw [xo _ _ (by omega)]; exact f3.2.2.2.1, fun i i1 i2 => by rw [xo _ _ (by omega)]; exact f3.2.2.2.2 i i1 i2⟩
            have e1 : R + 1 - 1 = R := by omega
            have gRC : y_I gC 94 23 = R + 1 - 1 := by rw [e1]; exact (FC.2 _ _ (by omega) (by omega)).trans mR
            have ga : ∀ a k, ¬ (a = 94 ∧ k = 10) → ¬ (a = 102 ∧ Int.toNat (3 * R) ≤ k ∧ k ≤ Int.toNat (3 * R) + 2) → dv (y_sI gC 94 23 (R + 1)) a k = dv g a k := fun a k q r => dv_pt a k (fun e e1 e2 => by rw [yI_sI_o (by omega), FC.2 _ _ (by omega) (by omega)]) (fun e => by rw [yI_sI_o (by omega), FC.2 _ _ (by omega) (by omega)]) (fun e => by rw [yI_sI_o (by omega), FC.2 _ _ (by omega) (by omega)])
            have nm : g_nm (dv (y_sI gC 94 23 (R + 1))) = g_nm (dv g) := ga _ _ (by omega) (by omega)
            have wm : g_wm (dv (y_sI gC 94 23 (R + 1))) = g_wm (dv g) := ga _ _ (by omega) (by omega)
            have r4 : dv (y_sI gC 94 23 (R + 1)) 104 = dv g 104 := funext fun k => ga _ _ (by omega) (by omega)
            have rd : ∀ w, g_rd (dv (y_sI gC 94 23 (R + 1))) w = g_rd (dv g) w := fun w => ga _ _ (by omega) (by omega)
            have na : ∀ r q p, g_na (dv (y_sI gC 94 23 (R + 1))) r q p = g_na (dv g) r q p := fun r q p => by unfold g_na; rw [nm, r4]
            obtain ⟨u, q', h', g', k1, k2, k3, k4, k5, k6, k7, k8, k9⟩ := K_wants (sc := sc) hT hc ht hn (R + 1) (by omega) n.toNat q7 (x_ar h7 b R w1 w2 u7) gC 0 0 (by omega) XC MC DD gRC (fun r q p z => by
              rw [na] at z
              have := g_na_in D.2.2.1 (by have := D.2.1.2.2.2.1; omega) z
              omega) (fun q z1 z2 => by
              rw [g_wf_n9 (by omega), wm]
              constructor
              · intro z
                exact absurd z ub_0
              · rintro ⟨w, y1, y2, y3, -⟩
                have := (D.2.1.2.2.2.2.2.2.2.2.1 w y1 y2).1
                rw [rd] at y3
                omega) u_mks_0 (by omega)
            refine ⟨u, q', h', g', fun d hd => ?_, fun d hd => ?_, k3, k4, (fx7.xx.trans ⟨fun a k z1 z2 => xo a k z2, rfl, fun a k z => rfl⟩).trans k5, (FC.mm (by omega)).trans k6, k7, by omega, fun e => ⟨by omega, k9 e⟩⟩
            · obtain ⟨d, rfl⟩ : ∃ e, d = e + 1 := ⟨d - 1, by omega⟩
              rw [e27, b27_0, S.2.1, yH0 hb, xR, if_pos h8, i2, yr_t (by omega), a1 d (by omega), yci_s, if_neg (by omega), c1 d (by omega), yci_s, if_neg (by omega), v1, yr_t (by omega), m1 d (by omega), yci_s, if_neg (by omega), d1 d (by omega), yci_s, if_neg (by omega), f1 d (by omega), yci_s, d3.2.1, yH0 hb, y1, s9 d (by omega) hb R xR7 (by omega) w1 w2 u7 f7, ycv_s, k1 d _ _ (by omega)]
            · obtain ⟨d, rfl⟩ : ∃ e, d = e + 1 := ⟨d - 1, by omega⟩
              rw [e162, b162_0, mR, if_neg (by omega), m2, yr_t (by omega), a2 d (by omega), yci_s, if_neg (by omega), c2 d (by omega), yci_s, if_neg (by omega), ew1, yr_t (by omega), n2 d (by omega), yci_s, if_neg (by omega), mR5, yr_t (by omega), yi_t (by omega), yr_t (by omega), yi_t (by omega), e20, eB, yhb_s, d2 d (by omega), yci_s, if_neg (by omega), yr_t (by omega), f2 d (by omega), yci_s]
              rcases f7 with e | e
              · subst e
                rw [if_pos rfl, yi_t (by omega), eC, k2 d _ _ _ (by omega)]
              · subst e
                rw [if_neg (by omega), yi_t (by omega), eC, k2 d _ _ _ (by omega)]
  · refine ⟨0, p, h, g, fun d hd => ?_, fun d hd => ?_, S, M, FX.refl.xx, FM.refl.mm, Or.inl rfl, by omega, fun q => by omega⟩
    · obtain ⟨d, rfl⟩ : ∃ e, d = e + 1 := ⟨d - 1, by omega⟩
      rw [e27, b27_0, S.2.1, yH0 hb, xR, if_neg h8]
    · obtain ⟨d, rfl⟩ : ∃ e, d = e + 1 := ⟨d - 1, by omega⟩
      rw [e162, b162_0, mR, if_pos (by omega)]
end IT
