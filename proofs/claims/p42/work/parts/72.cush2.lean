/-! READING A HOUSE, an item for a cushion -/
section IT
variable {sc : z_Sc} {h g : y_Hp} {c b : Nat} {t n p : Int} {T : Int → Int}
theorem K_cush (S : XS c b n T p h) (M : MS t n T p g) (D : DR h b g) (hT : ∀ i, 0 ≤ i → i < n → -128 ≤ T i ∧ T i ≤ 127) (hc : 14 ≤ c ∧ c ≤ 17) (ht : 0 ≤ t ∧ t < 4) (hn : n ≤ 120) (hp : 0 ≤ p ∧ p < n) : KI sc c b t n T p h g 30 165 := by
  have hb := D.1.1
  have i2 := S.2.2.2.1
  have m2 := M.2.1
  have kp := D.2.1.1
  have ku := D.2.1.2.2.2.2.1
  generalize hU : g_um (dv g) = U at ku
  generalize hP : g_pm (dv g) = P at kp
  have mU : y_I g 94 26 = U := hU
  have xU : y_I h 19 5 = U := D.2.2.2.2.trans hU
  by_cases h8 : U < 8
  · have S1 := S.at hc (p + 1)
    have xP1 : y_I (y_sI h 19 2 (p + 1)) b 1 = P := by rw [yI_sI_o (by omega)]; exact D.1.2.2.1.trans hP
    have mU1 : y_I (y_sI g 94 19 (p + 1)) 94 26 = U := by rw [yI_sI_o (by omega)]; exact mU
    have mP1 : y_I (y_sI g 94 19 (p + 1)) 94 22 = P := by rw [yI_sI_o (by omega)]; exact hP
    obtain ⟨u1, q1, h1, g1, a1, a2, a3, a4, a5, a6, a7, a8, a9⟩ := K_fig (sc := sc) S1 (M.at (p + 1)) hT hc ht hn (by omega) 0 (P - 1)
    have fx1 : FX h h1 := FX.p.trans a5
    have fm1 : FM g g1 := FM.p.trans a6
    rcases a7 with e | e
    · subst e
      refine ⟨0, q1, h1, g1, fun d hd => ?_, fun d hd => ?_, a3, a4, fx1.xx, fm1.mm, Or.inl rfl, by omega, fun q => by omega⟩
      · obtain ⟨d, rfl⟩ : ∃ e, d = e + 1 := ⟨d - 1, by omega⟩
        rw [e30, b30_0, xU, if_pos h8, i2, yr_t (by omega), S1.2.1, yH0 hb, xP1, yr_t (by omega), a1 d (by omega), yci_s, if_pos rfl]
      · obtain ⟨d, rfl⟩ : ∃ e, d = e + 1 := ⟨d - 1, by omega⟩
        rw [e165, b165_0, mU, if_neg (by omega), m2, yr_t (by omega), mU1, yr_t (by omega), mP1, yr_t (by omega), a2 d (by omega), yci_s, if_pos rfl]
    · subst e
      obtain ⟨v1, v2, v3⟩ := a9 rfl
      generalize ew1 : y_I g1 94 20 = w1 at v1 v2 v3
      generalize eA : y_sI g1 110 (Int.toNat (3 * U)) w1 = gA
      have MA : MS t n T q1 gA := by rw [← eA]; exact a4.w (by omega)
      have FA : FP 110 U g gA := by rw [← eA]; exact fm1.fp.trans (FP.w (by omega))
      have A1 : y_I gA 110 (Int.toNat (3 * U)) = w1 := by rw [← eA, yI_sI_e ⟨rfl, rfl⟩]
      obtain ⟨u2, q2, h2, g2, c1, c2, c3, c4, c5, c6, c7, c8, -, -⟩ := K_sign (sc := sc) a3 MA hc ht hn (by omega) 64 (by omega)
      have fx2 : FX h h2 := fx1.trans c5
      have fp2 : FP 110 U g g2 := FA.trans c6.fp
      rcases c7 with e | e
      · subst e
        refine ⟨0, q2, h2, g2, fun d hd => ?_, fun d hd => ?_, c3, c4, fx2.xx, fp2.mm (by omega), Or.inl rfl, by omega, fun q => by omega⟩
        · obtain ⟨d, rfl⟩ : ∃ e, d = e + 1 := ⟨d - 1, by omega⟩
          rw [e30, b30_0, xU, if_pos h8, i2, yr_t (by omega), S1.2.1, yH0 hb, xP1, yr_t (by omega), a1 d (by omega), yci_s, if_neg (by omega), c1 d (by omega), yci_s, if_pos rfl]
        · obtain ⟨d, rfl⟩ : ∃ e, d = e + 1 := ⟨d - 1, by omega⟩
          rw [e165, b165_0, mU, if_neg (by omega), m2, yr_t (by omega), mU1, yr_t (by omega), mP1, yr_t (by omega), a2 d (by omega), yci_s, if_neg (by omega), yi_t (by omega), ew1, eA, yhb_s, c2 d (by omega), yci_s, if_pos rfl]
      · subst e
        obtain ⟨u5, q5, h5, g5, m1, n2, n3, n4, n5, n6, n7, n8, n9⟩ := K_min (sc := sc) c3 c4 hc ht hn (by omega) 0 60
        have fx5 : FX h h5 := fx2.trans n5
        have fp5 : FP 110 U g g5 := fp2.trans n6.fp
        rcases n7 with e | e
        · subst e
          refine ⟨0, q5, h5, g5, fun d hd => ?_, fun d hd => ?_, n3, n4, fx5.xx, fp5.mm (by omega), Or.inl rfl, by omega, fun q => by omega⟩
          · obtain ⟨d, rfl⟩ : ∃ e, d = e + 1 := ⟨d - 1, by omega⟩
            rw [e30, b30_0, xU, if_pos h8, i2, yr_t (by omega), S1.2.1, yH0 hb, xP1, yr_t (by omega), a1 d (by omega), yci_s, if_neg (by omega), c1 d (by omega), yci_s, if_neg (by omega), m1 d (by omega), yci_s, if_pos rfl]
          · obtain ⟨d, rfl⟩ : ∃ e, d = e + 1 := ⟨d - 1, by omega⟩
            rw [e165, b165_0, mU, if_neg (by omega), m2, yr_t (by omega), mU1, yr_t (by omega), mP1, yr_t (by omega), a2 d (by omega), yci_s, if_neg (by omega), yi_t (by omega), ew1, eA, yhb_s, c2 d (by omega), yci_s, if_neg (by omega), n2 d (by omega), yci_s, if_pos rfl]
        · subst e
          obtain ⟨y1, y2⟩ := n9 rfl
          generalize ew2 : y_I g5 94 20 = w2 at y1 y2
          generalize eB : y_sI g5 110 (Int.toNat (3 * U + 1)) w2 = gB
          have MB : MS t n T q5 gB := by rw [← eB]; exact n4.w (by omega)
          have FB : FP 110 U g gB := by rw [← eB]; exact fp5.trans (FP.w (by omega))
          have B1 : y_I gB 110 (Int.toNat (3 * U)) = w1 := by rw [← eB, yI_sI_o (by omega), n6.2 _ _ (by omega), c6.2 _ _ (by omega)]; exact A1
          have B2 : y_I gB 110 (Int.toNat (3 * U + 1)) = w2 := by rw [← eB, yI_sI_e ⟨rfl, rfl⟩]
          obtain ⟨u6, q6, h6, g6, d1, d2, d3, d4, d5, d6, d7, d8, -, -⟩ := K_sign (sc := sc) n3 MB hc ht hn (by omega) 45 (by omega)
          have fx6 : FX h h6 := fx5.trans d5
          have fp6 : FP 110 U g g6 := FB.trans d6.fp
          have C2 : y_I g6 110 (Int.toNat (3 * U + 1)) = w2 := (d6.2 _ _ (by omega)).trans B2
          rcases d7 with e | e
          · subst e
            refine ⟨0, q6, h6, g6, fun d hd => ?_, fun d hd => ?_, d3, d4, fx6.xx, fp6.mm (by omega), Or.inl rfl, by omega, fun q => by omega⟩
            · obtain ⟨d, rfl⟩ : ∃ e, d = e + 1 := ⟨d - 1, by omega⟩
              rw [e30, b30_0, xU, if_pos h8, i2, yr_t (by omega), S1.2.1, yH0 hb, xP1, yr_t (by omega), a1 d (by omega), yci_s, if_neg (by omega), c1 d (by omega), yci_s, if_neg (by omega), m1 d (by omega), yci_s, if_neg (by omega), d1 d (by omega), yci_s, if_pos rfl]
            · obtain ⟨d, rfl⟩ : ∃ e, d = e + 1 := ⟨d - 1, by omega⟩
              rw [e165, b165_0, mU, if_neg (by omega), m2, yr_t (by omega), mU1, yr_t (by omega), mP1, yr_t (by omega), a2 d (by omega), yci_s, if_neg (by omega), yi_t (by omega), ew1, eA, yhb_s, c2 d (by omega), yci_s, if_neg (by omega), n2 d (by omega), yci_s, if_neg (by omega), yr_t (by omega), yi_t (by omega), ew2, eB, yhb_s, d2 d (by omega), yci_s, if_pos rfl]
          · subst e
            obtain ⟨u7, q7, h7, g7, f1, f2, f3, f4, f5, f6, f7, f8, f9⟩ := K_min (sc := sc) d3 d4 hc ht hn (by omega) w2 60
            have fx7 : FX h h7 := fx6.trans f5
            have fp7 : FP 110 U g g7 := fp6.trans f6.fp
            rcases f7 with e | e
            · subst e
              refine ⟨0, q7, h7, g7, fun d hd => ?_, fun d hd => ?_, f3, f4, fx7.xx, fp7.mm (by omega), Or.inl rfl, by omega, fun q => by omega⟩
              · obtain ⟨d, rfl⟩ : ∃ e, d = e + 1 := ⟨d - 1, by omega⟩
                rw [e30, b30_0, xU, if_pos h8, i2, yr_t (by omega), S1.2.1, yH0 hb, xP1, yr_t (by omega), a1 d (by omega), yci_s, if_neg (by omega), c1 d (by omega), yci_s, if_neg (by omega), m1 d (by omega), yci_s, if_neg (by omega), d1 d (by omega), yci_s, if_neg (by omega), y1, f1 d (by omega), yci_s, if_pos rfl]
              · obtain ⟨d, rfl⟩ : ∃ e, d = e + 1 := ⟨d - 1, by omega⟩
                rw [e165, b165_0, mU, if_neg (by omega), m2, yr_t (by omega), mU1, yr_t (by omega), mP1, yr_t (by omega), a2 d (by omega), yci_s, if_neg (by omega), yi_t (by omega), ew1, eA, yhb_s, c2 d (by omega), yci_s, if_neg (by omega), n2 d (by omega), yci_s, if_neg (by omega), yr_t (by omega), yi_t (by omega), ew2, eB, yhb_s, d2 d (by omega), yci_s, if_neg (by omega), yr_t (by omega), yi_t (by omega), C2, f2 d (by omega), yci_s, if_pos rfl]
            · subst e
              obtain ⟨o1, o2⟩ := f9 rfl
              generalize ew3 : y_I g7 94 20 = w3 at o1 o2
              have xU7 : y_I h7 19 5 = U := (fx7.2 _ _ (by omega)).trans xU
              have mU7 : y_I (y_sI g7 110 (Int.toNat (3 * U + 2)) w3) 94 26 = U := by rw [yI_sI_o (by omega)]; exact (fp7.2 _ _ (by omega) (by omega)).trans mU
              obtain ⟨z1, z2, z3, z4, z5⟩ := cush_fin f3 (f4.w (a := 110) (k := Int.toNat (3 * U + 2)) (v := w3) (by omega)) D hc U hU h8 fx7 (fp7.trans (FP.w (by omega))) w1 w2 w3 (by rw [yI_sI_o (by omega), f6.2 _ _ (by omega), d6.2 _ _ (by omega)]; exact B1) (by rw [yI_sI_o (by omega), f6.2 _ _ (by omega)]; exact C2) (yI_sI_e ⟨rfl, rfl⟩) (by omega) (by omega)
              refine ⟨1, q7, _, _, fun d hd => ?_, fun d hd => ?_, z1, z2, z3, z4, Or.inr rfl, by omega, fun _ => ⟨by omega, z5⟩⟩
              · obtain ⟨d, rfl⟩ : ∃ e, d = e + 1 := ⟨d - 1, by omega⟩
                rw [e30, b30_0, xU, if_pos h8, i2, yr_t (by omega), S1.2.1, yH0 hb, xP1, yr_t (by omega), a1 d (by omega), yci_s, if_neg (by omega), c1 d (by omega), yci_s, if_neg (by omega), m1 d (by omega), yci_s, if_neg (by omega), d1 d (by omega), yci_s, if_neg (by omega), y1, f1 d (by omega), yci_s, if_neg (by omega), f3.2.1, yH0 hb, o1, v1, s12 d (by omega) hb w1 w2 w3 (by omega) (by omega), ycv_s, x_cv_I, xU7, yr_t (by omega)]
              · obtain ⟨d, rfl⟩ : ∃ e, d = e + 1 := ⟨d - 1, by omega⟩
                rw [e165, b165_0, mU, if_neg (by omega), m2, yr_t (by omega), mU1, yr_t (by omega), mP1, yr_t (by omega), a2 d (by omega), yci_s, if_neg (by omega), yi_t (by omega), ew1, eA, yhb_s, c2 d (by omega), yci_s, if_neg (by omega), n2 d (by omega), yci_s, if_neg (by omega), yr_t (by omega), yi_t (by omega), ew2, eB, yhb_s, d2 d (by omega), yci_s, if_neg (by omega), yr_t (by omega), yi_t (by omega), C2, f2 d (by omega), yci_s, if_neg (by omega), yr_t (by omega), yi_t (by omega), ew3, yhb_s, mU7, yr_t (by omega)]
  · refine ⟨0, p, h, g, fun d hd => ?_, fun d hd => ?_, S, M, FX.refl.xx, FM.refl.mm, Or.inl rfl, by omega, fun q => by omega⟩
    · obtain ⟨d, rfl⟩ : ∃ e, d = e + 1 := ⟨d - 1, by omega⟩
      rw [e30, b30_0, xU, if_neg h8]
    · obtain ⟨d, rfl⟩ : ∃ e, d = e + 1 := ⟨d - 1, by omega⟩
      rw [e165, b165_0, mU, if_pos (by omega)]
end IT
