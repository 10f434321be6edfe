/-! READING A HOUSE, an item for a not -/
section IT
variable {sc : z_Sc} {h g : y_Hp} {c b : Nat} {t n p : Int} {T : Int → Int}
theorem x_fb_4 {u v q : Int} (hb : b = 62 ∨ b = 78) : y_I (x_fb h b u v q) 19 4 = y_I h 19 4 := by
  unfold x_fb
  split
  · rfl
  · rw [yI_sI_o (by omega), yI_sI_o (by omega)]
theorem K_not (S : XS c b n T p h) (M : MS t n T p g) (D : DR h b g) (hT : ∀ i, 0 ≤ i → i < n → -128 ≤ T i ∧ T i ≤ 127) (hc : 14 ≤ c ∧ c ≤ 17) (ht : 0 ≤ t ∧ t < 4) (hn : n ≤ 120) (hp : 0 ≤ p ∧ p < n) : KI sc c b t n T p h g 29 164 := by
  have hb := D.1.1
  have i2 := S.2.2.2.1
  have m2 := M.2.1
  have kw := D.2.1.2.2.1
  have kr := D.2.1.2.1
  have kp := D.2.1.1
  have ku := D.2.1.2.2.2.1
  generalize hU : g_nm (dv g) = U at ku
  generalize hP : g_pm (dv g) = P at kp
  generalize hR : g_rm (dv g) = R at kr
  have mU : y_I g 94 25 = U := hU
  have xU : y_I h 19 4 = U := D.2.2.2.1.trans hU
  have xR : y_I h b 2 = R := D.1.2.2.2.1.trans hR
  have xP : y_I h b 1 = P := D.1.2.2.1.trans hP
  by_cases h8 : U < 8
  · have S1 := S.at hc (p + 1)
    have xR1 : y_I (y_sI h 19 2 (p + 1)) b 2 = R := by rw [yI_sI_o (by omega)]; exact xR
    have mU1 : y_I (y_sI g 94 19 (p + 1)) 94 25 = U := by rw [yI_sI_o (by omega)]; exact mU
    have mR1 : y_I (y_sI g 94 19 (p + 1)) 94 23 = R := by rw [yI_sI_o (by omega)]; exact hR
    obtain ⟨u1, q1, h1, g1, a1, a2, a3, a4, a5, a6, a7, a8, a9⟩ := K_fig (sc := sc) S1 (M.at (p + 1)) hT hc ht hn (by omega) 0 (R - 1)
    have fx1 : FX h h1 := FX.p.trans a5
    have fm1 : FM g g1 := FM.p.trans a6
    rcases a7 with e | e
    · subst e
      refine ⟨0, q1, h1, g1, fun d hd => ?_, fun d hd => ?_, a3, a4, fx1.xx, fm1.mm, Or.inl rfl, by omega, fun q => by omega⟩
      · obtain ⟨d, rfl⟩ : ∃ e, d = e + 1 := ⟨d - 1, by omega⟩
        rw [e29, b29_0, xU, if_pos h8, i2, yr_t (by omega), S1.2.1, yH0 hb, xR1, yr_t (by omega), a1 d (by omega), yci_s, if_pos rfl]
      · obtain ⟨d, rfl⟩ : ∃ e, d = e + 1 := ⟨d - 1, by omega⟩
        rw [e164, b164_0, mU, if_neg (by omega), m2, yr_t (by omega), mU1, yr_t (by omega), mR1, yr_t (by omega), a2 d (by omega), yci_s, if_pos rfl]
    · subst e
      obtain ⟨v1, v2, v3⟩ := a9 rfl
      generalize ew1 : y_I g1 94 20 = w1 at v1 v2 v3
      generalize eA : y_sI g1 109 (Int.toNat (3 * U)) w1 = gA
      have MA : MS t n T q1 gA := by rw [← eA]; exact a4.w (by omega)
      have FA : FP 109 U g gA := by rw [← eA]; exact fm1.fp.trans (FP.w (by omega))
      have A1 : y_I gA 109 (Int.toNat (3 * U)) = w1 := by rw [← eA, yI_sI_e ⟨rfl, rfl⟩]
      obtain ⟨u2, q2, h2, g2, c1, c2, c3, c4, c5, c6, c7, c8, -, -⟩ := K_sign (sc := sc) a3 MA hc ht hn (by omega) 47 (by omega)
      have fx2 : FX h h2 := fx1.trans c5
      have fp2 : FP 109 U g g2 := FA.trans c6.fp
      have C1 : y_I g2 109 (Int.toNat (3 * U)) = w1 := (c6.2 _ _ (by omega)).trans A1
      have xR2 : y_I h2 b 2 = R := (fx2.2 _ _ (by omega)).trans xR
      have mR2 : y_I g2 94 23 = R := (fp2.2 _ _ (by omega) (by omega)).trans hR
      rcases c7 with e | e
      · subst e
        refine ⟨0, q2, h2, g2, fun d hd => ?_, fun d hd => ?_, c3, c4, fx2.xx, fp2.mm (by omega), Or.inl rfl, by omega, fun q => by omega⟩
        · obtain ⟨d, rfl⟩ : ∃ e, d = e + 1 := ⟨d - 1, by omega⟩
          rw [e29, b29_0, xU, if_pos h8, i2, yr_t (by omega), S1.2.1, yH0 hb, xR1, yr_t (by omega), a1 d (by omega), yci_s, if_neg (by omega), c1 d (by omega), yci_s, if_pos rfl]
        · obtain ⟨d, rfl⟩ : ∃ e, d = e + 1 := ⟨d - 1, by omega⟩
          rw [e164, b164_0, mU, if_neg (by omega), m2, yr_t (by omega), mU1, yr_t (by omega), mR1, yr_t (by omega), a2 d (by omega), yci_s, if_neg (by omega), yi_t (by omega), ew1, eA, yhb_s, c2 d (by omega), yci_s, if_pos rfl]
      · subst e
        have kx : (@ite _ (u_fg T n q2) (Classical.propDecidable _) (T q2 - 48) (-9)) = w1 ↔ (u_fg T n q2 ∧ T q2 - 48 = w1) := by
          by_cases z : u_fg T n q2
          · rw [if_pos z]; exact ⟨fun y => ⟨z, y⟩, fun y => y.2⟩
          · rw [if_neg z]; exact ⟨fun y => by omega, fun y => absurd y.1 z⟩
        have km : (if q2 < n then T q2 else 0) = 48 + w1 ↔ (u_fg T n q2 ∧ T q2 - 48 = w1) := by
          rw [fg_look]
          by_cases z : q2 < n
          · rw [if_pos z]; omega
          · rw [if_neg z]; omega
        by_cases cc : u_fg T n q2 ∧ T q2 - 48 = w1
        · refine ⟨0, q2, h2, g2, fun d hd => ?_, fun d hd => ?_, c3, c4, fx2.xx, fp2.mm (by omega), Or.inl rfl, by omega, fun q => by omega⟩
          · obtain ⟨d, rfl⟩ : ∃ e, d = e + 1 := ⟨d - 1, by omega⟩
            rw [e29, b29_0, xU, if_pos h8, i2, yr_t (by omega), S1.2.1, yH0 hb, xR1, yr_t (by omega), a1 d (by omega), yci_s, if_neg (by omega), c1 d (by omega), yci_s, if_neg (by omega), s22 d (by omega) c3 hc hn (by omega), yci_s, v1, if_pos (kx.mpr cc)]
          · obtain ⟨d, rfl⟩ : ∃ e, d = e + 1 := ⟨d - 1, by omega⟩
            rw [e164, b164_0, mU, if_neg (by omega), m2, yr_t (by omega), mU1, yr_t (by omega), mR1, yr_t (by omega), a2 d (by omega), yci_s, if_neg (by omega), yi_t (by omega), ew1, eA, yhb_s, c2 d (by omega), yci_s, if_neg (by omega), c4.2.1, s156w d (by omega) c4 ht hn (by omega), yci_s, yi_t (by omega), C1, yr_t (by omega), if_pos (km.mpr cc)]
        obtain ⟨u5, q5, h5, g5, m1, n2, n3, n4, n5, n6, n7, n8, n9⟩ := K_fig (sc := sc) c3 c4 hT hc ht hn (by omega) 0 (R - 1)
        have fx5 : FX h h5 := fx2.trans n5
        have fp5 : FP 109 U g g5 := fp2.trans n6.fp
        rcases n7 with e | e
        · subst e
          refine ⟨0, q5, h5, g5, fun d hd => ?_, fun d hd => ?_, n3, n4, fx5.xx, fp5.mm (by omega), Or.inl rfl, by omega, fun q => by omega⟩
          · obtain ⟨d, rfl⟩ : ∃ e, d = e + 1 := ⟨d - 1, by omega⟩
            rw [e29, b29_0, xU, if_pos h8, i2, yr_t (by omega), S1.2.1, yH0 hb, xR1, yr_t (by omega), a1 d (by omega), yci_s, if_neg (by omega), c1 d (by omega), yci_s, if_neg (by omega), s22 d (by omega) c3 hc hn (by omega), yci_s, v1, if_neg (fun z => cc (kx.mp z)), c3.2.1, yH0 hb, xR2, yr_t (by omega), m1 d (by omega), yci_s, if_pos rfl]
          · obtain ⟨d, rfl⟩ : ∃ e, d = e + 1 := ⟨d - 1, by omega⟩
            rw [e164, b164_0, mU, if_neg (by omega), m2, yr_t (by omega), mU1, yr_t (by omega), mR1, yr_t (by omega), a2 d (by omega), yci_s, if_neg (by omega), yi_t (by omega), ew1, eA, yhb_s, c2 d (by omega), yci_s, if_neg (by omega), c4.2.1, s156w d (by omega) c4 ht hn (by omega), yci_s, yi_t (by omega), C1, yr_t (by omega), if_neg (fun z => cc (km.mp z)), mR2, yr_t (by omega), n2 d (by omega), yci_s, if_pos rfl]
        · subst e
          obtain ⟨y1, y2, y3⟩ := n9 rfl
          generalize ew2 : y_I g5 94 20 = w2 at y1 y2 y3
          generalize eB : y_sI g5 109 (Int.toNat (3 * U + 1)) w2 = gB
          have MB : MS t n T q5 gB := by rw [← eB]; exact n4.w (by omega)
          have FB : FP 109 U g gB := by rw [← eB]; exact fp5.trans (FP.w (by omega))
          have B1 : y_I gB 109 (Int.toNat (3 * U)) = w1 := by rw [← eB, yI_sI_o (by omega), n6.2 _ _ (by omega)]; exact C1
          have B2 : y_I gB 109 (Int.toNat (3 * U + 1)) = w2 := by rw [← eB, yI_sI_e ⟨rfl, rfl⟩]
          obtain ⟨u6, q6, h6, g6, d1, d2, d3, d4, d5, d6, d7, d8, -, -⟩ := K_sign (sc := sc) n3 MB hc ht hn (by omega) 64 (by omega)
          have fx6 : FX h h6 := fx5.trans d5
          have fp6 : FP 109 U g g6 := FB.trans d6.fp
          have xP6 : y_I h6 b 1 = P := (fx6.2 _ _ (by omega)).trans xP
          have mP6 : y_I g6 94 22 = P := (fp6.2 _ _ (by omega) (by omega)).trans hP
          rcases d7 with e | e
          · subst e
            refine ⟨0, q6, h6, g6, fun d hd => ?_, fun d hd => ?_, d3, d4, fx6.xx, fp6.mm (by omega), Or.inl rfl, by omega, fun q => by omega⟩
            · obtain ⟨d, rfl⟩ : ∃ e, d = e + 1 := ⟨d - 1, by omega⟩
              rw [e29, b29_0, xU, if_pos h8, i2, yr_t (by omega), S1.2.1, yH0 hb, xR1, yr_t (by omega), a1 d (by omega), yci_s, if_neg (by omega), c1 d (by omega), yci_s, if_neg (by omega), s22 d (by omega) c3 hc hn (by omega), yci_s, v1, if_neg (fun z => cc (kx.mp z)), c3.2.1, yH0 hb, xR2, yr_t (by omega), m1 d (by omega), yci_s, if_neg (by omega), d1 d (by omega), yci_s, if_pos rfl]
            · obtain ⟨d, rfl⟩ : ∃ e, d = e + 1 := ⟨d - 1, by omega⟩
              rw [e164, b164_0, mU, if_neg (by omega), m2, yr_t (by omega), mU1, yr_t (by omega), mR1, yr_t (by omega), a2 d (by omega), yci_s, if_neg (by omega), yi_t (by omega), ew1, eA, yhb_s, c2 d (by omega), yci_s, if_neg (by omega), c4.2.1, s156w d (by omega) c4 ht hn (by omega), yci_s, yi_t (by omega), C1, yr_t (by omega), if_neg (fun z => cc (km.mp z)), mR2, yr_t (by omega), n2 d (by omega), yci_s, if_neg (by omega), yr_t (by omega), yi_t (by omega), ew2, eB, yhb_s, d2 d (by omega), yci_s, if_pos rfl]
          · subst e
            obtain ⟨u7, q7, h7, g7, f1, f2, f3, f4, f5, f6, f7, f8, f9⟩ := K_fig (sc := sc) d3 d4 hT hc ht hn (by omega) 0 (P - 1)
            have fx7 : FX h h7 := fx6.trans f5
            have fp7 : FP 109 U g g7 := fp6.trans f6.fp
            rcases f7 with e | e
            · subst e
              refine ⟨0, q7, h7, g7, fun d hd => ?_, fun d hd => ?_, f3, f4, fx7.xx, fp7.mm (by omega), Or.inl rfl, by omega, fun q => by omega⟩
              · obtain ⟨d, rfl⟩ : ∃ e, d = e + 1 := ⟨d - 1, by omega⟩
                rw [e29, b29_0, xU, if_pos h8, i2, yr_t (by omega), S1.2.1, yH0 hb, xR1, yr_t (by omega), a1 d (by omega), yci_s, if_neg (by omega), c1 d (by omega), yci_s, if_neg (by omega), s22 d (by omega) c3 hc hn (by omega), yci_s, v1, if_neg (fun z => cc (kx.mp z)), c3.2.1, yH0 hb, xR2, yr_t (by omega), m1 d (by omega), yci_s, if_neg (by omega), d1 d (by omega), yci_s, if_neg (by omega), d3.2.1, yH0 hb, xP6, yr_t (by omega), f1 d (by omega), yci_s, if_pos rfl]
              · obtain ⟨d, rfl⟩ : ∃ e, d = e + 1 := ⟨d - 1, by omega⟩
                rw [e164, b164_0, mU, if_neg (by omega), m2, yr_t (by omega), mU1, yr_t (by omega), mR1, yr_t (by omega), a2 d (by omega), yci_s, if_neg (by omega), yi_t (by omega), ew1, eA, yhb_s, c2 d (by omega), yci_s, if_neg (by omega), c4.2.1, s156w d (by omega) c4 ht hn (by omega), yci_s, yi_t (by omega), C1, yr_t (by omega), if_neg (fun z => cc (km.mp z)), mR2, yr_t (by omega), n2 d (by omega), yci_s, if_neg (by omega), yr_t (by omega), yi_t (by omega), ew2, eB, yhb_s, d2 d (by omega), yci_s, if_neg (by omega), mP6, yr_t (by omega), f2 d (by omega), yci_s, if_pos rfl]
            · subst e
              obtain ⟨o1, o2, o3⟩ := f9 rfl
              generalize ew3 : y_I g7 94 20 = w3 at o1 o2 o3
              have X7 : xmg h7 b (dv g) := xmg_cg (fun a k q => fx7.2 a k (by omega)) (fun p => by unfold y_J; rw [fx7.1]) D.1
              have xU7 : y_I h7 19 4 = U := (fx7.2 _ _ (by omega)).trans xU
              have mU7 : y_I (y_sI g7 109 (Int.toNat (3 * U + 2)) w3) 94 25 = U := by rw [yI_sI_o (by omega)]; exact (fp7.2 _ _ (by omega) (by omega)).trans mU
              generalize eZ : y_sI (x_fb h7 b (g_wf (dv g) w1 w3) (g_wf (dv g) w2 w3) w2) 19 4 (U + 1) = Z
              obtain ⟨z1, z2, z3, z4, z5⟩ := not_fin f3 (f4.w (a := 109) (k := Int.toNat (3 * U + 2)) (v := w3) (by omega)) D hc U hU h8 fx7 (fp7.trans (FP.w (by omega))) w1 w2 w3 (by rw [yI_sI_o (by omega), f6.2 _ _ (by omega), d6.2 _ _ (by omega)]; exact B1) (by rw [yI_sI_o (by omega), f6.2 _ _ (by omega), d6.2 _ _ (by omega)]; exact B2) (yI_sI_e ⟨rfl, rfl⟩) (by omega) (by omega) (by omega) Z eZ
              refine ⟨1, q7, Z, _, fun d hd => ?_, fun d hd => ?_, z1, z2, z3, z4, Or.inr rfl, by omega, fun _ => ⟨by omega, z5⟩⟩
              · obtain ⟨d, rfl⟩ : ∃ e, d = e + 1 := ⟨d - 1, by omega⟩
                rw [e29, b29_0, xU, if_pos h8, i2, yr_t (by omega), S1.2.1, yH0 hb, xR1, yr_t (by omega), a1 d (by omega), yci_s, if_neg (by omega), c1 d (by omega), yci_s, if_neg (by omega), s22 d (by omega) c3 hc hn (by omega), yci_s, v1, if_neg (fun z => cc (kx.mp z)), c3.2.1, yH0 hb, xR2, yr_t (by omega), m1 d (by omega), yci_s, if_neg (by omega), d1 d (by omega), yci_s, if_neg (by omega), d3.2.1, yH0 hb, xP6, yr_t (by omega), f1 d (by omega), yci_s, if_neg (by omega), f3.2.1, yH0 hb, o1, y1, s11 d (by omega) X7 kw w1 w2 w3, ycv_s, x_fb_4 hb, xU7, yr_t (by omega), eZ]
              · obtain ⟨d, rfl⟩ : ∃ e, d = e + 1 := ⟨d - 1, by omega⟩
                rw [e164, b164_0, mU, if_neg (by omega), m2, yr_t (by omega), mU1, yr_t (by omega), mR1, yr_t (by omega), a2 d (by omega), yci_s, if_neg (by omega), yi_t (by omega), ew1, eA, yhb_s, c2 d (by omega), yci_s, if_neg (by omega), c4.2.1, s156w d (by omega) c4 ht hn (by omega), yci_s, yi_t (by omega), C1, yr_t (by omega), if_neg (fun z => cc (km.mp z)), mR2, yr_t (by omega), n2 d (by omega), yci_s, if_neg (by omega), yr_t (by omega), yi_t (by omega), ew2, eB, yhb_s, d2 d (by omega), yci_s, if_neg (by omega), mP6, yr_t (by omega), f2 d (by omega), yci_s, if_neg (by omega), yr_t (by omega), yi_t (by omega), ew3, yhb_s, mU7, yr_t (by omega)]
  · refine ⟨0, p, h, g, fun d hd => ?_, fun d hd => ?_, S, M, FX.refl.xx, FM.refl.mm, Or.inl rfl, by omega, fun q => by omega⟩
    · obtain ⟨d, rfl⟩ : ∃ e, d = e + 1 := ⟨d - 1, by omega⟩
      rw [e29, b29_0, xU, if_neg h8]
    · obtain ⟨d, rfl⟩ : ∃ e, d = e + 1 := ⟨d - 1, by omega⟩
      rw [e164, b164_0, mU, if_pos (by omega)]
end IT
