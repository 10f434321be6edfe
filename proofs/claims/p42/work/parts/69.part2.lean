/-! READING A HOUSE, an item for a part -/
section IT
variable {sc : z_Sc} {h g : y_Hp} {c b : Nat} {t n p : Int} {T : Int → Int}
theorem MS.w (M : MS t n T p g) {a k : Nat} {v : Int} (ha : 106 ≤ a ∧ a ≤ 110) : MS t n T p (y_sI g a k v) := ⟨by rw [yI_sI_o (by omega)]; exact M.1, by rw [yI_sI_o (by omega)]; exact M.2.1, fun i i1 i2 => by rw [yI_sI_o (by omega)]; exact M.2.2 i i1 i2⟩
theorem K_part (S : XS c b n T p h) (M : MS t n T p g) (D : DR h b g) (hT : ∀ i, 0 ≤ i → i < n → -128 ≤ T i ∧ T i ≤ 127) (hc : 14 ≤ c ∧ c ≤ 17) (ht : 0 ≤ t ∧ t < 4) (hn : n ≤ 120) (hp : 0 ≤ p ∧ p < n) : KI sc c b t n T p h g 26 161 := by
  have hb := D.1.1
  have i2 := S.2.2.2.1
  have m2 := M.2.1
  have kp := D.2.1.1
  generalize hP : g_pm (dv g) = P at kp
  have mP : y_I g 94 22 = P := hP
  have xP : y_I h b 1 = P := D.1.2.2.1.trans hP
  by_cases h6 : P < 6
  · obtain ⟨u1, q1, h1, g1, a1, a2, a3, a4, a5, a6, a7, a8, a9⟩ := K_fig (sc := sc) (S.at hc (p + 1)) (M.at (p + 1)) hT hc ht hn (by omega) 1 2
    have fx1 : FX h h1 := FX.p.trans a5
    have fm1 : FM g g1 := FM.p.trans a6
    have mP1 : y_I g1 94 22 = P := (fm1.2 _ _ (by omega)).trans mP
    rcases a7 with e | e
    · subst e
      refine ⟨0, q1, h1, g1, fun d hd => ?_, fun d hd => ?_, a3, a4, fx1.xx, fm1.mm, Or.inl rfl, by omega, fun q => by omega⟩
      · obtain ⟨d, rfl⟩ : ∃ e, d = e + 1 := ⟨d - 1, by omega⟩
        rw [e26, b26_0, S.2.1, yH0 hb, xP, if_pos h6, i2, yr_t (by omega), a1 d (by omega), yci_s, if_pos rfl]
      · obtain ⟨d, rfl⟩ : ∃ e, d = e + 1 := ⟨d - 1, by omega⟩
        rw [e161, b161_0, mP, if_neg (by omega), m2, yr_t (by omega), a2 d (by omega), yci_s, if_pos rfl]
    · subst e
      obtain ⟨v1, v2, v3⟩ := a9 rfl
      generalize ew1 : y_I g1 94 20 = w1 at v1 v2 v3
      generalize eA : y_sI (y_sI (y_sI g1 106 (Int.toNat (3 * P)) w1) 106 (Int.toNat (3 * P + 1)) 0) 106 (Int.toNat (3 * P + 2)) 0 = gA
      have MA : MS t n T q1 gA := by rw [← eA]; exact ((a4.w (by omega)).w (by omega)).w (by omega)
      have FA : FP 106 P g gA := by rw [← eA]; exact ((fm1.fp.trans (FP.w (by omega))).trans (FP.w (by omega))).trans (FP.w (by omega))
      have A1 : y_I gA 106 (Int.toNat (3 * P)) = w1 := by rw [← eA, yI_sI_o (by omega), yI_sI_o (by omega), yI_sI_e ⟨rfl, rfl⟩]
      have A2 : y_I gA 106 (Int.toNat (3 * P + 1)) = 0 := by rw [← eA, yI_sI_o (by omega), yI_sI_e ⟨rfl, rfl⟩]
      have A3 : y_I gA 106 (Int.toNat (3 * P + 2)) = 0 := by rw [← eA, yI_sI_e ⟨rfl, rfl⟩]
      obtain ⟨u2, q2, h2, g2, c1, c2, c3, c4, c5, c6, c7, c8, -, -⟩ := K_sign (sc := sc) a3 MA hc ht hn (by omega) 58 (by omega)
      have fx2 : FX h h2 := fx1.trans c5
      have fp2 : FP 106 P g g2 := FA.trans c6.fp
      rcases c7 with e | e
      · subst e
        obtain ⟨u3, q3, h3, g3, d1, d2, d3, d4, d5, d6, d7, d8, -, -⟩ := K_sign (sc := sc) c3 c4 hc ht hn (by omega) 115 (by omega)
        have fx3 : FX h h3 := fx2.trans d5
        have fp3 : FP 106 P g g3 := fp2.trans d6.fp
        have mP3 : y_I g3 94 22 = P := (fp3.2 _ _ (by omega) (by omega)).trans mP
        have xP3 : y_I h3 b 1 = P := (fx3.2 _ _ (by omega)).trans xP
        rcases d7 with e | e
        · subst e
          obtain ⟨z1, z2, z3, z4, z5⟩ := part_fin d3 d4 D hc P hP h6 fx3 fp3 w1 0 0 ((d6.2 _ _ (by omega)).trans ((c6.2 _ _ (by omega)).trans A1)) ((d6.2 _ _ (by omega)).trans ((c6.2 _ _ (by omega)).trans A2)) ((d6.2 _ _ (by omega)).trans ((c6.2 _ _ (by omega)).trans A3)) (by omega) (by omega) (by omega)
          refine ⟨1, q3, _, _, fun d hd => ?_, fun d hd => ?_, z1, z2, z3, z4, Or.inr rfl, by omega, fun _ => ⟨by omega, z5⟩⟩
          · obtain ⟨d, rfl⟩ : ∃ e, d = e + 1 := ⟨d - 1, by omega⟩
            rw [e26, b26_0, S.2.1, yH0 hb, xP, if_pos h6, i2, yr_t (by omega), a1 d (by omega), yci_s, if_neg (by omega), v1, c1 d (by omega), yci_s, if_pos rfl, d1 d (by omega), yci_s, if_pos rfl, d3.2.1, yH0 hb, s8 d (by omega) hb P xP3 (by omega), ycv_s]
          · obtain ⟨d, rfl⟩ : ∃ e, d = e + 1 := ⟨d - 1, by omega⟩
            rw [e161, b161_0, mP, if_neg (by omega), m2, yr_t (by omega), a2 d (by omega), yci_s, if_neg (by omega), mP1, yr_t (by omega), yi_t (by omega), yr_t (by omega), yi_t (by omega), yhb_s, yr_t (by omega), yi_t (by omega), ew1, eA, c2 d (by omega), yci_s, if_pos rfl, d2 d (by omega), yci_s, if_pos rfl, mP3, yr_t (by omega)]
        · subst e
          obtain ⟨u4, q4, h4, g4, f1, f2, f3, f4, f5, f6, f7, f8, f9⟩ := K_fig (sc := sc) d3 d4 hT hc ht hn (by omega) 0 9
          have fx4 : FX h h4 := fx3.trans f5
          have fp4 : FP 106 P g g4 := fp3.trans f6.fp
          rcases f7 with e | e
          · subst e
            refine ⟨0, q4, h4, g4, fun d hd => ?_, fun d hd => ?_, f3, f4, fx4.xx, fp4.mm (by omega), Or.inl rfl, by omega, fun q => by omega⟩
            · obtain ⟨d, rfl⟩ : ∃ e, d = e + 1 := ⟨d - 1, by omega⟩
              rw [e26, b26_0, S.2.1, yH0 hb, xP, if_pos h6, i2, yr_t (by omega), a1 d (by omega), yci_s, if_neg (by omega), v1, c1 d (by omega), yci_s, if_pos rfl, d1 d (by omega), yci_s, if_neg (by omega), f1 d (by omega), yci_s, if_pos rfl]
            · obtain ⟨d, rfl⟩ : ∃ e, d = e + 1 := ⟨d - 1, by omega⟩
              rw [e161, b161_0, mP, if_neg (by omega), m2, yr_t (by omega), a2 d (by omega), yci_s, if_neg (by omega), mP1, yr_t (by omega), yi_t (by omega), yr_t (by omega), yi_t (by omega), yhb_s, yr_t (by omega), yi_t (by omega), ew1, eA, c2 d (by omega), yci_s, if_pos rfl, d2 d (by omega), yci_s, if_neg (by omega), f2 d (by omega), yci_s, if_pos rfl]
          · subst e
            obtain ⟨o1, o2, o3⟩ := f9 rfl
            generalize ew3 : y_I g4 94 20 = w3 at o1 o2 o3
            have mP4 : y_I (y_sI g4 106 (Int.toNat (3 * P + 2)) w3) 94 22 = P := by rw [yI_sI_o (by omega)]; exact (fp4.2 _ _ (by omega) (by omega)).trans mP
            have xP4 : y_I h4 b 1 = P := (fx4.2 _ _ (by omega)).trans xP
            obtain ⟨z1, z2, z3, z4, z5⟩ := part_fin f3 (f4.w (a := 106) (k := Int.toNat (3 * P + 2)) (v := w3) (by omega)) D hc P hP h6 fx4 (fp4.trans (FP.w (by omega))) w1 0 w3 (by rw [yI_sI_o (by omega), f6.2 _ _ (by omega), d6.2 _ _ (by omega)]; exact ((c6.2 _ _ (by omega)).trans A1)) (by rw [yI_sI_o (by omega), f6.2 _ _ (by omega), d6.2 _ _ (by omega)]; exact ((c6.2 _ _ (by omega)).trans A2)) (yI_sI_e ⟨rfl, rfl⟩) (by omega) (by omega) (by omega)
            refine ⟨1, q4, _, _, fun d hd => ?_, fun d hd => ?_, z1, z2, z3, z4, Or.inr rfl, by omega, fun _ => ⟨by omega, z5⟩⟩
            · obtain ⟨d, rfl⟩ : ∃ e, d = e + 1 := ⟨d - 1, by omega⟩
              rw [e26, b26_0, S.2.1, yH0 hb, xP, if_pos h6, i2, yr_t (by omega), a1 d (by omega), yci_s, if_neg (by omega), v1, c1 d (by omega), yci_s, if_pos rfl, d1 d (by omega), yci_s, if_neg (by omega), f1 d (by omega), yci_s, if_neg (by omega), f3.2.1, yH0 hb, o1, s8 d (by omega) hb P xP4 (by omega), ycv_s]
            · obtain ⟨d, rfl⟩ : ∃ e, d = e + 1 := ⟨d - 1, by omega⟩
              rw [e161, b161_0, mP, if_neg (by omega), m2, yr_t (by omega), a2 d (by omega), yci_s, if_neg (by omega), mP1, yr_t (by omega), yi_t (by omega), yr_t (by omega), yi_t (by omega), yhb_s, yr_t (by omega), yi_t (by omega), ew1, eA, c2 d (by omega), yci_s, if_pos rfl, d2 d (by omega), yci_s, if_neg (by omega), f2 d (by omega), yci_s, if_neg (by omega), yr_t (by omega), yi_t (by omega), ew3, mP4, yr_t (by omega), yhb_s]
      · subst e
        obtain ⟨u5, q5, h5, g5, m1, n2, n3, n4, n5, n6, n7, n8, n9⟩ := K_min (sc := sc) c3 c4 hc ht hn (by omega) 0 59
        have fx5 : FX h h5 := fx2.trans n5
        have fp5 : FP 106 P g g5 := fp2.trans n6.fp
        rcases n7 with e | e
        · subst e
          refine ⟨0, q5, h5, g5, fun d hd => ?_, fun d hd => ?_, n3, n4, fx5.xx, fp5.mm (by omega), Or.inl rfl, by omega, fun q => by omega⟩
          · obtain ⟨d, rfl⟩ : ∃ e, d = e + 1 := ⟨d - 1, by omega⟩
            rw [e26, b26_0, S.2.1, yH0 hb, xP, if_pos h6, i2, yr_t (by omega), a1 d (by omega), yci_s, if_neg (by omega), v1, c1 d (by omega), yci_s, if_neg (by omega), m1 d (by omega), yci_s, if_pos rfl]
          · obtain ⟨d, rfl⟩ : ∃ e, d = e + 1 := ⟨d - 1, by omega⟩
            rw [e161, b161_0, mP, if_neg (by omega), m2, yr_t (by omega), a2 d (by omega), yci_s, if_neg (by omega), mP1, yr_t (by omega), yi_t (by omega), yr_t (by omega), yi_t (by omega), yhb_s, yr_t (by omega), yi_t (by omega), ew1, eA, c2 d (by omega), yci_s, if_neg (by omega), n2 d (by omega), yci_s, if_pos rfl]
        · subst e
          obtain ⟨y1, y2⟩ := n9 rfl
          generalize ew2 : y_I g5 94 20 = w2 at y1 y2
          generalize eB : y_sI g5 106 (Int.toNat (3 * P + 1)) w2 = gB
          have MB : MS t n T q5 gB := by rw [← eB]; exact n4.w (by omega)
          have FB : FP 106 P g gB := by rw [← eB]; exact fp5.trans (FP.w (by omega))
          have B1 : y_I gB 106 (Int.toNat (3 * P)) = w1 := by rw [← eB, yI_sI_o (by omega), n6.2 _ _ (by omega), c6.2 _ _ (by omega)]; exact A1
          have B2 : y_I gB 106 (Int.toNat (3 * P + 1)) = w2 := by rw [← eB, yI_sI_e ⟨rfl, rfl⟩]
          have B3 : y_I gB 106 (Int.toNat (3 * P + 2)) = 0 := by rw [← eB, yI_sI_o (by omega), n6.2 _ _ (by omega), c6.2 _ _ (by omega)]; exact A3
          obtain ⟨u3, q3, h3, g3, d1, d2, d3, d4, d5, d6, d7, d8, -, -⟩ := K_sign (sc := sc) n3 MB hc ht hn (by omega) 115 (by omega)
          have fx3 : FX h h3 := fx5.trans d5
          have fp3 : FP 106 P g g3 := FB.trans d6.fp
          have mP3 : y_I g3 94 22 = P := (fp3.2 _ _ (by omega) (by omega)).trans mP
          have xP3 : y_I h3 b 1 = P := (fx3.2 _ _ (by omega)).trans xP
          rcases d7 with e | e
          · subst e
            obtain ⟨z1, z2, z3, z4, z5⟩ := part_fin d3 d4 D hc P hP h6 fx3 fp3 w1 w2 0 ((d6.2 _ _ (by omega)).trans B1) ((d6.2 _ _ (by omega)).trans B2) ((d6.2 _ _ (by omega)).trans B3) (by omega) (by omega) (by omega)
            refine ⟨1, q3, _, _, fun d hd => ?_, fun d hd => ?_, z1, z2, z3, z4, Or.inr rfl, by omega, fun _ => ⟨by omega, z5⟩⟩
            · obtain ⟨d, rfl⟩ : ∃ e, d = e + 1 := ⟨d - 1, by omega⟩
              rw [e26, b26_0, S.2.1, yH0 hb, xP, if_pos h6, i2, yr_t (by omega), a1 d (by omega), yci_s, if_neg (by omega), v1, c1 d (by omega), yci_s, if_neg (by omega), m1 d (by omega), yci_s, if_neg (by omega), y1, d1 d (by omega), yci_s, if_pos rfl, d3.2.1, yH0 hb, s8 d (by omega) hb P xP3 (by omega), ycv_s]
            · obtain ⟨d, rfl⟩ : ∃ e, d = e + 1 := ⟨d - 1, by omega⟩
              rw [e161, b161_0, mP, if_neg (by omega), m2, yr_t (by omega), a2 d (by omega), yci_s, if_neg (by omega), mP1, yr_t (by omega), yi_t (by omega), yr_t (by omega), yi_t (by omega), yhb_s, yr_t (by omega), yi_t (by omega), ew1, eA, c2 d (by omega), yci_s, if_neg (by omega), n2 d (by omega), yci_s, if_neg (by omega), yr_t (by omega), yi_t (by omega), ew2, eB, d2 d (by omega), yci_s, if_pos rfl, mP3, yr_t (by omega)]
          · subst e
            obtain ⟨u4, q4, h4, g4, f1, f2, f3, f4, f5, f6, f7, f8, f9⟩ := K_fig (sc := sc) d3 d4 hT hc ht hn (by omega) 0 9
            have fx4 : FX h h4 := fx3.trans f5
            have fp4 : FP 106 P g g4 := fp3.trans f6.fp
            rcases f7 with e | e
            · subst e
              refine ⟨0, q4, h4, g4, fun d hd => ?_, fun d hd => ?_, f3, f4, fx4.xx, fp4.mm (by omega), Or.inl rfl, by omega, fun q => by omega⟩
              · obtain ⟨d, rfl⟩ : ∃ e, d = e + 1 := ⟨d - 1, by omega⟩
                rw [e26, b26_0, S.2.1, yH0 hb, xP, if_pos h6, i2, yr_t (by omega), a1 d (by omega), yci_s, if_neg (by omega), v1, c1 d (by omega), yci_s, if_neg (by omega), m1 d (by omega), yci_s, if_neg (by omega), y1, d1 d (by omega), yci_s, if_neg (by omega), f1 d (by omega), yci_s, if_pos rfl]
              · obtain ⟨d, rfl⟩ : ∃ e, d = e + 1 := ⟨d - 1, by omega⟩
                rw [e161, b161_0, mP, if_neg (by omega), m2, yr_t (by omega), a2 d (by omega), yci_s, if_neg (by omega), mP1, yr_t (by omega), yi_t (by omega), yr_t (by omega), yi_t (by omega), yhb_s, yr_t (by omega), yi_t (by omega), ew1, eA, c2 d (by omega), yci_s, if_neg (by omega), n2 d (by omega), yci_s, if_neg (by omega), yr_t (by omega), yi_t (by omega), ew2, eB, d2 d (by omega), yci_s, if_neg (by omega), f2 d (by omega), yci_s, if_pos rfl]
            · subst e
              obtain ⟨o1, o2, o3⟩ := f9 rfl
              generalize ew3 : y_I g4 94 20 = w3 at o1 o2 o3
              have mP4 : y_I (y_sI g4 106 (Int.toNat (3 * P + 2)) w3) 94 22 = P := by rw [yI_sI_o (by omega)]; exact (fp4.2 _ _ (by omega) (by omega)).trans mP
              have xP4 : y_I h4 b 1 = P := (fx4.2 _ _ (by omega)).trans xP
              obtain ⟨z1, z2, z3, z4, z5⟩ := part_fin f3 (f4.w (a := 106) (k := Int.toNat (3 * P + 2)) (v := w3) (by omega)) D hc P hP h6 fx4 (fp4.trans (FP.w (by omega))) w1 w2 w3 (by rw [yI_sI_o (by omega), f6.2 _ _ (by omega), d6.2 _ _ (by omega)]; exact B1) (by rw [yI_sI_o (by omega), f6.2 _ _ (by omega), d6.2 _ _ (by omega)]; exact B2) (yI_sI_e ⟨rfl, rfl⟩) (by omega) (by omega) (by omega)
              refine ⟨1, q4, _, _, fun d hd => ?_, fun d hd => ?_, z1, z2, z3, z4, Or.inr rfl, by omega, fun _ => ⟨by omega, z5⟩⟩
              · obtain ⟨d, rfl⟩ : ∃ e, d = e + 1 := ⟨d - 1, by omega⟩
                rw [e26, b26_0, S.2.1, yH0 hb, xP, if_pos h6, i2, yr_t (by omega), a1 d (by omega), yci_s, if_neg (by omega), v1, c1 d (by omega), yci_s, if_neg (by omega), m1 d (by omega), yci_s, if_neg (by omega), y1, d1 d (by omega), yci_s, if_neg (by omega), f1 d (by omega), yci_s, if_neg (by omega), f3.2.1, yH0 hb, o1, s8 d (by omega) hb P xP4 (by omega), ycv_s]
              · obtain ⟨d, rfl⟩ : ∃ e, d = e + 1 := ⟨d - 1, by omega⟩
                rw [e161, b161_0, mP, if_neg (by omega), m2, yr_t (by omega), a2 d (by omega), yci_s, if_neg (by omega), mP1, yr_t (by omega), yi_t (by omega), yr_t (by omega), yi_t (by omega), yhb_s, yr_t (by omega), yi_t (by omega), ew1, eA, c2 d (by omega), yci_s, if_neg (by omega), n2 d (by omega), yci_s, if_neg (by omega), yr_t (by omega), yi_t (by omega), ew2, eB, d2 d (by omega), yci_s, if_neg (by omega), f2 d (by omega), yci_s, if_neg (by omega), yr_t (by omega), yi_t (by omega), ew3, mP4, yr_t (by omega), yhb_s]
  · refine ⟨0, p, h, g, fun d hd => ?_, fun d hd => ?_, S, M, FX.refl.xx, FM.refl.mm, Or.inl rfl, by omega, fun q => by omega⟩
    · obtain ⟨d, rfl⟩ : ∃ e, d = e + 1 := ⟨d - 1, by omega⟩
      rw [e26, b26_0, S.2.1, yH0 hb, xP, if_neg h6]
    · obtain ⟨d, rfl⟩ : ∃ e, d = e + 1 := ⟨d - 1, by omega⟩
      rw [e161, b161_0, mP, if_pos (by omega)]
end IT
