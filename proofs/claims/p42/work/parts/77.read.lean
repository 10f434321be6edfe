/-! READING A HOUSE, a reader's place in the draft -/
section IT
variable {sc : z_Sc} {h g : y_Hp} {c b : Nat} {t n p : Int} {T : Int → Int}
theorem reader_fin {h0 g0 : y_Hp} (D : DR h0 b g0) (R : Int) (hR : g_rm (dv g0) = R) (h8 : R < 8) (eh : FX h0 h) (eg : FP 107 R g0 g) (w1 w2 w3 : Int) (g1 : y_I g 107 (Int.toNat (3 * R)) = w1) (g2 : y_I g 107 (Int.toNat (3 * R + 1)) = w2) (g3 : y_I g 107 (Int.toNat (3 * R + 2)) = w3) (b1 : 0 ≤ w1 ∧ w1 < w2 ∧ w2 ≤ 60) (b3 : w3 = 0 ∨ w3 = 1) : DR (x_ar h b R w1 w2 w3) b (y_sI g 94 23 (R + 1)) := by
  obtain ⟨X, G1, G2, n1, n2⟩ := D
  have hb := X.1
  have krm := G1.2.1
  have kwm := G1.2.2.1
  have knm := G1.2.2.2.1
  have ho : ∀ a k, ¬ (b ≤ a ∧ a ≤ b + 8) → y_I (x_ar h b R w1 w2 w3) a k = y_I h a k := fun a k q => by
    unfold x_ar
    rw [yI_sI_o (by omega), yI_sI_o (by omega), yI_sI_o (by omega), yI_sI_o (by omega), yI_sI_o (by omega)]
  have hJ : y_J (x_ar h b R w1 w2 w3) = y_J h0 := by
    show y_J h = y_J h0
    unfold y_J; rw [eh.1]
  have ga : ∀ a k, ¬ (a = 94 ∧ k = 10) → ¬ (a = 102 ∧ Int.toNat (3 * R) ≤ k ∧ k ≤ Int.toNat (3 * R) + 2) → dv (y_sI g 94 23 (R + 1)) a k = dv g0 a k := fun a k q r => dv_pt a k (fun e e1 e2 => by rw [yI_sI_o (by omega), eg.2 _ _ (by omega) (by omega)]) (fun e => by rw [yI_sI_o (by omega), eg.2 _ _ (by omega) (by omega)]) (fun e => by rw [yI_sI_o (by omega), eg.2 _ _ (by omega) (by omega)])
  have rm : g_rm (dv (y_sI g 94 23 (R + 1))) = R + 1 := yI_sI_e ⟨rfl, rfl⟩
  have t1 : dv (y_sI g 94 23 (R + 1)) 102 (Int.toNat (3 * R)) = w1 := by
    show (if Int.toNat (3 * R) < 24 then y_I (y_sI g 94 23 (R + 1)) 107 (Int.toNat (3 * R)) else _) = w1
    rw [if_pos (by omega), yI_sI_o (by omega), g1]
  have t2 : dv (y_sI g 94 23 (R + 1)) 102 (Int.toNat (3 * R + 1)) = w2 := by
    show (if Int.toNat (3 * R + 1) < 24 then y_I (y_sI g 94 23 (R + 1)) 107 (Int.toNat (3 * R + 1)) else _) = w2
    rw [if_pos (by omega), yI_sI_o (by omega), g2]
  have t3 : dv (y_sI g 94 23 (R + 1)) 102 (Int.toNat (3 * R + 2)) = w3 := by
    show (if Int.toNat (3 * R + 2) < 24 then y_I (y_sI g 94 23 (R + 1)) 107 (Int.toNat (3 * R + 2)) else _) = w3
    rw [if_pos (by omega), yI_sI_o (by omega), g3]
  generalize eG : dv (y_sI g 94 23 (R + 1)) = G at ga rm t1 t2 t3
  generalize dv g0 = G0 at ga X G1 G2 n1 n2 hR krm kwm knm
  have la : g_la G = g_la G0 := ga _ _ (by omega) (by omega)
  have pm : g_pm G = g_pm G0 := ga _ _ (by omega) (by omega)
  have wm : g_wm G = g_wm G0 := ga _ _ (by omega) (by omega)
  have nm : g_nm G = g_nm G0 := ga _ _ (by omega) (by omega)
  have um : g_um G = g_um G0 := ga _ _ (by omega) (by omega)
  have r1 : G 101 = G0 101 := funext fun k => ga _ _ (by omega) (by omega)
  have r3 : G 103 = G0 103 := funext fun k => ga _ _ (by omega) (by omega)
  have r4 : G 104 = G0 104 := funext fun k => ga _ _ (by omega) (by omega)
  have r5 : G 105 = G0 105 := funext fun k => ga _ _ (by omega) (by omega)
  have cp : ∀ r, g_cp G r = g_cp G0 r := fun r => by unfold g_cp; rw [r1]
  have cm : ∀ r, g_cm G r = g_cm G0 r := fun r => by unfold g_cm; rw [r1]
  have sl : ∀ r, g_sl G r = g_sl G0 r := fun r => by unfold g_sl; rw [r1]
  have rd : ∀ r, g_rd G r = g_rd G0 r := fun r => by unfold g_rd; rw [r3]
  have pt : ∀ r, g_pt G r = g_pt G0 r := fun r => by unfold g_pt; rw [r3]
  have mn : ∀ r, g_mn G r = g_mn G0 r := fun r => by unfold g_mn; rw [r3]
  have wo : ∀ r, g_wo G r = g_wo G0 r := fun r => by unfold g_wo; rw [r3]
  have na : ∀ r q p, g_na G r q p = g_na G0 r q p := fun r q p => by unfold g_na; rw [nm, r4]
  have cv : ∀ p t, g_cv G p t = g_cv G0 p t := fun p t => by unfold g_cv; rw [um, r5]
  have fr : ∀ q, 0 ≤ q → q < R + 1 → g_fr G q = if q = R then w1 else g_fr G0 q := fun q q1 q2 => by
    by_cases e : q = R
    · rw [if_pos e, e]; exact t1
    · rw [if_neg e]; exact ga _ _ (by omega) (by omega)
  have ti : ∀ q, 0 ≤ q → q < R + 1 → g_ti G q = if q = R then w2 else g_ti G0 q := fun q q1 q2 => by
    by_cases e : q = R
    · rw [if_pos e, e]; exact t2
    · rw [if_neg e]; exact ga _ _ (by omega) (by omega)
  have or : ∀ q, 0 ≤ q → q < R + 1 → g_or G q = if q = R then w3 else g_or G0 q := fun q q1 q2 => by
    by_cases e : q = R
    · rw [if_pos e, e]; exact t3
    · rw [if_neg e]; exact ga _ _ (by omega) (by omega)
  obtain ⟨-, x0, x1, x2, x3, x4, x5, x6, x7, x8, x9, x10, x11, x12, x13, x14, x15, x16, x17, x18⟩ := X
  obtain ⟨k1, k2, k3, k4, k5, k6, k7, k8, k9, k10, k11⟩ := G1
  have hh : ∀ a k, b ≤ a → y_I h a k = y_I h0 a k := fun a k q => eh.2 a k (by omega)
  have xi : ∀ i k, 1 ≤ i → i < 5 ∨ 8 < i → y_I (x_ar h b R w1 w2 w3) (b + i) k = y_I h0 (b + i) k := fun i k q r => by
    unfold x_ar
    rw [yI_sI_o (by omega), yI_sI_o (by omega), yI_sI_o (by omega), yI_sI_o (by omega), yI_sI_o (by omega), hh _ _ (by omega)]
  have xb : ∀ k, k ≠ 2 → y_I (x_ar h b R w1 w2 w3) b k = y_I h0 b k := fun k q => by
    unfold x_ar
    rw [yI_sI_o (by omega), yI_sI_o (by omega), yI_sI_o (by omega), yI_sI_o (by omega), yI_sI_o (by omega), hh _ _ (by omega)]
  unfold DR
  rw [eG]
  refine ⟨?_, ?_, ?_, by rw [ho _ _ (by omega), eh.2 _ _ (by omega), nm]; exact n1, by rw [ho _ _ (by omega), eh.2 _ _ (by omega), um]; exact n2⟩
  · unfold xmg
    simp only [xi 1 _ (by omega) (by omega), xi 2 _ (by omega) (by omega), xi 3 _ (by omega) (by omega), hJ, xi 9 _ (by omega) (by omega), xi 10 _ (by omega) (by omega), xi 11 _ (by omega) (by omega), xi 12 _ (by omega) (by omega), xi 13 _ (by omega) (by omega), xi 14 _ (by omega) (by omega), xi 15 _ (by omega) (by omega), la, pm, rm, wm, cp, cm, sl, rd, pt, mn, wo, na, cv]
    refine ⟨hb, by rw [xb _ (by omega)]; exact x0, by rw [xb _ (by omega)]; exact x1, ?_, by rw [xb _ (by omega)]; exact x3, x4, x5, x6, x7, fun q q1 q2 => ?_, fun q q1 q2 => ?_, fun q q1 q2 => ?_, fun q q1 q2 => ?_, x12, x13, x14, x15, fun w u1 u2 => ?_, x17, fun w u1 u2 => ?_⟩
    · unfold x_ar
      rw [yI_sI_e ⟨rfl, rfl⟩]
    · rw [fr q q1 q2]
      unfold x_ar
      rw [yI_sI_o (by omega), yI_sI_o (by omega), yI_sI_o (by omega), yI_sI_o (by omega)]
      by_cases e : q = R
      · rw [if_pos e, yI_sI_e (by rw [e]; omega)]
      · rw [if_neg e, yI_sI_o (by omega), hh _ _ (by omega)]
        exact x8 q q1 (by omega)
    · rw [ti q q1 q2]
      unfold x_ar
      rw [yI_sI_o (by omega), yI_sI_o (by omega), yI_sI_o (by omega)]
      by_cases e : q = R
      · rw [if_pos e, yI_sI_e (by rw [e]; omega)]
      · rw [if_neg e, yI_sI_o (by omega), yI_sI_o (by omega), hh _ _ (by omega)]
        exact x9 q q1 (by omega)
    · unfold x_ar
      rw [yI_sI_o (by omega), yI_sI_o (by omega)]
      by_cases e : q = R
      · rw [yI_sI_e (by rw [e]; omega)]
        refine ⟨y_inr_0, fun w u1 u2 => ⟨fun z => absurd z ub_0, fun z => ?_⟩⟩
        have := (k9 w u1 z.1).1
        omega
      · rw [yI_sI_o (by omega), yI_sI_o (by omega), yI_sI_o (by omega), hh _ _ (by omega)]
        exact x10 q q1 (by omega)
    · rw [or q q1 q2]
      unfold x_ar
      rw [yI_sI_o (by omega)]
      by_cases e : q = R
      · rw [if_pos e, yI_sI_e (by rw [e]; omega)]
      · rw [if_neg e, yI_sI_o (by omega), yI_sI_o (by omega), yI_sI_o (by omega), yI_sI_o (by omega), hh _ _ (by omega)]
        exact x11 q q1 (by omega)
    · obtain ⟨o1, o2⟩ := x16 w u1 u2
      refine ⟨o1, fun q s1 s2 => ?_⟩
      rw [o2 q s1 s2]
      refine ⟨fun z => ⟨by omega, z.2⟩, fun z => ⟨?_, z.2⟩⟩
      have := g_na_in G2 knm.1 z.2
      omega
    · obtain ⟨o1, o2⟩ := x18 w u1 u2
      refine ⟨o1, fun v s1 s2 => ?_⟩
      have := (k9 w u1 u2).1
      rw [o2 v s1 s2, or _ this.1 (by omega), if_neg (by omega)]
  · unfold g_ok
    simp only [la, pm, rm, wm, nm, um, cp, cm, sl, rd, pt, mn, wo, r5]
    refine ⟨k1, by omega, k3, k4, k5, k6, k7, fun q q1 q2 => ?_, fun w u1 u2 => ?_, k10, k11⟩
    · rw [fr q q1 q2, ti q q1 q2, or q q1 q2]
      by_cases e : q = R
      · rw [if_pos e, if_pos e, if_pos e]; exact ⟨b1, b3⟩
      · rw [if_neg e, if_neg e, if_neg e]; exact k8 q q1 (by omega)
    · have := k9 w u1 u2
      exact ⟨by omega, this.2⟩
  · unfold g_di at G2 ⊢
    rw [pm, rm, nm, um, r4, r5]
    refine ⟨fun k q1 q2 => ?_, G2.2⟩
    have := G2.1 k q1 q2
    omega
end IT
