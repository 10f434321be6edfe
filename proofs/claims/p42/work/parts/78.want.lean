/-! READING A HOUSE, a want's place in the draft -/
def FQ (W : Int) (g g' : y_Hp) : Prop := g'.2 = g.2 ∧ ∀ b k, ¬ (b = 94 ∧ (k = 19 ∨ k = 20)) → ¬ (b = 108 ∧ Int.toNat (4 * W) ≤ k ∧ k ≤ Int.toNat (4 * W) + 3) → y_I g' b k = y_I g b k
section IT
variable {sc : z_Sc} {h g : y_Hp} {c b : Nat} {t n p : Int} {T : Int → Int}
theorem want_fin {h0 g0 : y_Hp} (D : DR h0 b g0) (R W : Int) (hR : g_rm (dv g0) = R) (hW : g_wm (dv g0) = W) (h1 : 1 ≤ R) (h24 : W < 24) (eh : FX h0 h) (eg : FQ W g0 g) (w1 w2 w3 : Int) (g1 : y_I g 108 (Int.toNat (4 * W)) = R - 1) (g2 : y_I g 108 (Int.toNat (4 * W + 1)) = w1) (g3 : y_I g 108 (Int.toNat (4 * W + 2)) = w2) (g4 : y_I g 108 (Int.toNat (4 * W + 3)) = w3) (hN : ∀ r q p, g_na (dv g0) r q p → r < R - 1 ∧ q < R - 1) (hw : g_wf (dv g0) (R - 1) w1 = -9) (b1 : 0 ≤ w1 ∧ w1 < g_pm (dv g0)) (b2 : 1 ≤ w2 ∧ w2 ≤ 20) (b3 : 1 ≤ w3 ∧ w3 ≤ 9) : DR (x_aw h b R W w1 w2 w3) b (y_sI g 94 24 (W + 1)) := by
  obtain ⟨X, G1, G2, n1, n2⟩ := D
  have hb := X.1
  have krm := G1.2.1
  have kwm := G1.2.2.1
  have ho : ∀ a k, ¬ (b ≤ a ∧ a ≤ b + 15) → y_I (x_aw h b R W w1 w2 w3) a k = y_I h a k := fun a k q => by
    unfold x_aw
    simp (disch := omega) only [yI_sI_o]
  have hJ : y_J (x_aw h b R W w1 w2 w3) = y_J h0 := by
    show y_J h = y_J h0
    unfold y_J; rw [eh.1]
  have ga : ∀ a k, ¬ (a = 94 ∧ k = 11) → ¬ (a = 103 ∧ Int.toNat (4 * W) ≤ k ∧ k ≤ Int.toNat (4 * W) + 3) → dv (y_sI g 94 24 (W + 1)) a k = dv g0 a k := fun a k q r => dv_pt a k (fun e e1 e2 => by rw [yI_sI_o (by omega), eg.2 _ _ (by omega) (by omega)]) (fun e => by rw [yI_sI_o (by omega), eg.2 _ _ (by omega) (by omega)]) (fun e => by rw [yI_sI_o (by omega), eg.2 _ _ (by omega) (by omega)])
  have wm : g_wm (dv (y_sI g 94 24 (W + 1))) = W + 1 := yI_sI_e ⟨rfl, rfl⟩
  have tk : ∀ k, k < 96 → dv (y_sI g 94 24 (W + 1)) 103 k = y_I g 108 k := fun k hk => by
    show (if k < 96 then y_I (y_sI g 94 24 (W + 1)) 108 k else _) = _
    rw [if_pos hk, yI_sI_o (by omega)]
  have t1 := (tk (Int.toNat (4 * W)) (by omega)).trans g1
  have t2 := (tk (Int.toNat (4 * W + 1)) (by omega)).trans g2
  have t3 := (tk (Int.toNat (4 * W + 2)) (by omega)).trans g3
  have t4 := (tk (Int.toNat (4 * W + 3)) (by omega)).trans g4
  clear tk
  generalize eG : dv (y_sI g 94 24 (W + 1)) = G at ga wm t1 t2 t3 t4
  generalize dv g0 = G0 at ga X G1 G2 n1 n2 hR hW krm kwm hN hw b1
  have la : g_la G = g_la G0 := ga _ _ (by omega) (by omega)
  have pm : g_pm G = g_pm G0 := ga _ _ (by omega) (by omega)
  have rm : g_rm G = g_rm G0 := ga _ _ (by omega) (by omega)
  have nm : g_nm G = g_nm G0 := ga _ _ (by omega) (by omega)
  have um : g_um G = g_um G0 := ga _ _ (by omega) (by omega)
  have r1 : G 101 = G0 101 := funext fun k => ga _ _ (by omega) (by omega)
  have r2 : G 102 = G0 102 := funext fun k => ga _ _ (by omega) (by omega)
  have r4 : G 104 = G0 104 := funext fun k => ga _ _ (by omega) (by omega)
  have r5 : G 105 = G0 105 := funext fun k => ga _ _ (by omega) (by omega)
  have cp : ∀ r, g_cp G r = g_cp G0 r := fun r => by unfold g_cp; rw [r1]
  have cm : ∀ r, g_cm G r = g_cm G0 r := fun r => by unfold g_cm; rw [r1]
  have sl : ∀ r, g_sl G r = g_sl G0 r := fun r => by unfold g_sl; rw [r1]
  have fr : ∀ r, g_fr G r = g_fr G0 r := fun r => by unfold g_fr; rw [r2]
  have ti : ∀ r, g_ti G r = g_ti G0 r := fun r => by unfold g_ti; rw [r2]
  have or : ∀ r, g_or G r = g_or G0 r := fun r => by unfold g_or; rw [r2]
  have na : ∀ r q p, g_na G r q p = g_na G0 r q p := fun r q p => by unfold g_na; rw [nm, r4]
  have cv : ∀ p t, g_cv G p t = g_cv G0 p t := fun p t => by unfold g_cv; rw [um, r5]
  have rdW : g_rd G W = R - 1 := t1
  have ptW : g_pt G W = w1 := t2
  have mnW : g_mn G W = w2 := t3
  have woW : g_wo G W = w3 := t4
  have rd : ∀ w, 0 ≤ w → w < W → g_rd G w = g_rd G0 w := fun w u1 u2 => ga _ _ (by omega) (by omega)
  have pt : ∀ w, 0 ≤ w → w < W → g_pt G w = g_pt G0 w := fun w u1 u2 => ga _ _ (by omega) (by omega)
  have mn : ∀ w, 0 ≤ w → w < W → g_mn G w = g_mn G0 w := fun w u1 u2 => ga _ _ (by omega) (by omega)
  have wo : ∀ w, 0 ≤ w → w < W → g_wo G w = g_wo G0 w := fun w u1 u2 => ga _ _ (by omega) (by omega)
  have none : ∀ w, 0 ≤ w → w < W → ¬ (g_rd G0 w = R - 1 ∧ g_pt G0 w = w1) := fun w u1 u2 => (u_find_none (p := fun w => g_rd G0 w = R - 1 ∧ g_pt G0 w = w1) (n := (g_wm G0).toNat) (k := 0) (by omega)).mp hw w u1 (by omega)
  obtain ⟨-, x0, x1, x2, x3, x4, x5, x6, x7, x8, x9, x10, x11, x12, x13, x14, x15, x16, x17, x18⟩ := X
  obtain ⟨k1, k2, k3, k4, k5, k6, k7, k8, k9, k10, k11⟩ := G1
  have hh : ∀ a k, b ≤ a → y_I h a k = y_I h0 a k := fun a k q => eh.2 a k (by omega)
  have xi : ∀ i k, 1 ≤ i → (i < 7 ∨ i = 8) → y_I (x_aw h b R W w1 w2 w3) (b + i) k = y_I h0 (b + i) k := fun i k q r => by
    unfold x_aw
    simp (disch := omega) only [yI_sI_o]
    exact hh _ _ (by omega)
  have xb : ∀ k, k ≠ 3 → y_I (x_aw h b R W w1 w2 w3) b k = y_I h0 b k := fun k q => by
    unfold x_aw
    simp (disch := omega) only [yI_sI_o]
    exact hh _ _ (by omega)
  have x7' := x10 (R - 1) (by omega) (by omega)
  have x8' := x11 (R - 1) (by omega) (by omega)
  unfold DR
  rw [eG]
  refine ⟨?_, ?_, ?_, by rw [ho _ _ (by omega), eh.2 _ _ (by omega), nm]; exact n1, by rw [ho _ _ (by omega), eh.2 _ _ (by omega), um]; exact n2⟩
  · unfold xmg
    simp only [xi 1 _ (by omega) (by omega), xi 2 _ (by omega) (by omega), xi 3 _ (by omega) (by omega), xi 5 _ (by omega) (by omega), xi 6 _ (by omega) (by omega), xi 8 _ (by omega) (by omega), hJ, la, pm, rm, wm, cp, cm, sl, fr, ti, or, na, cv]
    refine ⟨hb, by rw [xb _ (by omega)]; exact x0, by rw [xb _ (by omega)]; exact x1, by rw [xb _ (by omega)]; exact x2, ?_, x4, x5, x6, x7, x8, x9, fun r r1 r2 => ?_, x11, fun w u1 u2 => ?_, fun w u1 u2 => ?_, fun w u1 u2 => ?_, fun w u1 u2 => ?_, fun w u1 u2 => ?_, fun w u1 u2 => ?_, fun w u1 u2 => ?_⟩
    · unfold x_aw
      rw [yI_sI_e ⟨rfl, rfl⟩]
    · have o := x10 r r1 r2
      unfold x_aw
      rw [yI_sI_o (by omega)]
      by_cases e : r = R - 1
      · rw [yI_sI_e (by rw [e]; omega), hh _ _ (by omega)]
        refine ⟨y_or_r, fun w s1 s2 => ?_⟩
        rw [ub_or, x7'.2 w s1 s2, ub_shl (by omega) (by omega)]
        constructor
        · rintro (z | z)
          · exact ⟨by omega, by rw [rd w s1 (by omega), e]; exact z.2⟩
          · rw [z, rdW]; exact ⟨by omega, e.symm⟩
        · rintro ⟨z1, z2⟩
          by_cases y : w = W
          · exact Or.inr y
          · rw [rd w s1 (by omega), e] at z2
            exact Or.inl ⟨by omega, z2⟩
      · simp (disch := omega) only [yI_sI_o]
        rw [hh _ _ (by omega)]
        refine ⟨o.1, fun w s1 s2 => ?_⟩
        rw [o.2 w s1 s2]
        constructor
        · rintro ⟨z1, z2⟩
          exact ⟨by omega, by rw [rd w s1 (by omega)]; exact z2⟩
        · rintro ⟨z1, z2⟩
          by_cases y : w = W
          · rw [y, rdW] at z2; omega
          · rw [rd w s1 (by omega)] at z2
            exact ⟨by omega, z2⟩
    · unfold x_aw
      by_cases e : w = W
      · simp (disch := omega) only [yI_sI_o]
        rw [yI_sI_e (by rw [e]; omega), e, rdW]
      · simp (disch := omega) only [yI_sI_o]
        rw [hh _ _ (by omega), rd w u1 (by omega)]
        exact x12 w u1 (by omega)
    · unfold x_aw
      by_cases e : w = W
      · simp (disch := omega) only [yI_sI_o]
        rw [yI_sI_e (by rw [e]; omega), e, ptW]
      · simp (disch := omega) only [yI_sI_o]
        rw [hh _ _ (by omega), pt w u1 (by omega)]
        exact x13 w u1 (by omega)
    · unfold x_aw
      by_cases e : w = W
      · simp (disch := omega) only [yI_sI_o]
        rw [yI_sI_e (by rw [e]; omega), e, mnW]
      · simp (disch := omega) only [yI_sI_o]
        rw [hh _ _ (by omega), mn w u1 (by omega)]
        exact x14 w u1 (by omega)
    · unfold x_aw
      by_cases e : w = W
      · simp (disch := omega) only [yI_sI_o]
        rw [yI_sI_e (by rw [e]; omega), e, woW]
      · simp (disch := omega) only [yI_sI_o]
        rw [hh _ _ (by omega), wo w u1 (by omega)]
        exact x15 w u1 (by omega)
    · unfold x_aw
      by_cases e : w = W
      · simp (disch := omega) only [yI_sI_o]
        rw [yI_sI_e (by rw [e]; omega), e, rdW, ptW]
        refine ⟨y_inr_0, fun q s1 s2 => ⟨fun z => absurd z ub_0, fun z => ?_⟩⟩
        have := hN _ _ _ z.2
        omega
      · simp (disch := omega) only [yI_sI_o]
        rw [hh _ _ (by omega), rd w u1 (by omega), pt w u1 (by omega)]
        exact x16 w u1 (by omega)
    · unfold x_aw
      by_cases e : w = W
      · simp (disch := omega) only [yI_sI_o]
        rw [yI_sI_e (by rw [e]; omega), e, rdW, ptW]
        refine ⟨y_inr_0, fun q s1 s2 => ⟨fun z => absurd z ub_0, fun z => ?_⟩⟩
        have := hN _ _ _ z.2.2
        omega
      · simp (disch := omega) only [yI_sI_o]
        rw [hh _ _ (by omega), rd w u1 (by omega), pt w u1 (by omega)]
        obtain ⟨o1, o2⟩ := x17 w u1 (by omega)
        refine ⟨o1, fun v s1 s2 => ?_⟩
        rw [o2 v s1 s2]
        constructor
        · rintro ⟨z1, z2, z3⟩
          rw [rd v s1 (by omega), pt v s1 (by omega)]
          exact ⟨by omega, z2, z3⟩
        · rintro ⟨z1, z2, z3⟩
          by_cases y : v = W
          · rw [y, rdW] at z3
            have := hN _ _ _ z3
            omega
          · rw [rd v s1 (by omega)] at z3
            rw [pt v s1 (by omega)] at z2
            exact ⟨by omega, z2, z3⟩
    · unfold x_aw
      by_cases e : w = W
      · rw [yI_sI_o (by omega), yI_sI_o (by omega), yI_sI_e (by rw [e]; omega), hh _ _ (by omega), hh _ _ (by omega), x8', e, rdW]
        by_cases z : g_or G0 (R - 1) = 0
        · rw [if_pos z]
          exact ⟨y_inr_0, fun v s1 s2 => ⟨fun y => absurd y ub_0, fun y => by omega⟩⟩
        · have zz := (k8 (R - 1) (by omega) (by omega)).2
          rw [if_neg z]
          refine ⟨x7'.1, fun v s1 s2 => ?_⟩
          rw [x7'.2 v s1 s2]
          constructor
          · rintro ⟨y1, y2⟩
            exact ⟨by omega, by omega, by rw [rd v s1 (by omega)]; exact y2⟩
          · rintro ⟨y1, y2, y3⟩
            rw [rd v s1 (by omega)] at y3
            exact ⟨by omega, y3⟩
      · simp (disch := omega) only [yI_sI_o]
        rw [hh _ _ (by omega), rd w u1 (by omega)]
        obtain ⟨o1, o2⟩ := x18 w u1 (by omega)
        refine ⟨o1, fun v s1 s2 => ?_⟩
        rw [o2 v s1 s2]
        constructor
        · rintro ⟨y1, y2, y3⟩
          exact ⟨y1, y2, by rw [rd v s1 (by omega)]; exact y3⟩
        · rintro ⟨y1, y2, y3⟩
          rw [rd v s1 (by omega)] at y3
          exact ⟨y1, y2, y3⟩
  · unfold g_ok
    simp only [la, pm, rm, wm, nm, um, cp, cm, sl, fr, ti, or, r5]
    refine ⟨k1, k2, by omega, k4, k5, k6, k7, k8, fun w u1 u2 => ?_, fun v w v1 v2 u1 u2 e1 e2 => ?_, k11⟩
    · by_cases e : w = W
      · rw [e, rdW, ptW, mnW, woW]; omega
      · rw [rd w u1 (by omega), pt w u1 (by omega), mn w u1 (by omega), wo w u1 (by omega)]
        exact k9 w u1 (by omega)
    · by_cases y : v = W
      · by_cases z : w = W
        · omega
        · rw [y, rdW, rd w u1 (by omega)] at e1
          rw [y, ptW, pt w u1 (by omega)] at e2
          exact absurd ⟨e1.symm, e2.symm⟩ (none w u1 (by omega))
      · by_cases z : w = W
        · rw [z, rdW, rd v v1 (by omega)] at e1
          rw [z, ptW, pt v v1 (by omega)] at e2
          exact absurd ⟨e1, e2⟩ (none v v1 (by omega))
        · rw [rd v v1 (by omega), rd w u1 (by omega)] at e1
          rw [pt v v1 (by omega), pt w u1 (by omega)] at e2
          exact k10 v w v1 (by omega) u1 (by omega) e1 e2
  · unfold g_di at G2 ⊢
    rw [pm, rm, nm, um, r4, r5]
    exact G2
end IT
