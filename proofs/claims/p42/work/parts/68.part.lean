/-! READING A HOUSE, a part -/
theorem lb_0 {t : Int} : ¬ u_lb (Int64.ofNat 0) t := fun q => q (by
  have e : (y_lshr (Int64.ofNat 0) t) &&& (Int64.ofNat 1) = Int64.ofNat 0 := by
    unfold y_lshr
    apply Int64.toBitVec_inj.mp
    simp
  rw [e]
  decide)
/-- what is written of item P of three places in row a -/
def FP (a : Nat) (P : Int) (g g' : y_Hp) : Prop := g'.2 = g.2 ∧ ∀ b k, ¬ (b = 94 ∧ (k = 19 ∨ k = 20)) → ¬ (b = a ∧ Int.toNat (3 * P) ≤ k ∧ k ≤ Int.toNat (3 * P) + 2) → y_I g' b k = y_I g b k
theorem FM.fp {a : Nat} {P : Int} {g g' : y_Hp} (e : FM g g') : FP a P g g' := ⟨e.1, fun b k q _ => e.2 b k q⟩
theorem FP.trans {a : Nat} {P : Int} {h i j : y_Hp} (e : FP a P h i) (f : FP a P i j) : FP a P h j := ⟨f.1.trans e.1, fun b k q r => (f.2 b k q r).trans (e.2 b k q r)⟩
theorem FP.w {a : Nat} {P : Int} {g : y_Hp} {k : Nat} {v : Int} (hk : Int.toNat (3 * P) ≤ k ∧ k ≤ Int.toNat (3 * P) + 2) : FP a P g (y_sI g a k v) := ⟨rfl, fun b j q r => yI_sI_o (by omega)⟩
theorem FP.mm {a : Nat} {P : Int} {g g' : y_Hp} (ha : 106 ≤ a ∧ a ≤ 110) (e : FP a P g g') : FMM g g' := ⟨fun b k q r => e.2 b k (by omega) (by omega), e.1⟩
section IT
variable {sc : z_Sc} {h g : y_Hp} {c b : Nat} {t n p : Int} {T : Int → Int}
def x_ap (h : y_Hp) (b : Nat) (P v1 v2 v3 : Int) : y_Hp := y_sI (y_sJ (y_sI (y_sI (y_sI h (b + 1) (Int.toNat P) v1) (b + 2) (Int.toNat P) v2) (b + 3) (Int.toNat P) v3) (b + 4) (Int.toNat P) (Int64.ofNat 0)) b 1 (P + 1)
theorem s8 (d : Nat) (hd : 1 ≤ d) (hb : b = 62 ∨ b = 78) (P : Int) (hP : y_I h b 1 = P) (h6 : 0 ≤ P ∧ P < 6) (v1 v2 v3 : Int) : y_se z_pg sc d 8 [y_vr b, y_vi v1, y_vi v2, y_vi v3] h = some (none, x_ap h b P v1 v2 v3) := by
  rcases d with _ | d
  · omega
  have q1 : ∀ g : y_Hp, ∀ a k v, b ≠ a → y_I (y_sI g a k v) b 1 = y_I g b 1 := fun g a k v e => yI_sI_o (fun z => e z.1)
  rw [e8, b8_0, yH0 hb, hP, if_pos h6.2]
  simp (disch := first | omega | assumption) only [yH0, yH1, yH2, yH3, yH4, lH1, lH2, lH3, lH4, hP, yi_t, q1, yI_sJ, yhb_s, yr_t]
  rfl
theorem part_fin (S : XS c b n T p h) (M : MS t n T p g) {h0 g0 : y_Hp} (D : DR h0 b g0) (hc : 14 ≤ c ∧ c ≤ 17) (P : Int) (hP : g_pm (dv g0) = P) (h6 : P < 6) (eh : FX h0 h) (eg : FP 106 P g0 g) (w1 w2 w3 : Int) (g1 : y_I g 106 (Int.toNat (3 * P)) = w1) (g2 : y_I g 106 (Int.toNat (3 * P + 1)) = w2) (g3 : y_I g 106 (Int.toNat (3 * P + 2)) = w3) (b1 : w1 = 1 ∨ w1 = 2) (b2 : 0 ≤ w2 ∧ w2 ≤ 59) (b3 : 0 ≤ w3 ∧ w3 ≤ 9) : XS c b n T p (x_ap h b P w1 w2 w3) ∧ MS t n T p (y_sI g 94 22 (P + 1)) ∧ FXX b h0 (x_ap h b P w1 w2 w3) ∧ FMM g0 (y_sI g 94 22 (P + 1)) ∧ DR (x_ap h b P w1 w2 w3) b (y_sI g 94 22 (P + 1)) := by
  obtain ⟨X, G1, G2, n1, n2⟩ := D
  have hb := X.1
  have kp := G1.1
  have kum := G1.2.2.2.2.1
  have ho : ∀ a k, ¬ (b ≤ a ∧ a ≤ b + 3) → y_I (x_ap h b P w1 w2 w3) a k = y_I h a k := fun a k q => by
    unfold x_ap
    rw [yI_sI_o (by omega), yI_sJ, yI_sI_o (by omega), yI_sI_o (by omega), yI_sI_o (by omega)]
  have hJ : ∀ a k, a ≠ b + 4 → y_J (x_ap h b P w1 w2 w3) a k = y_J h a k := fun a k q => by
    show (z_row h.2.2 (b + 4) _) a k = h.2.2 a k
    unfold z_row
    rw [if_neg q]
  have hF : y_F (x_ap h b P w1 w2 w3) = y_F h := rfl
  have S' : XS c b n T p (x_ap h b P w1 w2 w3) := ⟨S.1, S.2.1, by rw [ho _ _ (by omega)]; exact S.2.2.1, by rw [ho _ _ (by omega)]; exact S.2.2.2.1, fun i i1 i2 => by rw [ho _ _ (by omega)]; exact S.2.2.2.2 i i1 i2⟩
  have M' : MS t n T p (y_sI g 94 22 (P + 1)) := ⟨by rw [yI_sI_o (by omega)]; exact M.1, by rw [yI_sI_o (by omega)]; exact M.2.1, fun i i1 i2 => by rw [yI_sI_o (by omega)]; exact M.2.2 i i1 i2⟩
  refine ⟨S', M', eh.xx.trans ⟨fun a k q r => ho a k (by omega), hF, fun a k q => hJ a k q⟩, (eg.mm (by omega)).trans ⟨fun a k q r => yI_sI_o (by omega), rfl⟩, ?_⟩
  have ga : ∀ a k, ¬ (a = 94 ∧ k = 9) → ¬ (a = 101 ∧ Int.toNat (3 * P) ≤ k ∧ k ≤ Int.toNat (3 * P) + 2) → dv (y_sI g 94 22 (P + 1)) a k = dv g0 a k := fun a k q r => dv_pt a k (fun e e1 e2 => by rw [yI_sI_o (by omega), eg.2 _ _ (by omega) (by omega)]) (fun e => by rw [yI_sI_o (by omega), eg.2 _ _ (by omega) (by omega)]) (fun e => by rw [yI_sI_o (by omega), eg.2 _ _ (by omega) (by omega)])
  have pm : g_pm (dv (y_sI g 94 22 (P + 1))) = P + 1 := yI_sI_e ⟨rfl, rfl⟩
  have t1 : dv (y_sI g 94 22 (P + 1)) 101 (Int.toNat (3 * P)) = w1 := by
    show (if Int.toNat (3 * P) < 18 then y_I (y_sI g 94 22 (P + 1)) 106 (Int.toNat (3 * P)) else _) = w1
    rw [if_pos (by omega), yI_sI_o (by omega), g1]
  have t2 : dv (y_sI g 94 22 (P + 1)) 101 (Int.toNat (3 * P + 1)) = w2 := by
    show (if Int.toNat (3 * P + 1) < 18 then y_I (y_sI g 94 22 (P + 1)) 106 (Int.toNat (3 * P + 1)) else _) = w2
    rw [if_pos (by omega), yI_sI_o (by omega), g2]
  have t3 : dv (y_sI g 94 22 (P + 1)) 101 (Int.toNat (3 * P + 2)) = w3 := by
    show (if Int.toNat (3 * P + 2) < 18 then y_I (y_sI g 94 22 (P + 1)) 106 (Int.toNat (3 * P + 2)) else _) = w3
    rw [if_pos (by omega), yI_sI_o (by omega), g3]
  generalize eG : dv (y_sI g 94 22 (P + 1)) = G at ga pm t1 t2 t3
  generalize dv g0 = G0 at ga X G1 G2 n1 n2 hP kp kum
  have la : g_la G = g_la G0 := ga _ _ (by omega) (by omega)
  have rm : g_rm G = g_rm G0 := ga _ _ (by omega) (by omega)
  have wm : g_wm G = g_wm G0 := ga _ _ (by omega) (by omega)
  have nm : g_nm G = g_nm G0 := ga _ _ (by omega) (by omega)
  have um : g_um G = g_um G0 := ga _ _ (by omega) (by omega)
  have r2 : G 102 = G0 102 := funext fun k => ga _ _ (by omega) (by omega)
  have r3 : G 103 = G0 103 := funext fun k => ga _ _ (by omega) (by omega)
  have r4 : G 104 = G0 104 := funext fun k => ga _ _ (by omega) (by omega)
  have r5 : G 105 = G0 105 := funext fun k => ga _ _ (by omega) (by omega)
  have fr : ∀ r, g_fr G r = g_fr G0 r := fun r => by unfold g_fr; rw [r2]
  have ti : ∀ r, g_ti G r = g_ti G0 r := fun r => by unfold g_ti; rw [r2]
  have or : ∀ r, g_or G r = g_or G0 r := fun r => by unfold g_or; rw [r2]
  have rd : ∀ r, g_rd G r = g_rd G0 r := fun r => by unfold g_rd; rw [r3]
  have pt : ∀ r, g_pt G r = g_pt G0 r := fun r => by unfold g_pt; rw [r3]
  have mn : ∀ r, g_mn G r = g_mn G0 r := fun r => by unfold g_mn; rw [r3]
  have wo : ∀ r, g_wo G r = g_wo G0 r := fun r => by unfold g_wo; rw [r3]
  have na : ∀ r q p, g_na G r q p = g_na G0 r q p := fun r q p => by unfold g_na; rw [nm, r4]
  have cv : ∀ p t, g_cv G p t = g_cv G0 p t := fun p t => by unfold g_cv; rw [um, r5]
  have cp : ∀ q, 0 ≤ q → q < P + 1 → g_cp G q = if q = P then w1 else g_cp G0 q := fun q q1 q2 => by
    by_cases e : q = P
    · rw [if_pos e, e]; exact t1
    · rw [if_neg e]; exact ga _ _ (by omega) (by omega)
  have cm : ∀ q, 0 ≤ q → q < P + 1 → g_cm G q = if q = P then w2 else g_cm G0 q := fun q q1 q2 => by
    by_cases e : q = P
    · rw [if_pos e, e]; exact t2
    · rw [if_neg e]; exact ga _ _ (by omega) (by omega)
  have sl : ∀ q, 0 ≤ q → q < P + 1 → g_sl G q = if q = P then w3 else g_sl G0 q := fun q q1 q2 => by
    by_cases e : q = P
    · rw [if_pos e, e]; exact t3
    · rw [if_neg e]; exact ga _ _ (by omega) (by omega)
  obtain ⟨-, x0, x1, x2, x3, x4, x5, x6, x7, x8, x9, x10, x11, x12, x13, x14, x15, x16, x17, x18⟩ := X
  have hh : ∀ a k, b ≤ a → y_I h a k = y_I h0 a k := fun a k q => eh.2 a k (by omega)
  have xi : ∀ i k, 5 ≤ i → y_I (x_ap h b P w1 w2 w3) (b + i) k = y_I h0 (b + i) k := fun i k q => by rw [ho _ _ (by omega), hh _ _ (by omega)]
  have xb : ∀ k, k ≠ 1 → y_I (x_ap h b P w1 w2 w3) b k = y_I h0 b k := fun k q => by
    unfold x_ap
    rw [yI_sI_o (by omega), yI_sJ, yI_sI_o (by omega), yI_sI_o (by omega), yI_sI_o (by omega), hh _ _ (by omega)]
  unfold DR
  rw [eG]
  refine ⟨?_, ?_, ?_, by rw [ho _ _ (by omega), eh.2 _ _ (by omega), nm]; exact n1, by rw [ho _ _ (by omega), eh.2 _ _ (by omega), um]; exact n2⟩
  · unfold xmg
    simp only [xi 5 _ (by omega), xi 6 _ (by omega), xi 7 _ (by omega), xi 8 _ (by omega), xi 9 _ (by omega), xi 10 _ (by omega), xi 11 _ (by omega), xi 12 _ (by omega), xi 13 _ (by omega), xi 14 _ (by omega), xi 15 _ (by omega), la, pm, rm, wm, fr, ti, or, rd, pt, mn, wo, na, cv]
    refine ⟨hb, by rw [xb _ (by omega)]; exact x0, ?_, by rw [xb _ (by omega)]; exact x2, by rw [xb _ (by omega)]; exact x3, fun q q1 q2 => ?_, fun q q1 q2 => ?_, fun q q1 q2 => ?_, fun q q1 q2 t t1 t2 => ?_, x8, x9, x10, x11, x12, x13, x14, x15, x16, x17, x18⟩
    · unfold x_ap
      rw [yI_sI_e ⟨rfl, rfl⟩]
    · rw [cp q q1 q2]
      unfold x_ap
      rw [yI_sI_o (by omega), yI_sJ, yI_sI_o (by omega), yI_sI_o (by omega)]
      by_cases e : q = P
      · rw [if_pos e, yI_sI_e (by rw [e]; omega)]
      · rw [if_neg e, yI_sI_o (by omega), hh _ _ (by omega)]
        exact x4 q q1 (by omega)
    · rw [cm q q1 q2]
      unfold x_ap
      rw [yI_sI_o (by omega), yI_sJ, yI_sI_o (by omega)]
      by_cases e : q = P
      · rw [if_pos e, yI_sI_e (by rw [e]; omega)]
      · rw [if_neg e, yI_sI_o (by omega), yI_sI_o (by omega), hh _ _ (by omega)]
        exact x5 q q1 (by omega)
    · rw [sl q q1 q2]
      unfold x_ap
      rw [yI_sI_o (by omega), yI_sJ]
      by_cases e : q = P
      · rw [if_pos e, yI_sI_e (by rw [e]; omega)]
      · rw [if_neg e, yI_sI_o (by omega), yI_sI_o (by omega), yI_sI_o (by omega), hh _ _ (by omega)]
        exact x6 q q1 (by omega)
    · by_cases e : q = P
      · have ej : y_J (x_ap h b P w1 w2 w3) (b + 4) (Int.toNat q) = Int64.ofNat 0 := by
          show (z_row h.2.2 (b + 4) (z_up (h.2.2 (b + 4)) (Int.toNat P) (Int64.ofNat 0))) (b + 4) (Int.toNat q) = _
          unfold z_row z_up
          rw [if_pos rfl, if_pos (by rw [e])]
        rw [ej]
        exact ⟨fun z => absurd z lb_0, fun z => by have := g_cv_in G2 kum.1 z; omega⟩
      · have ej : y_J (x_ap h b P w1 w2 w3) (b + 4) (Int.toNat q) = y_J h0 (b + 4) (Int.toNat q) := by
          show (z_row h.2.2 (b + 4) (z_up (h.2.2 (b + 4)) (Int.toNat P) (Int64.ofNat 0))) (b + 4) (Int.toNat q) = _
          unfold z_row z_up
          rw [if_pos rfl, if_neg (by omega), eh.1]
          rfl
        rw [ej]
        exact x7 q q1 (by omega) t t1 t2
  · obtain ⟨k1, k2, k3, k4, k5, k6, k7, k8, k9, k10, k11⟩ := G1
    unfold g_ok
    simp only [la, pm, rm, wm, nm, um, fr, ti, or, rd, pt, mn, wo, r5]
    refine ⟨by omega, k2, k3, k4, k5, k6, fun q q1 q2 => ?_, k8, fun w w1 w2 => ?_, k10, k11⟩
    · rw [cp q q1 q2, cm q q1 q2, sl q q1 q2]
      by_cases e : q = P
      · rw [if_pos e, if_pos e, if_pos e]; exact ⟨b1, b2, b3⟩
      · rw [if_neg e, if_neg e, if_neg e]; exact k7 q q1 (by omega)
    · have := k9 w w1 w2
      exact ⟨this.1, by omega, this.2.2⟩
  · unfold g_di at G2 ⊢
    rw [pm, rm, nm, um, r4, r5]
    refine ⟨fun k k1 k2 => ?_, fun k k1 k2 => ?_⟩
    · have := G2.1 k k1 k2
      omega
    · have := G2.2 k k1 k2
      omega
end IT
