/-! READING A HOUSE, a cushion -/
theorem yJ_sJ {h : y_Hp} {a k b j : Nat} {v : Int64} : y_J (y_sJ h a k v) b j = if b = a ∧ j = k then v else y_J h b j := by
  show (z_row h.2.2 a (z_up (h.2.2 a) k v)) b j = _
  unfold z_row z_up
  by_cases c : b = a
  · subst c
    rw [if_pos rfl]
    by_cases e : j = k
    · rw [if_pos e, if_pos ⟨rfl, e⟩]
    · rw [if_neg e, if_neg (fun q => e q.2)]; rfl
  · rw [if_neg c, if_neg (fun q => c q.1)]; rfl
def x_cv (b : Nat) (p : Int) : Nat → Int → y_Hp → y_Hp
  | 0, _, h => h
  | n + 1, k, h => x_cv b p n (k + 1) (y_sJ h (b + 4) (Int.toNat p) (y_J h (b + 4) (Int.toNat p) ||| y_lshl (Int64.ofNat 1) k))
theorem x_cv_I {b : Nat} {p : Int} : ∀ (n : Nat) (k : Int) (h : y_Hp), y_I (x_cv b p n k h) = y_I h
  | 0, _, _ => rfl
  | n + 1, k, h => x_cv_I n (k + 1) _
theorem x_cv_F {b : Nat} {p : Int} : ∀ (n : Nat) (k : Int) (h : y_Hp), y_F (x_cv b p n k h) = y_F h
  | 0, _, _ => rfl
  | n + 1, k, h => x_cv_F n (k + 1) _
theorem x_cv_o {b : Nat} {p : Int} {a j : Nat} (e : ¬ (a = b + 4 ∧ j = Int.toNat p)) : ∀ (n : Nat) (k : Int) (h : y_Hp), y_J (x_cv b p n k h) a j = y_J h a j
  | 0, _, _ => rfl
  | n + 1, k, h => (x_cv_o e n (k + 1) _).trans (by rw [yJ_sJ, if_neg e])
theorem x_cv_e {b : Nat} {p : Int} {s : Int} (hs : 0 ≤ s ∧ s ≤ 60) : ∀ (n : Nat) (k : Int) (h : y_Hp), 0 ≤ k → k + n ≤ 61 → (u_lb (y_J (x_cv b p n k h) (b + 4) (Int.toNat p)) s ↔ (u_lb (y_J h (b + 4) (Int.toNat p)) s ∨ (k ≤ s ∧ s < k + n)))
  | 0, k, h, hk, hn => ⟨Or.inl, fun q => q.elim id fun q => by omega⟩
  | n + 1, k, h, hk, hn => by
    refine (x_cv_e hs n (k + 1) _ (by omega) (by omega)).trans ?_
    rw [yJ_sJ, if_pos ⟨rfl, rfl⟩, lb_or (by omega) (by omega)]
    constructor
    · rintro ((q | q) | q)
      · exact Or.inl q
      · exact Or.inr (by omega)
      · exact Or.inr (by omega)
    · rintro (q | q)
      · exact Or.inl (Or.inl q)
      · by_cases e : s = k
        · exact Or.inl (Or.inr e)
        · exact Or.inr (by omega)
section IT
variable {sc : z_Sc} {h g : y_Hp} {c b : Nat} {t n p : Int} {T : Int → Int}
theorem l12 (d : Nat) (hb : b = 62 ∨ b = 78) (q lo hi : Int) (hq : 0 ≤ q ∧ q < 6) (hh : hi ≤ 60) : ∀ (n : Nat) (k : Int) (h : y_Hp), 0 ≤ k → k + n = max k (hi + 1) → y_ev z_pg sc d pgX0_cover 3 [some (y_vr b), some (y_vi q), some (y_vi lo), some (y_vi hi), some (y_vi k)] [] h = some (none, x_cv b q n k h)
  | 0, k, h, hk, hn => by
    rw [b12_3, if_pos (by omega)]
    rfl
  | n + 1, k, h, hk, hn => by
    rw [b12_3, if_neg (by omega), yH0 hb, yH4 hb, lH4 hb, yi_t (by omega), yH4 hb, yi_t (by omega), yhb_s, yr_t (by omega), l12 d hb q lo hi hq hh n (k + 1) _ (by omega) (by omega)]
    rfl
theorem s12 (d : Nat) (hd : 1 ≤ d) (hb : b = 62 ∨ b = 78) (q lo hi : Int) (hq : 0 ≤ q ∧ q < 6) (hl : 0 ≤ lo ∧ lo ≤ hi ∧ hi ≤ 60) : y_se z_pg sc d 12 [y_vr b, y_vi q, y_vi lo, y_vi hi] h = some (none, x_cv b q (hi + 1 - lo).toNat lo h) := by
  rcases d with _ | d
  · omega
  rw [e12, b12_0, l12 d hb q lo hi hq hl.2.2 (hi + 1 - lo).toNat lo h (by omega) (by omega)]
theorem cush_fin (S : XS c b n T p h) (M : MS t n T p g) {h0 g0 : y_Hp} (D : DR h0 b g0) (hc : 14 ≤ c ∧ c ≤ 17) (U : Int) (hU : g_um (dv g0) = U) (h8 : U < 8) (eh : FX h0 h) (eg : FP 110 U g0 g) (w1 w2 w3 : Int) (g1 : y_I g 110 (Int.toNat (3 * U)) = w1) (g2 : y_I g 110 (Int.toNat (3 * U + 1)) = w2) (g3 : y_I g 110 (Int.toNat (3 * U + 2)) = w3) (b1 : 0 ≤ w1 ∧ w1 < g_pm (dv g0)) (b2 : 0 ≤ w2 ∧ w2 ≤ w3 ∧ w3 ≤ 60) : XS c b n T p (y_sI (x_cv b w1 (w3 + 1 - w2).toNat w2 h) 19 5 (U + 1)) ∧ MS t n T p (y_sI g 94 26 (U + 1)) ∧ FXX b h0 (y_sI (x_cv b w1 (w3 + 1 - w2).toNat w2 h) 19 5 (U + 1)) ∧ FMM g0 (y_sI g 94 26 (U + 1)) ∧ DR (y_sI (x_cv b w1 (w3 + 1 - w2).toNat w2 h) 19 5 (U + 1)) b (y_sI g 94 26 (U + 1)) := by
  obtain ⟨X, G1, G2, n1, n2⟩ := D
  have hb := X.1
  have kum := G1.2.2.2.2.1
  have kpm := G1.1
  generalize eZ : y_sI (x_cv b w1 (w3 + 1 - w2).toNat w2 h) 19 5 (U + 1) = Z
  have ho : ∀ a k, ¬ (a = 19 ∧ k = 5) → y_I Z a k = y_I h a k := fun a k q => by
    rw [← eZ, yI_sI_o q, x_cv_I]
  have hJ : ∀ a k, ¬ (a = b + 4 ∧ k = Int.toNat w1) → y_J Z a k = y_J h a k := fun a k q => by
    rw [← eZ, yJ_sI, x_cv_o q]
  have hF : y_F Z = y_F h := by
    rw [← eZ]
    exact x_cv_F _ _ _
  have hL : ∀ s, 0 ≤ s → s ≤ 60 → (u_lb (y_J Z (b + 4) (Int.toNat w1)) s ↔ (u_lb (y_J h (b + 4) (Int.toNat w1)) s ∨ (w2 ≤ s ∧ s ≤ w3))) := fun s s1 s2 => by
    rw [← eZ, yJ_sI, x_cv_e ⟨s1, s2⟩ _ _ _ (by omega) (by omega)]
    exact or_congr Iff.rfl (by omega)
  have S' : XS c b n T p Z := ⟨by rw [hF]; exact S.1, by rw [hF]; exact S.2.1, by rw [ho _ _ (by omega)]; exact S.2.2.1, by rw [ho _ _ (by omega)]; exact S.2.2.2.1, fun i i1 i2 => by rw [ho _ _ (by omega)]; exact S.2.2.2.2 i i1 i2⟩
  have M' : MS t n T p (y_sI g 94 26 (U + 1)) := ⟨by rw [yI_sI_o (by omega)]; exact M.1, by rw [yI_sI_o (by omega)]; exact M.2.1, fun i i1 i2 => by rw [yI_sI_o (by omega)]; exact M.2.2 i i1 i2⟩
  refine ⟨S', M', eh.xx.trans ⟨fun a k q r => ho a k (by omega), hF, fun a k q => hJ a k (fun z => q z.1)⟩, (eg.mm (by omega)).trans ⟨fun a k q r => yI_sI_o (by omega), rfl⟩, ?_⟩
  have ga : ∀ a k, ¬ (a = 94 ∧ k = 13) → ¬ (a = 105 ∧ Int.toNat (3 * U) ≤ k ∧ k ≤ Int.toNat (3 * U) + 2) → dv (y_sI g 94 26 (U + 1)) a k = dv g0 a k := fun a k q r => dv_pt a k (fun e e1 e2 => by rw [yI_sI_o (by omega), eg.2 _ _ (by omega) (by omega)]) (fun e => by rw [yI_sI_o (by omega), eg.2 _ _ (by omega) (by omega)]) (fun e => by rw [yI_sI_o (by omega), eg.2 _ _ (by omega) (by omega)])
  have um : g_um (dv (y_sI g 94 26 (U + 1))) = U + 1 := yI_sI_e ⟨rfl, rfl⟩
  have t1 : dv (y_sI g 94 26 (U + 1)) 105 (Int.toNat (3 * U)) = w1 := by
    show (if Int.toNat (3 * U) < 24 then y_I (y_sI g 94 26 (U + 1)) 110 (Int.toNat (3 * U)) else _) = w1
    rw [if_pos (by omega), yI_sI_o (by omega), g1]
  have t2 : dv (y_sI g 94 26 (U + 1)) 105 (Int.toNat (3 * U + 1)) = w2 := by
    show (if Int.toNat (3 * U + 1) < 24 then y_I (y_sI g 94 26 (U + 1)) 110 (Int.toNat (3 * U + 1)) else _) = w2
    rw [if_pos (by omega), yI_sI_o (by omega), g2]
  have t3 : dv (y_sI g 94 26 (U + 1)) 105 (Int.toNat (3 * U + 2)) = w3 := by
    show (if Int.toNat (3 * U + 2) < 24 then y_I (y_sI g 94 26 (U + 1)) 110 (Int.toNat (3 * U + 2)) else _) = w3
    rw [if_pos (by omega), yI_sI_o (by omega), g3]
  generalize eG : dv (y_sI g 94 26 (U + 1)) = G at ga um t1 t2 t3
  generalize dv g0 = G0 at ga X G1 G2 n1 n2 hU kum kpm b1
  have la : g_la G = g_la G0 := ga _ _ (by omega) (by omega)
  have pm : g_pm G = g_pm G0 := ga _ _ (by omega) (by omega)
  have rm : g_rm G = g_rm G0 := ga _ _ (by omega) (by omega)
  have wm : g_wm G = g_wm G0 := ga _ _ (by omega) (by omega)
  have nm : g_nm G = g_nm G0 := ga _ _ (by omega) (by omega)
  have r1 : G 101 = G0 101 := funext fun k => ga _ _ (by omega) (by omega)
  have r2 : G 102 = G0 102 := funext fun k => ga _ _ (by omega) (by omega)
  have r3 : G 103 = G0 103 := funext fun k => ga _ _ (by omega) (by omega)
  have r4 : G 104 = G0 104 := funext fun k => ga _ _ (by omega) (by omega)
  have old : ∀ k j, 0 ≤ k → k < U → 0 ≤ j → j ≤ 2 → G 105 (Int.toNat (3 * k + j)) = G0 105 (Int.toNat (3 * k + j)) := fun k j k1 k2 j1 j2 => ga _ _ (by omega) (by omega)
  have old0 : ∀ k, 0 ≤ k → k < U → G 105 (Int.toNat (3 * k)) = G0 105 (Int.toNat (3 * k)) := fun k k1 k2 => ga _ _ (by omega) (by omega)
  have cv : ∀ p t, g_cv G p t ↔ (g_cv G0 p t ∨ (p = w1 ∧ w2 ≤ t ∧ t ≤ w3)) := fun p t => by
    unfold g_cv
    rw [u_any_iff, u_any_iff, um, hU]
    constructor
    · rintro ⟨k, k1, k2, e1, e2, e3⟩
      by_cases e : k = U
      · subst e
        rw [t1] at e1; rw [t2] at e2; rw [t3] at e3
        exact Or.inr ⟨e1.symm, e2, e3⟩
      · rw [old0 k k1 (by omega)] at e1
        rw [old k 1 k1 (by omega) (by omega) (by omega)] at e2
        rw [old k 2 k1 (by omega) (by omega) (by omega)] at e3
        exact Or.inl ⟨k, k1, by omega, e1, e2, e3⟩
    · rintro (⟨k, k1, k2, e1, e2, e3⟩ | ⟨e1, e2, e3⟩)
      · refine ⟨k, k1, by omega, ?_, ?_, ?_⟩
        · rw [old0 k k1 (by omega)]; exact e1
        · rw [old k 1 k1 (by omega) (by omega) (by omega)]; exact e2
        · rw [old k 2 k1 (by omega) (by omega) (by omega)]; exact e3
      · exact ⟨U, by omega, by omega, by rw [t1]; exact e1.symm, by rw [t2]; exact e2, by rw [t3]; exact e3⟩
  have na : ∀ r q p, g_na G r q p = g_na G0 r q p := fun r q p => by unfold g_na; rw [nm, r4]
  have cp : ∀ r, g_cp G r = g_cp G0 r := fun r => by unfold g_cp; rw [r1]
  have cm : ∀ r, g_cm G r = g_cm G0 r := fun r => by unfold g_cm; rw [r1]
  have sl : ∀ r, g_sl G r = g_sl G0 r := fun r => by unfold g_sl; rw [r1]
  have fr : ∀ r, g_fr G r = g_fr G0 r := fun r => by unfold g_fr; rw [r2]
  have ti : ∀ r, g_ti G r = g_ti G0 r := fun r => by unfold g_ti; rw [r2]
  have or : ∀ r, g_or G r = g_or G0 r := fun r => by unfold g_or; rw [r2]
  have rd : ∀ r, g_rd G r = g_rd G0 r := fun r => by unfold g_rd; rw [r3]
  have pt : ∀ r, g_pt G r = g_pt G0 r := fun r => by unfold g_pt; rw [r3]
  have mn : ∀ r, g_mn G r = g_mn G0 r := fun r => by unfold g_mn; rw [r3]
  have wo : ∀ r, g_wo G r = g_wo G0 r := fun r => by unfold g_wo; rw [r3]
  obtain ⟨-, x0, x1, x2, x3, x4, x5, x6, x7, x8, x9, x10, x11, x12, x13, x14, x15, x16, x17, x18⟩ := X
  have hh : ∀ a k, b ≤ a → y_I Z a k = y_I h0 a k := fun a k q => (ho a k (by omega)).trans (eh.2 a k (by omega))
  have xi : ∀ i k, y_I Z (b + i) k = y_I h0 (b + i) k := fun i k => hh _ _ (by omega)
  have xb : ∀ k, y_I Z b k = y_I h0 b k := fun k => hh _ _ (by omega)
  unfold DR
  rw [eG]
  refine ⟨?_, ?_, ?_, by rw [ho _ _ (by omega), eh.2 _ _ (by omega), nm]; exact n1, by rw [← eZ, yI_sI_e ⟨rfl, rfl⟩, um]⟩
  · unfold xmg
    simp only [xi, xb, la, pm, rm, wm, cp, cm, sl, fr, ti, or, rd, pt, mn, wo, na]
    refine ⟨hb, x0, x1, x2, x3, x4, x5, x6, fun q q1 q2 s s1 s2 => ?_, x8, x9, x10, x11, x12, x13, x14, x15, x16, x17, x18⟩
    have e0 : y_J h (b + 4) (Int.toNat q) = y_J h0 (b + 4) (Int.toNat q) := by unfold y_J; rw [eh.1]
    have e1 := x7 q q1 q2 s s1 s2
    rw [cv]
    by_cases e : q = w1
    · subst e
      rw [hL s s1 s2, e0, e1]
      exact or_congr Iff.rfl ⟨fun z => ⟨rfl, z⟩, fun z => z.2⟩
    · rw [hJ _ _ (by omega), e0, e1]
      exact ⟨Or.inl, fun z => z.elim id fun z => absurd z.1 e⟩
  · obtain ⟨k1, k2, k3, k4, k5, k6, k7, k8, k9, k10, k11⟩ := G1
    unfold g_ok
    simp only [la, pm, rm, wm, nm, um, cp, cm, sl, fr, ti, or, rd, pt, mn, wo]
    refine ⟨k1, k2, k3, k4, by omega, k6, k7, k8, k9, k10, fun k q1 q2 => ?_⟩
    by_cases e : k = U
    · subst e
      rw [t2, t3]; exact b2
    · rw [old k 1 q1 (by omega) (by omega) (by omega), old k 2 q1 (by omega) (by omega) (by omega)]
      exact k11 k q1 (by omega)
  · unfold g_di at G2 ⊢
    rw [pm, rm, nm, um, r4]
    refine ⟨G2.1, fun k k1 k2 => ?_⟩
    by_cases e : k = U
    · subst e
      rw [t1]; exact b1
    · rw [old0 k k1 (by omega)]
      exact G2.2 k k1 (by omega)
end IT
