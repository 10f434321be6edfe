/-! x's first wrong minute is the model's -/
section XJ
variable {sc : z_Sc} {h : y_Hp} {a b : Nat}
theorem s41 (d : Nat) (hd : 3 ≤ d) (hb : b = 20 ∨ b = 22) (X : xm h a) (hg : g_ok (hv h)) (hp : p_ok (hv h) (pl h (b + 1))) (w : Int) (hw : 0 ≤ w ∧ w < g_wm (hv h)) (hr : pl h (b + 1) w ≠ -9) : y_se z_pg sc d 41 [y_vr b, y_vr a, y_vi w] h = some (some (y_vi (g_fo (hv h) (pl h (b + 1)) w)), h) := by
  rcases d with _ | d
  · omega
  have XX := X
  have hc := pr9_of hb
  obtain ⟨ha, x0, x1, x2, x3, x4, x5, x6, x7, x8, x9, x10, x11, x12, x13, x14, x15, x16, x17, x18⟩ := X
  obtain ⟨k1, k2, k3, k4, k5, k6, k7, k8, k9, k10, k11⟩ := g_ok_w hg hw
  have hla := hg.2.2.2.2.2.1
  have ep : y_I h (b + 1) (Int.toNat w) = pl h (b + 1) w := rfl
  have hpw := (hp w hw.1 hw.2).resolve_left hr
  rw [e41, b41_0]
  simp (disch := first | omega | assumption) only [yP0, yP1, lP1, yH0, yH2, yH5, yH9, yH10, yH11, lH2, lH5, lH9, lH10, lH11, x5, x8, x12, x13, x14, yi_t, yr_t, ep, yci_s, s42, s43, s16, s17, s15]
  have tt : ∀ q : Prop, q → (q → (pl h (b + 1) w < g_fr (hv h) (g_rd (hv h) w) ∨ pl h (b + 1) w < g_cm (hv h) (g_pt (hv h) w) ∨ g_crowd (hv h) (pl h (b + 1)) w ∨ ¬ g_due (hv h) (pl h (b + 1)) w (pl h (b + 1) w) ∨ g_spo (hv h) (pl h (b + 1)) w (pl h (b + 1) w))) → (some (some (y_vi (pl h (b + 1) w)), h) : y_O) = some (some (y_vi (g_fo (hv h) (pl h (b + 1)) w)), h) := fun q g k => av_cg (if_pos (k g)).symm
  by_cases c1 : pl h (b + 1) w < g_fr (hv h) (g_rd (hv h) w)
  · rw [if_pos c1]; exact tt _ c1 Or.inl
  rw [if_neg c1]
  by_cases c2 : pl h (b + 1) w < g_cm (hv h) (g_pt (hv h) w)
  · rw [if_pos c2]; exact tt _ c2 (fun g => Or.inr (Or.inl g))
  rw [if_neg c2]
  by_cases c3 : g_crowd (hv h) (pl h (b + 1)) w
  · rw [if_neg (by rw [bi_t c3]; omega)]; exact tt _ c3 (fun g => Or.inr (Or.inr (Or.inl g)))
  rw [if_pos (bi_f c3)]
  by_cases c4 : g_due (hv h) (pl h (b + 1)) w (pl h (b + 1) w)
  · rw [if_neg (by rw [bi_t c4]; omega)]
    by_cases c5 : g_spo (hv h) (pl h (b + 1)) w (pl h (b + 1) w)
    · rw [if_neg (by rw [bi_t c5]; omega)]; exact tt _ c5 (fun g => Or.inr (Or.inr (Or.inr (Or.inr g))))
    rw [if_pos (bi_f c5)]
    have e : g_fo (hv h) (pl h (b + 1)) w = _ := if_neg (fun g => g.elim c1 (fun g => g.elim c2 (fun g => g.elim c3 (fun g => g.elim (fun g => g c4) c5))))
    rw [e]
    have e2 : min (g_ti (hv h) (g_rd (hv h) w)) (g_la (hv h)) - g_mn (hv h) w + g_mn (hv h) w = min (g_ti (hv h) (g_rd (hv h) w)) (g_la (hv h)) := by omega
    rw [e2]
    by_cases c6 : min (g_ti (hv h) (g_rd (hv h) w)) (g_la (hv h)) - g_mn (hv h) w < pl h (b + 1) w
    · rw [if_pos c6, if_pos c6]
      by_cases c7 : g_cf (hv h) w (pl h (b + 1) w) = -9
      · rw [if_pos c7, if_pos c7]
      · rw [if_neg c7, if_neg c7]
    · rw [if_neg c6, if_neg c6]
      by_cases c7 : g_cf (hv h) w (pl h (b + 1) w) = -9
      · rw [if_pos c7, if_pos c7]
      · rw [if_neg c7, if_neg c7]
  · rw [if_pos (bi_f c4)]; exact tt _ c4 (fun g => Or.inr (Or.inr (Or.inr (Or.inl g))))
theorem l40 (d : Nat) (hd : 3 ≤ d) (hb : b = 20 ∨ b = 22) (X : xm h a) (hg : g_ok (hv h)) (hp : p_ok (hv h) (pl h (b + 1))) : ∀ (n : Nat) (k s : Int), 0 ≤ k → k + n = g_wm (hv h) → y_ev z_pg sc d pgX2_firstWrong 5 [some (y_vr b), some (y_vr a), some (y_vi s), some (y_vi k)] [] h = some (some (y_vi (if 60 < u_fold (fun s w => if pl h (b + 1) w = -9 then s else min s (g_fo (hv h) (pl h (b + 1)) w)) s k n then -9 else u_fold (fun s w => if pl h (b + 1) w = -9 then s else min s (g_fo (hv h) (pl h (b + 1)) w)) s k n)), h)
  | 0, k, s, hk, hn => by
    have ha := X.1
    have x3 := X.2.2.2.2.1
    rw [b40_5]
    simp (disch := first | omega | assumption) only [yH0, x3]
    rw [if_neg (by omega), u_fold_0]
    by_cases c : 60 < s
    · rw [if_pos c, if_pos c]
    · rw [if_neg c, if_neg c]
  | n + 1, k, s, hk, hn => by
    have ih := fun s => l40 d hd hb X hg hp n (k + 1) s (by omega) (by omega)
    have ha := X.1
    have x3 := X.2.2.2.2.1
    have h1 := hg.2.2.1
    have ep : y_I h (b + 1) (Int.toNat k) = pl h (b + 1) k := rfl
    rw [b40_5]
    simp (disch := first | omega | assumption) only [yH0, x3, yP0, yP1, lP1, yi_t, yr_t, ep]
    rw [if_pos (by omega), u_fold_s]
    by_cases c : pl h (b + 1) k = -9
    · rw [if_pos c, if_pos c, ih]
    · rw [if_neg c, if_neg c, s41 d hd hb X hg hp k (by omega) c, yci_s, ih]
theorem s40 (d : Nat) (hd : 4 ≤ d) (hb : b = 20 ∨ b = 22) (X : xm h a) (hg : g_ok (hv h)) (hp : p_ok (hv h) (pl h (b + 1))) : y_se z_pg sc d 40 [y_vr b, y_vr a] h = some (some (y_vi (g_bad (hv h) (pl h (b + 1)))), h) := by
  rcases d with _ | d
  · omega
  have h1 := hg.2.2.1
  rw [e40, b40_0, l40 d (by omega) hb X hg hp (g_wm (hv h)).toNat 0 61 (by omega) (by omega), ← g_fi_bad hg hp]
  rfl
end XJ
