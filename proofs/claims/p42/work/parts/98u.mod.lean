/-! THE GHOST ALONE: what the model's calls come to -/
def KS (G : u_G) (P : u_P) (g : y_Hp) : Prop := hv g = G ∧ p_eq G (pl g 111) P
/-- told by rows alone -/
def XC (X : y_Hp → Prop) : Prop := ∀ g g', (∀ b k, b = 96 ∨ b = 97 → y_I g' b k = y_I g b k) → X g → X g'
section MK
variable {sc : z_Sc} {g : y_Hp} {G : u_G} {P : u_P} {X : y_Hp → Prop}
theorem m_uq {M : Nat} {am : List y_V} {u v : Int} {g1 g2 : y_Hp} (a : ∀ d, 60 ≤ d → y_se z_pg sc d M am g = some (some (y_vi u), g1)) (b : ∀ d, 60 ≤ d → y_se z_pg sc d M am g = some (some (y_vi v), g2)) : u = v ∧ g1 = g2 := by
  have e := (a 60 (Nat.le_refl _)).symm.trans (b 60 (Nat.le_refl _))
  have e2 := Option.some.inj e
  have e3 : (some (y_vi u) : Option y_V) = some (y_vi v) := congrArg Prod.fst e2
  refine ⟨?_, congrArg Prod.snd e2⟩
  cases e3
  rfl
theorem m_judge (hg : g_ok G) (hp : p_ok G P) (K : KS G P g) (d : Nat) (hd : 60 ≤ d) : y_se z_pg sc d 201 [y_vr 94] g = some (some (y_vi (g_bad G P)), g) := by
  rw [s201 d (by omega) (by rw [K.1]; exact hg) (by rw [K.1]; exact p_ok.cg (p_eq.symm K.2) hp), K.1, g_bad_cg K.2]
theorem m_missed (hg : g_ok G) (hp : p_ok G P) (K : KS G P g) {r : Int} (hr : r = -9 ∨ (0 ≤ r ∧ r < g_rm G)) (d : Nat) (hd : 60 ≤ d) : y_se z_pg sc d 204 [y_vr 94, y_vi r] g = some (some (y_vi (g_ms G P r)), g) := by
  rw [s204 d (by omega) r (by rw [K.1]; exact hg) (by rw [K.1]; exact p_ok.cg (p_eq.symm K.2) hp), K.1, if_pos hr, g_ms_cg K.2]
theorem m_asked (d : Nat) (hd : 60 ≤ d) : y_se z_pg sc d 144 [y_vr 94] g = some (some (y_vi (y_I g 94 2)), g) := by
  obtain ⟨d, rfl⟩ : ∃ e, d = e + 1 := ⟨d - 1, by omega⟩
  rw [e144, b144_0]
theorem m_least (hX : XC X) (hg : g_ok G) (h8 : g_wm G ≤ 8) (K : KS G P g) (x : X g) : ∃ g2, (∀ d, 60 ≤ d → y_se z_pg sc d 237 [y_vr 94] g = some (some (y_vi (q_R G 0).1), g2)) ∧ KS G (q_R G 0).2.2 g2 ∧ X g2 := by
  obtain ⟨K1, K2⟩ := K
  subst K1
  have kw := hg.2.2.1
  have ge := q_R_ge (wt := 0) hg (by omega)
  obtain ⟨g3, g4, u, b1, b2, b3, b4, b5⟩ := m_all (sc := sc) (h := g) 0 (by omega) hg h8
  generalize e5 : y_fill g4 111 0 24 (fun j => y_I g4 116 j) = g5
  have I5 : ∀ b k, b ≠ 111 → y_I g5 b k = y_I g4 b k := fun b k q => by rw [← e5, yI_fill_o (by omega)]
  have eg : hv g5 = hv g := hv_cg fun b k q => by rw [I5 b k (by unfold RG at q; omega), b4 b k (by unfold RG at q; omega)]
  have v43 : y_I g5 94 43 = (q_R (hv g) 0).1 := by rw [I5 _ _ (by omega)]; exact b3.1
  refine ⟨g5, fun d hd => ?_, ⟨eg, fun w w1 w2 => ?_⟩, hX g g5 (fun b k q => by rw [I5 b k (by omega), b4 b k (by omega)]) x⟩
  · obtain ⟨d, rfl⟩ : ∃ e, d = e + 1 := ⟨d - 1, by omega⟩
    have s222' := s222 (sc := sc) (h := g4) d (by omega) 116 (Or.inr rfl)
    rw [e5] at s222'
    rw [e237, b237_0, hvwm, if_neg (by omega), s236 d (by omega) hg, yci_s, b1 d (by omega), yci_s, b2 d (by omega), ycv_s, s222', ycv_s, v43]
  · show y_I g5 111 _ = _
    rw [← e5, yI_fill_e ⟨rfl, by omega, by omega⟩]
    exact (b3.2 ge).2 w w1 w2
theorem m_soon (hX : XC X) (hg : g_ok G) (h8 : g_wm G ≤ 8) (K : KS G P g) (x : X g) : ∃ g2, (∀ d, 60 ≤ d → y_se z_pg sc d 239 [y_vr 94] g = some (some (y_vi (f_so G)), g2)) ∧ KS G P g2 ∧ X g2 := by
  obtain ⟨K1, K2⟩ := K
  subst K1
  have kw := hg.2.2.1
  generalize e2 : y_fill g 115 0 24 (fun j => y_I g 111 j) = g2
  have I2 : ∀ b k, b ≠ 115 → y_I g2 b k = y_I g b k := fun b k q => by rw [← e2, yI_fill_o (by omega)]
  have v2 : hv g2 = hv g := hv_cg fun b k q => I2 b k (by unfold RG at q; omega)
  obtain ⟨g3, g4, u, b1, b2, b3, b4, b5⟩ := m_all (sc := sc) (h := g2) 1 (by omega) (by rw [v2]; exact hg) (by rw [v2]; omega)
  rw [v2] at b1 b3
  generalize e5 : y_fill g4 111 0 24 (fun j => y_I g4 115 j) = g5
  have I5 : ∀ b k, b ≠ 111 → y_I g5 b k = y_I g4 b k := fun b k q => by rw [← e5, yI_fill_o (by omega)]
  have eg : hv g5 = hv g := hv_cg fun b k q => by rw [I5 b k (by unfold RG at q; omega), b4 b k (by unfold RG at q; omega), I2 b k (by unfold RG at q; omega)]
  have p111 : ∀ j, j < 24 → y_I g5 111 j = y_I g 111 j := fun j q => by
    rw [← e5, yI_fill_e ⟨rfl, by omega, q⟩, b4 _ _ (by omega), ← e2, yI_fill_e ⟨rfl, by omega, q⟩]
  have v43 : y_I g5 94 43 = (q_R (hv g) 1).1 := by rw [I5 _ _ (by omega)]; exact b3.1
  refine ⟨g5, fun d hd => ?_, ⟨eg, fun w w1 w2 => (show y_I g5 111 _ = _ from p111 _ (by omega)).trans (K2 w w1 w2)⟩, hX g g5 (fun b k q => by rw [I5 b k (by omega), b4 b k (by omega), I2 b k (by omega)]) x⟩
  obtain ⟨d, rfl⟩ : ∃ e, d = e + 1 := ⟨d - 1, by omega⟩
  have s221' := s221 (sc := sc) (h := g) d (by omega) 115 (Or.inl rfl)
  rw [e2] at s221'
  have s222' := s222 (sc := sc) (h := g4) d (by omega) 115 (Or.inl rfl)
  rw [e5] at s222'
  have s236' := s236 (sc := sc) (h := g2) d (by omega) (by rw [v2]; exact hg)
  rw [v2] at s236'
  rw [e239, b239_0, hvwm, if_neg (by omega), s221', ycv_s, s236', yci_s, b1 d (by omega), yci_s, b2 d (by omega), ycv_s, s222', ycv_s, v43]
  unfold f_so
  by_cases z : (q_R (hv g) 1).1 < 0
  · rw [if_pos z, if_pos z]
  · rw [if_neg z, if_neg z]
theorem m_even (hX : XC X) (hg : g_ok G) (h8 : g_wm G ≤ 8) (K : KS G P g) (x : X g) : ∃ g2, (∀ d, 60 ≤ d → y_se z_pg sc d 240 [y_vr 94] g = some (some (y_vi (q_R G 2).1), g2)) ∧ KS G P g2 ∧ X g2 ∧ y_I g2 94 2 = (q_R G 2).2.1 := by
  obtain ⟨K1, K2⟩ := K
  subst K1
  have kw := hg.2.2.1
  have ge := q_R_ge (wt := 2) hg (by omega)
  generalize e2 : y_fill g 115 0 24 (fun j => y_I g 111 j) = g2
  have I2 : ∀ b k, b ≠ 115 → y_I g2 b k = y_I g b k := fun b k q => by rw [← e2, yI_fill_o (by omega)]
  have v2 : hv g2 = hv g := hv_cg fun b k q => I2 b k (by unfold RG at q; omega)
  obtain ⟨g3, g4, u, b1, b2, b3, b4, b5⟩ := m_all (sc := sc) (h := g2) 2 (by omega) (by rw [v2]; exact hg) (by rw [v2]; omega)
  rw [v2] at b1 b3
  generalize e5 : y_fill g4 111 0 24 (fun j => y_I g4 115 j) = g5
  have I5 : ∀ b k, b ≠ 111 → y_I g5 b k = y_I g4 b k := fun b k q => by rw [← e5, yI_fill_o (by omega)]
  generalize e6 : y_sI g5 94 2 (y_I g5 94 44) = g6
  have I6 : ∀ b k, ¬ (b = 94 ∧ k = 2) → y_I g6 b k = y_I g5 b k := fun b k q => by rw [← e6, yI_sI_o q]
  have eg : hv g6 = hv g := hv_cg fun b k q => by rw [I6 b k (by unfold RG at q; omega), I5 b k (by unfold RG at q; omega), b4 b k (by unfold RG at q; omega), I2 b k (by unfold RG at q; omega)]
  have p111 : ∀ j, j < 24 → y_I g6 111 j = y_I g 111 j := fun j q => by
    rw [I6 _ _ (by omega), ← e5, yI_fill_e ⟨rfl, by omega, q⟩, b4 _ _ (by omega), ← e2, yI_fill_e ⟨rfl, by omega, q⟩]
  have v43 : y_I g5 94 43 = (q_R (hv g) 2).1 := by rw [I5 _ _ (by omega)]; exact b3.1
  have v44 : y_I g5 94 44 = (q_R (hv g) 2).2.1 := by rw [I5 _ _ (by omega)]; exact (b3.2 ge).1
  refine ⟨g6, fun d hd => ?_, ⟨eg, fun w w1 w2 => (show y_I g6 111 _ = _ from p111 _ (by omega)).trans (K2 w w1 w2)⟩, hX g g6 (fun b k q => by rw [I6 b k (by omega), I5 b k (by omega), b4 b k (by omega), I2 b k (by omega)]) x, by rw [← e6, yI_sI_e ⟨rfl, rfl⟩, v44]⟩
  obtain ⟨d, rfl⟩ : ∃ e, d = e + 1 := ⟨d - 1, by omega⟩
  have s221' := s221 (sc := sc) (h := g) d (by omega) 115 (Or.inl rfl)
  rw [e2] at s221'
  have s222' := s222 (sc := sc) (h := g4) d (by omega) 115 (Or.inl rfl)
  rw [e5] at s222'
  have s236' := s236 (sc := sc) (h := g2) d (by omega) (by rw [v2]; exact hg)
  rw [v2] at s236'
  have s143' := s143 (sc := sc) (h := g5) d (by omega) (y_I g5 94 44) (y_I g5 94 43)
  rw [e6] at s143'
  rw [e240, b240_0, hvwm, if_neg (by omega), s221', ycv_s, s236', yci_s, b1 d (by omega), yci_s, b2 d (by omega), ycv_s, s222', ycv_s, s143', yci_s, v43]
theorem m_bound (hX : XC X) (hg : g_ok G) (K : KS G P g) (x : X g) : ∃ g2, (∀ d, 60 ≤ d → y_se z_pg sc d 241 [y_vr 94] g = some (some (y_vi (u_sum (g_bo G) 0 (g_pm G).toNat)), g2)) ∧ KS G P g2 ∧ X g2 := by
  obtain ⟨K1, K2⟩ := K
  subst K1
  have kw := hg.2.2.1
  have kp := hg.1
  generalize e2 : y_fill g 115 0 24 (fun j => y_I g 111 j) = g2
  have I2 : ∀ b k, b ≠ 115 → y_I g2 b k = y_I g b k := fun b k q => by rw [← e2, yI_fill_o (by omega)]
  have v2 : hv g2 = hv g := hv_cg fun b k q => I2 b k (by unfold RG at q; omega)
  obtain ⟨g4, b1, b4, b5⟩ := l241 (sc := sc) (hv g) hg (g_pm (hv g)).toNat 0 0 g2 none none (by omega) (by omega) (by omega) v2
  generalize e5 : y_fill g4 111 0 24 (fun j => y_I g4 115 j) = g5
  have I5 : ∀ b k, b ≠ 111 → y_I g5 b k = y_I g4 b k := fun b k q => by rw [← e5, yI_fill_o (by omega)]
  have eg : hv g5 = hv g := hv_cg fun b k q => by rw [I5 b k (by unfold RG at q; omega), b4 b k (by unfold RG at q; omega), I2 b k (by unfold RG at q; omega)]
  have p111 : ∀ j, j < 24 → y_I g5 111 j = y_I g 111 j := fun j q => by
    rw [← e5, yI_fill_e ⟨rfl, by omega, q⟩, b4 _ _ (by omega), ← e2, yI_fill_e ⟨rfl, by omega, q⟩]
  refine ⟨g5, fun d hd => ?_, ⟨eg, fun w w1 w2 => (show y_I g5 111 _ = _ from p111 _ (by omega)).trans (K2 w w1 w2)⟩, hX g g5 (fun b k q => by rw [I5 b k (by omega), b4 b k (by omega), I2 b k (by omega)]) x⟩
  obtain ⟨d, rfl⟩ : ∃ e, d = e + 1 := ⟨d - 1, by omega⟩
  have s221' := s221 (sc := sc) (h := g) d (by omega) 115 (Or.inl rfl)
  rw [e2] at s221'
  have s222' := s222 (sc := sc) (h := g4) d (by omega) 115 (Or.inl rfl)
  rw [e5] at s222'
  rw [e241, b241_0, s221', ycv_s, b1 d (by omega), s222', ycv_s, Int.zero_add]
theorem m_quarrel (hX : XC X) (hg : g_ok G) (h8 : g_wm G ≤ 8) (K : KS G P g) (x : X g) : ∃ g2, (∀ d, 60 ≤ d → y_se z_pg sc d 243 [y_vr 94] g = some (some (y_vi (f_qu G)), g2)) ∧ KS G P g2 ∧ X g2 := by
  obtain ⟨K1, K2⟩ := K
  subst K1
  have kw := hg.2.2.1
  have kr := hg.2.1
  have sb := shl_bd (n := g_rm (hv g)) (by omega)
  have ess : f_qs (hv g) = y_shl 1 (g_rm (hv g)) - 1 := rfl
  have eq : f_qu (hv g) = @ite _ (g_can (hv g) (f_qs (hv g))) (Classical.propDecidable _) (-9) (g_qr (hv g) (g_rm (hv g)).toNat 0 (f_qs (hv g))) := rfl
  rw [eq, ess]
  generalize es : y_shl 1 (g_rm (hv g)) - 1 = s at sb
  have sin : y_inr s := by unfold y_inr; omega
  generalize e2 : y_fill g 115 0 24 (fun j => y_I g 111 j) = g2
  have I2 : ∀ b k, b ≠ 115 → y_I g2 b k = y_I g b k := fun b k q => by rw [← e2, yI_fill_o (by omega)]
  have v2 : hv g2 = hv g := hv_cg fun b k q => I2 b k (by unfold RG at q; omega)
  obtain ⟨g3, b1, b4, b5⟩ := s242 (sc := sc) (h := g2) (by rw [v2]; exact hg) (by rw [v2]; omega) s
  rw [v2] at b1
  have v3 : hv g3 = hv g := (hv_cg fun b k q => b4 b k (by unfold RG at q; omega)).trans v2
  obtain ⟨g4', c1, c2, c3⟩ := l243 (sc := sc) (hv g) hg (by omega) (g_rm (hv g)).toNat 0 s g3 (by omega) (by omega) sin v3
  have mrun : ∃ g4, (∀ d, 59 ≤ d → y_se z_pg sc (d + 1) 243 [y_vr 94] g = y_cv (y_se z_pg sc d 222 [y_vr 94, y_vr 115] g4) (fun g1 => some (some (y_vi (@ite _ (g_can (hv g) s) (Classical.propDecidable _) (-9) (g_qr (hv g) (g_rm (hv g)).toNat 0 s))), g1))) ∧ (∀ b k, ¬ ((b = 94 ∧ 39 ≤ k ∧ k ≤ 45) ∨ b = 111 ∨ (116 ≤ b ∧ b ≤ 118)) → y_I g4 b k = y_I g2 b k) ∧ g4.2 = g2.2 := by
    have st : ∀ d, 59 ≤ d → y_se z_pg sc (d + 1) 243 [y_vr 94] g = y_ev z_pg sc d pgX8_quarrel 37 [some (y_vr 94), some (y_vi s), some (y_vi (y_bi (g_can (hv g) s))), some (y_vi 0)] [] g3 := fun d hd => by
      have s221' := s221 (sc := sc) (h := g) d (by omega) 115 (Or.inl rfl)
      rw [e2] at s221'
      have w10 : y_I g2 94 10 = g_rm (hv g) := by rw [hvrm, v2]
      rw [e243, b243_0, hvwm, if_neg (by omega), s221', ycv_s, w10, es, yr_t (by omega), b1 d (by omega), yci_s]
    by_cases z : g_can (hv g) s
    · refine ⟨g3, fun d hd => ?_, b4, b5⟩
      have w10 : y_I g3 94 10 = g_rm (hv g) := by rw [hvrm, v3]
      rw [st d hd, bi_t z, if_pos z, b243_37, w10]
      by_cases y : 0 < g_rm (hv g)
      · rw [if_pos y, if_neg (by omega)]
        rfl
      · rw [if_neg y]
        rfl
    · refine ⟨g4', fun d hd => ?_, fun b k q => (c2 b k q).trans (b4 b k q), c3.trans b5⟩
      rw [st d hd, bi_f z, if_neg z, c1 d (by omega)]
  obtain ⟨g4, d1, d4, d5⟩ := mrun
  generalize e5 : y_fill g4 111 0 24 (fun j => y_I g4 115 j) = g5
  have I5 : ∀ b k, b ≠ 111 → y_I g5 b k = y_I g4 b k := fun b k q => by rw [← e5, yI_fill_o (by omega)]
  have eg : hv g5 = hv g := hv_cg fun b k q => by rw [I5 b k (by unfold RG at q; omega), d4 b k (by unfold RG at q; omega), I2 b k (by unfold RG at q; omega)]
  have p111 : ∀ j, j < 24 → y_I g5 111 j = y_I g 111 j := fun j q => by
    rw [← e5, yI_fill_e ⟨rfl, by omega, q⟩, d4 _ _ (by omega), ← e2, yI_fill_e ⟨rfl, by omega, q⟩]
  refine ⟨g5, fun d hd => ?_, ⟨eg, fun w w1 w2 => (show y_I g5 111 _ = _ from p111 _ (by omega)).trans (K2 w w1 w2)⟩, hX g g5 (fun b k q => by rw [I5 b k (by omega), d4 b k (by omega), I2 b k (by omega)]) x⟩
  obtain ⟨d, rfl⟩ : ∃ e, d = e + 1 := ⟨d - 1, by omega⟩
  have s222' := s222 (sc := sc) (h := g4) d (by omega) 115 (Or.inl rfl)
  rw [e5] at s222'
  rw [d1 d (by omega), s222', ycv_s]
theorem m_mendK (hX : XC X) (hg : g_ok G) (h8 : g_wm G ≤ 8) (hp : p_ok G P) (hb : g_bad G P = -9) (K : KS G P g) (x : X g) {t : Int} (ht : 0 ≤ t ∧ t ≤ 59) : ∃ g2, (∀ d, 60 ≤ d → y_se z_pg sc d 238 [y_vr 94, y_vi t] g = some (some (y_vi (q_M G P t).1), g2)) ∧ KS G (q_M G P t).2.2 g2 ∧ X g2 := by
  obtain ⟨K1, K2⟩ := K
  subst K1
  have kw := hg.2.2.1
  have hp' : p_ok (hv g) (pl g 111) := p_ok.cg (p_eq.symm K2) hp
  have hb' : g_bad (hv g) (pl g 111) = -9 := by rw [g_bad_cg K2]; exact hb
  have cw := q_ct_wm (G := hv g) (TD := LO (pl g 111) t) kw.1
  obtain ⟨g2, a1, a2, a3, a4⟩ := m_mend (sc := sc) (h := g) hg hp' t ht hb' (by omega)
  rw [q_M_cg hg K2 t] at a1 a2
  have ge := q_M_ge hg ht.1 (k_KI2 hg hp hb ht.1)
  refine ⟨g2, fun d hd => a1 d (by omega), ⟨hv_cg fun b k q => a3 b k (by unfold RG at q; omega), a2 ge⟩, hX g g2 (fun b k q => a3 b k (by omega)) x⟩
theorem m_on (hX : XC X) (hg : g_ok G) {P0 : u_P} (hp0 : p_ok G P0) (K : KS G P g) (x : X g) {r : Int} (hr : 0 ≤ r ∧ r < 6) (a96 : y_I g 96 (Int.toNat r) = g_wm G) (a97 : ∀ w, 0 ≤ w → w < g_wm G → y_I g 97 (Int.toNat (48 * r + w)) = P0 w) : ∃ g2, (∀ d, 60 ≤ d → y_se z_pg sc d 208 [y_vr 94, y_vi r] g = some (some (y_vi 1), g2)) ∧ KS G P0 g2 ∧ X g2 := by
  obtain ⟨K1, K2⟩ := K
  subst K1
  have kw := hg.2.2.1
  have c5 : u_all (fun i => u_isb (y_I g 97 (Int.toNat (48 * r + i)))) 0 (g_wm (hv g)).toNat := u_all_iff.mpr fun i i1 i2 => by
    rw [a97 i i1 (by omega)]
    exact hp0 i i1 (by omega)
  generalize e5 : y_fill g 111 0 (Int.toNat (g_wm (hv g))) (fun q => y_I g 97 (Int.toNat (48 * r) + q)) = g5
  have I5 : ∀ b k, b ≠ 111 → y_I g5 b k = y_I g b k := fun b k q => by rw [← e5, yI_fill_o (by omega)]
  refine ⟨g5, fun d hd => ?_, ⟨hv_cg fun b k q => I5 b k (by unfold RG at q; omega), fun w w1 w2 => ?_⟩, hX g g5 (fun b k q => I5 b k (by omega)) x⟩
  · obtain ⟨d, rfl⟩ : ∃ e, d = e + 1 := ⟨d - 1, by omega⟩
    have q := l208a (sc := sc) (h := g) d (by omega) hg r hr _ (g_wm (hv g)).toNat 0 True (by omega) (by omega) rfl
    rw [bi_T] at q
    have q2 := l208b (sc := sc) d (by omega) r 1 (g_wm (hv g)) g hr rfl (by omega) (g_wm (hv g)).toNat 0 (by omega) (by omega)
    rw [show Int.toNat 0 = 0 from rfl, y_fill_0, e5] at q2
    rw [e208, b208_0, s145 d (by omega), yci_s, if_neg (by rw [bi_t (by omega)]; omega), yi_t (by omega), a96, if_neg (by omega), yi_t (by omega), hvwm, if_pos rfl]
    refine Eq.trans q ?_
    rw [bi_t ⟨trivial, c5⟩, b208_47, hvwm, if_neg (by omega), if_neg (by omega), q2]
  · show y_I g5 111 _ = _
    rw [← e5, yI_fill_e ⟨rfl, by omega, by omega⟩, ← a97 w w1 w2]
    congr 1
    omega
theorem m_image (hg : g_ok G) (K : KS G P g) {r : Int} (hr : 0 ≤ r ∧ r < 6) : ∃ g2, (∀ d, 60 ≤ d → y_se z_pg sc d 207 [y_vr 94, y_vi r] g = some (some (y_vi (g_wm G)), g2)) ∧ KS G P g2 ∧ y_I g2 96 (Int.toNat r) = g_wm G ∧ (∀ w, 0 ≤ w → w < g_wm G → y_I g2 97 (Int.toNat (48 * r + w)) = P w) ∧ ∀ b k, ¬ (b = 96 ∧ k = Int.toNat r) → ¬ (b = 97 ∧ Int.toNat (48 * r) ≤ k ∧ k < Int.toNat (48 * r + 48)) → y_I g2 b k = y_I g b k := by
  obtain ⟨K1, K2⟩ := K
  subst K1
  have kw := hg.2.2.1
  generalize e5 : y_fill (y_sI g 96 (Int.toNat r) (g_wm (hv g))) 97 (Int.toNat (48 * r)) (Int.toNat (48 * r + 48)) (fun q => if (q : Int) - 48 * r < g_wm (hv g) then y_I g 111 (q - Int.toNat (48 * r)) else 0) = g5
  have I5 : ∀ b k, ¬ (b = 96 ∧ k = Int.toNat r) → ¬ (b = 97 ∧ Int.toNat (48 * r) ≤ k ∧ k < Int.toNat (48 * r + 48)) → y_I g5 b k = y_I g b k := fun b k q1 q2 => by rw [← e5, yI_fill_o q2, yI_sI_o q1]
  refine ⟨g5, fun d hd => ?_, ⟨hv_cg fun b k q => I5 b k (by unfold RG at q; omega) (by unfold RG at q; omega), fun w w1 w2 => ?_⟩, ?_, fun w w1 w2 => ?_, I5⟩
  · obtain ⟨d, rfl⟩ : ∃ e, d = e + 1 := ⟨d - 1, by omega⟩
    have := l207 (sc := sc) d r (y_sI g 96 (Int.toNat r) (g_wm (hv g))) hr (by rw [yI_sI_o (by omega), hvwm]; omega) 48 0 (by omega) (by omega)
    rw [Int.add_zero, y_fill_0] at this
    simp only [yI_sI_o (show ¬ ((94 : Nat) = 96 ∧ (11 : Nat) = Int.toNat r) by omega), hvwm] at this
    rw [e207, b207_0, s145 d (by omega), yci_s, if_neg (by rw [bi_t (by omega)]; omega), yi_t (by omega), hvwm, this, ← e5]
    refine congrArg (fun f => some (some (y_vi (g_wm (hv g))), y_fill (y_sI g 96 (Int.toNat r) (g_wm (hv g))) 97 (Int.toNat (48 * r)) (Int.toNat (48 * r + 48)) f)) (funext fun q => ?_)
    rw [yI_sI_o (by omega)]
  · exact (show y_I g5 111 _ = y_I g 111 _ from I5 _ _ (by omega) (by omega)).trans (K2 w w1 w2)
  · rw [← e5, yI_fill_o (by omega), yI_sI_e ⟨rfl, rfl⟩]
  · rw [← e5, yI_fill_e ⟨rfl, by omega, by omega⟩, if_pos (by omega), ← K2 w w1 w2]
    show y_I g 111 _ = y_I g 111 _
    congr 1
    omega
theorem m_best (hg : g_ok G) (K : KS G P g) {n : Nat} (en : g_rm G = (n : Int)) (hn : n < 7) {r : Int} (hr : 0 ≤ r ∧ r < 6) : ∃ g2, (∀ d, 60 ≤ d → y_se z_pg sc d 224 [y_vr 94, y_vi r] g = some (some (y_vi (pls (g_cf2 G n) (pfa n))), g2)) ∧ KS G P g2 ∧ y_I g2 96 (Int.toNat r) = (n : Int) ∧ (∀ i, 0 ≤ i → i < (n : Int) → y_I g2 97 (Int.toNat (48 * r + i)) = ((crd n (pbs (g_cf2 G n) (pfa n)) (Int.toNat i) : Nat) : Int)) ∧ ∀ b k, (b = 96 ∧ k ≠ Int.toNat r) ∨ (b = 97 ∧ ¬ (Int.toNat (48 * r) ≤ k ∧ k < Int.toNat (48 * r + 48))) → y_I g2 b k = y_I g b k := by
  obtain ⟨K1, K2⟩ := K
  subst K1
  have kw := hg.2.2.1
  have pb := pfa_bd hn
  generalize e4 : y_fill g 115 0 24 (fun j => y_I g 111 j) = g4
  have I4 : ∀ b j, b ≠ 115 → y_I g4 b j = y_I g b j := fun b j q => by rw [← e4, yI_fill_o (by omega)]
  have v4 : hv g4 = hv g := hv_cg fun b j q => I4 b j (by unfold RG at q; omega)
  obtain ⟨g5, k1, k2, k3⟩ := l224b (sc := sc) r hn (pfa n) 0 g4 (by omega) (by rw [v4]; exact hg) (by rw [v4]; exact en)
  rw [v4] at k1
  generalize eF : g_cf2 (hv g) n = F at *
  generalize e6 : y_fill g5 111 0 24 (fun j => y_I g5 115 j) = g6
  have I6 : ∀ b j, b ≠ 111 → y_I g6 b j = y_I g5 b j := fun b j q => by rw [← e6, yI_fill_o (by omega)]
  have r4 : y_I g4 94 10 = (n : Int) := by rw [I4 _ _ (by omega)]; exact en
  have r6 : y_I g6 94 10 = (n : Int) := by rw [I6 _ _ (by omega), k2 _ _ (by omega) (by omega)]; exact r4
  have bl : pbs F (pfa n) < pfa n := pbs_lt (by omega)
  obtain ⟨g7, l1, l2, l3, l4⟩ := s223 (sc := sc) (h := g6) hn r6 (show pbs F (pfa n) ≤ 1000 by omega) (crd_lay hn bl)
  have r7 : y_I g7 94 10 = (n : Int) := (l3 _ _ (by omega)).trans r6
  generalize e8 : y_sI g7 96 (Int.toNat r) (y_I g7 94 10) = g8
  have I8 : ∀ b j, ¬ (b = 96 ∧ j = Int.toNat r) → y_I g8 b j = y_I g7 b j := fun b j q => by rw [← e8, yI_sI_o q]
  have r8 : y_I g8 94 10 = (n : Int) := (I8 _ _ (by omega)).trans r7
  have lc := fun d v3' v4' o6 => l224c (sc := sc) d r (pfa n : Int) v3' v4' o6 (by omega) g8 (by omega) 48 0 (by omega) (by omega)
  rw [show Int.toNat (48 * r + 0) = Int.toNat (48 * r) by omega, y_fill_0, r8] at lc
  generalize e9 : y_fill g8 97 (Int.toNat (48 * r)) (Int.toNat (48 * r + 48)) (fun j => if j < Int.toNat (48 * r) + Int.toNat (n : Int) then y_I g8 114 (j - Int.toNat (48 * r)) else 0) = g9 at lc
  have I9 : ∀ b j, ¬ (b = 97 ∧ Int.toNat (48 * r) ≤ j ∧ j < Int.toNat (48 * r + 48)) → y_I g9 b j = y_I g8 b j := fun b j q => by rw [← e9, yI_fill_o q]
  have fr : ∀ b j, ¬ (b = 97 ∧ Int.toNat (48 * r) ≤ j ∧ j < Int.toNat (48 * r + 48)) → ¬ (b = 96 ∧ j = Int.toNat r) → b ≠ 111 → b ≠ 114 → b ≠ 115 → y_I g9 b j = y_I g b j := fun b j q1 q2 q3 q4 q5 => by
    rw [I9 b j q1, I8 b j q2, l3 b j q4, I6 b j q3, k2 b j q3 q4, I4 b j q5]
  have pl9 : ∀ j, j < 24 → y_I g9 111 j = y_I g 111 j := fun j q => by
    rw [I9 _ _ (by omega), I8 _ _ (by omega), l3 _ _ (by omega), ← e6, yI_fill_e ⟨rfl, by omega, q⟩, k2 _ _ (by omega) (by omega), ← e4, yI_fill_e ⟨rfl, by omega, q⟩]
  refine ⟨g9, fun d hd => ?_, ⟨hv_cg fun b j q => ?_, fun w w1 w2 => (show y_I g9 111 _ = _ from pl9 _ (by omega)).trans (K2 w w1 w2)⟩, ?_, fun i i1 i2 => ?_, fun b k q => fr b k (by omega) (by omega) (by omega) (by omega) (by omega)⟩
  · obtain ⟨d, rfl⟩ : ∃ e, d = e + 1 := ⟨d - 1, by omega⟩
    have s221' := s221 (sc := sc) (h := g) d (by omega) 115 (Or.inl rfl)
    rw [e4] at s221'
    have s222' := s222 (sc := sc) (h := g5) d (by omega) 115 (Or.inl rfl)
    rw [e6] at s222'
    have or : y_ev z_pg sc d pgX8_best 33 [some (y_vr 94), some (y_vi r), some (y_vi 1), some (y_vi 2), none, none, none] [] g4 = y_ev z_pg sc d pgX8_best 60 [some (y_vr 94), some (y_vi r), some (y_vi (pfa n : Int)), some (y_vi (-9)), some (y_vi 0), some (y_vi 0), none] [] g4 := by
      rcases n with _ | n
      · rw [b224_33, r4, if_pos (by omega)]
        rfl
      · exact l224a d r hn r4 n 1 (by omega)
    obtain ⟨o6', k4⟩ := k1 d none (by omega)
    rw [if_neg (show ¬ pfa n = 0 by omega), if_neg (show ¬ pfa n = 0 by omega), if_pos rfl, if_pos rfl] at k4
    rw [e224, b224_0, s145 d (by omega), yci_s, if_neg (by rw [bi_t (by omega)]; omega), hvrm, if_neg (by omega), s221', ycv_s, or]
    refine Eq.trans k4 ?_
    rw [b224_60, if_neg (by omega), s222', ycv_s, l1 d (by omega), ycv_s, yi_t (by omega), e8, lc]
  · unfold RG at q
    exact fr b j (by omega) (by omega) (by omega) (by omega) (by omega)
  · rw [I9 _ _ (by omega), ← e8, yI_sI_e ⟨rfl, rfl⟩, r7]
  · rw [← e9, yI_fill_e ⟨rfl, by omega, by omega⟩, if_pos (by omega), I8 _ _ (by omega), show Int.toNat (48 * r + i) - Int.toNat (48 * r) = Int.toNat i by omega, l2 _ (by omega)]
    rfl
theorem m_rule (hg : g_ok G) (K : KS G P g) {k v r : Int} (hk : 0 ≤ k ∧ k ≤ 5) (hv' : 1 ≤ v ∧ v ≤ 5) (hr : 0 ≤ r ∧ r < 6) (a96 : y_I g 96 (Int.toNat r) = g_rm G) (c : u_cok (fun j => y_I g 97 (Int.toNat (48 * r + j))) (g_rm G) (g_rm G).toNat 0 0) : ∃ g2, (∀ d, 60 ≤ d → y_se z_pg sc d 210 [y_vr 94, y_vi k, y_vi v, y_vi r] g = some (some (y_vi 1), g2)) ∧ KS G P g2 ∧ y_I g2 112 (Int.toNat k) = v ∧ (v ≤ 2 → ∀ i, 0 ≤ i → i < g_rm G → y_I g2 113 (Int.toNat (8 * k + i)) = y_I g 97 (Int.toNat (48 * r + i))) ∧ ∀ b j, b ≠ 112 → b ≠ 113 → y_I g2 b j = y_I g b j := by
  obtain ⟨K1, K2⟩ := K
  subst K1
  have kr := hg.2.1
  have kw := hg.2.2.1
  have ks : ∀ g5 : y_Hp, (∀ b j, b ≠ 112 → b ≠ 113 → y_I g5 b j = y_I g b j) → KS (hv g) P g5 := fun g5 e => ⟨hv_cg fun b j q => e b j (by unfold RG at q; omega) (by unfold RG at q; omega), fun w w1 w2 => (show y_I g5 111 _ = y_I g 111 _ from e _ _ (by omega) (by omega)).trans (K2 w w1 w2)⟩
  by_cases c3 : v = 1 ∨ v = 2
  · generalize e5 : y_sI (y_fill g 113 (Int.toNat (8 * k)) (Int.toNat (8 * k + g_rm (hv g))) (fun q => y_I g 97 (Int.toNat (48 * r + ((q : Int) - 8 * k))))) 112 (Int.toNat k) v = g5
    have I5 : ∀ b j, b ≠ 112 → b ≠ 113 → y_I g5 b j = y_I g b j := fun b j q1 q2 => by rw [← e5, yI_sI_o (by omega), yI_fill_o (by omega)]
    refine ⟨g5, fun d hd => ?_, ks g5 I5, by rw [← e5, yI_sI_e ⟨rfl, rfl⟩], fun _ i i1 i2 => ?_, I5⟩
    · obtain ⟨d, rfl⟩ : ∃ e, d = e + 1 := ⟨d - 1, by omega⟩
      have q := l97w (sc := sc) (h := g) d (by omega) hg k v r (by omega) hr (fun j => y_I g 97 (Int.toNat (48 * r + j))) (g_rm (hv g)) rfl (fun j => rfl)
      rw [if_pos c, e5] at q
      rw [m210 d (by omega) k v r hk hv' (fun _ => by omega), if_pos c3, b210_47, if_neg (by omega), yi_t (by omega), a96, if_neg (by omega), b210_67, if_neg (by omega), yi_t (by omega), a96, hvrm, if_pos rfl, b210_91, q]
    · rw [← e5, yI_sI_o (by omega), yI_fill_e ⟨rfl, by omega, by omega⟩]
      congr 1
      omega
  · have q := fun (d : Nat) (hd : 1 ≤ d) => l163 (sc := sc) d hd k v r 0 0 none g (by omega) (Or.inl rfl) (g_rm (hv g)) rfl kr (g_rm (hv g)).toNat 0 (by omega) (by omega)
    rw [Int.add_zero, y_fill_0] at q
    generalize e5 : y_sI (y_fill g 113 (Int.toNat (8 * k)) (Int.toNat (8 * k + g_rm (hv g))) (fun q => if (0 : Int) = 0 then 0 else y_I g 97 (Int.toNat (48 * r + ((q : Int) - 8 * k))))) 112 (Int.toNat k) v = g5 at q
    have I5 : ∀ b j, b ≠ 112 → b ≠ 113 → y_I g5 b j = y_I g b j := fun b j q1 q2 => by rw [← e5, yI_sI_o (by omega), yI_fill_o (by omega)]
    refine ⟨g5, fun d hd => ?_, ks g5 I5, by rw [← e5, yI_sI_e ⟨rfl, rfl⟩], fun z => by omega, I5⟩
    obtain ⟨d, rfl⟩ : ∃ e, d = e + 1 := ⟨d - 1, by omega⟩
    rw [m210 d (by omega) k v r hk hv' (fun q => absurd q c3), if_neg c3, b210_47, if_pos rfl, b210_67, if_pos rfl, b210_91, b210_97, hvrm]
    by_cases c5 : 0 < g_rm (hv g)
    · rw [if_pos c5, if_pos rfl, b210_160, q d (by omega)]
    · rw [if_neg c5, b210_160, q d (by omega)]
theorem m_run (hX : XC X) (hg : g_ok G) (K : KS G P g) (x : X g) {k v : Int} (hk : 0 ≤ k ∧ k ≤ 5) (hv' : 1 ≤ v ∧ v ≤ 5) {cd : Int → Int} (a112 : y_I g 112 (Int.toNat k) = v) (a113 : v ≤ 2 → ∀ i, 0 ≤ i → i < g_rm G → y_I g 113 (Int.toNat (8 * k + i)) = cd i) : ∃ g2, (∀ d, 60 ≤ d → y_se z_pg sc d 220 [y_vr 94, y_vi k] g = some (some (y_vi (g_ms G (g_run G v cd) (-9))), g2)) ∧ KS G (g_run G v cd) g2 ∧ X g2 := by
  obtain ⟨K1, K2⟩ := K
  subst K1
  have kr := hg.2.1
  have kw := hg.2.2.1
  have l2 := fun d => l220 (sc := sc) d k (by omega) g hg (g_rm (hv g)).toNat 0 (by omega) (by omega)
  rw [show Int.toNat 0 = 0 from rfl, y_fill_0, a112] at l2
  generalize e2 : y_fill g 114 0 (Int.toNat (g_rm (hv g))) (fun j => y_I g 113 (Int.toNat (8 * k) + j)) = g2 at l2
  have I2 : ∀ b j, b ≠ 114 → y_I g2 b j = y_I g b j := fun b j q => by rw [← e2, yI_fill_o (by omega)]
  have v2 : hv g2 = hv g := hv_cg fun b k q => I2 b k (by unfold RG at q; omega)
  obtain ⟨g3, m1, m2, m3, m4⟩ := s219 (sc := sc) (h := g2) v hv' (by rw [v2]; exact hg)
  have v3 : hv g3 = hv g := (hv_cg fun b k q => m2 b k (by unfold RG at q; omega)).trans v2
  have ecd : g_run (hv g) v (pl g2 114) = g_run (hv g) v cd := g_run_cd fun i q1 q2 q3 => by
    show y_I g2 114 (Int.toNat i) = _
    rw [← e2, yI_fill_e ⟨rfl, by omega, by omega⟩, ← a113 q3 i q1 q2]
    congr 1
    omega
  rw [v2, ecd] at m1
  have ok3 : p_ok (hv g3) (pl g3 111) := by rw [v3]; exact p_ok.cg (p_eq.symm m1) (g_run_ok hg)
  refine ⟨g3, fun d hd => ?_, ⟨v3, m1⟩, hX g g3 (fun b k q => by rw [m2 b k (by omega), I2 b k (by omega)]) x⟩
  obtain ⟨d, rfl⟩ : ∃ e, d = e + 1 := ⟨d - 1, by omega⟩
  have s203' := s203 (sc := sc) (h := g3) d (by omega) (-9) (by rw [v3]; exact hg) ok3
  rw [v3, g_ms_cg m1] at s203'
  rw [e220, b220_0, s209 d (by omega), yci_s, if_neg (by rw [bi_t hk]; omega), yi_t (by omega), a112, if_neg (by omega), l2, m4 d (by omega), ycv_s, s203', yci_s]
end MK
