/-! THE PAPER GOES ROUND BY A RULE: x goes -/
theorem shl_bd {n : Int} (hn : 0 ≤ n ∧ n ≤ 24) : 1 ≤ y_shl 1 n ∧ y_shl 1 n ≤ 16777216 := by
  have key : ∀ n, n < 25 → (1 ≤ y_shl 1 ((n : Nat) : Int) ∧ y_shl 1 ((n : Nat) : Int) ≤ 16777216) := by decide +kernel
  have := key n.toNat (by omega)
  rwa [show (n.toNat : Int) = n by omega] at this
theorem ub_all {n k : Int} (hn : 0 ≤ n ∧ n ≤ 24) (hk : 0 ≤ k ∧ k < 32) : u_bs (y_shl 1 n - 1) k ↔ k < n := by
  have key : ∀ n, n < 25 → ∀ k, k < 32 → ((Int32.ofInt (y_shl 1 ((n : Nat) : Int) - 1)).toBitVec.getLsbD k = decide (k < n)) := by decide +kernel
  have := key n.toNat (by omega) k.toNat (by omega)
  unfold u_bs
  rw [show (n.toNat : Int) = n by omega] at this
  rw [this, decide_eq_true_eq]
  omega
theorem g_in_full {G : u_G} {P : u_P} {kd t : Int} {cd : Int → Int} (hw : 0 ≤ g_wm G) (h : ∀ w, 0 ≤ w → w < g_wm G → P w ≠ -9) {n : Nat} : g_in G kd cd t n P = P := by
  cases n with
  | zero => rfl
  | succ n =>
    unfold g_in
    rcases g_cho_in (G := G) (P := P) (kd := kd) (cd := cd) (t := t) hw with q | q
    · rw [if_pos q]
    · exact absurd q.2.2.1 (h _ q.1.1 q.1.2)
theorem g_out_full {G : u_G} {P : u_P} {kd : Int} {cd : Int → Int} (hw : 0 ≤ g_wm G) (h : ∀ w, 0 ≤ w → w < g_wm G → P w ≠ -9) : ∀ {n : Nat} {t : Int}, g_out G kd cd n t P = P
  | 0, t => rfl
  | n + 1, t => by
    unfold g_out
    rw [g_in_full hw h, g_out_full hw h]
theorem ws_0 {G : u_G} {r : Int} (hw : 0 ≤ g_wm G) : g_ws G (fun _ => -9) r = g_fr G r := Int.le_antisymm ((ws_le hw).mpr ⟨Int.le_refl _, fun _ _ _ _ q => absurd rfl q⟩) (ws_ge hw).1
section XR
variable {sc : z_Sc} {h : y_Hp} {a rl bg : Nat} {kd t : Int} {G : u_G} {P : u_P} {κ : Int → Int}
theorem XR_t {u : Int} (X : XR h a rl bg kd G P κ t) (e : t ≤ u) : XR h a rl bg kd G P κ u := ⟨X.1, X.2.1, ⟨X.2.2.1.1, X.2.2.1.2.1, pi_t e X.2.2.1.2.2⟩, X.2.2.2.1, X.2.2.2.2.1, KC_t X.2.2.2.2.2 e⟩
theorem l45c (p1 p2 p3 : Nat) (v4 : Int) (cd : Int → Int) (hbg : bg = 21 ∨ bg = 23) (hrl : y_rl rl) (hkd : 1 ≤ kd ∧ kd ≤ 5) (ht : 0 ≤ t ∧ t ≤ 59) : ∀ (n : Nat) (v7 : Int) (P : u_P) (h : y_Hp) (κ : Int → Int), XR h a rl bg kd G P κ t → pl h (rl + 1) = cd → 0 ≤ v7 → v7 + n = 24 → ∃ (κ' : Int → Int) (h' : y_Hp) (o6 o7 : Option y_V), XR h' a rl bg kd G (g_in G kd cd t n P) κ' t ∧ (∀ d, 6 ≤ d → y_ev z_pg sc d pgX3_go 146 [some (y_vr 39), some (y_vr p1), some (y_vr p2), some (y_vr p3), some (y_vi v4), some (y_vi t), some (y_vi (g_cho G P kd cd t)), some (y_vi v7)] [] h = y_ev z_pg sc d pgX3_go 114 [some (y_vr 39), some (y_vr p1), some (y_vr p2), some (y_vr p3), some (y_vi v4), some (y_vi (t + 1)), o6, o7] [] h') ∧ (∀ b k, ¬ (b = bg ∨ (b = 39 ∧ k = 3) ∨ b = 40 ∨ b = 41 ∨ b = 42) → y_I h' b k = y_I h b k) ∧ h'.2 = h.2
  | 0, v7, P, h, κ, X, ec, h1, h2 => by
    refine ⟨κ, h, some (y_vi (g_cho G P kd cd t)), some (y_vi v7), X, fun d hd => ?_, fun _ _ _ => rfl, rfl⟩
    rw [b45_146, if_neg (by omega), yr_t (by omega)]
  | n + 1, v7, P, h, κ, X, ec, h1, h2 => by
    have kw := X.2.1.2.2.2.2.1
    by_cases c : g_cho G P kd cd t = -9
    · refine ⟨κ, h, some (y_vi (g_cho G P kd cd t)), some (y_vi v7), ?_, fun d hd => ?_, fun _ _ _ => rfl, rfl⟩
      · rw [g_in, if_pos c]; exact X
      · rw [b45_146, if_pos (by omega), if_pos c, yr_t (by omega)]
    · rcases g_cho_in (G := G) (P := P) (kd := kd) (cd := cd) (t := t) kw.1 with q | q
      · exact absurd q c
      · obtain ⟨κ1, h1', X1, r1, fr1, s1⟩ := s55 (sc := sc) X hbg hrl hkd ht q.1 q.2
        have rl2 : ¬ (rl + 1 = bg ∨ rl + 1 = 39 ∨ rl + 1 = 40 ∨ rl + 1 = 41 ∨ rl + 1 = 42) := by unfold y_rl at hrl; omega
        have ec1 : pl h1' (rl + 1) = cd := by
          rw [← ec]
          exact funext fun w => fr1 _ _ (by omega)
        obtain ⟨κ2, h2', o6, o7, X2, r2, fr2, s2⟩ := l45c p1 p2 p3 v4 cd hbg hrl hkd ht n (v7 + 1) _ h1' κ1 X1 ec1 (by omega) (by omega)
        refine ⟨κ2, h2', o6, o7, ?_, fun d hd => ?_, fun b k z => (fr2 b k z).trans (fr1 b k z), s2.trans s1⟩
        · rw [g_in, if_neg c]; exact X2
        · have s46' := s46 (sc := sc) d (by omega) X1 hbg hrl hkd (by omega)
          rw [ec1] at s46'
          rw [b45_146, if_pos (by omega), if_neg c, r1 d (by omega), ycv_s, s46', yci_s, yr_t (by omega), r2 d hd]
theorem l45d (p1 p2 p3 : Nat) (cd : Int → Int) (hbg : bg = 21 ∨ bg = 23) (hrl : y_rl rl) (hkd : 1 ≤ kd ∧ kd ≤ 5) : ∀ (n : Nat) (t : Int) (P : u_P) (h : y_Hp) (κ : Int → Int) (o6 o7 : Option y_V), XR h a rl bg kd G P κ t → pl h (rl + 1) = cd → 0 ≤ t → t + n = g_la G → ∃ (h' : y_Hp), p_eq G (pl h' bg) (g_out G kd cd n t P) ∧ (∀ d, 6 ≤ d → y_ev z_pg sc d pgX3_go 114 [some (y_vr 39), some (y_vr p1), some (y_vr p2), some (y_vr p3), some (y_vi (y_shl 1 (g_wm G) - 1)), some (y_vi t), o6, o7] [] h = some (none, h')) ∧ (∀ b k, ¬ (b = bg ∨ (b = 39 ∧ k = 3) ∨ b = 40 ∨ b = 41 ∨ b = 42) → y_I h' b k = y_I h b k) ∧ h'.2 = h.2
  | 0, t, P, h, κ, o6, o7, X, ec, h1, h2 => by
    refine ⟨h, X.2.2.1.2.1, fun d hd => ?_, fun _ _ _ => rfl, rfl⟩
    obtain ⟨⟨f0, f1, f2⟩, ⟨rfl, X, hg⟩, -⟩ := X
    obtain ⟨ha, x0, -⟩ := X
    rw [b45_114, f0, yH0 ha, x0, if_neg (by omega)]
  | n + 1, t, P, h, κ, o6, o7, X, ec, h1, h2 => by
    have hg := X.2.1.2.2
    have kw := hg.2.2.1
    have kl := hg.2.2.2.2.2.1
    by_cases c : y_I h 39 3 = y_shl 1 (g_wm G) - 1
    · have full : ∀ w, 0 ≤ w → w < g_wm G → P w ≠ -9 := fun w w1 w2 => ((X.2.2.2.1.2 w w1 (by omega)).mp (by rw [c]; exact (ub_all kw (by omega)).mpr w2)).2
      refine ⟨h, ?_, fun d hd => ?_, fun _ _ _ => rfl, rfl⟩
      · rw [g_out_full kw.1 full]; exact X.2.2.1.2.1
      · obtain ⟨⟨f0, f1, f2⟩, ⟨rfl, X, hg⟩, -⟩ := X
        obtain ⟨ha, x0, -⟩ := X
        rw [b45_114, f0, yH0 ha, x0, if_pos (by omega), if_pos c]
    · obtain ⟨κ1, g, o6', o7', X1, r1, fr1, s1⟩ := l45c (sc := sc) p1 p2 p3 (y_shl 1 (g_wm G) - 1) cd hbg hrl hkd ⟨h1, by omega⟩ 24 0 P h κ X ec (by omega) (by omega)
      have rl2 : ¬ (rl + 1 = bg ∨ rl + 1 = 39 ∨ rl + 1 = 40 ∨ rl + 1 = 41 ∨ rl + 1 = 42) := by unfold y_rl at hrl; omega
      have ec1 : pl g (rl + 1) = cd := by
        rw [← ec]
        exact funext fun w => fr1 _ _ (by omega)
      obtain ⟨h', i1, i2, i3, i4⟩ := l45d p1 p2 p3 cd hbg hrl hkd n (t + 1) _ g κ1 o6' o7' (XR_t X1 (by omega)) ec1 (by omega) (by omega)
      refine ⟨h', i1, fun d hd => ?_, fun b k z => (i3 b k z).trans (fr1 b k z), i4.trans s1⟩
      have s46' := s46 (sc := sc) d (by omega) X hbg hrl hkd (by omega)
      rw [ec] at s46'
      obtain ⟨⟨f0, f1, f2⟩, ⟨rfl, X, hg⟩, -⟩ := X
      obtain ⟨ha, x0, -⟩ := X
      rw [b45_114, f0, yH0 ha, x0, if_pos (by omega), if_neg c, s46', yci_s, r1 d hd, i2 d hd]
theorem l45a (d : Nat) (p1 p2 p3 : Nat) (g : y_Hp) (f0 : y_F g 39 0 = a) (X : xm g a) (hg : g_ok (hv g)) : ∀ (m : Nat) (k : Int), 0 ≤ k → k + m = g_rm (hv g) → y_ev z_pg sc d pgX3_go 30 [some (y_vr 39), some (y_vr p1), some (y_vr p2), some (y_vr p3), some (y_vi k), none, none, none] [] (y_fill g 40 0 (Int.toNat k) (fun j => y_I g (a + 5) j)) = y_ev z_pg sc d pgX3_go 68 [some (y_vr 39), some (y_vr p1), some (y_vr p2), some (y_vr p3), some (y_vi 0), none, none, none] [] (y_fill g 40 0 (Int.toNat (g_rm (hv g))) (fun j => y_I g (a + 5) j))
  | 0, k, hk, hm => by
    obtain ⟨ha, x0, x1, x2, -⟩ := X
    rw [b45_30, yF_fill, f0, yH0 ha, yI_fill_o (by omega), x2, if_neg (by omega), show k = g_rm (hv g) by omega]
  | m + 1, k, hk, hm => by
    have XX := X
    obtain ⟨ha, x0, x1, x2, -⟩ := X
    have kr := hg.2.1
    have := l45a d p1 p2 p3 g f0 XX hg m (k + 1) (by omega) (by omega)
    rw [show Int.toNat (k + 1) = Int.toNat k + 1 by omega] at this
    rw [b45_30, yF_fill, f0, yH0 ha, yI_fill_o (by omega), x2, if_pos (by omega), yH0 ha, yH5 ha, lH5 ha, yi_t (by omega), yi_t (by omega), yr_t (by omega), yI_fill_o (by omega), y_fill_s (Nat.zero_le _) rfl, this]
theorem l45b (p1 p2 p3 : Nat) (X0 : y_F h 39 0 = a) : ∀ (n : Nat) (k : Int) (g : y_Hp), 0 ≤ k → k + n = 12 → g.2 = h.2 → xm g a → g_ok (hv g) → ∃ g', (∀ d, y_ev z_pg sc d pgX3_go 68 [some (y_vr 39), some (y_vr p1), some (y_vr p2), some (y_vr p3), some (y_vi k), none, none, none] [] g = y_ev z_pg sc d pgX3_go 114 [some (y_vr 39), some (y_vr p1), some (y_vr p2), some (y_vr p3), some (y_vi (y_shl 1 (g_wm (hv g)) - 1)), some (y_vi 0), none, none] [] g') ∧ (∀ c, Int.toNat k ≤ c → c < 12 → y_I g' 41 c = 0 ∧ y_I g' 42 c = -9) ∧ (∀ b j, ¬ ((b = 41 ∨ b = 42) ∧ Int.toNat k ≤ j) → y_I g' b j = y_I g b j) ∧ g'.2 = g.2
  | 0, k, g, h1, h2, hs, X, hg => by
    refine ⟨g, fun d => ?_, fun c q1 q2 => by omega, fun _ _ _ => rfl, rfl⟩
    have fg : y_F g 39 0 = a := by unfold y_F; rw [hs]; exact X0
    obtain ⟨ha, x0, x1, x2, x3, -⟩ := X
    have sb := shl_bd hg.2.2.1
    rw [b45_68, if_neg (by omega), fg, yH0 ha, x3, yr_t (by omega)]
  | n + 1, k, g, h1, h2, hs, X, hg => by
    have ha := X.1
    have eg : hv (y_sI (y_sI g 41 (Int.toNat k) 0) 42 (Int.toNat k) (-9)) = hv g := hv_cg fun b j q => by
      unfold RG at q
      rw [yI_sI_o (by omega), yI_sI_o (by omega)]
    obtain ⟨g', i1, i2, i3, i4⟩ := l45b p1 p2 p3 X0 n (k + 1) (y_sI (y_sI g 41 (Int.toNat k) 0) 42 (Int.toNat k) (-9)) (by omega) (by omega) hs (xm_cg (h := g) (fun b j q => by
      unfold RX RG at q
      rw [yI_sI_o (by omega), yI_sI_o (by omega)]) (fun p => rfl) X) (by rw [eg]; exact hg)
    rw [eg] at i1
    refine ⟨g', fun d => ?_, fun c q1 q2 => ?_, fun b j q => ?_, i4⟩
    · rw [b45_68, if_pos (by omega), yi_t (by omega), yi_t (by omega), yr_t (by omega), i1]
    · by_cases e : c = Int.toNat k
      · subst e
        rw [i3 _ _ (by omega), i3 _ _ (by omega), yI_sI_o (by omega), yI_sI_e ⟨rfl, rfl⟩, yI_sI_e ⟨rfl, rfl⟩]
        exact ⟨rfl, rfl⟩
      · exact i2 c (by omega) q2
    · rw [i3 b j (by omega), yI_sI_o (by omega), yI_sI_o (by omega)]
theorem s45 (X : xm h a) (hg : g_ok (hv h)) (hrl : y_rl rl) (p3 : Nat) (hb : p3 = 20 ∨ p3 = 22) (ek : y_I h rl 0 = kd) (hkd : 1 ≤ kd ∧ kd ≤ 5) : ∃ h', p_eq (hv h) (pl h' (p3 + 1)) (g_run (hv h) kd (pl h (rl + 1))) ∧ (∀ d, 8 ≤ d → y_se z_pg sc d 45 [y_vr 39, y_vr a, y_vr rl, y_vr p3] h = some (none, h')) ∧ (∀ b k, ¬ (b = p3 + 1 ∨ (b = 39 ∧ k = 3) ∨ b = 40 ∨ b = 41 ∨ b = 42) → y_I h' b k = y_I h b k) ∧ (∀ b k, b ≠ 39 → y_F h' b k = y_F h b k) ∧ y_J h' = y_J h := by
  have ha := X.1
  have kl := hg.2.2.2.2.2.1
  have kr := hg.2.1
  have kw := hg.2.2.1
  have rl2 : ¬ (rl = p3 + 1 ∨ rl = 39 ∨ rl = 40 ∨ rl = 41 ∨ rl = 42) ∧ ¬ (rl + 1 = p3 + 1 ∨ rl + 1 = 39 ∨ rl + 1 = 40 ∨ rl + 1 = 41 ∨ rl + 1 = 42) := by unfold y_rl at hrl; omega
  generalize e0 : y_sI (y_fill (y_sF (y_sF (y_sF h 39 0 a) 39 1 rl) 39 2 (p3 + 1)) (p3 + 1) 0 24 (fun _ => -9)) 39 3 0 = g0
  have I0 : ∀ b k, ¬ (b = p3 + 1 ∨ (b = 39 ∧ k = 3)) → y_I g0 b k = y_I h b k := fun b k q => by
    rw [← e0, yI_sI_o (by omega), yI_fill_o (by omega)]
    rfl
  have F0 : y_F g0 39 0 = a ∧ y_F g0 39 1 = rl ∧ y_F g0 39 2 = p3 + 1 := by
    rw [← e0]
    refine ⟨?_, ?_, ?_⟩
    · rw [yF_sI, yF_fill, yF_sF, if_neg (by omega), yF_sF, if_neg (by omega), yF_sF, if_pos ⟨rfl, rfl⟩]
    · rw [yF_sI, yF_fill, yF_sF, if_neg (by omega), yF_sF, if_pos ⟨rfl, rfl⟩]
    · rw [yF_sI, yF_fill, yF_sF, if_pos ⟨rfl, rfl⟩]
  have F0o : ∀ b k, b ≠ 39 → y_F g0 b k = y_F h b k := fun b k q => by
    rw [← e0, yF_sI, yF_fill, yF_sF, if_neg (by omega), yF_sF, if_neg (by omega), yF_sF, if_neg (by omega)]
  have J0 : y_J g0 = y_J h := by rw [← e0]; rfl
  have v0 : hv g0 = hv h := hv_cg fun b k q => I0 b k (by unfold RG at q; omega)
  have XG : xm g0 a := xm_cg (h := h) (fun b k q => I0 b k (by unfold RX RG at q; omega)) (fun p => by rw [J0]) X
  have z3 : y_I g0 39 3 = 0 := by rw [← e0, yI_sI_e ⟨rfl, rfl⟩]
  have zP : ∀ j, j < 24 → y_I g0 (p3 + 1) j = -9 := fun j q => by rw [← e0, yI_sI_o (by omega), yI_fill_e ⟨rfl, by omega, q⟩]
  have la := fun d => l45a (sc := sc) d a rl p3 g0 F0.1 XG (by rw [v0]; exact hg) (g_rm (hv h)).toNat 0 (by omega) (by rw [v0]; omega)
  rw [show Int.toNat 0 = 0 from rfl, y_fill_0] at la
  generalize e1 : y_fill g0 40 0 (Int.toNat (g_rm (hv g0))) (fun j => y_I g0 (a + 5) j) = g1 at la
  have I1 : ∀ b k, b ≠ 40 → y_I g1 b k = y_I g0 b k := fun b k q => by rw [← e1, yI_fill_o (by omega)]
  have S1 : g1.2 = g0.2 := by rw [← e1]; rfl
  have v1 : hv g1 = hv h := (hv_cg fun b k q => I1 b k (by unfold RG at q; omega)).trans v0
  have X1 : xm g1 a := xm_cg (h := g0) (fun b k q => I1 b k (by unfold RX RG at q; omega)) (fun p => by unfold y_J; rw [S1]) XG
  have z40 : ∀ r, 0 ≤ r → r < g_rm (hv h) → y_I g1 40 (Int.toNat r) = g_fr (hv h) r := fun r r1 r2 => by
    rw [← e1, yI_fill_e ⟨rfl, by omega, by rw [v0]; omega⟩, I0 _ _ (by omega)]
    exact X.2.2.2.2.2.2.2.2.2.1 r r1 r2
  obtain ⟨g2, i1, i2, i3, i4⟩ := l45b (sc := sc) (h := g0) a rl p3 F0.1 12 0 g1 (by omega) (by omega) S1 X1 (by rw [v1]; exact hg)
  rw [v1] at i1
  have S2 : g2.2 = g0.2 := i4.trans S1
  have F2 : ∀ b k, y_F g2 b k = y_F g0 b k := fun b k => by unfold y_F; rw [S2]
  have v2 : hv g2 = hv h := (hv_cg fun b k q => i3 b k (by unfold RG at q; omega)).trans v1
  have XX : XR g2 a rl (p3 + 1) kd (hv h) (fun _ => -9) (fun _ => -9) 0 := by
    refine ⟨⟨by rw [F2]; exact F0.1, by rw [F2]; exact F0.2.1, by rw [F2]; exact F0.2.2⟩, ⟨v2, xm_cg (h := g1) (fun b k q => i3 b k (by unfold RX RG at q; omega)) (fun p => by unfold y_J; rw [i4]) X1, hg⟩, ⟨?_, fun w w1 w2 => ?_, pi_0⟩, ⟨?_, fun w w1 w2 => ?_⟩, fun r r1 r2 => ?_, KC_0 (fun c c1 c2 => (i2 _ (by omega) (by omega)).1) (fun c c1 c2 => (i2 _ (by omega) (by omega)).2)⟩
    · rw [i3 _ _ (by omega), I1 _ _ (by omega), I0 _ _ (by omega)]; exact ek
    · show y_I g2 (p3 + 1) (Int.toNat w) = -9
      rw [i3 _ _ (by omega), I1 _ _ (by omega), zP _ (by omega)]
    · rw [i3 _ _ (by omega), I1 _ _ (by omega), z3]; unfold y_inr; omega
    · rw [i3 _ _ (by omega), I1 _ _ (by omega), z3]
      exact ⟨fun q => absurd q ub_0, fun q => absurd rfl q.2⟩
    · rw [i3 _ _ (by omega), z40 r r1 r2, ws_0 kw.1]
  have ec : pl g2 (rl + 1) = pl h (rl + 1) := funext fun w => by
    show y_I g2 (rl + 1) _ = _
    rw [i3 _ _ (by omega), I1 _ _ (by omega), I0 _ _ (by omega)]
    rfl
  obtain ⟨h', j1, j2, j3, j4⟩ := l45d (sc := sc) a rl p3 (pl h (rl + 1)) (by omega) hrl hkd (g_la (hv h)).toNat 0 _ g2 _ none none XX ec (by omega) (by omega)
  refine ⟨h', j1, fun d hd => ?_, fun b k q => ?_, fun b k q => ?_, ?_⟩
  · obtain ⟨d, rfl⟩ : ∃ e, d = e + 1 := ⟨d - 1, by omega⟩
    rw [e45, b45_0, yP0 hb, yP0 hb, s32 d (by omega) hb, ycv_s, e0, la, i1, j2 d (by omega)]
  · rw [j3 b k q, i3 _ _ (by omega), I1 _ _ (by omega), I0 _ _ (by omega)]
  · have : y_F h' b k = y_F g2 b k := by unfold y_F; rw [j4]
    rw [this, F2, F0o b k q]
  · have : y_J h' = y_J g0 := by unfold y_J; rw [j4, S2]
    rw [this, J0]
end XR
