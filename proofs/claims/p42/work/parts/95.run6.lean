/-! THE PAPER GOES ROUND BY A RULE: x begins a reading, the run of it -/
section XR
variable {sc : z_Sc} {h : y_Hp} {a rl bg : Nat} {kd t : Int} {G : u_G} {P : u_P} {κ : Int → Int}
theorem pr9_bg (hbg : bg = 21 ∨ bg = 23) : y_pr9 bg := by
  rcases hbg with rfl | rfl
  · exact Or.inl rfl
  · exact Or.inr (Or.inl rfl)
theorem s55 (X : XR h a rl bg kd G P κ t) (hbg : bg = 21 ∨ bg = 23) (hrl : y_rl rl) (hkd : 1 ≤ kd ∧ kd ≤ 5) (ht : 0 ≤ t ∧ t ≤ 59) {w : Int} (hw : 0 ≤ w ∧ w < g_wm G) (m : g_may G P (if kd = 2 then 1 else 0) w t) : ∃ (κ' : Int → Int) (h' : y_Hp), XR h' a rl bg kd G (u_up P w t) κ' t ∧ (∀ d, 3 ≤ d → y_se z_pg sc d 55 [y_vr 39, y_vi w, y_vi t] h = some (none, h')) ∧ (∀ b k, ¬ (b = bg ∨ (b = 39 ∧ k = 3) ∨ b = 40 ∨ b = 41 ∨ b = 42) → y_I h' b k = y_I h b k) ∧ h'.2 = h.2 := by
  have fc := XR_fc (p := g_pt G w) X ht.1 (X.2.1.2.2.2.2.2.2.2.2.2.2.1 w hw.1 hw.2).2.1
  have XX := X
  have key := fun (h' : y_Hp) => XR_bg (h' := h') X hbg hrl ht hw m
  obtain ⟨⟨f0, f1, f2⟩, ⟨rfl, X, hg⟩, ⟨k1, k2, hpi⟩, ⟨b1, b2⟩, w40, C⟩ := X
  have X0 := X
  have e := m.2.1
  have nfc : ¬ x_fc (hv h) (fun c => y_I h 41 (Int.toNat c)) (g_pt (hv h) w) t = -9 := fun q => fc.mp q m.2.2.2.1
  obtain ⟨ha, x0, x1, x2, x3, x4, x5, x6, x7, x8, x9, x10, x11, x12, x13, x14, x15, x16, x17, x18⟩ := X
  have kp := hg.1
  have kr := hg.2.1
  have kw := hg.2.2.1
  obtain ⟨kr1, kp1, km1, -⟩ := hg.2.2.2.2.2.2.2.2.1 w hw.1 hw.2
  have cpk := (hg.2.2.2.2.2.2.1 _ kp1.1 kp1.2).1
  have rl2 : ¬ (rl = bg ∨ rl = 39 ∨ rl = 40 ∨ rl = 41 ∨ rl = 42) ∧ rl < 62 := by unfold y_rl at hrl; omega
  have c0r : 0 ≤ x_fc (hv h) (fun c => y_I h 41 (Int.toNat c)) (g_pt (hv h) w) t ∧ x_fc (hv h) (fun c => y_I h 41 (Int.toNat c)) (g_pt (hv h) w) t < 12 := by
    revert nfc
    unfold x_fc
    split
    · intro _; omega
    · split
      · intro _; omega
      · intro q; exact absurd rfl q
  have r54 : ∀ d, 1 ≤ d → _ := fun d hd => s54 (sc := sc) d hd f0 X0 hg (g_pt (hv h) w) t kp1
  generalize x_fc (hv h) (fun c => y_I h 41 (Int.toNat c)) (g_pt (hv h) w) t = c0 at *
  generalize er : g_rd (hv h) w = r at *
  generalize em : g_mn (hv h) w = mn at *
  generalize eH1 : y_sI (y_sI h bg (Int.toNat w) t) 39 3 (y_or (y_I (y_sI h bg (Int.toNat w) t) 39 3) (y_shl 1 w)) = H1
  have I1 : ∀ b k, ¬ (b = bg ∨ (b = 39 ∧ k = 3)) → y_I H1 b k = y_I h b k := fun b k q => by
    rw [← eH1, yI_sI_o (by omega), yI_sI_o (by omega)]
  have S1 : H1.2 = h.2 := by rw [← eH1]; rfl
  generalize eH2 : y_sI H1 40 (Int.toNat r) (t + mn) = H2
  have I2 : ∀ b k, b ≠ 40 → y_I H2 b k = y_I H1 b k := fun b k q => by rw [← eH2, yI_sI_o (by omega)]
  have S2 : H2.2 = h.2 := by rw [← eH2]; exact S1
  generalize eH3 : y_sI H2 42 (Int.toNat c0) r = H3
  have I3 : ∀ b k, b ≠ 42 → y_I H3 b k = y_I H2 b k := fun b k q => by rw [← eH3, yI_sI_o (by omega)]
  have S3 : H3.2 = h.2 := by rw [← eH3]; exact S2
  have Fh : ∀ {g : y_Hp}, g.2 = h.2 → ∀ b k, y_F g b k = y_F h b k := fun q b k => by unfold y_F; rw [q]
  have k3 : y_I H3 rl 0 = kd := by rw [I3 _ _ (by omega), I2 _ _ (by omega), I1 _ _ (by omega)]; exact k1
  have v40 : y_I H3 40 (Int.toNat r) = t + mn := by rw [I3 _ _ (by omega), ← eH2, yI_sI_e ⟨rfl, rfl⟩]
  have v6 : y_I H3 (a + 6) (Int.toNat r) = g_ti (hv h) r := by rw [I3 _ _ (by omega), I2 _ _ (by omega), I1 _ _ (by omega)]; exact x9 r kr1.1 kr1.2
  have v11 : y_I H1 (a + 11) (Int.toNat w) = mn := by rw [I1 _ _ (by omega), x14 w hw.1 hw.2, em]
  -- a heap's facts
  have HF : ∀ v (g : y_Hp), y_sI H3 41 (Int.toNat c0) v = g → (∀ j, y_I g bg j = if j = Int.toNat w then t else y_I h bg j) ∧ y_I g 39 3 = y_or (y_I h 39 3) (y_shl 1 w) ∧ (∀ j, y_I g 40 j = if j = Int.toNat r then t + mn else y_I h 40 j) ∧ (∀ j, y_I g 42 j = if j = Int.toNat c0 then r else y_I h 42 j) ∧ (∀ j, y_I g 41 j = if j = Int.toNat c0 then v else y_I h 41 j) ∧ (∀ b k, ¬ (b = bg ∨ (b = 39 ∧ k = 3) ∨ b = 40 ∨ b = 41 ∨ b = 42) → y_I g b k = y_I h b k) ∧ g.2 = h.2 := fun v g eg => by
    refine ⟨fun j => ?_, ?_, fun j => ?_, fun j => ?_, fun j => ?_, fun b k q => ?_, by rw [← eg]; exact S3⟩
    · rw [← eg, yI_sI_o (by omega), I3 _ _ (by omega), I2 _ _ (by omega), ← eH1, yI_sI_o (by omega), yI_sI]
      by_cases z : j = Int.toNat w
      · rw [if_pos ⟨rfl, z⟩, if_pos z]
      · rw [if_neg (fun q => z q.2), if_neg z]
    · rw [← eg, yI_sI_o (by omega), I3 _ _ (by omega), I2 _ _ (by omega), ← eH1, yI_sI_e ⟨rfl, rfl⟩, yI_sI_o (by omega)]
    · rw [← eg, yI_sI_o (by omega), I3 _ _ (by omega), ← eH2, yI_sI]
      by_cases z : j = Int.toNat r
      · rw [if_pos ⟨rfl, z⟩, if_pos z]
      · rw [if_neg (fun q => z q.2), if_neg z, I1 _ _ (by omega)]
    · rw [← eg, yI_sI_o (by omega), ← eH3, yI_sI]
      by_cases z : j = Int.toNat c0
      · rw [if_pos ⟨rfl, z⟩, if_pos z]
      · rw [if_neg (fun q => z q.2), if_neg z, I2 _ _ (by omega), I1 _ _ (by omega)]
    · rw [← eg, yI_sI]
      by_cases z : j = Int.toNat c0
      · rw [if_pos ⟨rfl, z⟩, if_pos z]
      · rw [if_neg (fun q => z q.2), if_neg z, I3 _ _ (by omega), I2 _ _ (by omega), I1 _ _ (by omega)]
    · rw [← eg, yI_sI_o (by omega), I3 _ _ (by omega), I2 _ _ (by omega), I1 _ _ (by omega)]
  have run : ∀ d, 2 ≤ d → y_se z_pg sc (d + 1) 55 [y_vr 39, y_vi w, y_vi t] h = if kd = 2 then y_ci (y_se z_pg sc d 53 [y_vr 39, y_vi r] (y_sI H3 41 (Int.toNat c0) (g_ti (hv h) r))) (fun u14 g13 => (if u14 = 0 then some (none, g13) else y_cv (y_se z_pg sc d 56 [y_vr 39, y_vi r] g13) (fun g15 => some (none, g15)))) else some (none, y_sI H3 41 (Int.toNat c0) (t + mn)) := fun d hd => by
    rw [e55, b55_0, f0, yH0 ha, yH9 ha, lH9 ha, yi_t (by omega), yH0 ha, yH10 ha, lH10 ha, yi_t (by omega), x13 w hw.1 hw.2, x12 w hw.1 hw.2, r54 d (by omega), yci_s, f2, yB0 (pr9_bg hbg), lB0 (pr9_bg hbg), yi_t (by omega), eH1, yhb_s, Fh S1, f0, yH0 ha, yH11 ha, lH11 ha, yi_t (by omega), v11, er, yr_t (by omega), yi_t (by omega), eH2, yhb_s, if_neg nfc, yi_t (by omega), eH3, Fh S3, f1, yK0 hrl, k3]
    by_cases z : kd = 2
    · rw [if_pos z, if_pos z, Fh S3, f0, yH0 ha, yH6 ha, lH6 ha, yi_t (by omega), yi_t (by omega), v6, yhb_s, Fh (show (y_sI H3 41 (Int.toNat c0) (g_ti (hv h) r)).2 = h.2 from S3), f1, yK0 hrl, yI_sI_o (by omega), k3, if_pos z]
    · rw [if_neg z, if_neg z, yi_t (by omega), yi_t (by omega), v40, yhb_s, Fh (show (y_sI H3 41 (Int.toNat c0) (t + mn)).2 = h.2 from S3), f1, yK0 hrl, yI_sI_o (by omega), k3, if_neg z]
  by_cases z : kd = 2
  · generalize eB : y_sI H3 41 (Int.toNat c0) (g_ti (hv h) r) = B at run
    obtain ⟨F1, F2, F3, F4, F5, F6, F7⟩ := HF _ B eB
    have eg : hv B = hv h := hv_cg fun b k q => F6 b k (by unfold RG at q; omega)
    have XB : xm B a := xm_cg (h := h) (fun b k q => F6 b k (by unfold RX RG at q; omega)) (fun p => by unfold y_J; rw [F7]) X0
    have bB : ∀ v, 0 ≤ v → v < 32 → (u_bs (y_I B 39 3) v ↔ (v < g_wm (hv B) ∧ u_up P w t v ≠ -9)) := fun v h1 h2 => by
      rw [F2, ub_or, b2 v h1 h2, ub_shl (by omega) ⟨h1, h2⟩, eg]
      by_cases c : v = w
      · rw [c, up_e]
        exact ⟨fun _ => ⟨hw.2, by omega⟩, fun _ => Or.inr rfl⟩
      · rw [up_o h1 hw.1 c]
        exact ⟨fun q => q.elim id (fun q => absurd q c), Or.inl⟩
    have r53 := fun d hd => s53b (sc := sc) (h := B) (a := a) (P := u_up P w t) d hd (by rw [Fh F7]; exact f0) XB (by rw [eg]; exact hg) bB r (by rw [eg]; exact kr1)
    rw [eg] at r53
    by_cases th : g_thr (hv h) (u_up P w t) r
    · obtain ⟨h', i1, i2, i3, i4⟩ := l56 (sc := sc) r (by omega) 12 0 B (by omega) (by omega)
      have F4' : ∀ j, y_I h' 42 j = y_I B 42 j := fun j => i3 _ _ (by omega)
      refine ⟨_, h', key h' (fun j => by rw [i3 _ _ (by omega)]; exact F1 j) (by rw [i3 _ _ (by omega)]; exact F2) (fun j => by rw [i3 _ _ (by omega)]; exact F3 j) (fun j => by rw [F4']; exact F4 j) (fun c hc => ?_) (fun b k q => by rw [i3 _ _ (by omega)]; exact F6 b k q) (i4.trans F7), fun d hd => ?_, fun b k q => by rw [i3 _ _ (by omega)]; exact F6 b k q, i4.trans F7⟩
      · rw [i2 c (by omega) hc, F4', F3, if_pos rfl, F5]
        by_cases y : y_I B 42 c = r
        · rw [if_pos y, if_pos ⟨⟨if_pos z, th⟩, y⟩]
        · rw [if_neg y]
          refine Eq.symm ((if_neg (fun q => y q.2)).trans ?_)
          rw [if_pos (show (if kd = 2 then (1 : Int) else 0) = 1 from if_pos z)]
      · obtain ⟨d, rfl⟩ : ∃ e, d = e + 2 := ⟨d - 2, by omega⟩
        rw [run (d + 1) (by omega), if_pos z, r53 (d + 1) (by omega), yci_s, if_neg (by rw [bi_t th]; omega), e56, b56_0, i1, ycv_s]
    · refine ⟨_, B, key B F1 F2 F3 F4 (fun c hc => ?_) F6 F7, fun d hd => ?_, F6, F7⟩
      · rw [F5]
        refine Eq.symm ((if_neg (fun q => th q.1.2)).trans ?_)
        rw [if_pos (show (if kd = 2 then (1 : Int) else 0) = 1 from if_pos z)]
      · obtain ⟨d, rfl⟩ : ∃ e, d = e + 1 := ⟨d - 1, by omega⟩
        rw [run d (by omega), if_pos z, r53 d (by omega), yci_s, if_pos (bi_f th)]
  · generalize eB : y_sI H3 41 (Int.toNat c0) (t + mn) = B at run
    obtain ⟨F1, F2, F3, F4, F5, F6, F7⟩ := HF _ B eB
    refine ⟨_, B, key B F1 F2 F3 F4 (fun c hc => ?_) F6 F7, fun d hd => ?_, F6, F7⟩
    · rw [F5]
      have k0 : ¬ (if kd = 2 then (1 : Int) else 0) = 1 := by rw [if_neg z]; omega
      refine Eq.symm ((if_neg (fun q => k0 q.1.1)).trans ?_)
      rw [if_neg k0]
    · obtain ⟨d, rfl⟩ : ∃ e, d = e + 1 := ⟨d - 1, by omega⟩
      rw [run d (by omega), if_neg z]
end XR
