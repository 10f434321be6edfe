/-! THE BEST OF ALL, x's: a want placed, taken back; a row weighed -/
theorem u_sum_at {g : Int → Int} {q c : Int} : ∀ (n : Nat) (k : Int), u_sum (fun j => g j + if j = q then c else 0) k n = u_sum g k n + (if k ≤ q ∧ q < k + n then c else 0)
  | 0, k => by
    rw [u_sum_0, u_sum_0, if_neg (by omega)]
    rfl
  | n + 1, k => by
    rw [u_sum_s, u_sum_s, u_sum_at n (k + 1)]
    by_cases e : k = q
    · rw [if_pos e, if_neg (by omega), if_pos (by omega)]
      omega
    · rw [if_neg e]
      by_cases z : k + 1 ≤ q ∧ q < k + 1 + (n : Int)
      · rw [if_pos z, if_pos (by omega)]
        omega
      · rw [if_neg z, if_neg (by omega)]
        omega
theorem q_lk_at {G : u_G} {L : Int → Prop} {P Q : u_P} {w : Int} (hw : 0 ≤ w ∧ w < g_wm G) (hL : L w) (e : ∀ j, 0 ≤ j → j < g_wm G → j ≠ w → Q j = P j) : q_lk G L Q = q_lk G L P + (g_ls G Q w - g_ls G P w) := by
  unfold q_lk
  rw [u_sum_cg (f := fun w => @ite _ (L w) (Classical.propDecidable _) (g_ls G Q w) 0) (g := fun j => (@ite _ (L j) (Classical.propDecidable _) (g_ls G P j) 0) + if j = w then g_ls G Q w - g_ls G P w else 0) fun j h1 h2 => ?_, u_sum_at, if_pos (by omega)]
  by_cases c : j = w
  · rw [if_pos c, c, if_pos hL, if_pos hL]; omega
  · rw [if_neg c]
    have : g_ls G Q j = g_ls G P j := by unfold g_ls; rw [e j h1 (by omega) c]
    rw [this, Int.add_zero]
theorem q_lr_at {G : u_G} {L : Int → Prop} {P Q : u_P} {w r : Int} (hw : 0 ≤ w ∧ w < g_wm G) (hL : L w) (e : ∀ j, 0 ≤ j → j < g_wm G → j ≠ w → Q j = P j) : q_lr G L Q r = if r = g_rd G w then q_lr G L P r + (g_ls G Q w - g_ls G P w) else q_lr G L P r := by
  unfold q_lr
  by_cases z : r = g_rd G w
  · rw [if_pos z, u_sum_cg (f := fun w => @ite _ (L w ∧ g_rd G w = r) (Classical.propDecidable _) (g_ls G Q w) 0) (g := fun j => (@ite _ (L j ∧ g_rd G j = r) (Classical.propDecidable _) (g_ls G P j) 0) + if j = w then g_ls G Q w - g_ls G P w else 0) fun j h1 h2 => ?_, u_sum_at, if_pos (by omega)]
    by_cases c : j = w
    · rw [if_pos c, c, if_pos ⟨hL, z.symm⟩, if_pos ⟨hL, z.symm⟩]; omega
    · rw [if_neg c]
      have : g_ls G Q j = g_ls G P j := by unfold g_ls; rw [e j h1 (by omega) c]
      rw [this, Int.add_zero]
  · rw [if_neg z]
    refine u_sum_cg fun j h1 h2 => ?_
    by_cases c : j = w
    · rw [c, if_neg (fun q => z q.2.symm), if_neg (fun q => z q.2.symm)]
    · have : g_ls G Q j = g_ls G P j := by unfold g_ls; rw [e j h1 (by omega) c]
      rw [this]
section XS
variable {sc : z_Sc} {h : y_Hp} {a : Nat} {G : u_G} {L : Int → Prop} {b0 oc : Int} {P : u_P} {E : Int → Int}
def x_ms (h : y_Hp) (r v : Int) : y_Hp := y_sI (y_sI h 43 7 (y_I h 43 7 + v)) 56 (Int.toNat r) (y_I h 56 (Int.toNat r) + v)
theorem s77 (d : Nat) (hd : 1 ≤ d) (f2 : y_F h 43 2 = a) (X : xmg h a G) (hg : g_ok G) (w v : Int) (hw : 0 ≤ w ∧ w < g_wm G) (h1 : -10000 ≤ y_I h 43 7 + v ∧ y_I h 43 7 + v ≤ 10000) (h2 : -10000 ≤ y_I h 56 (Int.toNat (g_rd G w)) + v ∧ y_I h 56 (Int.toNat (g_rd G w)) + v ≤ 10000) : y_se z_pg sc d 77 [y_vr 43, y_vi w, y_vi v] h = some (none, x_ms h (g_rd G w) v) := by
  rcases d with _ | d
  · omega
  obtain ⟨ha, x0, x1, x2, x3, x4, x5, x6, x7, x8, x9, x10, x11, x12, x13, x14, x15, x16, x17, x18⟩ := X
  have kr := hg.2.1
  have kw := hg.2.2.1
  have k1 := (hg.2.2.2.2.2.2.2.2.1 w hw.1 hw.2).1
  have e9 : y_I (y_sI h 43 7 (y_I h 43 7 + v)) (a + 9) (Int.toNat w) = g_rd G w := by rw [yI_sI_o (by omega)]; exact x12 w hw.1 hw.2
  have e56 : y_I (y_sI h 43 7 (y_I h 43 7 + v)) 56 (Int.toNat (g_rd G w)) = y_I h 56 (Int.toNat (g_rd G w)) := yI_sI_o (by omega)
  rw [e77, b77_0, yr_t (by omega), yF_sI, f2, yH0 ha, yH9 ha, lH9 ha, yi_t (by omega), e9, yi_t (by omega), e56, yr_t (by omega), yi_t (by omega), yhb_s]
  rfl
theorem xmg_w {h' : y_Hp} (X : xmg h a G) (e : ∀ b k, 62 ≤ b → y_I h' b k = y_I h b k) (ej : h'.2 = h.2) : xmg h' a G := xmg_cg (fun b k q => e b k (by have := X.1; omega)) (fun p => by unfold y_J; rw [ej]) X
/-- a want placed -/
theorem s75 (Q : XQ h a G L b0 oc P E) (hg : g_ok G) (I : q_in G P E) (w t : Int) (hw : 0 ≤ w ∧ w < g_wm G) (hL : L w) (e : P w = -9) (ht : 0 ≤ t ∧ t ≤ 60) (hf : g_ws G P (g_rd G w) ≤ t) : ∃ h', (∀ d, 2 ≤ d → y_se z_pg sc d 75 [y_vr 43, y_vi w, y_vi t, y_vi (q_fc G E (g_pt G w))] h = some (none, h')) ∧ XQ h' a G L b0 oc (u_up P w t) (q_up G E w t) ∧ (∀ b k, ¬ (b = 58 ∨ b = 59 ∨ b = 60 ∨ b = 56 ∨ (b = 43 ∧ (k = 7 ∨ k = 8))) → y_I h' b k = y_I h b k) ∧ h'.2 = h.2 := by
  obtain ⟨⟨f2, X⟩, ⟨e4, e5⟩, e7, ⟨b1, b2⟩, e56, e58, e59, e60⟩ := Q
  have XX := X
  obtain ⟨ha, x0, x1, x2, x3, x4, x5, x6, x7, x8, x9, x10, x11, x12, x13, x14, x15, x16, x17, x18⟩ := X
  have kr := hg.2.1
  have kw := hg.2.2.1
  have kp := hg.1
  obtain ⟨k1, k2, k3, k4⟩ := hg.2.2.2.2.2.2.2.2.1 w hw.1 hw.2
  have fcr := q_fc_r (E := E) hg k2
  have cpp := (hg.2.2.2.2.2.2.1 _ k2.1 k2.2).1
  have lbd := q_ls_bd (L := L) hg I
  have wab := g_wa_bd hg hw ht.1
  have lrb := lbd.2 (g_rd G w)
  have lw : g_ls G (u_up P w t) w - g_ls G P w = - g_wa G w t := by
    unfold g_ls
    rw [up_e, if_pos e, if_neg (by omega)]
    omega
  have oth : ∀ j, 0 ≤ j → j < g_wm G → j ≠ w → u_up P w t j = P j := fun j h1 _ h3 => up_o h1 hw.1 h3
  generalize e1 : y_sI (y_sI h 58 (Int.toNat w) t) 43 8 (y_or (y_I (y_sI h 58 (Int.toNat w) t) 43 8) (y_shl 1 w)) = h1
  have I1 : ∀ b k, ¬ (b = 58 ∨ (b = 43 ∧ k = 8)) → y_I h1 b k = y_I h b k := fun b k q => by rw [← e1, yI_sI_o (by omega), yI_sI_o (by omega)]
  have S1 : h1.2 = h.2 := by rw [← e1]; rfl
  generalize e2 : y_sI h1 59 (Int.toNat (g_rd G w)) (t + g_mn G w) = h2
  have I2 : ∀ b k, b ≠ 59 → y_I h2 b k = y_I h1 b k := fun b k q => by rw [← e2, yI_sI_o (by omega)]
  have S2 : h2.2 = h.2 := by rw [← e2]; exact S1
  generalize e3 : y_sI h2 60 (Int.toNat (q_fc G E (g_pt G w))) (t + g_mn G w) = h3
  have I3 : ∀ b k, b ≠ 60 → y_I h3 b k = y_I h2 b k := fun b k q => by rw [← e3, yI_sI_o (by omega)]
  have S3 : h3.2 = h.2 := by rw [← e3]; exact S2
  have Fh : ∀ {g : y_Hp}, g.2 = h.2 → ∀ b k, y_F g b k = y_F h b k := fun q b k => by unfold y_F; rw [q]
  have X3 : xmg h3 a G := xmg_w XX (fun b k q => by rw [I3 b k (by omega), I2 b k (by omega), I1 b k (by omega)]) S3
  have v7 : y_I h3 43 7 = q_lk G L P := by rw [I3 _ _ (by omega), I2 _ _ (by omega), I1 _ _ (by omega)]; exact e7
  have v56 : ∀ k, y_I h3 56 k = y_I h 56 k := fun k => by rw [I3 _ _ (by omega), I2 _ _ (by omega), I1 _ _ (by omega)]
  have v11 : y_I h1 (a + 11) (Int.toNat w) = g_mn G w := by rw [I1 _ _ (by omega)]; exact x14 w hw.1 hw.2
  have v9 : y_I h1 (a + 9) (Int.toNat w) = g_rd G w := by rw [I1 _ _ (by omega)]; exact x12 w hw.1 hw.2
  have v11b : y_I h2 (a + 11) (Int.toNat w) = g_mn G w := by rw [I2 _ _ (by omega)]; exact v11
  have r56 := e56 (g_rd G w) k1.1 (by omega)
  refine ⟨x_ms h3 (g_rd G w) (- g_wa G w t), fun d hd => ?_, ⟨⟨?_, ?_⟩, ⟨?_, ?_⟩, ?_, ⟨?_, fun v q1 q2 => ?_⟩, fun r q1 q2 => ?_, fun v q1 q2 => ?_, fun r q1 q2 => ?_, fun c q1 q2 => ?_⟩, fun b k q => ?_, S3⟩
  · obtain ⟨d, rfl⟩ : ∃ e, d = e + 1 := ⟨d - 1, by omega⟩
    rw [e75, b75_0, yi_t (by omega), e1, yhb_s, Fh S1, f2, yH0 ha, yH9 ha, lH9 ha, yi_t (by omega), yH0 ha, yH11 ha, lH11 ha, yi_t (by omega), v11, yr_t (by omega), v9, yi_t (by omega), e2, yhb_s, Fh S2, f2, yH0 ha, yH11 ha, lH11 ha, yi_t (by omega), v11b, yr_t (by omega), yi_t (by omega), e3, Fh S3, f2, yH0 ha, s14g d (by omega) X3 hg w t hw (by omega), yci_s, yr_t (by omega), s77 d (by omega) ((Fh S3 _ _).trans f2) X3 hg w _ hw (by rw [v7]; omega) (by rw [v56, r56]; omega), ycv_s]
  · rw [Fh (show (x_ms h3 (g_rd G w) (- g_wa G w t)).2 = h.2 from S3)]; exact f2
  · exact xmg_w X3 (fun b k q => by unfold x_ms; rw [yI_sI_o (by omega), yI_sI_o (by omega)]) rfl
  · unfold x_ms
    rw [yI_sI_o (by omega), yI_sI_o (by omega), I3 _ _ (by omega), I2 _ _ (by omega), I1 _ _ (by omega)]; exact e4
  · unfold x_ms
    rw [yI_sI_o (by omega), yI_sI_o (by omega), I3 _ _ (by omega), I2 _ _ (by omega), I1 _ _ (by omega)]; exact e5
  · unfold x_ms
    rw [yI_sI_o (by omega), yI_sI_e ⟨rfl, rfl⟩, v7, q_lk_at hw hL oth, lw]
  · unfold x_ms
    rw [yI_sI_o (by omega), yI_sI_o (by omega), I3 _ _ (by omega), I2 _ _ (by omega), ← e1, yI_sI_e ⟨rfl, rfl⟩]
    exact y_inr_to _
  · unfold x_ms
    rw [yI_sI_o (by omega), yI_sI_o (by omega), I3 _ _ (by omega), I2 _ _ (by omega), ← e1, yI_sI_e ⟨rfl, rfl⟩, yI_sI_o (by omega), ub_or, b2 v q1 q2, ub_shl (by omega) ⟨q1, q2⟩]
    by_cases c : v = w
    · rw [c, up_e]
      exact ⟨fun _ => ⟨hw.2, by omega⟩, fun _ => Or.inr rfl⟩
    · rw [up_o q1 hw.1 c]
      exact ⟨fun q => q.elim id (fun q => absurd q c), Or.inl⟩
  · unfold x_ms
    rw [q_lr_at hw hL oth, lw, yI_sI]
    by_cases c : r = g_rd G w
    · rw [if_pos (by omega), if_pos c, c, v56, r56]
    · rw [if_neg (by omega), if_neg c, yI_sI_o (by omega), v56, e56 r q1 q2]
  · show y_I (x_ms h3 (g_rd G w) (- g_wa G w t)) 58 (Int.toNat v) = _
    unfold x_ms
    rw [yI_sI_o (by omega), yI_sI_o (by omega), I3 _ _ (by omega), I2 _ _ (by omega), ← e1, yI_sI_o (by omega), yI_sI]
    by_cases c : v = w
    · rw [if_pos (by omega), c, up_e]
    · rw [if_neg (by omega), up_o q1 hw.1 c]
      exact e58 v q1 q2
  · unfold x_ms
    rw [yI_sI_o (by omega), yI_sI_o (by omega), I3 _ _ (by omega), ← e2, yI_sI, q_re_up hg hw e ht.1 hf]
    by_cases c : r = g_rd G w
    · rw [if_pos (by omega), if_pos c]
    · rw [if_neg (by omega), if_neg c, I1 _ _ (by omega), e59 r q1 q2]
  · unfold x_ms
    rw [yI_sI_o (by omega), yI_sI_o (by omega), ← e3, yI_sI]
    unfold q_up
    by_cases c' : c = q_fc G E (g_pt G w)
    · rw [if_pos (by omega), if_pos c']
    · rw [if_neg (by omega), if_neg c', I2 _ _ (by omega), I1 _ _ (by omega), e60 c q1 q2]
  · unfold x_ms
    rw [yI_sI_o (by omega), yI_sI_o (by omega), I3 _ _ (by omega), I2 _ _ (by omega), I1 _ _ (by omega)]
/-- a want taken back -/
theorem s76 (w t : Int) (hg : g_ok G) (I : q_in G (u_up P w t) (q_up G E w t)) (Q : XQ h a G L b0 oc (u_up P w t) (q_up G E w t)) (hw : 0 ≤ w ∧ w < g_wm G) (hL : L w) (e : P w = -9) (ht : 0 ≤ t ∧ t ≤ 60) (hf : g_ws G P (g_rd G w) ≤ t) : ∃ h', (∀ d, 2 ≤ d → y_se z_pg sc d 76 [y_vr 43, y_vi w, y_vi t] h = some (none, h')) ∧ XQ (y_sI (y_sI h' 59 (Int.toNat (g_rd G w)) (q_re G P (g_rd G w))) 60 (Int.toNat (q_fc G E (g_pt G w))) (E (q_fc G E (g_pt G w)))) a G L b0 oc P E ∧ (∀ b k, ¬ (b = 58 ∨ b = 56 ∨ (b = 43 ∧ (k = 7 ∨ k = 8))) → y_I h' b k = y_I h b k) ∧ h'.2 = h.2 := by
  obtain ⟨⟨f2, X⟩, ⟨e4, e5⟩, e7, ⟨b1, b2⟩, e56, e58, e59, e60⟩ := Q
  have XX := X
  have ha := X.1
  have kr := hg.2.1
  have kw := hg.2.2.1
  have kp := hg.1
  obtain ⟨k1, k2, k3, k4⟩ := hg.2.2.2.2.2.2.2.2.1 w hw.1 hw.2
  have fcr := q_fc_r (E := E) hg k2
  have cpp := (hg.2.2.2.2.2.2.1 _ k2.1 k2.2).1
  have lbd := q_ls_bd (L := L) hg I
  have lrb := lbd.2 (g_rd G w)
  have wab := g_wa_bd hg hw ht.1
  have lw : g_ls G P w - g_ls G (u_up P w t) w = g_wa G w t := by
    unfold g_ls
    rw [up_e, if_pos e, if_neg (by omega)]
    omega
  have oth : ∀ j, 0 ≤ j → j < g_wm G → j ≠ w → P j = u_up P w t j := fun j h1 _ h3 => (up_o h1 hw.1 h3).symm
  generalize e1 : y_sI (y_sI h 58 (Int.toNat w) (-9)) 43 8 (y_and (y_I (y_sI h 58 (Int.toNat w) (-9)) 43 8) (y_xor (y_shl 1 w) (-1))) = h1
  have I1 : ∀ b k, ¬ (b = 58 ∨ (b = 43 ∧ k = 8)) → y_I h1 b k = y_I h b k := fun b k q => by rw [← e1, yI_sI_o (by omega), yI_sI_o (by omega)]
  have S1 : h1.2 = h.2 := by rw [← e1]; rfl
  have Fh : ∀ {g : y_Hp}, g.2 = h.2 → ∀ b k, y_F g b k = y_F h b k := fun q b k => by unfold y_F; rw [q]
  have X1 : xmg h1 a G := xmg_w XX (fun b k q => I1 b k (by omega)) S1
  have v7 : y_I h1 43 7 = q_lk G L (u_up P w t) := by rw [I1 _ _ (by omega)]; exact e7
  have v56 : ∀ k, y_I h1 56 k = y_I h 56 k := fun k => I1 _ _ (by omega)
  have r56 := e56 (g_rd G w) k1.1 (by omega)
  refine ⟨x_ms h1 (g_rd G w) (g_wa G w t), fun d hd => ?_, ⟨⟨?_, ?_⟩, ⟨?_, ?_⟩, ?_, ⟨?_, fun v q1 q2 => ?_⟩, fun r q1 q2 => ?_, fun v q1 q2 => ?_, fun r q1 q2 => ?_, fun c q1 q2 => ?_⟩, fun b k q => ?_, S1⟩
  · obtain ⟨d, rfl⟩ : ∃ e, d = e + 1 := ⟨d - 1, by omega⟩
    rw [e76, b76_0, yi_t (by omega), e1, yhb_s, Fh S1, f2, yH0 ha, s14g d (by omega) X1 hg w t hw (by omega), yci_s, s77 d (by omega) ((Fh S1 _ _).trans f2) X1 hg w _ hw (by rw [v7]; omega) (by rw [v56, r56]; omega), ycv_s]
  · show y_F h1 43 2 = a
    rw [Fh S1]; exact f2
  · exact xmg_w X1 (fun b k q => by
      rw [yI_sI_o (by omega), yI_sI_o (by omega)]
      unfold x_ms; rw [yI_sI_o (by omega), yI_sI_o (by omega)]) rfl
  · rw [yI_sI_o (by omega), yI_sI_o (by omega)]
    unfold x_ms
    rw [yI_sI_o (by omega), yI_sI_o (by omega), I1 _ _ (by omega)]; exact e4
  · rw [yI_sI_o (by omega), yI_sI_o (by omega)]
    unfold x_ms
    rw [yI_sI_o (by omega), yI_sI_o (by omega), I1 _ _ (by omega)]; exact e5
  · rw [yI_sI_o (by omega), yI_sI_o (by omega)]
    unfold x_ms
    rw [yI_sI_o (by omega), yI_sI_e ⟨rfl, rfl⟩, v7, q_lk_at hw hL oth, lw]
  · rw [yI_sI_o (by omega), yI_sI_o (by omega)]
    unfold x_ms
    rw [yI_sI_o (by omega), yI_sI_o (by omega), ← e1, yI_sI_e ⟨rfl, rfl⟩]
    exact y_inr_to _
  · rw [yI_sI_o (by omega), yI_sI_o (by omega)]
    unfold x_ms
    rw [yI_sI_o (by omega), yI_sI_o (by omega), ← e1, yI_sI_e ⟨rfl, rfl⟩, yI_sI_o (by omega), ub_and, b2 v q1 q2, ub_not ⟨q1, q2⟩, ub_shl (by omega) ⟨q1, q2⟩]
    by_cases c : v = w
    · subst c
      exact ⟨fun q => absurd rfl q.2, fun q => absurd e q.2⟩
    · rw [up_o q1 hw.1 c]
      exact ⟨fun q => q.1, fun q => ⟨q, c⟩⟩
  · rw [yI_sI_o (by omega), yI_sI_o (by omega)]
    unfold x_ms
    rw [q_lr_at hw hL oth, lw, yI_sI]
    by_cases c : r = g_rd G w
    · rw [if_pos (by omega), if_pos c, c, v56, r56]
    · rw [if_neg (by omega), if_neg c, yI_sI_o (by omega), v56, e56 r q1 q2]
  · show y_I (y_sI (y_sI (x_ms h1 (g_rd G w) (g_wa G w t)) 59 _ _) 60 _ _) 58 (Int.toNat v) = _
    rw [yI_sI_o (by omega), yI_sI_o (by omega)]
    unfold x_ms
    rw [yI_sI_o (by omega), yI_sI_o (by omega), ← e1, yI_sI_o (by omega), yI_sI]
    by_cases c : v = w
    · rw [if_pos (by omega), c, e]
    · rw [if_neg (by omega)]
      exact (e58 v q1 q2).trans (up_o q1 hw.1 c)
  · rw [yI_sI_o (by omega), yI_sI]
    by_cases c : r = g_rd G w
    · rw [if_pos (by omega), c]
    · rw [if_neg (by omega)]
      unfold x_ms
      rw [yI_sI_o (by omega), yI_sI_o (by omega), I1 _ _ (by omega), e59 r q1 q2, q_re_up hg hw e ht.1 hf, if_neg c]
  · rw [yI_sI]
    by_cases c' : c = q_fc G E (g_pt G w)
    · rw [if_pos (by omega), c']
    · rw [if_neg (by omega), yI_sI_o (by omega)]
      unfold x_ms
      rw [yI_sI_o (by omega), yI_sI_o (by omega), I1 _ _ (by omega), e60 c q1 q2]
      exact if_neg c'
  · unfold x_ms
    rw [yI_sI_o (by omega), yI_sI_o (by omega), I1 _ _ (by omega)]
theorem XQ_cg {h' : y_Hp} (Q : XQ h a G L b0 oc P E) (e : ∀ b k, ((b = 43 ∧ (k = 4 ∨ k = 5 ∨ k = 7 ∨ k = 8)) ∨ b = 56 ∨ b = 58 ∨ b = 59 ∨ b = 60 ∨ 62 ≤ b) → y_I h' b k = y_I h b k) (ej : h'.2 = h.2) : XQ h' a G L b0 oc P E := by
  obtain ⟨⟨f2, X⟩, ⟨e4, e5⟩, e7, ⟨b1, b2⟩, e56, e58, e59, e60⟩ := Q
  have e8 := e 43 8 (by omega)
  exact ⟨⟨by unfold y_F; rw [ej]; exact f2, xmg_w X (fun b k q => e b k (by omega)) ej⟩, ⟨by rw [e _ _ (by omega)]; exact e4, by rw [e _ _ (by omega)]; exact e5⟩, by rw [e _ _ (by omega)]; exact e7, ⟨by rw [e8]; exact b1, fun w h1 h2 => by rw [e8]; exact b2 w h1 h2⟩, fun r h1 h2 => by rw [e _ _ (by omega)]; exact e56 r h1 h2, fun w h1 h2 => (e 58 _ (by omega)).trans (e58 w h1 h2), fun r h1 h2 => by rw [e _ _ (by omega)]; exact e59 r h1 h2, fun c h1 h2 => by rw [e _ _ (by omega)]; exact e60 c h1 h2⟩
end XS
