/-! THE CALL run -/
section RU
variable {sc : z_Sc} {h : y_Hp} {N : Nat}
theorem l220 (d : Nat) (v1 : Int) (hv1 : 0 ≤ v1 ∧ v1 < 6) (g : y_Hp) (hg : g_ok (hv g)) : ∀ (m : Nat) (k : Int), 0 ≤ k → k + m = g_rm (hv g) → y_ev z_pg sc d pgX8_run 26 [some (y_vr 94), some (y_vi v1), some (y_vi k)] [] (y_fill g 114 0 (Int.toNat k) (fun j => y_I g 113 (Int.toNat (8 * v1) + j))) = y_cv (y_se z_pg sc d 219 [y_vr 94, y_vi (y_I g 112 (Int.toNat v1))] (y_fill g 114 0 (Int.toNat (g_rm (hv g))) (fun j => y_I g 113 (Int.toNat (8 * v1) + j)))) (fun g1 => y_ci (y_se z_pg sc d 203 [y_vr 94, y_vi (-9)] g1) (fun u3 g2 => some (some (y_vi u3), g2)))
  | 0, k, hk, hm => by
    rw [b220_26, yI_fill_o (by omega), hvrm, if_neg (by omega), yi_t (by omega), yI_fill_o (by omega), show k = g_rm (hv g) by omega]
  | m + 1, k, hk, hm => by
    have kr := hg.2.1
    have := l220 d v1 hv1 g hg m (k + 1) (by omega) (by omega)
    rw [show Int.toNat (k + 1) = Int.toNat k + 1 by omega] at this
    rw [b220_26, yI_fill_o (by omega), hvrm, if_pos (by omega), yr_t (by omega), yr_t (by omega), yi_t (by omega), yi_t (by omega), yr_t (by omega), yI_fill_o (by omega), y_fill_s (Nat.zero_le _) (by rw [show Int.toNat (8 * v1 + k) = Int.toNat (8 * v1) + Int.toNat k by omega]), this]
theorem y_rl_of {k : Int} (hk : 0 ≤ k ∧ k < 6) : y_rl (25 + 2 * Int.toNat k) := by
  unfold y_rl
  omega
theorem o_run (I : INV N h) (hN : N ≤ 1000) (k : Int) : OP sc 112 220 [y_vr 2, y_vi k] [y_vr 94, y_vi k] N h := by
  have II := I
  obtain ⟨a, ⟨hF, hD, X, hg⟩, i2, i3, ⟨hp, pe⟩, i5, i6⟩ := I
  have ha := X.1
  have kw := hg.2.2.1
  have kr := hg.2.1
  by_cases c0 : 0 ≤ k ∧ k ≤ 5
  · obtain ⟨r1, r2, r3⟩ := i5 k c0.1 (by omega)
    have hrl := y_rl_of (k := k) (by omega)
    by_cases c1 : y_I h 112 (Int.toNat k) = 0
    · refine OP_fd II hN 1 (by omega) (fun d hd => ?_) (fun d hd => ?_)
      · rw [e112, b112_0, if_neg (by omega), if_pos (by omega), yi_t (by omega), yK0 hrl, if_pos (r1.trans c1)]
      · rw [e220, b220_0, s209 d (by omega), yci_s, if_neg (by rw [bi_t c0]; omega), yi_t (by omega), xfd_o (by omega) (by omega), if_pos c1]
    · obtain ⟨g1, j1, j2, j3, j4, j5⟩ := s45 (sc := sc) (kd := y_I h 112 (Int.toNat k)) X hg hrl 20 (Or.inl rfl) r1 (by omega)
      have v1 : hv g1 = hv h := hv_cg fun b k q => j3 b k (by unfold RG at q; omega)
      have X1 : xm g1 a := xm_cg (h := h) (fun b k q => j3 b k (by unfold RX RG at q; omega)) (fun p => by rw [j5]) X
      have F1 : y_F g1 2 10 = a := (j4 _ _ (by omega)).trans hF
      have ok1 : p_ok (hv h) (pl g1 21) := p_ok.cg (p_eq.symm j1) (g_run_ok hg)
      have l2 := fun d => l220 (sc := sc) d k (by omega) g1 (by rw [v1]; exact hg) (g_rm (hv h)).toNat 0 (by omega) (by rw [v1]; omega)
      rw [show Int.toNat 0 = 0 from rfl, y_fill_0, j3 112 _ (by omega), v1] at l2
      generalize e2 : y_fill g1 114 0 (Int.toNat (g_rm (hv h))) (fun j => y_I g1 113 (Int.toNat (8 * k) + j)) = g2 at l2
      have I2 : ∀ b j, b ≠ 114 → y_I g2 b j = y_I g1 b j := fun b j q => by rw [← e2, yI_fill_o (by omega)]
      have v2 : hv g2 = hv h := (hv_cg fun b k q => I2 b k (by unfold RG at q; omega)).trans v1
      obtain ⟨g3, m1, m2, m3, m4⟩ := s219 (sc := sc) (h := g2) (y_I h 112 (Int.toNat k)) (by omega) (by rw [v2]; exact hg)
      have v3 : hv g3 = hv h := (hv_cg fun b k q => m2 b k (by unfold RG at q; omega)).trans v2
      have ecd : g_run (hv h) (y_I h 112 (Int.toNat k)) (pl g2 114) = g_run (hv h) (y_I h 112 (Int.toNat k)) (pl h (25 + 2 * Int.toNat k + 1)) := g_run_cd fun i q1 q2 q3 => by
        show y_I g2 114 (Int.toNat i) = y_I h (25 + 2 * Int.toNat k + 1) (Int.toNat i)
        rw [← e2, yI_fill_e ⟨rfl, by omega, by omega⟩, j3 _ _ (by omega), show Int.toNat (8 * k) + Int.toNat i = Int.toNat (8 * k + i) by omega, ← (r3 (by omega) i q1 q2).1, show 26 + 2 * Int.toNat k = 25 + 2 * Int.toNat k + 1 by omega]
      rw [v2, ecd] at m1
      have pe3 : p_eq (hv h) (pl g3 111) (pl g1 21) := m1.trans (p_eq.symm j1)
      have ok3 : p_ok (hv g3) (pl g3 111) := by rw [v3]; exact p_ok.cg (p_eq.symm m1) (g_run_ok hg)
      have fr : ∀ b j, ¬ (b = 21 ∨ (b = 39 ∧ j = 3) ∨ b = 40 ∨ b = 41 ∨ b = 42 ∨ b = 111 ∨ b = 114) → y_I g3 b j = y_I h b j := fun b j q => by
        rw [m2 b j (by omega), I2 b j (by omega), j3 b j (by omega)]
      have S3 : g3.2 = g1.2 := by rw [m3, ← e2]; rfl
      have fF : ∀ b j, b ≠ 39 → y_F g3 b j = y_F h b j := fun b j q => by
        have : y_F g3 b j = y_F g1 b j := by unfold y_F; rw [S3]
        rw [this, j4 b j q]
      have fJ : y_J g3 = y_J h := by
        have : y_J g3 = y_J g1 := by unfold y_J; rw [S3]
        rw [this, j5]
      refine OP_do (g_ms (hv h) (pl g1 21) (-9)) g1 g3 (fun d hd => ?_) (fun d hd => ?_) ⟨a, ⟨?_, ?_, xm_cg (h := h) (fun b j q => ?_) (fun p => by rw [fJ]) X, by rw [v3]; exact hg⟩, I_row_cg (h := h) (fun b j q => ?_) i2, I_txt_cg (h := h) (fun b j q => ?_) i3, ⟨ok3, ?_⟩, I_rul_cg (h := h) (fun b j q => ?_) i5, I_tel_up (Nat.le_succ N) (I_tel_cg (h := h) (fun b j q => ?_) i6)⟩
      · have s38' := s38 (sc := sc) (h := g1) (b := 20) d (by omega) (Or.inl rfl) X1 (by rw [v1]; exact hg) (by rw [v1]; exact ok1)
        rw [v1] at s38'
        rw [e112, b112_0, if_neg (by omega), if_pos (by omega), yi_t (by omega), yK0 hrl, if_neg (by rw [r1]; exact c1), yi_t (by omega), hF, j2 d (by omega), ycv_s, F1, s38', yci_s]
      · have s203' := s203 (sc := sc) (h := g3) d (by omega) (-9) (by rw [v3]; exact hg) ok3
        rw [v3, g_ms_cg pe3] at s203'
        rw [e220, b220_0, s209 d (by omega), yci_s, if_neg (by rw [bi_t c0]; omega), yi_t (by omega), j3 _ _ (by omega), if_neg c1, l2, m4 d (by omega), ycv_s, s203', yci_s]
      · rw [fF _ _ (by omega)]; exact hF
      · rw [fF _ _ (by omega)]; exact hD
      · unfold RX RG at q; exact fr b j (by omega)
      · unfold RR at q; exact fr b j (by omega)
      · unfold RT at q; exact fr b j (by omega)
      · rw [v3]
        refine pe3.trans fun w w1 w2 => ?_
        show y_I g1 21 _ = y_I g3 21 _
        rw [m2 _ _ (by omega), I2 _ _ (by omega)]
      · unfold RV RG at q; exact fr b j (by omega)
      · unfold RE at q; exact fr b j (by omega)
  · refine OP_same II (-1) (fun d hd => ?_) (fun d hd => ?_)
    · rw [e112, b112_0]
      by_cases c : k < 0
      · rw [if_pos c]
      · rw [if_neg c, if_neg (by omega)]
    · rw [e220, b220_0, s209 d (by omega), yci_s, if_pos (bi_f c0)]
end RU
