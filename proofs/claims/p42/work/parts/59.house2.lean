/-! CALLS: copies, post, late -/
section HO
variable {sc : z_Sc} {h : y_Hp} {N : Nat} {a : Nat}
/-- a house changed in its parts' or readers' rows -/
theorem INV_ho (II : INV N h) {h2 : y_Hp} (ha : y_F h 2 10 = a) (S : Nat → Nat → Prop) (hs : ∀ b k, ¬ S b k → y_I h2 b k = y_I h b k) (ef : h2.2 = h.2) (hS : ∀ b k, S b k → (b = a + 1 ∨ b = a + 2 ∨ b = a + 3 ∨ b = a + 5 ∨ b = a + 6 ∨ b = 101 ∨ b = 102)) (hX : xm h2 a) (hG : g_ok (hv h2)) : INV (N + 1) h2 := by
  obtain ⟨a', ⟨hF, hD, X, hg⟩, i2, i3, i4, i5, i6⟩ := II
  have e : a' = a := hF.symm.trans ha
  subst e
  have hx := X.1
  have ef1 : y_F h2 = y_F h := by unfold y_F; rw [ef]
  have key : ∀ b k, ¬ (b = a' + 1 ∨ b = a' + 2 ∨ b = a' + 3 ∨ b = a' + 5 ∨ b = a' + 6 ∨ b = 101 ∨ b = 102) → y_I h2 b k = y_I h b k := fun b k q => hs b k (fun z => q (hS b k z))
  refine ⟨a', ⟨by rw [ef1]; exact hF, by rw [ef1]; exact hD, hX, hG⟩, I_row_cg (fun b k q => key b k ?_) i2, I_txt_cg (fun b k q => key b k ?_) i3, I_pln_w (fun b k q => key b k ?_) i4, I_rul_w (fun b k q => key b k ?_) i5, I_tel_up (Nat.le_succ N) (I_tel_cg (fun b k q => key b k ?_) i6)⟩
  · unfold RR at q; omega
  · unfold RT at q; omega
  · unfold RQ at q; omega
  · omega
  · unfold RE at q; omega
theorem o_copies (I : INV N h) (p n : Int) : OP sc 100 188 [y_vr 2, y_vi p, y_vi n] [y_vr 94, y_vi p, y_vi n] N h := by
  have II := I
  obtain ⟨a, ⟨hF, hD, X, hg⟩, -⟩ := I
  have ha := X.1
  have kp := hg.1
  by_cases c1 : 0 ≤ p ∧ p < g_pm (hv h)
  · by_cases c2 : 1 ≤ n ∧ n ≤ 2
    · have x4 := X.2.2.2.2.2.1 p c1.1 c1.2
      have h1v : hv (y_sI h (a + 1) (Int.toNat p) n) = hv h := hv_cg fun b k q => yI_sI_o (by unfold RG at q; omega)
      generalize e2 : y_sI (y_sI h (a + 1) (Int.toNat p) n) 101 (Int.toNat (3 * p)) n = h2
      have ho : ∀ b k, ¬ (b = 101 ∨ b = a + 1) → y_I h2 b k = y_I h b k := fun b k q => by rw [← e2, yI_sI_o (by omega), yI_sI_o (by omega)]
      have hcp : ∀ q, 0 ≤ q → q < g_pm (hv h) → g_cp (hv h2) q = if q = p then n else g_cp (hv h) q := fun q q1 q2 => by
        show y_I h2 101 (Int.toNat (3 * q)) = _
        by_cases c : q = p
        · rw [if_pos c, ← e2, yI_sI_e (by rw [c]; omega)]
        · rw [if_neg c, ← e2, yI_sI_o (by omega), yI_sI_o (by omega)]; rfl
      have hcm : ∀ q, 0 ≤ q → q < g_pm (hv h) → g_cm (hv h2) q = g_cm (hv h) q := fun q q1 q2 => by
        show y_I h2 101 (Int.toNat (3 * q + 1)) = _
        rw [← e2, yI_sI_o (by omega), yI_sI_o (by omega)]; rfl
      have hsl : ∀ q, 0 ≤ q → q < g_pm (hv h) → g_sl (hv h2) q = g_sl (hv h) q := fun q q1 q2 => by
        show y_I h2 101 (Int.toNat (3 * q + 2)) = _
        rw [← e2, yI_sI_o (by omega), yI_sI_o (by omega)]; rfl
      refine OP_do (g_cp (hv h) p) (y_sI h (a + 1) (Int.toNat p) n) h2 (fun d hd => ?_) (fun d hd => ?_) ?_
      · rw [e100, b100_0, hF, yH0 ha, s2 d (by omega) X, yci_s, if_neg (by rw [bi_t c1]; omega), if_neg (by omega), if_neg (by omega), hF, yH0 ha, yH1 ha, lH1 ha, yi_t (by omega), yH0 ha, yH1 ha, yi_t (by omega), x4]
      · rw [e188, b188_0, s170 d (by omega) _ (by rw [h1v]; exact hg), h1v, yci_s, if_neg (by rw [bi_t c1]; omega), s136 d (by omega), yci_s, if_neg (by rw [bi_t c2]; omega)]
        simp (disch := omega) only [yr_t, yi_t]
        rw [e2, yI_sI_o (by omega)]
        rfl
      · refine INV_ho II hF (fun b k => b = 101 ∨ b = a + 1) ho (by rw [← e2]; rfl) (fun b k q => by omega) ?_ ?_
        · refine xm_gen X hg (fun k k1 k2 => ho _ _ (by omega)) (fun k => ho _ _ (by omega)) (fun k => ho _ _ (by omega)) (fun k => ho _ _ (by omega)) (fun r r1 r2 => ho _ _ (by omega)) (fun i k q1 q2 q3 q4 q5 q6 => ho _ _ (by omega)) (fun q => by rw [← e2]; rfl) (fun q q1 q2 => ?_) (fun r r1 r2 => ?_)
          · rw [hcp q q1 q2, hcm q q1 q2, hsl q q1 q2]
            refine ⟨?_, ?_, ?_⟩
            · by_cases c : q = p
              · rw [if_pos c, ← e2, yI_sI_o (by omega), yI_sI_e (by rw [c]; omega)]
              · rw [if_neg c, ← e2, yI_sI_o (by omega), yI_sI_o (by omega)]
                exact X.2.2.2.2.2.1 q q1 q2
            · rw [ho _ _ (by omega)]
              exact X.2.2.2.2.2.2.1 q q1 q2
            · rw [ho _ _ (by omega)]
              exact X.2.2.2.2.2.2.2.1 q q1 q2
          · rw [ho _ _ (by omega), ho _ _ (by omega), show g_fr (hv h2) r = g_fr (hv h) r from ho _ _ (by omega), show g_ti (hv h2) r = g_ti (hv h) r from ho _ _ (by omega)]
            exact ⟨X.2.2.2.2.2.2.2.2.2.1 r r1 r2, X.2.2.2.2.2.2.2.2.2.2.1 r r1 r2⟩
        · refine g_ok_gen hg (fun k k1 k2 => ?_) (fun k => ho _ _ (by omega)) (fun k => ho _ _ (by omega)) (fun q q1 q2 => ?_) (fun r r1 r2 => ?_)
          · have e := ho 94 k (by omega)
            rcases (show k = 8 ∨ k = 9 ∨ k = 10 ∨ k = 11 ∨ k = 12 ∨ k = 13 by omega) with rfl | rfl | rfl | rfl | rfl | rfl <;> exact e
          · have := hg.2.2.2.2.2.2.1 q q1 q2
            rw [hcp q q1 q2, hcm q q1 q2, hsl q q1 q2]
            by_cases c : q = p
            · rw [if_pos c]; exact ⟨by omega, this.2⟩
            · rw [if_neg c]; exact this
          · rw [show g_fr (hv h2) r = g_fr (hv h) r from ho _ _ (by omega), show g_ti (hv h2) r = g_ti (hv h) r from ho _ _ (by omega), show g_or (hv h2) r = g_or (hv h) r from ho _ _ (by omega)]
            exact hg.2.2.2.2.2.2.2.1 r r1 r2
    · refine OP_same II (-1) (fun d hd => ?_) (fun d hd => ?_)
      · rw [e100, b100_0, hF, yH0 ha, s2 d (by omega) X, yci_s, if_neg (by rw [bi_t c1]; omega)]
        by_cases c3 : n < 1
        · rw [if_pos c3]
        · rw [if_neg c3, if_pos (by omega)]
      · rw [e188, b188_0, s170 d (by omega) _ hg, yci_s, if_neg (by rw [bi_t c1]; omega), s136 d (by omega), yci_s, if_pos (bi_f c2)]
  · refine OP_same II (-1) (fun d hd => ?_) (fun d hd => ?_)
    · rw [e100, b100_0, hF, yH0 ha, s2 d (by omega) X, yci_s, if_pos (bi_f c1)]
    · rw [e188, b188_0, s170 d (by omega) _ hg, yci_s, if_pos (bi_f c1)]
theorem o_post (I : INV N h) (p m n : Int) : OP sc 101 189 [y_vr 2, y_vi p, y_vi m, y_vi n] [y_vr 94, y_vi p, y_vi m, y_vi n] N h := by
  have II := I
  obtain ⟨a, ⟨hF, hD, X, hg⟩, -⟩ := I
  have ha := X.1
  have kp := hg.1
  by_cases c1 : 0 ≤ p ∧ p < g_pm (hv h)
  · by_cases c2 : 0 ≤ m ∧ m ≤ 59
    · by_cases c3 : 0 ≤ n ∧ n ≤ 9
      · generalize e1 : y_sI (y_sI h (a + 2) (Int.toNat p) m) (a + 3) (Int.toNat p) n = h1
        have h1o : ∀ b k, ¬ (b = a + 2 ∨ b = a + 3) → y_I h1 b k = y_I h b k := fun b k q => by rw [← e1, yI_sI_o (by omega), yI_sI_o (by omega)]
        have h1v : hv h1 = hv h := hv_cg fun b k q => h1o b k (by unfold RG at q; omega)
        have g1F : y_F (y_sI h (a + 2) (Int.toNat p) m) 2 10 = a := hF
        generalize e2 : y_sI (y_sI h1 101 (Int.toNat (3 * p + 1)) m) 101 (Int.toNat (3 * p + 2)) n = h2
        have ho : ∀ b k, ¬ (b = 101 ∨ b = a + 2 ∨ b = a + 3) → y_I h2 b k = y_I h b k := fun b k q => by rw [← e2, yI_sI_o (by omega), yI_sI_o (by omega), h1o b k (by omega)]
        have hcp : ∀ q, 0 ≤ q → q < g_pm (hv h) → g_cp (hv h2) q = g_cp (hv h) q := fun q q1 q2 => by
          show y_I h2 101 (Int.toNat (3 * q)) = _
          rw [← e2, yI_sI_o (by omega), yI_sI_o (by omega), h1o _ _ (by omega)]; rfl
        have hcm : ∀ q, 0 ≤ q → q < g_pm (hv h) → g_cm (hv h2) q = if q = p then m else g_cm (hv h) q := fun q q1 q2 => by
          show y_I h2 101 (Int.toNat (3 * q + 1)) = _
          by_cases c : q = p
          · rw [if_pos c, ← e2, yI_sI_o (by omega), yI_sI_e (by rw [c]; omega)]
          · rw [if_neg c, ← e2, yI_sI_o (by omega), yI_sI_o (by omega), h1o _ _ (by omega)]; rfl
        have hsl : ∀ q, 0 ≤ q → q < g_pm (hv h) → g_sl (hv h2) q = if q = p then n else g_sl (hv h) q := fun q q1 q2 => by
          show y_I h2 101 (Int.toNat (3 * q + 2)) = _
          by_cases c : q = p
          · rw [if_pos c, ← e2, yI_sI_e (by rw [c]; omega)]
          · rw [if_neg c, ← e2, yI_sI_o (by omega), yI_sI_o (by omega), h1o _ _ (by omega)]; rfl
        refine OP_do 1 h1 h2 (fun d hd => ?_) (fun d hd => ?_) ?_
        · rw [e101, b101_0, hF, yH0 ha, s2 d (by omega) X, yci_s, if_neg (by rw [bi_t c1]; omega), if_neg (by omega), if_neg (by omega), if_neg (by omega), if_neg (by omega), hF, yH0 ha, yH2 ha, lH2 ha, yi_t (by omega), g1F, yH0 ha, yH3 ha, lH3 ha, yi_t (by omega), e1, yhb_s]
        · rw [e189, b189_0, s170 d (by omega) _ (by rw [h1v]; exact hg), h1v, yci_s, if_neg (by rw [bi_t c1]; omega), s136 d (by omega), yci_s, if_neg (by rw [bi_t c2]; omega), s136 d (by omega), yci_s, if_neg (by rw [bi_t c3]; omega)]
          simp (disch := omega) only [yr_t, yi_t]
          rw [e2]
        · refine INV_ho II hF (fun b k => b = 101 ∨ b = a + 2 ∨ b = a + 3) ho (by rw [← e2, ← e1]; rfl) (fun b k q => by omega) ?_ ?_
          · refine xm_gen X hg (fun k k1 k2 => ho _ _ (by omega)) (fun k => ho _ _ (by omega)) (fun k => ho _ _ (by omega)) (fun k => ho _ _ (by omega)) (fun r r1 r2 => ho _ _ (by omega)) (fun i k q1 q2 q3 q4 q5 q6 => ho _ _ (by omega)) (fun q => by rw [← e2, ← e1]; rfl) (fun q q1 q2 => ?_) (fun r r1 r2 => ?_)
            · rw [hcp q q1 q2, hcm q q1 q2, hsl q q1 q2]
              refine ⟨?_, ?_, ?_⟩
              · rw [ho _ _ (by omega)]
                exact X.2.2.2.2.2.1 q q1 q2
              · rw [← e2, yI_sI_o (by omega), yI_sI_o (by omega), ← e1, yI_sI_o (by omega)]
                by_cases c : q = p
                · rw [if_pos c, yI_sI_e (by rw [c]; omega)]
                · rw [if_neg c, yI_sI_o (by omega)]
                  exact X.2.2.2.2.2.2.1 q q1 q2
              · rw [← e2, yI_sI_o (by omega), yI_sI_o (by omega), ← e1]
                by_cases c : q = p
                · rw [if_pos c, yI_sI_e (by rw [c]; omega)]
                · rw [if_neg c, yI_sI_o (by omega), yI_sI_o (by omega)]
                  exact X.2.2.2.2.2.2.2.1 q q1 q2
            · rw [ho _ _ (by omega), ho _ _ (by omega), show g_fr (hv h2) r = g_fr (hv h) r from ho _ _ (by omega), show g_ti (hv h2) r = g_ti (hv h) r from ho _ _ (by omega)]
              exact ⟨X.2.2.2.2.2.2.2.2.2.1 r r1 r2, X.2.2.2.2.2.2.2.2.2.2.1 r r1 r2⟩
          · refine g_ok_gen hg (fun k k1 k2 => ?_) (fun k => ho _ _ (by omega)) (fun k => ho _ _ (by omega)) (fun q q1 q2 => ?_) (fun r r1 r2 => ?_)
            · have e := ho 94 k (by omega)
              rcases (show k = 8 ∨ k = 9 ∨ k = 10 ∨ k = 11 ∨ k = 12 ∨ k = 13 by omega) with rfl | rfl | rfl | rfl | rfl | rfl <;> exact e
            · have := hg.2.2.2.2.2.2.1 q q1 q2
              rw [hcp q q1 q2, hcm q q1 q2, hsl q q1 q2]
              by_cases c : q = p
              · rw [if_pos c, if_pos c]; exact ⟨this.1, by omega, by omega⟩
              · rw [if_neg c, if_neg c]; exact this
            · rw [show g_fr (hv h2) r = g_fr (hv h) r from ho _ _ (by omega), show g_ti (hv h2) r = g_ti (hv h) r from ho _ _ (by omega), show g_or (hv h2) r = g_or (hv h) r from ho _ _ (by omega)]
              exact hg.2.2.2.2.2.2.2.1 r r1 r2
      · refine OP_same II (-1) (fun d hd => ?_) (fun d hd => ?_)
        · rw [e101, b101_0, hF, yH0 ha, s2 d (by omega) X, yci_s, if_neg (by rw [bi_t c1]; omega), if_neg (by omega), if_neg (by omega)]
          by_cases c4 : n < 0
          · rw [if_pos c4]
          · rw [if_neg c4, if_pos (by omega)]
        · rw [e189, b189_0, s170 d (by omega) _ hg, yci_s, if_neg (by rw [bi_t c1]; omega), s136 d (by omega), yci_s, if_neg (by rw [bi_t c2]; omega), s136 d (by omega), yci_s, if_pos (bi_f c3)]
    · refine OP_same II (-1) (fun d hd => ?_) (fun d hd => ?_)
      · rw [e101, b101_0, hF, yH0 ha, s2 d (by omega) X, yci_s, if_neg (by rw [bi_t c1]; omega)]
        by_cases c4 : m < 0
        · rw [if_pos c4]
        · rw [if_neg c4, if_pos (by omega)]
      · rw [e189, b189_0, s170 d (by omega) _ hg, yci_s, if_neg (by rw [bi_t c1]; omega), s136 d (by omega), yci_s, if_pos (bi_f c2)]
  · refine OP_same II (-1) (fun d hd => ?_) (fun d hd => ?_)
    · rw [e101, b101_0, hF, yH0 ha, s2 d (by omega) X, yci_s, if_pos (bi_f c1)]
    · rw [e189, b189_0, s170 d (by omega) _ hg, yci_s, if_pos (bi_f c1)]
theorem o_late (I : INV N h) (p m n : Int) : OP sc 102 190 [y_vr 2, y_vi p, y_vi m, y_vi n] [y_vr 94, y_vi p, y_vi m, y_vi n] N h := by
  have II := I
  obtain ⟨a, ⟨hF, hD, X, hg⟩, -⟩ := I
  have ha := X.1
  have kp := hg.2.1
  by_cases c1 : 0 ≤ p ∧ p < g_rm (hv h)
  · by_cases c2 : 0 ≤ m ∧ m < n ∧ n ≤ 60
    · generalize e1 : y_sI (y_sI h (a + 5) (Int.toNat p) m) (a + 6) (Int.toNat p) n = h1
      have h1o : ∀ b k, ¬ (b = a + 5 ∨ b = a + 6) → y_I h1 b k = y_I h b k := fun b k q => by rw [← e1, yI_sI_o (by omega), yI_sI_o (by omega)]
      have h1v : hv h1 = hv h := hv_cg fun b k q => h1o b k (by unfold RG at q; omega)
      have g1F : y_F (y_sI h (a + 5) (Int.toNat p) m) 2 10 = a := hF
      generalize e2 : y_sI (y_sI h1 102 (Int.toNat (3 * p)) m) 102 (Int.toNat (3 * p + 1)) n = h2
      have ho : ∀ b k, ¬ (b = 102 ∨ b = a + 5 ∨ b = a + 6) → y_I h2 b k = y_I h b k := fun b k q => by rw [← e2, yI_sI_o (by omega), yI_sI_o (by omega), h1o b k (by omega)]
      have hor : ∀ q, 0 ≤ q → q < g_rm (hv h) → g_or (hv h2) q = g_or (hv h) q := fun q q1 q2 => by
        show y_I h2 102 (Int.toNat (3 * q + 2)) = _
        rw [← e2, yI_sI_o (by omega), yI_sI_o (by omega), h1o _ _ (by omega)]; rfl
      have hfr : ∀ q, 0 ≤ q → q < g_rm (hv h) → g_fr (hv h2) q = if q = p then m else g_fr (hv h) q := fun q q1 q2 => by
        show y_I h2 102 (Int.toNat (3 * q)) = _
        by_cases c : q = p
        · rw [if_pos c, ← e2, yI_sI_o (by omega), yI_sI_e (by rw [c]; omega)]
        · rw [if_neg c, ← e2, yI_sI_o (by omega), yI_sI_o (by omega), h1o _ _ (by omega)]; rfl
      have hti : ∀ q, 0 ≤ q → q < g_rm (hv h) → g_ti (hv h2) q = if q = p then n else g_ti (hv h) q := fun q q1 q2 => by
        show y_I h2 102 (Int.toNat (3 * q + 1)) = _
        by_cases c : q = p
        · rw [if_pos c, ← e2, yI_sI_e (by rw [c]; omega)]
        · rw [if_neg c, ← e2, yI_sI_o (by omega), yI_sI_o (by omega), h1o _ _ (by omega)]; rfl
      refine OP_do 1 h1 h2 (fun d hd => ?_) (fun d hd => ?_) ?_
      · rw [e102, b102_0, hF, yH0 ha, s3 d (by omega) X, yci_s, if_neg (by rw [bi_t c1]; omega), if_neg (by omega), if_neg (by omega), if_pos (by omega), hF, yH0 ha, yH5 ha, lH5 ha, yi_t (by omega), g1F, yH0 ha, yH6 ha, lH6 ha, yi_t (by omega), e1, yhb_s]
      · rw [e190, b190_0, s171 d (by omega) _ (by rw [h1v]; exact hg), h1v, yci_s, if_neg (by rw [bi_t c1]; omega), s136 d (by omega), yci_s, if_neg (by rw [bi_t (by omega)]; omega), s136 d (by omega), yci_s, if_neg (by rw [bi_t (by omega)]; omega), if_pos (by omega)]
        simp (disch := omega) only [yr_t, yi_t]
        rw [e2]
      · refine INV_ho II hF (fun b k => b = 102 ∨ b = a + 5 ∨ b = a + 6) ho (by rw [← e2, ← e1]; rfl) (fun b k q => by omega) ?_ ?_
        · refine xm_gen X hg (fun k k1 k2 => ho _ _ (by omega)) (fun k => ho _ _ (by omega)) (fun k => ho _ _ (by omega)) (fun k => ho _ _ (by omega)) hor (fun i k q1 q2 q3 q4 q5 q6 => ho _ _ (by omega)) (fun q => by rw [← e2, ← e1]; rfl) (fun q q1 q2 => ?_) (fun q q1 q2 => ?_)
          · rw [ho _ _ (by omega), ho _ _ (by omega), ho _ _ (by omega), show g_cp (hv h2) q = g_cp (hv h) q from ho _ _ (by omega), show g_cm (hv h2) q = g_cm (hv h) q from ho _ _ (by omega), show g_sl (hv h2) q = g_sl (hv h) q from ho _ _ (by omega)]
            exact ⟨X.2.2.2.2.2.1 q q1 q2, X.2.2.2.2.2.2.1 q q1 q2, X.2.2.2.2.2.2.2.1 q q1 q2⟩
          · rw [hfr q q1 q2, hti q q1 q2]
            refine ⟨?_, ?_⟩
            · rw [← e2, yI_sI_o (by omega), yI_sI_o (by omega), ← e1, yI_sI_o (by omega)]
              by_cases c : q = p
              · rw [if_pos c, yI_sI_e (by rw [c]; omega)]
              · rw [if_neg c, yI_sI_o (by omega)]
                exact X.2.2.2.2.2.2.2.2.2.1 q q1 q2
            · rw [← e2, yI_sI_o (by omega), yI_sI_o (by omega), ← e1]
              by_cases c : q = p
              · rw [if_pos c, yI_sI_e (by rw [c]; omega)]
              · rw [if_neg c, yI_sI_o (by omega), yI_sI_o (by omega)]
                exact X.2.2.2.2.2.2.2.2.2.2.1 q q1 q2
        · refine g_ok_gen hg (fun k k1 k2 => ?_) (fun k => ho _ _ (by omega)) (fun k => ho _ _ (by omega)) (fun q q1 q2 => ?_) (fun q q1 q2 => ?_)
          · have e := ho 94 k (by omega)
            rcases (show k = 8 ∨ k = 9 ∨ k = 10 ∨ k = 11 ∨ k = 12 ∨ k = 13 by omega) with rfl | rfl | rfl | rfl | rfl | rfl <;> exact e
          · rw [show g_cp (hv h2) q = g_cp (hv h) q from ho _ _ (by omega), show g_cm (hv h2) q = g_cm (hv h) q from ho _ _ (by omega), show g_sl (hv h2) q = g_sl (hv h) q from ho _ _ (by omega)]
            exact hg.2.2.2.2.2.2.1 q q1 q2
          · have := hg.2.2.2.2.2.2.2.1 q q1 q2
            rw [hfr q q1 q2, hti q q1 q2, hor q q1 q2]
            by_cases c : q = p
            · rw [if_pos c, if_pos c]; exact ⟨by omega, this.2⟩
            · rw [if_neg c, if_neg c]; exact this
    · refine OP_same II (-1) (fun d hd => ?_) (fun d hd => ?_)
      · rw [e102, b102_0, hF, yH0 ha, s3 d (by omega) X, yci_s, if_neg (by rw [bi_t c1]; omega)]
        by_cases c4 : m < 0
        · rw [if_pos c4]
        rw [if_neg c4]
        by_cases c5 : 60 < n
        · rw [if_pos c5]
        · rw [if_neg c5, if_neg (by omega)]
      · rw [e190, b190_0, s171 d (by omega) _ hg, yci_s, if_neg (by rw [bi_t c1]; omega), s136 d (by omega), yci_s]
        by_cases c4 : 0 ≤ m ∧ m ≤ 60
        · rw [if_neg (by rw [bi_t c4]; omega), s136 d (by omega), yci_s]
          by_cases c5 : 0 ≤ n ∧ n ≤ 60
          · rw [if_neg (by rw [bi_t c5]; omega), if_neg (by omega)]
          · rw [if_pos (bi_f c5)]
        · rw [if_pos (bi_f c4)]
  · refine OP_same II (-1) (fun d hd => ?_) (fun d hd => ?_)
    · rw [e102, b102_0, hF, yH0 ha, s3 d (by omega) X, yci_s, if_pos (bi_f c1)]
    · rw [e190, b190_0, s171 d (by omega) _ hg, yci_s, if_pos (bi_f c1)]
end HO
