/-! CALLS: copy, mean, text, put -/
section RO
variable {sc : z_Sc} {h : y_Hp} {N : Nat}
theorem s82a (d : Nat) (hd : 1 ≤ d) (r i n : Int) (hr : 0 ≤ r ∧ r < 6) (hs : -1 ≤ y_I h 11 (Int.toNat r) ∧ y_I h 11 (Int.toNat r) ≤ 48) (hn : y_inr n) : y_se z_pg sc d 82 [y_vr 3, y_vi r, y_vi i, y_vi n] h = some (some (y_vi (y_bi (0 ≤ i ∧ 0 ≤ n ∧ i + n ≤ y_I h 11 (Int.toNat r)))), h) := by
  rcases d with _ | d
  · omega
  unfold y_inr at hn
  rw [e82a, b82a_0]
  by_cases c1 : i < 0
  · rw [if_pos c1]; exact ab_f (by omega)
  rw [if_neg c1]
  by_cases c2 : n < 0
  · rw [if_pos c2]; exact ab_f (by omega)
  rw [if_neg c2, yi_t (by omega)]
  by_cases c3 : y_I h 11 (Int.toNat r) < n
  · rw [if_pos c3]; exact ab_f (by omega)
  rw [if_neg c3, yi_t (by omega), yr_t (by omega)]
  by_cases c4 : y_I h 11 (Int.toNat r) - n < i
  · rw [if_pos c4]; exact ab_f (by omega)
  · rw [if_neg c4]; exact ab_t (by omega)
theorem yI_cpI {a sp b dp n c j : Nat} : y_I (y_cpI h a sp b dp n) c j = if c = b ∧ dp ≤ j ∧ j < dp + n then y_I h a (sp + (j - dp)) else y_I h c j := by
  show z_row h.1 b (y_cp (h.1 a) (h.1 b) sp dp n) c j = _
  unfold z_row y_cp
  by_cases e : c = b
  · subst e
    simp only [if_true, true_and]
    rfl
  · simp only [e, if_false, false_and]
    rfl
theorem l151a (d : Nat) (hd : 1 ≤ d) (r i t j n : Int) (g : y_Hp) (hr : 0 ≤ r ∧ r < 6) (hi : 0 ≤ i) (hn : i + n ≤ 48) (R : y_O) (hR : y_ev z_pg sc d pgX8_copy 136 [some (y_vr 94), some (y_vi r), some (y_vi i), some (y_vi t), some (y_vi j), some (y_vi n), some (y_vi 0)] [] (y_fill g 98 0 (Int.toNat n) (fun q => y_I g 97 (Int.toNat (48 * r + i) + q))) = R) : ∀ (m : Nat) (k : Int), 0 ≤ k → k + m = n → y_ev z_pg sc d pgX8_copy 104 [some (y_vr 94), some (y_vi r), some (y_vi i), some (y_vi t), some (y_vi j), some (y_vi n), some (y_vi k)] [] (y_fill g 98 0 (Int.toNat k) (fun q => y_I g 97 (Int.toNat (48 * r + i) + q))) = R
  | 0, k, hk, hm => by
    have e : k = n := by omega
    subst e
    rw [b151_104, if_neg (by omega), hR]
  | m + 1, k, hk, hm => by
    rw [b151_104, if_pos (by omega), yr_t (by omega), s146 d hd r (i + k) hr (by omega), yci_s, yi_t (by omega), yr_t (by omega), yI_fill_o (by omega), y_fill_s (Nat.zero_le _) (by rw [show Int.toNat (48 * r + (i + k)) = Int.toNat (48 * r + i) + Int.toNat k by omega])]
    have := l151a d hd r i t j n g hr hi hn R hR m (k + 1) (by omega) (by omega)
    rw [show Int.toNat (k + 1) = Int.toNat k + 1 by omega] at this
    exact this
theorem l151b (d : Nat) (r i t j n : Int) (g : y_Hp) (ht : 0 ≤ t ∧ t < 6) (hj : 0 ≤ j) (hn : j + n ≤ 48) (f : Nat → Int) (hf : ∀ q, q < Int.toNat n → y_I g 98 q = f (Int.toNat (48 * t + j) + q)) : ∀ (m : Nat) (k : Int), 0 ≤ k → k + m = n → y_ev z_pg sc d pgX8_copy 136 [some (y_vr 94), some (y_vi r), some (y_vi i), some (y_vi t), some (y_vi j), some (y_vi n), some (y_vi k)] [] (y_fill g 97 (Int.toNat (48 * t + j)) (Int.toNat (48 * t + j + k)) f) = some (some (y_vi 1), y_fill g 97 (Int.toNat (48 * t + j)) (Int.toNat (48 * t + j + n)) f)
  | 0, k, hk, hm => by
    have e : k = n := by omega
    subst e
    rw [b151_136, if_neg (by omega)]
  | m + 1, k, hk, hm => by
    rw [b151_136, if_pos (by omega)]
    simp (disch := omega) only [yr_t, yi_t]
    rw [yI_fill_o (by omega), y_fill_s (by omega) (by rw [hf _ (by omega), show Int.toNat (48 * t + j) + Int.toNat k = Int.toNat (48 * t + j + k) by omega])]
    have := l151b d r i t j n g ht hj hn f hf m (k + 1) (by omega) (by omega)
    rw [show Int.toNat (48 * t + j + (k + 1)) = Int.toNat (48 * t + j + k) + 1 by omega] at this
    exact this
theorem o_copy (I : INV N h) (hN : N ≤ 1000) (r i t j n : Int) (vi : y_inr i) (vj : y_inr j) (vn : y_inr n) : OP sc 91 151 [y_vr 2, y_vi r, y_vi i, y_vi t, y_vi j, y_vi n] [y_vr 94, y_vi r, y_vi i, y_vi t, y_vi j, y_vi n] N h := by
  have II := I
  obtain ⟨a, i1, i2, i3, i4, i5, i6⟩ := I
  have ef : ∀ f b k, ¬ (b = 2 ∧ k = 12) → b ≠ 61 → y_I (x_fd h f) b k = y_I h b k := fun f b k h1 h2 => xfd_o h1 h2
  by_cases c1 : 0 ≤ r ∧ r ≤ 5
  · obtain ⟨j1, j2, j3⟩ := i2 r (by omega) (by omega)
    by_cases c2 : 0 ≤ t ∧ t ≤ 5
    · obtain ⟨k1, k2, k3⟩ := i2 t (by omega) (by omega)
      have ur : y_inr (y_I h 96 (Int.toNat r)) := by unfold y_inr; omega
      have ut : y_inr (y_I h 96 (Int.toNat t)) := by unfold y_inr; omega
      by_cases c3 : n < 0
      · refine OP_fd II hN 5 (by omega) (fun d hd => ?_) (fun d hd => ?_)
        · rw [e91, b91_0, s79a d (by omega), yci_s, if_neg (by rw [bi_t c1]; omega), s79a d (by omega), yci_s, if_neg (by rw [bi_t c2]; omega), if_pos c3]
        · rw [e151, b151_0, s145 d (by omega), yci_s, if_neg (by rw [bi_t c1]; omega), s145 d (by omega), yci_s, if_neg (by rw [bi_t c2]; omega), if_pos c3]
      · by_cases c4 : y_I h 96 (Int.toNat r) = -1
        · refine OP_fd II hN 1 (by omega) (fun d hd => ?_) (fun d hd => ?_)
          · rw [e91, b91_0, s79a d (by omega), yci_s, if_neg (by rw [bi_t c1]; omega), s79a d (by omega), yci_s, if_neg (by rw [bi_t c2]; omega), if_neg c3, s80a d (by omega) r (by omega), yci_s, if_neg (by rw [bi_t (by rw [j1]; exact c4)]; omega)]
          · rw [e151, b151_0, s145 d (by omega), yci_s, if_neg (by rw [bi_t c1]; omega), s145 d (by omega), yci_s, if_neg (by rw [bi_t c2]; omega), if_neg c3, yi_t (by omega), ef _ _ _ (by omega) (by omega), if_pos (by omega)]
        · by_cases c5 : y_I h 96 (Int.toNat t) = -1
          · refine OP_fd II hN 1 (by omega) (fun d hd => ?_) (fun d hd => ?_)
            · rw [e91, b91_0, s79a d (by omega), yci_s, if_neg (by rw [bi_t c1]; omega), s79a d (by omega), yci_s, if_neg (by rw [bi_t c2]; omega), if_neg c3, s80a d (by omega) r (by omega), yci_s, if_pos (bi_f (by rw [j1]; exact c4)), s80a d (by omega) t (by omega), yci_s, if_neg (by rw [bi_t (by rw [k1]; exact c5)]; omega)]
            · rw [e151, b151_0, s145 d (by omega), yci_s, if_neg (by rw [bi_t c1]; omega), s145 d (by omega), yci_s, if_neg (by rw [bi_t c2]; omega), if_neg c3, yi_t (by omega), ef _ _ _ (by omega) (by omega), if_neg (by omega), yi_t (by omega), ef _ _ _ (by omega) (by omega), if_pos (by omega)]
          · have hx : ∀ d, 59 ≤ d → y_se z_pg sc (d + 1) 91 [y_vr 2, y_vi r, y_vi i, y_vi t, y_vi j, y_vi n] h = (if y_bi (0 ≤ i ∧ 0 ≤ n ∧ i + n ≤ y_I h 11 (Int.toNat r)) = 0 then y_ci (y_se z_pg sc d 126 [y_vr 2, y_vi 2] h) (fun u g => some (some (y_vi u), g)) else if y_bi (0 ≤ j ∧ 0 ≤ n ∧ j + n ≤ y_I h 11 (Int.toNat t)) = 0 then y_ci (y_se z_pg sc d 126 [y_vr 2, y_vi 2] h) (fun u g => some (some (y_vi u), g)) else y_cg i j n 48 48 (some (some (y_vi 1), y_cpI h (5 + Int.toNat r) (Int.toNat i) (5 + Int.toNat t) (Int.toNat j) (Int.toNat n)))) := by
              intro d hd
              rw [e91, b91_0, s79a d (by omega), yci_s, if_neg (by rw [bi_t c1]; omega), s79a d (by omega), yci_s, if_neg (by rw [bi_t c2]; omega), if_neg c3, s80a d (by omega) r (by omega), yci_s, if_pos (bi_f (by rw [j1]; exact c4)), s80a d (by omega) t (by omega), yci_s, if_pos (bi_f (by rw [k1]; exact c5)), s82a d (by omega) r i n (by omega) (by omega) vn, yci_s, s82a d (by omega) t j n (by omega) (by omega) vn, yci_s, yi_t (by omega), yi_t (by omega), yR (by omega), yR (by omega), lR (by omega), lR (by omega), yhb_s]
            have hm : ∀ d, 59 ≤ d → ∀ g : y_Hp, (y_I g 96 (Int.toNat r) = y_I h 96 (Int.toNat r)) → (y_I g 96 (Int.toNat t) = y_I h 96 (Int.toNat t)) → y_se z_pg sc (d + 1) 151 [y_vr 94, y_vi r, y_vi i, y_vi t, y_vi j, y_vi n] g = (if i < 0 then y_ci (y_se z_pg sc d 140 [y_vr 94, y_vi 2] g) (fun u g => some (some (y_vi u), g)) else if j < 0 then y_ci (y_se z_pg sc d 140 [y_vr 94, y_vi 2] g) (fun u g => some (some (y_vi u), g)) else if 0 < y_lcmp (y_i2l i + y_i2l n) (y_i2l (y_I h 96 (Int.toNat r))) then y_ci (y_se z_pg sc d 140 [y_vr 94, y_vi 2] g) (fun u g => some (some (y_vi u), g)) else if 0 < y_lcmp (y_i2l j + y_i2l n) (y_i2l (y_I h 96 (Int.toNat t))) then y_ci (y_se z_pg sc d 140 [y_vr 94, y_vi 2] g) (fun u g => some (some (y_vi u), g)) else y_ev z_pg sc d pgX8_copy 104 [some (y_vr 94), some (y_vi r), some (y_vi i), some (y_vi t), some (y_vi j), some (y_vi n), some (y_vi 0)] [] g) := by
              intro d hd g g1 g2
              rw [e151, b151_0, s145 d (by omega), yci_s, if_neg (by rw [bi_t c1]; omega), s145 d (by omega), yci_s, if_neg (by rw [bi_t c2]; omega), if_neg c3, yi_t (by omega), g1, if_neg (by omega), yi_t (by omega), g2, if_neg (by omega), yi_t (by omega), yi_t (by omega)]
            by_cases c6 : 0 ≤ i ∧ 0 ≤ n ∧ i + n ≤ y_I h 96 (Int.toNat r)
            · by_cases c7 : 0 ≤ j ∧ 0 ≤ n ∧ j + n ≤ y_I h 96 (Int.toNat t)
              · refine OP_do 1 (y_cpI h (5 + Int.toNat r) (Int.toNat i) (5 + Int.toNat t) (Int.toNat j) (Int.toNat n)) (y_fill (y_fill (y_cpI h (5 + Int.toNat r) (Int.toNat i) (5 + Int.toNat t) (Int.toNat j) (Int.toNat n)) 98 0 (Int.toNat n) (fun q => y_I h 97 (Int.toNat (48 * r + i) + q))) 97 (Int.toNat (48 * t + j)) (Int.toNat (48 * t + j + n)) (fun q => y_I h 97 (Int.toNat (48 * r + i) + (q - Int.toNat (48 * t + j))))) (fun d hd => ?_) (fun d hd => ?_) ?_
                · rw [hx d hd, j1, k1, if_neg (by rw [bi_t c6]; omega), if_neg (by rw [bi_t c7]; omega), ycg_t (by omega)]
                · rw [hm d hd _ (by rw [yI_cpI, if_neg (by omega)]) (by rw [yI_cpI, if_neg (by omega)]), if_neg (by omega), if_neg (by omega), if_neg (by rw [y_lcmp_lt vi vn ur]; omega), if_neg (by rw [y_lcmp_lt vj vn ut]; omega)]
                  have e97 : ∀ q, y_I (y_cpI h (5 + Int.toNat r) (Int.toNat i) (5 + Int.toNat t) (Int.toNat j) (Int.toNat n)) 97 q = y_I h 97 q := fun q => by rw [yI_cpI, if_neg (by omega)]
                  have q2 := l151b (sc := sc) d r i t j n (y_fill (y_cpI h (5 + Int.toNat r) (Int.toNat i) (5 + Int.toNat t) (Int.toNat j) (Int.toNat n)) 98 0 (Int.toNat n) (fun q => y_I h 97 (Int.toNat (48 * r + i) + q))) (by omega) (by omega) (by omega) (fun q => y_I h 97 (Int.toNat (48 * r + i) + (q - Int.toNat (48 * t + j)))) (fun q hq => by rw [yI_fill_e (by omega), Nat.add_sub_cancel_left]) n.toNat 0 (by omega) (by omega)
                  rw [Int.add_zero, y_fill_0] at q2
                  have q1 := l151a (sc := sc) d (by omega) r i t j n (y_cpI h (5 + Int.toNat r) (Int.toNat i) (5 + Int.toNat t) (Int.toNat j) (Int.toNat n)) (by omega) (by omega) (by omega) _ (by simp only [e97]; exact q2) n.toNat 0 (by omega) (by omega)
                  rw [show Int.toNat 0 = 0 from rfl, y_fill_0] at q1
                  exact q1
                · refine INV_tr II (fun b k => (5 ≤ b ∧ b ≤ 10) ∨ b = 97 ∨ b = 98) (fun b k q => ?_) rfl (fun a ha b k q => ?_) (Or.inr fun s s1 s2 => ?_) (Or.inl fun b k q => ?_) (Or.inl fun b k q => ?_) (Or.inl fun b k q => ?_) (Or.inl fun b k q => ?_)
                  · rw [yI_fill_o (by omega), yI_fill_o (by omega), yI_cpI, if_neg (by omega)]
                  · unfold RX RG at q; omega
                  · obtain ⟨m1, m2, m3⟩ := i2 s s1 s2
                    rw [yI_fill_o (by omega), yI_fill_o (by omega), yI_cpI, if_neg (by omega), yI_fill_o (by omega), yI_fill_o (by omega), yI_cpI, if_neg (by omega)]
                    refine ⟨m1, m2, fun l q1 q2 => ?_⟩
                    have e0 := m3 l q1 q2
                    rw [yI_fill_o (by omega), yI_fill_o (by omega), yI_cpI]
                    by_cases e : s = t ∧ j ≤ l ∧ l < j + n
                    · obtain ⟨rfl, e1, e2⟩ := e
                      rw [if_pos (by omega), yI_fill_e (by omega), show Int.toNat i + (Int.toNat l - Int.toNat j) = Int.toNat (i + (l - j)) by omega, j3 (i + (l - j)) (by omega) (by omega)]
                      congr 1
                      omega
                    · have e1 : ¬ (5 + Int.toNat s = 5 + Int.toNat t ∧ Int.toNat j ≤ Int.toNat l ∧ Int.toNat l < Int.toNat j + Int.toNat n) := fun q => e (by omega)
                      rw [if_neg e1, yI_fill_o (by omega), yI_fill_o (by omega), yI_cpI, if_neg (by omega)]
                      exact e0
                  · unfold RT at q; omega
                  · unfold RP RG at q; omega
                  · unfold RV RG at q; omega
                  · unfold RE at q; omega
              · refine OP_fd II hN 2 (by omega) (fun d hd => ?_) (fun d hd => ?_)
                · rw [hx d hd, j1, k1, if_neg (by rw [bi_t c6]; omega), if_pos (bi_f c7)]
                · rw [hm d hd _ (ef _ _ _ (by omega) (by omega)) (ef _ _ _ (by omega) (by omega)), if_neg (by omega)]
                  by_cases c8 : j < 0
                  · rw [if_pos c8]
                  · rw [if_neg c8, if_neg (by rw [y_lcmp_lt vi vn ur]; omega), if_pos (by rw [y_lcmp_lt vj vn ut]; omega)]
            · refine OP_fd II hN 2 (by omega) (fun d hd => ?_) (fun d hd => ?_)
              · rw [hx d hd, j1, if_pos (bi_f c6)]
              · rw [hm d hd _ (ef _ _ _ (by omega) (by omega)) (ef _ _ _ (by omega) (by omega))]
                by_cases c8 : i < 0
                · rw [if_pos c8]
                · rw [if_neg c8]
                  by_cases c9 : j < 0
                  · rw [if_pos c9]
                  · rw [if_neg c9, if_pos (by rw [y_lcmp_lt vi vn ur]; omega)]
    · refine OP_same II (-1) (fun d hd => ?_) (fun d hd => ?_)
      · rw [e91, b91_0, s79a d (by omega), yci_s, if_neg (by rw [bi_t c1]; omega), s79a d (by omega), yci_s, if_pos (bi_f c2)]
      · rw [e151, b151_0, s145 d (by omega), yci_s, if_neg (by rw [bi_t c1]; omega), s145 d (by omega), yci_s, if_pos (bi_f c2)]
  · refine OP_same II (-1) (fun d hd => ?_) (fun d hd => ?_)
    · rw [e91, b91_0, s79a d (by omega), yci_s, if_pos (bi_f c1)]
    · rw [e151, b151_0, s145 d (by omega), yci_s, if_pos (bi_f c1)]
theorem l92 (d : Nat) (r n : Int) (hr : 0 ≤ r ∧ r < 6) (hn : 1 ≤ n ∧ n ≤ 48) : ∀ (m : Nat) (k : Int) (s : Int64), 0 ≤ k → k + m = n → y_ev z_pg sc d pgX7_mean 56 [some (y_vr 2), some (y_vi r), some (y_vi n), some (y_vl s), none, some (y_vi k)] [] h = some (some (y_vi 1), y_sI h 2 13 (y_l2i (u_fold (fun s i => s + y_i2l (y_I h (5 + Int.toNat r) (Int.toNat i))) s k m / y_i2l n)))
  | 0, k, s, hk, hm => by
    rw [b92_56, if_neg (by omega)]
    exact (if_neg (y_i2l_nz hn))
  | m + 1, k, s, hk, hm => by
    rw [b92_56, if_pos (by omega), yi_t (by omega), yR hr, lR hr, yi_t (by omega), yr_t (by omega), l92 d r n hr hn m (k + 1) _ (by omega) (by omega)]
    rfl
theorem l152 (d : Nat) (hd : 1 ≤ d) (r n : Int) (hr : 0 ≤ r ∧ r < 6) (hn : 1 ≤ n ∧ n ≤ 48) (h96 : y_I h 96 (Int.toNat r) = n) : ∀ (m : Nat) (k : Int) (s : Int64), 0 ≤ k → k + m = n → y_ev z_pg sc d pgX8_mean 44 [some (y_vr 94), some (y_vi r), some (y_vl s), none, some (y_vi k)] [] h = some (some (y_vi 1), y_sI h 94 2 (y_l2i (u_fold (fun s i => s + y_i2l (y_I h 97 (Int.toNat (48 * r + i)))) s k m / y_i2l n)))
  | 0, k, s, hk, hm => by
    rw [b152_44, yi_t (by omega), h96, if_neg (by omega), yi_t (by omega), s143 d hd, yci_s]
    exact (if_neg (y_i2l_nz hn))
  | m + 1, k, s, hk, hm => by
    rw [b152_44, yi_t (by omega), h96, if_pos (by omega), s146 d hd r k hr (by omega), yci_s, yr_t (by omega), l152 d hd r n hr hn h96 m (k + 1) _ (by omega) (by omega)]
    rfl
theorem INV_as (II : INV N h) (v : Int) : INV (N + 1) (y_sI (y_sI h 2 13 v) 94 2 v) := by
  have I := II
  obtain ⟨a, i1, i2, i3, i4, i5, i6⟩ := I
  refine INV_tr II (fun b k => (b = 2 ∧ k = 13) ∨ (b = 94 ∧ k = 2)) (fun b k q => ?_) rfl (fun a ha b k q => ?_) (Or.inl fun b k q => ?_) (Or.inl fun b k q => ?_) (Or.inl fun b k q => ?_) (Or.inl fun b k q => ?_) (Or.inr (I_tel_as (v := v) i6 ?_ ?_ ?_ ?_ (fun k => ?_) (fun k => ?_)))
  · simp (disch := omega) only [yI_sI_o]
  · unfold RX RG at q; omega
  · unfold RR at q; omega
  · unfold RT at q; omega
  · unfold RP RG at q; omega
  · unfold RV RG at q; omega
  · simp (disch := omega) only [yI_sI_o, yI_sI_e]
  · simp (disch := omega) only [yI_sI_o, yI_sI_e]
  · simp (disch := omega) only [yI_sI_o]
  · simp (disch := omega) only [yI_sI_o]
  · simp (disch := omega) only [yI_sI_o]
  · simp (disch := omega) only [yI_sI_o]
theorem o_mean (I : INV N h) (hN : N ≤ 1000) (r : Int) : OP sc 92 152 [y_vr 2, y_vi r] [y_vr 94, y_vi r] N h := by
  have II := I
  obtain ⟨a, i1, i2, i3, i4, i5, i6⟩ := I
  have ef : ∀ f b k, ¬ (b = 2 ∧ k = 12) → b ≠ 61 → y_I (x_fd h f) b k = y_I h b k := fun f b k h1 h2 => xfd_o h1 h2
  by_cases c1 : 0 ≤ r ∧ r ≤ 5
  · obtain ⟨j1, j2, j3⟩ := i2 r (by omega) (by omega)
    by_cases c2 : y_I h 96 (Int.toNat r) = -1
    · refine OP_fd II hN 1 (by omega) (fun d hd => ?_) (fun d hd => ?_)
      · rw [e92, b92_0, s79a d (by omega), yci_s, if_neg (by rw [bi_t c1]; omega), s80a d (by omega) r (by omega), yci_s, if_neg (by rw [bi_t (by rw [j1]; exact c2)]; omega)]
      · rw [e152, b152_0, s145 d (by omega), yci_s, if_neg (by rw [bi_t c1]; omega), yi_t (by omega), ef _ _ _ (by omega) (by omega), if_pos (by omega)]
    · by_cases c3 : y_I h 96 (Int.toNat r) = 0
      · refine OP_fd II hN 4 (by omega) (fun d hd => ?_) (fun d hd => ?_)
        · rw [e92, b92_0, s79a d (by omega), yci_s, if_neg (by rw [bi_t c1]; omega), s80a d (by omega) r (by omega), yci_s, if_pos (bi_f (by rw [j1]; exact c2)), yi_t (by omega), j1, if_pos (by omega)]
        · rw [e152, b152_0, s145 d (by omega), yci_s, if_neg (by rw [bi_t c1]; omega), yi_t (by omega), ef _ _ _ (by omega) (by omega), if_neg (by omega), yi_t (by omega), if_pos c3]
      · have em : u_fold (fun s i => s + y_i2l (y_I h (5 + Int.toNat r) (Int.toNat i))) (Int64.ofNat 0) 0 (y_I h 96 (Int.toNat r)).toNat = u_fold (fun s i => s + y_i2l (y_I h 97 (Int.toNat (48 * r + i)))) (Int64.ofNat 0) 0 (y_I h 96 (Int.toNat r)).toNat := u_fold_cg fun s l l1 l2 => by rw [j3 l l1 (by omega)]
        generalize ev : y_l2i (u_fold (fun s i => s + y_i2l (y_I h 97 (Int.toNat (48 * r + i)))) (Int64.ofNat 0) 0 (y_I h 96 (Int.toNat r)).toNat / y_i2l (y_I h 96 (Int.toNat r))) = v
        refine OP_do 1 (y_sI h 2 13 v) (y_sI (y_sI h 2 13 v) 94 2 v) (fun d hd => ?_) (fun d hd => ?_) (INV_as II v)
        · rw [e92, b92_0, s79a d (by omega), yci_s, if_neg (by rw [bi_t c1]; omega), s80a d (by omega) r (by omega), yci_s, if_pos (bi_f (by rw [j1]; exact c2)), yi_t (by omega), j1, if_neg (by omega), l92 d r _ (by omega) (by omega) (y_I h 96 (Int.toNat r)).toNat 0 _ (by omega) (by omega), em, ev]
        · have e97 : ∀ q, y_I (y_sI h 2 13 v) 97 q = y_I h 97 q := fun q => yI_sI_o (by omega)
          rw [e152, b152_0, s145 d (by omega), yci_s, if_neg (by rw [bi_t c1]; omega), yi_t (by omega), yI_sI_o (by omega), if_neg (by omega), yi_t (by omega), if_neg c3, l152 d (by omega) r (y_I h 96 (Int.toNat r)) (by omega) (by omega) (yI_sI_o (by omega)) (y_I h 96 (Int.toNat r)).toNat 0 _ (by omega) (by omega)]
          simp only [e97]
          rw [ev]
  · refine OP_same II (-1) (fun d hd => ?_) (fun d hd => ?_)
    · rw [e92, b92_0, s79a d (by omega), yci_s, if_pos (bi_f c1)]
    · rw [e152, b152_0, s145 d (by omega), yci_s, if_pos (bi_f c1)]
end RO
