/-! CALLS: text, put -/
theorem y_i2b_32 : y_i2b 32 = 32 := by decide
section RO
variable {sc : z_Sc} {h : y_Hp} {N : Nat}
theorem o_text (I : INV N h) (hN : N ≤ 1000) (r n : Int) : OP sc 93 154 [y_vr 2, y_vi r, y_vi n] [y_vr 94, y_vi r, y_vi n] N h := by
  by_cases c1 : 0 ≤ r ∧ r ≤ 3
  · by_cases c2 : 120 < n
    · refine OP_same I (-1) (fun d hd => ?_) (fun d hd => ?_)
      · rw [e93, b93_0, s79b d (by omega), yci_s, if_neg (by rw [bi_t c1]; omega), if_pos c2]
      · rw [e154, b154_0, s153 d (by omega), yci_s, if_neg (by rw [bi_t c1]; omega), if_pos c2]
    · by_cases c3 : n < 0
      · refine OP_fd I hN 5 (by omega) (fun d hd => ?_) (fun d hd => ?_)
        · rw [e93, b93_0, s79b d (by omega), yci_s, if_neg (by rw [bi_t c1]; omega), if_neg c2, if_pos c3]
        · rw [e154, b154_0, s153 d (by omega), yci_s, if_neg (by rw [bi_t c1]; omega), if_neg c2, if_pos c3]
      · refine OP_do n (y_fill (y_sI h 18 (Int.toNat r) n) (14 + Int.toNat r) 0 (Int.toNat n) (fun _ => 32)) (y_fill (y_sI (y_fill (y_sI h 18 (Int.toNat r) n) (14 + Int.toNat r) 0 (Int.toNat n) (fun _ => 32)) 99 (Int.toNat r) n) 100 (Int.toNat (120 * r)) (Int.toNat (120 * r + 120)) (fun _ => y_i2b 32)) (fun d hd => ?_) (fun d hd => ?_) ?_
        · rw [e93, b93_0, s79b d (by omega), yci_s, if_neg (by rw [bi_t c1]; omega), if_neg c2, if_neg c3, s83b d (by omega) r n 32 (by omega) (by omega), ycv_s]
        · have := l154 (sc := sc) d r n (y_sI (y_fill (y_sI h 18 (Int.toNat r) n) (14 + Int.toNat r) 0 (Int.toNat n) (fun _ => 32)) 99 (Int.toNat r) n) (by omega) 120 0 (by omega) (by omega)
          rw [Int.add_zero, y_fill_0] at this
          rw [e154, b154_0, s153 d (by omega), yci_s, if_neg (by rw [bi_t c1]; omega), if_neg c2, if_neg c3, yi_t (by omega), this]
        · refine INV_tr I (fun b k => (14 ≤ b ∧ b ≤ 18) ∨ b = 99 ∨ b = 100) (fun b k q => ?_) rfl (fun a ha b k q => ?_) (Or.inl fun b k q => ?_) (Or.inr fun s s1 s2 => ?_) (Or.inl fun b k q => ?_) (Or.inl fun b k q => ?_) (Or.inl fun b k q => ?_)
          · rw [yI_fill_o (by omega), yI_sI_o (by omega), yI_fill_o (by omega), yI_sI_o (by omega)]
          · unfold RX RG at q; omega
          · unfold RR at q; omega
          · obtain ⟨a, -, -, i3, -⟩ := I
            obtain ⟨j1, j2, j3⟩ := i3 s s1 s2
            by_cases e : s = r
            · subst e
              rw [yI_fill_o (by omega), yI_sI_o (by omega), yI_fill_o (by omega), yI_sI_e (by omega), yI_fill_o (by omega), yI_sI_e (by omega)]
              refine ⟨rfl, by omega, fun i q1 q2 => ?_⟩
              rw [yI_fill_o (by omega), yI_sI_o (by omega), yI_fill_e (by omega), yI_fill_e (by omega), y_i2b_32]
              omega
            · rw [yI_fill_o (by omega), yI_sI_o (by omega), yI_fill_o (by omega), yI_sI_o (by omega), yI_fill_o (by omega), yI_sI_o (by omega), yI_fill_o (by omega), yI_sI_o (by omega)]
              refine ⟨j1, j2, fun i q1 q2 => ?_⟩
              rw [yI_fill_o (by omega), yI_sI_o (by omega), yI_fill_o (by omega), yI_sI_o (by omega), yI_fill_o (by omega), yI_sI_o (by omega), yI_fill_o (by omega), yI_sI_o (by omega)]
              exact j3 i q1 q2
          · unfold RP RG at q; omega
          · unfold RV RG at q; omega
          · unfold RE at q; omega
  · refine OP_same I (-1) (fun d hd => ?_) (fun d hd => ?_)
    · rw [e93, b93_0, s79b d (by omega), yci_s, if_pos (bi_f c1)]
    · rw [e154, b154_0, s153 d (by omega), yci_s, if_pos (bi_f c1)]
theorem o_put (I : INV N h) (hN : N ≤ 1000) (r i v : Int) : OP sc 94 155 [y_vr 2, y_vi r, y_vi i, y_vi v] [y_vr 94, y_vi r, y_vi i, y_vi v] N h := by
  have II := I
  obtain ⟨a, i1, i2, i3, i4, i5, i6⟩ := I
  by_cases c1 : 0 ≤ r ∧ r ≤ 3
  · obtain ⟨j1, j2, j3⟩ := i3 r (by omega) (by omega)
    have ef : ∀ f b k, ¬ (b = 2 ∧ k = 12) → b ≠ 61 → y_I (x_fd h f) b k = y_I h b k := fun f b k h1 h2 => xfd_o h1 h2
    by_cases c2 : y_I h 99 (Int.toNat r) = -1
    · refine OP_fd II hN 1 (by omega) (fun d hd => ?_) (fun d hd => ?_)
      · rw [e94, b94_0, s79b d (by omega), yci_s, if_neg (by rw [bi_t c1]; omega), s81b d (by omega) r i (by omega), yci_s, j1, if_pos c2, if_neg (by omega)]
      · rw [e155, b155_0, s153 d (by omega), yci_s, if_neg (by rw [bi_t c1]; omega), yi_t (by omega), ef 1 99 _ (by omega) (by omega), if_pos (by omega)]
    · by_cases c3 : 0 ≤ i ∧ i < y_I h 99 (Int.toNat r)
      · obtain ⟨m1, m2⟩ := j3 i c3.1 c3.2
        have e99 : y_I (y_sI h (14 + Int.toNat r) (Int.toNat i) (y_i2b v)) 99 (Int.toNat r) = y_I h 99 (Int.toNat r) := by rw [yI_sI_o (by omega)]
        have e100 : y_I (y_sI h (14 + Int.toNat r) (Int.toNat i) (y_i2b v)) 100 (Int.toNat (120 * r + i)) = y_I h 100 (Int.toNat (120 * r + i)) := by rw [yI_sI_o (by omega)]
        refine OP_do (y_I h 100 (Int.toNat (120 * r + i)) + 1000) (y_sI h (14 + Int.toNat r) (Int.toNat i) (y_i2b v)) (y_sI (y_sI h (14 + Int.toNat r) (Int.toNat i) (y_i2b v)) 100 (Int.toNat (120 * r + i)) (y_i2b v)) (fun d hd => ?_) (fun d hd => ?_) ?_
        · rw [e94, b94_0, s79b d (by omega), yci_s, if_neg (by rw [bi_t c1]; omega), s81b d (by omega) r i (by omega), yci_s, j1, if_neg c2, if_pos c3, if_pos rfl]
          rw [yi_t (by omega), yT (by omega), lT (by omega), yi_t (by omega), yi_t (by omega), yT (by omega), yi_t (by omega), m1, yr_t (by omega)]
        · rw [e155, b155_0, s153 d (by omega), yci_s, if_neg (by rw [bi_t c1]; omega)]
          rw [yi_t (by omega), e99, if_neg (by omega), yi_t (by omega), yr_t (by omega), s136 d (by omega), yci_s, if_neg (by rw [bi_t (by omega)]; omega), e100, y_i2b_i]
          simp (disch := omega) only [yr_t, yi_t]
          rw [Int.add_comm]
        · refine INV_tr II (fun b k => (14 ≤ b ∧ b ≤ 17) ∨ b = 100) (fun b k q => ?_) rfl (fun a ha b k q => ?_) (Or.inl fun b k q => ?_) (Or.inr fun s s1 s2 => ?_) (Or.inl fun b k q => ?_) (Or.inl fun b k q => ?_) (Or.inl fun b k q => ?_)
          · simp (disch := omega) only [yI_sI_o]
          · unfold RX RG at q; omega
          · unfold RR at q; omega
          · obtain ⟨k1, k2, k3⟩ := i3 s s1 s2
            simp (disch := omega) only [yI_sI_o]
            refine ⟨k1, k2, fun l q1 q2 => ?_⟩
            have := k3 l q1 q2
            have vb := y_i2b_r (v := v)
            by_cases e : s = r ∧ l = i
            · obtain ⟨rfl, rfl⟩ := e
              simp (disch := omega) only [yI_sI_o, yI_sI_e]
              exact ⟨trivial, vb⟩
            · by_cases e2 : s = r
              · subst e2
                have e3 : l ≠ i := fun q => e ⟨rfl, q⟩
                simp (disch := omega) only [yI_sI_o]
                exact this
              · simp (disch := omega) only [yI_sI_o]
                exact this
          · unfold RP RG at q; omega
          · unfold RV RG at q; omega
          · unfold RE at q; omega
      · refine OP_fd II hN 2 (by omega) (fun d hd => ?_) (fun d hd => ?_)
        · rw [e94, b94_0, s79b d (by omega), yci_s, if_neg (by rw [bi_t c1]; omega), s81b d (by omega) r i (by omega), yci_s, j1, if_neg c2, if_neg c3, if_neg (by omega)]
        · rw [e155, b155_0, s153 d (by omega), yci_s, if_neg (by rw [bi_t c1]; omega), yi_t (by omega), ef 2 99 _ (by omega) (by omega), if_neg (by omega), yi_t (by omega), yr_t (by omega), s136 d (by omega), yci_s, if_pos (bi_f (by omega))]
  · refine OP_same II (-1) (fun d hd => ?_) (fun d hd => ?_)
    · rw [e94, b94_0, s79b d (by omega), yci_s, if_pos (bi_f c1)]
    · rw [e155, b155_0, s153 d (by omega), yci_s, if_pos (bi_f c1)]
end RO
