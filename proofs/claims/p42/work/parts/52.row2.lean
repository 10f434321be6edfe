/-! CALLS: lay, at, tear, copy, mean, text, put -/
theorem y_i2b_r {v : Int} : -128 ≤ y_i2b v ∧ y_i2b v ≤ 127 := by
  unfold y_i2b
  rw [Int8.toInt_toInt32]
  have h1 := Int8.le_toInt (Int32.ofInt v).toInt8
  have h2 := Int8.toInt_lt (Int32.ofInt v).toInt8
  omega
theorem y_i2b_i {v : Int} : y_i2b (y_i2b v) = y_i2b v := by
  unfold y_i2b
  rw [Int32.ofInt_toInt]
  congr 2
  exact Int8.toInt8_toInt32 _
theorem y_i2l_i {v : Int} (h : y_inr v) : (y_i2l v).toInt = v := by
  unfold y_i2l
  rw [Int32.toInt_toInt64, y_toInt h]
theorem y_lcmp_lt {a b c : Int} (ha : y_inr a) (hb : y_inr b) (hc : y_inr c) : 0 < y_lcmp (y_i2l a + y_i2l b) (y_i2l c) ↔ c < a + b := by
  have e1 : (y_i2l a + y_i2l b).toInt = a + b := by
    rw [Int64.toInt_add, y_i2l_i ha, y_i2l_i hb]
    unfold y_inr at ha hb
    exact Int.bmod_eq_of_le (by omega) (by omega)
  have e2 := y_i2l_i hc
  have e3 : y_i2l c < y_i2l a + y_i2l b ↔ c < a + b := by rw [Int64.lt_iff_toInt_lt, e1, e2]
  unfold y_lcmp lg_cmp
  by_cases h1 : y_i2l c < y_i2l a + y_i2l b
  · have h2 := e3.mp h1
    rw [if_pos h1]
    exact ⟨fun _ => h2, fun _ => by decide⟩
  · have h2 : ¬ c < a + b := fun q => h1 (e3.mpr q)
    rw [if_neg h1]
    refine ⟨fun q => ?_, fun q => absurd q h2⟩
    split at q
    · exact absurd q (by decide)
    · exact absurd q (by decide)
theorem y_i2l_nz {n : Int} (h : 1 ≤ n ∧ n ≤ 48) : ¬ y_i2l n = 0 := fun q => by
  have e := y_i2l_i (v := n) (by unfold y_inr; omega)
  rw [q] at e
  have : (0 : Int64).toInt = 0 := by decide
  omega
section RO
variable {sc : z_Sc} {h : y_Hp} {N : Nat}
theorem s143 (d : Nat) (hd : 1 ≤ d) (v u : Int) : y_se z_pg sc d 143 [y_vr 94, y_vi v, y_vi u] h = some (some (y_vi u), y_sI h 94 2 v) := by
  rcases d with _ | d
  · omega
  rw [e143, b143_0]
theorem s146 (d : Nat) (hd : 1 ≤ d) (r i : Int) (hr : 0 ≤ r ∧ r < 6) (hi : 0 ≤ i ∧ i < 48) : y_se z_pg sc d 146 [y_vr 94, y_vi r, y_vi i] h = some (some (y_vi (y_I h 97 (Int.toNat (48 * r + i)))), h) := by
  rcases d with _ | d
  · omega
  rw [e146, b146_0]
  simp (disch := omega) only [yr_t, yi_t]
/-- what is asked for is told by both -/
theorem I_tel_as {v : Int} (I : I_tel N h) {h2 : y_Hp} (e1 : y_I h2 2 13 = v) (e2 : y_I h2 94 2 = v) (e3 : y_I h2 2 12 = y_I h 2 12) (e4 : y_I h2 94 0 = y_I h 94 0) (e5 : ∀ k, y_I h2 61 k = y_I h 61 k) (e6 : ∀ k, y_I h2 95 k = y_I h 95 k) : I_tel (N + 1) h2 := by
  refine ⟨by rw [e1, e2], by rw [e3, e4]; exact I.2.1, fun f f1 f2 => ?_⟩
  rw [e5, e6]
  have := I.2.2 f f1 f2
  omega
theorem o_lay (I : INV N h) (hN : N ≤ 1000) (r i v : Int) : OP sc 88 148 [y_vr 2, y_vi r, y_vi i, y_vi v] [y_vr 94, y_vi r, y_vi i, y_vi v] N h := by
  have II := I
  obtain ⟨a, i1, i2, i3, i4, i5, i6⟩ := I
  by_cases c1 : 0 ≤ r ∧ r ≤ 5
  · obtain ⟨j1, j2, j3⟩ := i2 r (by omega) (by omega)
    have ef : ∀ f b k, ¬ (b = 2 ∧ k = 12) → b ≠ 61 → y_I (x_fd h f) b k = y_I h b k := fun f b k h1 h2 => xfd_o h1 h2
    by_cases c2 : y_I h 96 (Int.toNat r) = -1
    · refine OP_fd II hN 1 (by omega) (fun d hd => ?_) (fun d hd => ?_)
      · rw [e88, b88_0, s79a d (by omega), yci_s, if_neg (by rw [bi_t c1]; omega), s81a d (by omega) r i (by omega), yci_s, j1, if_pos c2, if_neg (by omega)]
      · rw [e148, b148_0, s145 d (by omega), yci_s, if_neg (by rw [bi_t c1]; omega), yi_t (by omega), ef 1 96 _ (by omega) (by omega), if_pos (by omega)]
    · by_cases c3 : 0 ≤ i ∧ i < y_I h 96 (Int.toNat r)
      · refine OP_do 1 (y_sI (y_sI h 2 13 (y_I h (5 + Int.toNat r) (Int.toNat i))) (5 + Int.toNat r) (Int.toNat i) v) (y_sI (y_sI (y_sI (y_sI h 2 13 (y_I h (5 + Int.toNat r) (Int.toNat i))) (5 + Int.toNat r) (Int.toNat i) v) 97 (Int.toNat (48 * r + i)) v) 94 2 (y_I h (5 + Int.toNat r) (Int.toNat i))) (fun d hd => ?_) (fun d hd => ?_) ?_
        · rw [e88, b88_0, s79a d (by omega), yci_s, if_neg (by rw [bi_t c1]; omega), s81a d (by omega) r i (by omega), yci_s, j1, if_neg c2, if_pos c3, if_pos rfl]
          rw [yi_t (by omega), yR (by omega), lR (by omega), yi_t (by omega), yi_t (by omega), yR (by omega), yi_t (by omega), yhb_s]
        · rw [e148, b148_0, s145 d (by omega), yci_s, if_neg (by rw [bi_t c1]; omega)]
          have e96 : y_I (y_sI (y_sI h 2 13 (y_I h (5 + Int.toNat r) (Int.toNat i))) (5 + Int.toNat r) (Int.toNat i) v) 96 (Int.toNat r) = y_I h 96 (Int.toNat r) := by rw [yI_sI_o (by omega), yI_sI_o (by omega)]
          have e97 : y_I (y_sI (y_sI h 2 13 (y_I h (5 + Int.toNat r) (Int.toNat i))) (5 + Int.toNat r) (Int.toNat i) v) 97 (Int.toNat (48 * r + i)) = y_I h (5 + Int.toNat r) (Int.toNat i) := by rw [yI_sI_o (by omega), yI_sI_o (by omega), j3 i c3.1 c3.2]
          rw [yi_t (by omega), e96, if_neg (by omega), yi_t (by omega), yr_t (by omega), s136 d (by omega), yci_s, if_neg (by rw [bi_t (by omega)]; omega), s146 d (by omega) r i (by omega) (by omega), yci_s, e97]
          simp (disch := omega) only [yr_t, yi_t, s143, yci_s]
        · refine INV_tr II (fun b k => (5 ≤ b ∧ b ≤ 10) ∨ b = 97 ∨ (b = 2 ∧ k = 13) ∨ (b = 94 ∧ k = 2)) (fun b k q => ?_) rfl (fun a ha b k q => ?_) (Or.inr fun s s1 s2 => ?_) (Or.inl fun b k q => ?_) (Or.inl fun b k q => ?_) (Or.inl fun b k q => ?_) (Or.inr (I_tel_as (v := y_I h (5 + Int.toNat r) (Int.toNat i)) i6 ?_ ?_ ?_ ?_ (fun k => ?_) (fun k => ?_)))
          · simp (disch := omega) only [yI_sI_o]
          · unfold RX RG at q; omega
          · obtain ⟨k1, k2, k3⟩ := i2 s s1 s2
            simp (disch := omega) only [yI_sI_o]
            refine ⟨k1, k2, fun l q1 q2 => ?_⟩
            have := k3 l q1 q2
            by_cases e : s = r ∧ l = i
            · obtain ⟨rfl, rfl⟩ := e
              simp (disch := omega) only [yI_sI_o, yI_sI_e]
            · by_cases e2 : s = r
              · subst e2
                have e3 : l ≠ i := fun q => e ⟨rfl, q⟩
                simp (disch := omega) only [yI_sI_o]
                exact this
              · simp (disch := omega) only [yI_sI_o]
                exact this
          · unfold RT at q; omega
          · unfold RP RG at q; omega
          · unfold RV RG at q; omega
          · simp (disch := omega) only [yI_sI_o, yI_sI_e]
          · simp (disch := omega) only [yI_sI_o, yI_sI_e]
          · simp (disch := omega) only [yI_sI_o]
          · simp (disch := omega) only [yI_sI_o]
          · simp (disch := omega) only [yI_sI_o]
          · simp (disch := omega) only [yI_sI_o]
      · refine OP_fd II hN 2 (by omega) (fun d hd => ?_) (fun d hd => ?_)
        · rw [e88, b88_0, s79a d (by omega), yci_s, if_neg (by rw [bi_t c1]; omega), s81a d (by omega) r i (by omega), yci_s, j1, if_neg c2, if_neg c3, if_neg (by omega)]
        · rw [e148, b148_0, s145 d (by omega), yci_s, if_neg (by rw [bi_t c1]; omega), yi_t (by omega), ef 2 96 _ (by omega) (by omega), if_neg (by omega), yi_t (by omega), yr_t (by omega), s136 d (by omega), yci_s, if_pos (bi_f (by omega))]
  · refine OP_same II (-1) (fun d hd => ?_) (fun d hd => ?_)
    · rw [e88, b88_0, s79a d (by omega), yci_s, if_pos (bi_f c1)]
    · rw [e148, b148_0, s145 d (by omega), yci_s, if_pos (bi_f c1)]
theorem o_at (I : INV N h) (hN : N ≤ 1000) (r i : Int) : OP sc 89 149 [y_vr 2, y_vi r, y_vi i] [y_vr 94, y_vi r, y_vi i] N h := by
  have II := I
  obtain ⟨a, i1, i2, i3, i4, i5, i6⟩ := I
  by_cases c1 : 0 ≤ r ∧ r ≤ 5
  · obtain ⟨j1, j2, j3⟩ := i2 r (by omega) (by omega)
    have ef : ∀ f b k, ¬ (b = 2 ∧ k = 12) → b ≠ 61 → y_I (x_fd h f) b k = y_I h b k := fun f b k h1 h2 => xfd_o h1 h2
    by_cases c2 : y_I h 96 (Int.toNat r) = -1
    · refine OP_fd II hN 1 (by omega) (fun d hd => ?_) (fun d hd => ?_)
      · rw [e89, b89_0, s79a d (by omega), yci_s, if_neg (by rw [bi_t c1]; omega), s81a d (by omega) r i (by omega), yci_s, j1, if_pos c2, if_neg (by omega)]
      · rw [e149, b149_0, s145 d (by omega), yci_s, if_neg (by rw [bi_t c1]; omega), yi_t (by omega), ef 1 96 _ (by omega) (by omega), if_pos (by omega)]
    · by_cases c3 : 0 ≤ i ∧ i < y_I h 96 (Int.toNat r)
      · refine OP_do 1 (y_sI h 2 13 (y_I h (5 + Int.toNat r) (Int.toNat i))) (y_sI (y_sI h 2 13 (y_I h (5 + Int.toNat r) (Int.toNat i))) 94 2 (y_I h (5 + Int.toNat r) (Int.toNat i))) (fun d hd => ?_) (fun d hd => ?_) ?_
        · rw [e89, b89_0, s79a d (by omega), yci_s, if_neg (by rw [bi_t c1]; omega), s81a d (by omega) r i (by omega), yci_s, j1, if_neg c2, if_pos c3, if_pos rfl]
          rw [yi_t (by omega), yR (by omega), lR (by omega), yi_t (by omega)]
        · rw [e149, b149_0, s145 d (by omega), yci_s, if_neg (by rw [bi_t c1]; omega)]
          have e96 : y_I (y_sI h 2 13 (y_I h (5 + Int.toNat r) (Int.toNat i))) 96 (Int.toNat r) = y_I h 96 (Int.toNat r) := by rw [yI_sI_o (by omega)]
          have e97 : y_I (y_sI h 2 13 (y_I h (5 + Int.toNat r) (Int.toNat i))) 97 (Int.toNat (48 * r + i)) = y_I h (5 + Int.toNat r) (Int.toNat i) := by rw [yI_sI_o (by omega), j3 i c3.1 c3.2]
          rw [yi_t (by omega), e96, if_neg (by omega), yi_t (by omega), yr_t (by omega), s136 d (by omega), yci_s, if_neg (by rw [bi_t (by omega)]; omega), s146 d (by omega) r i (by omega) (by omega), yci_s, e97, s143 d (by omega), yci_s]
        · refine INV_tr II (fun b k => (b = 2 ∧ k = 13) ∨ (b = 94 ∧ k = 2)) (fun b k q => ?_) rfl (fun a ha b k q => ?_) (Or.inl fun b k q => ?_) (Or.inl fun b k q => ?_) (Or.inl fun b k q => ?_) (Or.inl fun b k q => ?_) (Or.inr (I_tel_as (v := y_I h (5 + Int.toNat r) (Int.toNat i)) i6 ?_ ?_ ?_ ?_ (fun k => ?_) (fun k => ?_)))
          · simp (disch := omega) only [yI_sI_o]
          · unfold RX RG at q; omega
          · unfold RR at q; omega
          · unfold RT at q; omega
          · unfold RP RG at q; omega
          · unfold RV RG at q; omega
          · simp (disch := omega) only [yI_sI_o, yI_sI_e]
          · simp (disch := omega) only [yI_sI_o, yI_sI_e]
          · simp (disch := omega) only [yI_sI_o]
          · simp (disch := omega) only [yI_sI_o]
          · simp (disch := omega) only [yI_sI_o]
          · simp (disch := omega) only [yI_sI_o]
      · refine OP_fd II hN 2 (by omega) (fun d hd => ?_) (fun d hd => ?_)
        · rw [e89, b89_0, s79a d (by omega), yci_s, if_neg (by rw [bi_t c1]; omega), s81a d (by omega) r i (by omega), yci_s, j1, if_neg c2, if_neg c3, if_neg (by omega)]
        · rw [e149, b149_0, s145 d (by omega), yci_s, if_neg (by rw [bi_t c1]; omega), yi_t (by omega), ef 2 96 _ (by omega) (by omega), if_neg (by omega), yi_t (by omega), yr_t (by omega), s136 d (by omega), yci_s, if_pos (bi_f (by omega))]
  · refine OP_same II (-1) (fun d hd => ?_) (fun d hd => ?_)
    · rw [e89, b89_0, s79a d (by omega), yci_s, if_pos (bi_f c1)]
    · rw [e149, b149_0, s145 d (by omega), yci_s, if_pos (bi_f c1)]
theorem o_tear (I : INV N h) (hN : N ≤ 1000) (r : Int) : OP sc 90 150 [y_vr 2, y_vi r] [y_vr 94, y_vi r] N h := by
  have II := I
  obtain ⟨a, i1, i2, i3, i4, i5, i6⟩ := I
  by_cases c1 : 0 ≤ r ∧ r ≤ 5
  · obtain ⟨j1, j2, j3⟩ := i2 r (by omega) (by omega)
    by_cases c2 : y_I h 96 (Int.toNat r) = -1
    · refine OP_fd II hN 1 (by omega) (fun d hd => ?_) (fun d hd => ?_)
      · rw [e90, b90_0, s79a d (by omega), yci_s, if_neg (by rw [bi_t c1]; omega), s80a d (by omega) r (by omega), yci_s, if_neg (by rw [bi_t (by rw [j1]; exact c2)]; omega)]
      · rw [e150, b150_0, s145 d (by omega), yci_s, if_neg (by rw [bi_t c1]; omega), yi_t (by omega), xfd_o (by omega) (by omega), if_pos (by omega)]
    · refine OP_do 1 (y_sI h 11 (Int.toNat r) (-1)) (y_sI (y_sI h 11 (Int.toNat r) (-1)) 96 (Int.toNat r) (-1)) (fun d hd => ?_) (fun d hd => ?_) ?_
      · rw [e90, b90_0, s79a d (by omega), yci_s, if_neg (by rw [bi_t c1]; omega), s80a d (by omega) r (by omega), yci_s, if_pos (bi_f (by rw [j1]; exact c2)), yi_t (by omega)]
      · rw [e150, b150_0, s145 d (by omega), yci_s, if_neg (by rw [bi_t c1]; omega), yi_t (by omega), yI_sI_o (by omega), if_neg (by omega), yi_t (by omega)]
      · refine INV_tr II (fun b k => b = 11 ∨ b = 96) (fun b k q => ?_) rfl (fun a ha b k q => ?_) (Or.inr fun s s1 s2 => ?_) (Or.inl fun b k q => ?_) (Or.inl fun b k q => ?_) (Or.inl fun b k q => ?_) (Or.inl fun b k q => ?_)
        · simp (disch := omega) only [yI_sI_o]
        · unfold RX RG at q; omega
        · obtain ⟨k1, k2, k3⟩ := i2 s s1 s2
          by_cases e : s = r
          · subst e
            simp (disch := omega) only [yI_sI_o, yI_sI_e]
            exact ⟨trivial, by omega, fun l q1 q2 => by omega⟩
          · simp (disch := omega) only [yI_sI_o]
            exact ⟨k1, k2, k3⟩
        · unfold RT at q; omega
        · unfold RP RG at q; omega
        · unfold RV RG at q; omega
        · unfold RE at q; omega
  · refine OP_same II (-1) (fun d hd => ?_) (fun d hd => ?_)
    · rw [e90, b90_0, s79a d (by omega), yci_s, if_pos (bi_f c1)]
    · rw [e150, b150_0, s145 d (by omega), yci_s, if_pos (bi_f c1)]
end RO
