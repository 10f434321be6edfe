/-! CALLS of rows and texts -/
def OP (sc : z_Sc) (x m : Nat) (ax am : List y_V) (N : Nat) (h : y_Hp) : Prop := ∃ (u : Int) (h1 h2 : y_Hp), (∀ d, 60 ≤ d → y_se z_pg sc d x ax h = some (some (y_vi u), h1)) ∧ (∀ d, 60 ≤ d → y_se z_pg sc d m am h1 = some (some (y_vi u), h2)) ∧ INV (N + 1) h2
theorem INV_tr {N : Nat} {h h2 : y_Hp} (I : INV N h) (S : Nat → Nat → Prop) (hs : ∀ b k, ¬ S b k → y_I h2 b k = y_I h b k) (ef : h2.2 = h.2) (c1 : ∀ a, (a = 62 ∨ a = 78) → ∀ b k, RX a b k → ¬ S b k) (c2 : (∀ b k, RR b k → ¬ S b k) ∨ I_row h2) (c3 : (∀ b k, RT b k → ¬ S b k) ∨ I_txt h2) (c4 : (∀ b k, RP b k → ¬ S b k) ∨ I_pln h2) (c5 : (∀ b k, RV b k → ¬ S b k) ∨ I_rul h2) (c6 : (∀ b k, RE b k → ¬ S b k) ∨ I_tel (N + 1) h2) : INV (N + 1) h2 := by
  obtain ⟨a, i1, i2, i3, i4, i5, i6⟩ := I
  have ef1 : y_F h2 = y_F h := by unfold y_F; rw [ef]
  have ej1 : ∀ p, y_J h2 (a + 4) p = y_J h (a + 4) p := fun p => by unfold y_J; rw [ef]
  exact ⟨a, I_hou_cg (fun b k q => hs b k (c1 a i1.2.2.1.1 b k q)) ef1 ej1 i1, c2.elim (fun c => I_row_cg (fun b k q => hs b k (c b k q)) i2) id, c3.elim (fun c => I_txt_cg (fun b k q => hs b k (c b k q)) i3) id, c4.elim (fun c => I_pln_cg (fun b k q => hs b k (c b k q)) i4) id, c5.elim (fun c => I_rul_cg (fun b k q => hs b k (c b k q)) i5) id, c6.elim (fun c => I_tel_up (Nat.le_succ N) (I_tel_cg (fun b k q => hs b k (c b k q)) i6)) id⟩
theorem yR {r : Int} {x : y_O} (hr : 0 ≤ r ∧ r < 6) : y_kt (5 + Int.toNat r) 10 x = x := by
  rcases (show r = 0 ∨ r = 1 ∨ r = 2 ∨ r = 3 ∨ r = 4 ∨ r = 5 by omega) with rfl | rfl | rfl | rfl | rfl | rfl <;> rfl
theorem lR {r : Int} (hr : 0 ≤ r ∧ r < 6) : (z_kd (5 + Int.toNat r)).2 = 48 := by
  rcases (show r = 0 ∨ r = 1 ∨ r = 2 ∨ r = 3 ∨ r = 4 ∨ r = 5 by omega) with rfl | rfl | rfl | rfl | rfl | rfl <;> rfl
theorem yT {r : Int} {x : y_O} (hr : 0 ≤ r ∧ r < 4) : y_kt (14 + Int.toNat r) 10 x = x := by
  rcases (show r = 0 ∨ r = 1 ∨ r = 2 ∨ r = 3 by omega) with rfl | rfl | rfl | rfl <;> rfl
theorem lT {r : Int} (hr : 0 ≤ r ∧ r < 4) : (z_kd (14 + Int.toNat r)).2 = 120 := by
  rcases (show r = 0 ∨ r = 1 ∨ r = 2 ∨ r = 3 by omega) with rfl | rfl | rfl | rfl <;> rfl
section SH
variable {sc : z_Sc} {h : y_Hp} {N : Nat}
theorem s79a (d : Nat) (hd : 1 ≤ d) (r : Int) : y_se z_pg sc d 79 [y_vr 3, y_vi r] h = some (some (y_vi (y_bi (0 ≤ r ∧ r ≤ 5))), h) := by
  rcases d with _ | d
  · omega
  rw [e79a, b79a_0]
  by_cases c1 : r < 0
  · rw [if_pos c1]; exact ab_f (by omega)
  · rw [if_neg c1]
    by_cases c2 : r < 6
    · rw [if_pos c2]; exact ab_t (by omega)
    · rw [if_neg c2]; exact ab_f (by omega)
theorem s79b (d : Nat) (hd : 1 ≤ d) (r : Int) : y_se z_pg sc d 79 [y_vr 12, y_vi r] h = some (some (y_vi (y_bi (0 ≤ r ∧ r ≤ 3))), h) := by
  rcases d with _ | d
  · omega
  rw [e79b, b79b_0]
  by_cases c1 : r < 0
  · rw [if_pos c1]; exact ab_f (by omega)
  · rw [if_neg c1]
    by_cases c2 : r < 4
    · rw [if_pos c2]; exact ab_t (by omega)
    · rw [if_neg c2]; exact ab_f (by omega)
theorem s80a (d : Nat) (hd : 1 ≤ d) (r : Int) (hr : 0 ≤ r ∧ r < 6) : y_se z_pg sc d 80 [y_vr 3, y_vi r] h = some (some (y_vi (y_bi (y_I h 11 (Int.toNat r) = -1))), h) := by
  rcases d with _ | d
  · omega
  rw [e80a, b80a_0, yi_t (by omega)]
  by_cases c1 : y_I h 11 (Int.toNat r) = -1
  · rw [if_pos c1]; exact ab_t c1
  · rw [if_neg c1]; exact ab_f c1
theorem s80b (d : Nat) (hd : 1 ≤ d) (r : Int) (hr : 0 ≤ r ∧ r < 4) : y_se z_pg sc d 80 [y_vr 12, y_vi r] h = some (some (y_vi (y_bi (y_I h 18 (Int.toNat r) = -1))), h) := by
  rcases d with _ | d
  · omega
  rw [e80b, b80b_0, yi_t (by omega)]
  by_cases c1 : y_I h 18 (Int.toNat r) = -1
  · rw [if_pos c1]; exact ab_t c1
  · rw [if_neg c1]; exact ab_f c1
theorem s81a (d : Nat) (hd : 2 ≤ d) (r i : Int) (hr : 0 ≤ r ∧ r < 6) : y_se z_pg sc d 81 [y_vr 3, y_vi r, y_vi i] h = some (some (y_vi (if y_I h 11 (Int.toNat r) = -1 then 1 else if 0 ≤ i ∧ i < y_I h 11 (Int.toNat r) then 0 else 2)), h) := by
  rcases d with _ | d
  · omega
  rw [e81a, b81a_0, s80a d (by omega) r hr, yci_s]
  simp (disch := omega) only [yi_t]
  by_cases c1 : y_I h 11 (Int.toNat r) = -1
  · rw [if_neg (by rw [bi_t c1]; omega), if_pos c1]
  · rw [if_pos (bi_f c1), if_neg c1]
    by_cases c2 : i < 0
    · rw [if_pos c2, if_neg (by omega)]
    · rw [if_neg c2]
      by_cases c3 : i < y_I h 11 (Int.toNat r)
      · rw [if_pos c3, if_pos (by omega)]
      · rw [if_neg c3, if_neg (by omega)]
theorem s81b (d : Nat) (hd : 2 ≤ d) (r i : Int) (hr : 0 ≤ r ∧ r < 4) : y_se z_pg sc d 81 [y_vr 12, y_vi r, y_vi i] h = some (some (y_vi (if y_I h 18 (Int.toNat r) = -1 then 1 else if 0 ≤ i ∧ i < y_I h 18 (Int.toNat r) then 0 else 2)), h) := by
  rcases d with _ | d
  · omega
  rw [e81b, b81b_0, s80b d (by omega) r hr, yci_s]
  simp (disch := omega) only [yi_t]
  by_cases c1 : y_I h 18 (Int.toNat r) = -1
  · rw [if_neg (by rw [bi_t c1]; omega), if_pos c1]
  · rw [if_pos (bi_f c1), if_neg c1]
    by_cases c2 : i < 0
    · rw [if_pos c2, if_neg (by omega)]
    · rw [if_neg c2]
      by_cases c3 : i < y_I h 18 (Int.toNat r)
      · rw [if_pos c3, if_pos (by omega)]
      · rw [if_neg c3, if_neg (by omega)]
theorem l83a (d : Nat) (r n v : Int) (g : y_Hp) (hr : 0 ≤ r ∧ r < 6) (hn : n ≤ 48) : ∀ (m : Nat) (k : Int), 0 ≤ k → k + m = max k n → y_ev z_pg sc d pgX6_begin 10 [some (y_vr 3), some (y_vi r), some (y_vi n), some (y_vi v), some (y_vi k)] [] (y_fill g (5 + Int.toNat r) 0 (Int.toNat k) (fun _ => v)) = some (none, y_fill g (5 + Int.toNat r) 0 (Int.toNat (k + m)) (fun _ => v))
  | 0, k, hk, hm => by
    rw [b83a_10, if_neg (by omega), show k + ((0 : Nat) : Int) = k by omega]
  | m + 1, k, hk, hm => by
    rw [b83a_10, if_pos (by omega), yi_t (by omega), yR hr, lR hr, yi_t (by omega), yr_t (by omega), y_fill_s (Nat.zero_le _) rfl]
    have := l83a d r n v g hr hn m (k + 1) (by omega) (by omega)
    rw [show Int.toNat (k + 1) = Int.toNat k + 1 by omega] at this
    rw [this, show k + 1 + (m : Int) = k + ((m + 1 : Nat) : Int) by omega]
theorem s83a (d : Nat) (hd : 1 ≤ d) (r n v : Int) (hr : 0 ≤ r ∧ r < 6) (hn : 0 ≤ n ∧ n ≤ 48) : y_se z_pg sc d 83 [y_vr 3, y_vi r, y_vi n, y_vi v] h = some (none, y_fill (y_sI h 11 (Int.toNat r) n) (5 + Int.toNat r) 0 (Int.toNat n) (fun _ => v)) := by
  rcases d with _ | d
  · omega
  have := l83a (sc := sc) d r n v (y_sI h 11 (Int.toNat r) n) hr hn.2 n.toNat 0 (by omega) (by omega)
  rw [show Int.toNat 0 = 0 from rfl, y_fill_0, show (0 : Int) + (n.toNat : Int) = n by omega] at this
  rw [e83a, b83a_0, yi_t (by omega), this]
theorem l83b (d : Nat) (r n v : Int) (g : y_Hp) (hr : 0 ≤ r ∧ r < 4) (hn : n ≤ 120) : ∀ (m : Nat) (k : Int), 0 ≤ k → k + m = max k n → y_ev z_pg sc d pgX6_begin 10 [some (y_vr 12), some (y_vi r), some (y_vi n), some (y_vi v), some (y_vi k)] [] (y_fill g (14 + Int.toNat r) 0 (Int.toNat k) (fun _ => v)) = some (none, y_fill g (14 + Int.toNat r) 0 (Int.toNat (k + m)) (fun _ => v))
  | 0, k, hk, hm => by
    rw [b83b_10, if_neg (by omega), show k + ((0 : Nat) : Int) = k by omega]
  | m + 1, k, hk, hm => by
    rw [b83b_10, if_pos (by omega), yi_t (by omega), yT hr, lT hr, yi_t (by omega), yr_t (by omega), y_fill_s (Nat.zero_le _) rfl]
    have := l83b d r n v g hr hn m (k + 1) (by omega) (by omega)
    rw [show Int.toNat (k + 1) = Int.toNat k + 1 by omega] at this
    rw [this, show k + 1 + (m : Int) = k + ((m + 1 : Nat) : Int) by omega]
theorem s83b (d : Nat) (hd : 1 ≤ d) (r n v : Int) (hr : 0 ≤ r ∧ r < 4) (hn : 0 ≤ n ∧ n ≤ 120) : y_se z_pg sc d 83 [y_vr 12, y_vi r, y_vi n, y_vi v] h = some (none, y_fill (y_sI h 18 (Int.toNat r) n) (14 + Int.toNat r) 0 (Int.toNat n) (fun _ => v)) := by
  rcases d with _ | d
  · omega
  have := l83b (sc := sc) d r n v (y_sI h 18 (Int.toNat r) n) hr hn.2 n.toNat 0 (by omega) (by omega)
  rw [show Int.toNat 0 = 0 from rfl, y_fill_0, show (0 : Int) + (n.toNat : Int) = n by omega] at this
  rw [e83b, b83b_0, yi_t (by omega), this]
theorem l147 (d : Nat) (r n : Int) (g : y_Hp) (hr : 0 ≤ r ∧ r < 6) : ∀ (m : Nat) (k : Int), 0 ≤ k → k + m = 48 → y_ev z_pg sc d pgX8_row 34 [some (y_vr 94), some (y_vi r), some (y_vi n), some (y_vi k)] [] (y_fill g 97 (Int.toNat (48 * r)) (Int.toNat (48 * r + k)) (fun _ => 0)) = some (some (y_vi n), y_fill g 97 (Int.toNat (48 * r)) (Int.toNat (48 * r + 48)) (fun _ => 0))
  | 0, k, hk, hm => by
    have e : k = 48 := by omega
    subst e
    rw [b147_34, if_neg (by omega)]
  | m + 1, k, hk, hm => by
    rw [b147_34, if_pos (by omega)]
    simp (disch := omega) only [yr_t, yi_t]
    rw [y_fill_s (by omega) rfl]
    have := l147 d r n g hr m (k + 1) (by omega) (by omega)
    rw [show Int.toNat (48 * r + (k + 1)) = Int.toNat (48 * r + k) + 1 by omega] at this
    exact this
theorem l154 (d : Nat) (r n : Int) (g : y_Hp) (hr : 0 ≤ r ∧ r < 4) : ∀ (m : Nat) (k : Int), 0 ≤ k → k + m = 120 → y_ev z_pg sc d pgX8_text 34 [some (y_vr 94), some (y_vi r), some (y_vi n), some (y_vi k)] [] (y_fill g 100 (Int.toNat (120 * r)) (Int.toNat (120 * r + k)) (fun _ => y_i2b 32)) = some (some (y_vi n), y_fill g 100 (Int.toNat (120 * r)) (Int.toNat (120 * r + 120)) (fun _ => y_i2b 32))
  | 0, k, hk, hm => by
    have e : k = 120 := by omega
    subst e
    rw [b154_34, if_neg (by omega)]
  | m + 1, k, hk, hm => by
    rw [b154_34, if_pos (by omega)]
    simp (disch := omega) only [yr_t, yi_t]
    rw [y_fill_s (by omega) rfl]
    have := l154 d r n g hr m (k + 1) (by omega) (by omega)
    rw [show Int.toNat (120 * r + (k + 1)) = Int.toNat (120 * r + k) + 1 by omega] at this
    exact this
/-- refused with a finding by both -/
theorem OP_fd {x m : Nat} {ax am : List y_V} (I : INV N h) (hN : N ≤ 1000) (f : Int) (hf : 1 ≤ f ∧ f ≤ 5) (h1 : ∀ d, 59 ≤ d → y_se z_pg sc (d + 1) x ax h = y_ci (y_se z_pg sc d 126 [y_vr 2, y_vi f] h) (fun u g => some (some (y_vi u), g))) (h2 : ∀ d, 59 ≤ d → y_se z_pg sc (d + 1) m am (x_fd h f) = y_ci (y_se z_pg sc d 140 [y_vr 94, y_vi f] (x_fd h f)) (fun u g => some (some (y_vi u), g))) : OP sc x m ax am N h := by
  obtain ⟨q1, q2⟩ := INV_fr (sc := sc) I hN f hf
  refine ⟨-3, x_fd h f, m_fd (x_fd h f) f, fun d hd => ?_, fun d hd => ?_, INV_fd I f hf⟩
  · obtain ⟨e, rfl⟩ : ∃ e, d = e + 1 := ⟨d - 1, by omega⟩
    rw [h1 e (by omega), q1 e (by omega)]
    rfl
  · obtain ⟨e, rfl⟩ : ∃ e, d = e + 1 := ⟨d - 1, by omega⟩
    rw [h2 e (by omega), q2 e (by omega)]
    rfl
theorem OP_same {x m : Nat} {ax am : List y_V} (I : INV N h) (u : Int) (h1 : ∀ d, 59 ≤ d → y_se z_pg sc (d + 1) x ax h = some (some (y_vi u), h)) (h2 : ∀ d, 59 ≤ d → y_se z_pg sc (d + 1) m am h = some (some (y_vi u), h)) : OP sc x m ax am N h :=
  ⟨u, h, h, fun d hd => by obtain ⟨e, rfl⟩ : ∃ e, d = e + 1 := ⟨d - 1, by omega⟩; exact h1 e (by omega), fun d hd => by obtain ⟨e, rfl⟩ : ∃ e, d = e + 1 := ⟨d - 1, by omega⟩; exact h2 e (by omega), I.up (Nat.le_succ N)⟩
theorem OP_do {x m : Nat} {ax am : List y_V} (u : Int) (h1 h2 : y_Hp) (q1 : ∀ d, 59 ≤ d → y_se z_pg sc (d + 1) x ax h = some (some (y_vi u), h1)) (q2 : ∀ d, 59 ≤ d → y_se z_pg sc (d + 1) m am h1 = some (some (y_vi u), h2)) (J : INV (N + 1) h2) : OP sc x m ax am N h :=
  ⟨u, h1, h2, fun d hd => by obtain ⟨e, rfl⟩ : ∃ e, d = e + 1 := ⟨d - 1, by omega⟩; exact q1 e (by omega), fun d hd => by obtain ⟨e, rfl⟩ : ∃ e, d = e + 1 := ⟨d - 1, by omega⟩; exact q2 e (by omega), J⟩
/-- what x's finding leaves -/
theorem xfd_o {f : Int} {b k : Nat} (hb : ¬ (b = 2 ∧ k = 12)) (hc : b ≠ 61) : y_I (x_fd h f) b k = y_I h b k := by
  unfold x_fd
  rw [yI_sI_o (by omega), yI_sI_o (by omega)]
theorem o_row (I : INV N h) (hN : N ≤ 1000) (r n : Int) : OP sc 87 147 [y_vr 2, y_vi r, y_vi n] [y_vr 94, y_vi r, y_vi n] N h := by
  by_cases c1 : 0 ≤ r ∧ r ≤ 5
  · by_cases c2 : 48 < n
    · refine OP_same I (-1) (fun d hd => ?_) (fun d hd => ?_)
      · rw [e87, b87_0, s79a d (by omega), yci_s, if_neg (by rw [bi_t c1]; omega), if_pos c2]
      · rw [e147, b147_0, s145 d (by omega), yci_s, if_neg (by rw [bi_t c1]; omega), if_pos c2]
    · by_cases c3 : n < 0
      · refine OP_fd I hN 5 (by omega) (fun d hd => ?_) (fun d hd => ?_)
        · rw [e87, b87_0, s79a d (by omega), yci_s, if_neg (by rw [bi_t c1]; omega), if_neg c2, if_pos c3]
        · rw [e147, b147_0, s145 d (by omega), yci_s, if_neg (by rw [bi_t c1]; omega), if_neg c2, if_pos c3]
      · refine OP_do n (y_fill (y_sI h 11 (Int.toNat r) n) (5 + Int.toNat r) 0 (Int.toNat n) (fun _ => 0)) (y_fill (y_sI (y_fill (y_sI h 11 (Int.toNat r) n) (5 + Int.toNat r) 0 (Int.toNat n) (fun _ => 0)) 96 (Int.toNat r) n) 97 (Int.toNat (48 * r)) (Int.toNat (48 * r + 48)) (fun _ => 0)) (fun d hd => ?_) (fun d hd => ?_) ?_
        · rw [e87, b87_0, s79a d (by omega), yci_s, if_neg (by rw [bi_t c1]; omega), if_neg c2, if_neg c3, s83a d (by omega) r n 0 (by omega) (by omega), ycv_s]
        · have := l147 (sc := sc) d r n (y_sI (y_fill (y_sI h 11 (Int.toNat r) n) (5 + Int.toNat r) 0 (Int.toNat n) (fun _ => 0)) 96 (Int.toNat r) n) (by omega) 48 0 (by omega) (by omega)
          rw [Int.add_zero, y_fill_0] at this
          rw [e147, b147_0, s145 d (by omega), yci_s, if_neg (by rw [bi_t c1]; omega), if_neg c2, if_neg c3, yi_t (by omega), this]
        · refine INV_tr I (fun b k => (5 ≤ b ∧ b ≤ 11) ∨ b = 96 ∨ b = 97) (fun b k q => ?_) rfl (fun a ha b k q => ?_) (Or.inr fun s s1 s2 => ?_) (Or.inl fun b k q => ?_) (Or.inl fun b k q => ?_) (Or.inl fun b k q => ?_) (Or.inl fun b k q => ?_)
          · rw [yI_fill_o (by omega), yI_sI_o (by omega), yI_fill_o (by omega), yI_sI_o (by omega)]
          · unfold RX RG at q; omega
          · obtain ⟨a, -, i2, -⟩ := I
            obtain ⟨j1, j2, j3⟩ := i2 s s1 s2
            by_cases e : s = r
            · subst e
              rw [yI_fill_o (by omega), yI_sI_o (by omega), yI_fill_o (by omega), yI_sI_e (by omega), yI_fill_o (by omega), yI_sI_e (by omega)]
              refine ⟨rfl, by omega, fun i q1 q2 => ?_⟩
              rw [yI_fill_o (by omega), yI_sI_o (by omega), yI_fill_e (by omega), yI_fill_e (by omega)]
            · rw [yI_fill_o (by omega), yI_sI_o (by omega), yI_fill_o (by omega), yI_sI_o (by omega), yI_fill_o (by omega), yI_sI_o (by omega), yI_fill_o (by omega), yI_sI_o (by omega)]
              refine ⟨j1, j2, fun i q1 q2 => ?_⟩
              rw [yI_fill_o (by omega), yI_sI_o (by omega), yI_fill_o (by omega), yI_sI_o (by omega), yI_fill_o (by omega), yI_sI_o (by omega), yI_fill_o (by omega), yI_sI_o (by omega)]
              exact j3 i q1 q2
          · unfold RT at q; omega
          · unfold RP RG at q; omega
          · unfold RV RG at q; omega
          · unfold RE at q; omega
  · refine OP_same I (-1) (fun d hd => ?_) (fun d hd => ?_)
    · rw [e87, b87_0, s79a d (by omega), yci_s, if_pos (bi_f c1)]
    · rw [e147, b147_0, s145 d (by omega), yci_s, if_pos (bi_f c1)]
end SH
