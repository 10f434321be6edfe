/-! CALLS: on, read, can -/
/-- the same, some parts told anew -/
theorem INV_t2 {N : Nat} {h h2 : y_Hp} (I : INV N h) (S : Nat → Nat → Prop) (hs : ∀ b k, ¬ S b k → y_I h2 b k = y_I h b k) (c1 : ∀ a, I_hou h a → I_hou h2 a) (c2 : ∀ b k, RR b k → ¬ S b k) (c3 : ∀ b k, RT b k → ¬ S b k) (c4 : I_pln h → I_pln h2) (c5 : I_rul h → I_rul h2) (c6 : ∀ b k, RE b k → ¬ S b k) : INV (N + 1) h2 := by
  obtain ⟨a, i1, i2, i3, i4, i5, i6⟩ := I
  exact ⟨a, c1 a i1, I_row_cg (fun b k q => hs b k (c2 b k q)) i2, I_txt_cg (fun b k q => hs b k (c3 b k q)) i3, c4 i4, c5 i5, I_tel_up (Nat.le_succ N) (I_tel_cg (fun b k q => hs b k (c6 b k q)) i6)⟩
theorem I_pln_w {h h2 : y_Hp} (e : ∀ b k, RQ b k → y_I h2 b k = y_I h b k) (I : I_pln h) : I_pln h2 := by
  have e0 : g_wm (hv h2) = g_wm (hv h) := e 94 11 (Or.inl ⟨rfl, rfl⟩)
  have e1 : pl h2 111 = pl h 111 := funext fun w => e 111 _ (Or.inr (Or.inr rfl))
  have e2 : pl h2 21 = pl h 21 := funext fun w => e 21 _ (Or.inr (Or.inl rfl))
  unfold I_pln
  rw [e1, e2]
  exact ⟨p_ok_w e0 I.1, p_eq_w e0 I.2⟩
theorem I_rul_w {h h2 : y_Hp} (e : ∀ b k, ((b = 94 ∧ k = 10) ∨ (25 ≤ b ∧ b ≤ 36) ∨ b = 112 ∨ b = 113) → y_I h2 b k = y_I h b k) (I : I_rul h) : I_rul h2 := by
  have e0 : g_rm (hv h2) = g_rm (hv h) := e 94 10 (Or.inl ⟨rfl, rfl⟩)
  intro k k1 k2
  have I := I k k1 k2
  have e1 : ∀ j, y_I h2 112 j = y_I h 112 j := fun j => e _ _ (by omega)
  have e2 : ∀ j, y_I h2 113 j = y_I h 113 j := fun j => e _ _ (by omega)
  have e3 : ∀ j, y_I h2 (25 + 2 * Int.toNat k) j = y_I h (25 + 2 * Int.toNat k) j := fun j => e _ _ (by omega)
  have e4 : ∀ j, y_I h2 (26 + 2 * Int.toNat k) j = y_I h (26 + 2 * Int.toNat k) j := fun j => e _ _ (by omega)
  simp only [e1, e2, e3, e4, e0]
  exact I
theorem y_sI_id {h : y_Hp} {a k : Nat} {v : Int} (e : y_I h a k = v) : y_sI h a k v = h := y_ext (fun b j => by
  rw [yI_sI]
  by_cases c : b = a ∧ j = k
  · rw [if_pos c, ← e, c.1, c.2]
  · rw [if_neg c]) rfl
theorem y_sI_sI {h : y_Hp} {a k : Nat} {u v : Int} : y_sI (y_sI h a k u) a k v = y_sI h a k v := y_ext (fun b j => by
  rw [yI_sI, yI_sI, yI_sI]
  by_cases c : b = a ∧ j = k
  · rw [if_pos c, if_pos c]
  · rw [if_neg c, if_neg c, if_neg c]) rfl
section ON
variable {sc : z_Sc} {h : y_Hp} {N : Nat} {a : Nat}
theorem s109 (d : Nat) (hd : 1 ≤ d) (hF : y_F h 2 10 = a) (X : xm h a) (hg : g_ok (hv h)) (r : Int) (hr : 0 ≤ r ∧ r < 6) (R : y_O) (hR : (if y_bi (u_all (fun i => u_isb (y_I h (5 + Int.toNat r) (Int.toNat i))) 0 (g_wm (hv h)).toNat) = 0 then y_ci (y_se z_pg sc d 126 [y_vr 2, y_vi 3] h) (fun u g => some (some (y_vi u), g)) else some (some (y_vi 1), y_fill h 21 0 (Int.toNat (g_wm (hv h))) (fun q => y_I h (5 + Int.toNat r) q))) = R) : ∀ (n : Nat) (k : Int), 0 ≤ k → k + n = g_wm (hv h) → (u_all (fun i => u_isb (y_I h (5 + Int.toNat r) (Int.toNat i))) 0 (g_wm (hv h)).toNat ↔ u_all (fun i => u_isb (y_I h (5 + Int.toNat r) (Int.toNat i))) k n) → y_ev z_pg sc d pgX7_on 57 [some (y_vr 2), some (y_vi r), some (y_vi k)] [] h = R
  | 0, k, hk, hn, he => by
    have kw := hg.2.2.1
    obtain ⟨ha, x0, x1, x2, x3, -⟩ := X
    rw [b109_57, hF, yH0 ha, x3, if_neg (by omega), yi_t (by omega), yH0 ha, s33 d hd r _ hr (by omega), ycv_s, ← hR, if_neg (by rw [bi_t (he.mpr (u_all_0.mpr trivial))]; omega)]
  | n + 1, k, hk, hn, he => by
    have kw := hg.2.2.1
    have XX := X
    obtain ⟨ha, x0, x1, x2, x3, -⟩ := X
    rw [b109_57, hF, yH0 ha, x3, if_pos (by omega), yi_t (by omega), yR hr, lR hr, yi_t (by omega), s127 d hd, yci_s]
    by_cases c : u_isb (y_I h (5 + Int.toNat r) (Int.toNat k))
    · rw [if_neg (by rw [bi_t c]; omega), yr_t (by omega)]
      refine s109 d hd hF XX hg r hr R hR n (k + 1) (by omega) (by omega) (he.trans ?_)
      rw [u_all_s]
      exact ⟨fun q => q.2, fun q => ⟨c, q⟩⟩
    · rw [if_pos (bi_f c), ← hR, if_pos (bi_f fun q => c ?_)]
      have := he.mp q
      rw [u_all_s] at this
      exact this.1
theorem l208a (d : Nat) (hd : 1 ≤ d) (hg : g_ok (hv h)) (r : Int) (hr : 0 ≤ r ∧ r < 6) (R : y_O) : ∀ (n : Nat) (k : Int) (p : Prop), 0 ≤ k → k + n = g_wm (hv h) → y_ev z_pg sc d pgX8_on 47 [some (y_vr 94), some (y_vi r), some (y_vi (y_bi (p ∧ u_all (fun i => u_isb (y_I h 97 (Int.toNat (48 * r + i)))) k n))), some (y_vi (g_wm (hv h)))] [] h = R → y_ev z_pg sc d pgX8_on 47 [some (y_vr 94), some (y_vi r), some (y_vi (y_bi p)), some (y_vi k)] [] h = R
  | 0, k, p, hk, hn, he => by
    have e : (p ∧ u_all (fun i => u_isb (y_I h 97 (Int.toNat (48 * r + i)))) k 0) ↔ p := ⟨fun q => q.1, fun q => ⟨q, u_all_0.mpr trivial⟩⟩
    rw [bi_cg e] at he
    rw [show k = g_wm (hv h) by omega]
    exact he
  | n + 1, k, p, hk, hn, he => by
    have kw := hg.2.2.1
    have ih := fun p' => l208a d hd hg r hr R n (k + 1) p' (by omega) (by omega)
    have iT : ∀ _ : (p ∧ u_all (fun i => u_isb (y_I h 97 (Int.toNat (48 * r + i)))) k (n + 1)) ↔ (True ∧ u_all (fun i => u_isb (y_I h 97 (Int.toNat (48 * r + i)))) (k + 1) n), y_ev z_pg sc d pgX8_on 47 [some (y_vr 94), some (y_vi r), some (y_vi 1), some (y_vi (k + 1))] [] h = R := fun e => by
      rw [bi_cg e] at he
      have q := ih True he
      rw [bi_T] at q
      exact q
    have iF : ∀ _ : (p ∧ u_all (fun i => u_isb (y_I h 97 (Int.toNat (48 * r + i)))) k (n + 1)) ↔ (False ∧ u_all (fun i => u_isb (y_I h 97 (Int.toNat (48 * r + i)))) (k + 1) n), y_ev z_pg sc d pgX8_on 47 [some (y_vr 94), some (y_vi r), some (y_vi 0), some (y_vi (k + 1))] [] h = R := fun e => by
      rw [bi_cg e] at he
      have q := ih False he
      rw [bi_F] at q
      exact q
    rw [u_all_s] at iT iF
    rw [b208_47, hvwm, if_pos (by omega)]
    by_cases cp : p
    · rw [if_neg (by rw [bi_t cp]; omega), s146 d hd r k hr (by omega), yci_s]
      by_cases c1 : y_I h 97 (Int.toNat (48 * r + k)) = -9
      · rw [if_pos c1, yr_t (by omega)]
        exact iT ⟨fun q => ⟨trivial, q.2.2⟩, fun q => ⟨cp, Or.inl c1, q.2⟩⟩
      · rw [if_neg c1, s146 d hd r k hr (by omega), yci_s, s136 d hd, yci_s]
        by_cases c2 : 0 ≤ y_I h 97 (Int.toNat (48 * r + k)) ∧ y_I h 97 (Int.toNat (48 * r + k)) ≤ 59
        · rw [if_neg (by rw [bi_t c2]; omega), yr_t (by omega)]
          exact iT ⟨fun q => ⟨trivial, q.2.2⟩, fun q => ⟨cp, Or.inr c2, q.2⟩⟩
        · rw [if_pos (bi_f c2), yr_t (by omega)]
          exact iF ⟨fun q => (q.2.1.elim c1 c2).elim, fun q => q.1.elim⟩
    · rw [if_pos (bi_f cp), yr_t (by omega)]
      exact iF ⟨fun q => absurd q.1 cp, fun q => q.1.elim⟩
theorem l208b (d : Nat) (hd : 1 ≤ d) (r v n : Int) (g : y_Hp) (hr : 0 ≤ r ∧ r < 6) (hw : y_I g 94 11 = n) (hn : n ≤ 24) : ∀ (m : Nat) (k : Int), 0 ≤ k → k + m = n → y_ev z_pg sc d pgX8_on 109 [some (y_vr 94), some (y_vi r), some (y_vi v), some (y_vi k)] [] (y_fill g 111 0 (Int.toNat k) (fun q => y_I g 97 (Int.toNat (48 * r) + q))) = some (some (y_vi 1), y_fill g 111 0 (Int.toNat n) (fun q => y_I g 97 (Int.toNat (48 * r) + q)))
  | 0, k, hk, hm => by
    rw [b208_109, yI_fill_o (by omega), hw, if_neg (by omega), show k = n by omega]
  | m + 1, k, hk, hm => by
    have := l208b d hd r v n g hr hw hn m (k + 1) (by omega) (by omega)
    rw [show Int.toNat (k + 1) = Int.toNat k + 1 by omega] at this
    rw [b208_109, yI_fill_o (by omega), hw, if_pos (by omega), s146 d hd r k hr (by omega), yci_s, yi_t (by omega), yr_t (by omega), yI_fill_o (by omega), y_fill_s (Nat.zero_le _) (by rw [show Int.toNat (48 * r + k) = Int.toNat (48 * r) + Int.toNat k by omega]), this]
theorem o_on (I : INV N h) (hN : N ≤ 1000) (r : Int) : OP sc 109 208 [y_vr 2, y_vi r] [y_vr 94, y_vi r] N h := by
  have II := I
  obtain ⟨a, ⟨hF, hD, X, hg⟩, i2, i3, ⟨hp, pe⟩, -⟩ := I
  have kw := hg.2.2.1
  have ha := X.1
  have x3 := X.2.2.2.2.1
  have ef : ∀ f b k, ¬ (b = 2 ∧ k = 12) → b ≠ 61 → y_I (x_fd h f) b k = y_I h b k := fun f b k h1 h2 => xfd_o h1 h2
  by_cases c1 : 0 ≤ r ∧ r ≤ 5
  · obtain ⟨j1, j2, j3⟩ := i2 r (by omega) (by omega)
    by_cases c2 : y_I h 96 (Int.toNat r) = -1
    · refine OP_fd II hN 1 (by omega) (fun d hd => ?_) (fun d hd => ?_)
      · rw [e109, b109_0, s79a d (by omega), yci_s, if_neg (by rw [bi_t c1]; omega), s80a d (by omega) r (by omega), yci_s, if_neg (by rw [bi_t (by rw [j1]; exact c2)]; omega)]
      · rw [e208, b208_0, s145 d (by omega), yci_s, if_neg (by rw [bi_t c1]; omega), yi_t (by omega), ef _ _ _ (by omega) (by omega), if_pos (by omega)]
    · by_cases c3 : y_I h 96 (Int.toNat r) = g_wm (hv h)
      · have hx : ∀ d, 59 ≤ d → ∀ R, (if y_bi (u_all (fun i => u_isb (y_I h (5 + Int.toNat r) (Int.toNat i))) 0 (g_wm (hv h)).toNat) = 0 then y_ci (y_se z_pg sc d 126 [y_vr 2, y_vi 3] h) (fun u g => some (some (y_vi u), g)) else some (some (y_vi 1), y_fill h 21 0 (Int.toNat (g_wm (hv h))) (fun q => y_I h (5 + Int.toNat r) q))) = R → y_se z_pg sc (d + 1) 109 [y_vr 2, y_vi r] h = R := by
          intro d hd R hR
          rw [e109, b109_0, s79a d (by omega), yci_s, if_neg (by rw [bi_t c1]; omega), s80a d (by omega) r (by omega), yci_s, if_pos (bi_f (by rw [j1]; exact c2)), yi_t (by omega), hF, yH0 ha, x3, j1, if_pos c3]
          exact s109 d (by omega) hF X hg r (by omega) R hR (g_wm (hv h)).toNat 0 (by omega) (by omega) Iff.rfl
        have hm : ∀ d, 59 ≤ d → ∀ g : y_Hp, hv g = hv h → y_I g 96 (Int.toNat r) = y_I h 96 (Int.toNat r) → y_se z_pg sc (d + 1) 208 [y_vr 94, y_vi r] g = y_ev z_pg sc d pgX8_on 47 [some (y_vr 94), some (y_vi r), some (y_vi (y_bi (True ∧ u_all (fun i => u_isb (y_I g 97 (Int.toNat (48 * r + i)))) 0 (g_wm (hv h)).toNat))), some (y_vi (g_wm (hv h)))] [] g := by
          intro d hd g g1 g2
          rw [e208, b208_0, s145 d (by omega), yci_s, if_neg (by rw [bi_t c1]; omega), yi_t (by omega), g2, if_neg (by omega), yi_t (by omega), hvwm, g1, if_pos c3]
          have q := l208a (sc := sc) (h := g) d (by omega) (by rw [g1]; exact hg) r (by omega) _ (g_wm (hv h)).toNat 0 True (by omega) (by rw [g1]; omega) rfl
          rw [bi_T, g1] at q
          exact q
        by_cases c4 : u_all (fun i => u_isb (y_I h (5 + Int.toNat r) (Int.toNat i))) 0 (g_wm (hv h)).toNat
        · have c5 : u_all (fun i => u_isb (y_I h 97 (Int.toNat (48 * r + i)))) 0 (g_wm (hv h)).toNat := (u_all_cg fun i i1 i2 => by rw [j3 i i1 (by omega)]).mp c4
          have h1o : ∀ b k, b ≠ 21 → y_I (y_fill h 21 0 (Int.toNat (g_wm (hv h))) (fun q => y_I h (5 + Int.toNat r) q)) b k = y_I h b k := fun b k q => yI_fill_o (by omega)
          have h1v : hv (y_fill h 21 0 (Int.toNat (g_wm (hv h))) (fun q => y_I h (5 + Int.toNat r) q)) = hv h := hv_cg fun b k q => h1o b k (by unfold RG at q; omega)
          refine OP_do 1 (y_fill h 21 0 (Int.toNat (g_wm (hv h))) (fun q => y_I h (5 + Int.toNat r) q)) (y_fill (y_fill h 21 0 (Int.toNat (g_wm (hv h))) (fun q => y_I h (5 + Int.toNat r) q)) 111 0 (Int.toNat (g_wm (hv h))) (fun q => y_I h 97 (Int.toNat (48 * r) + q))) (fun d hd => ?_) (fun d hd => ?_) ?_
          · refine hx d hd _ ?_
            rw [if_neg (by rw [bi_t c4]; omega)]
          · have q := l208b (sc := sc) d (by omega) r 1 (g_wm (hv h)) (y_fill h 21 0 (Int.toNat (g_wm (hv h))) (fun q => y_I h (5 + Int.toNat r) q)) (by omega) (h1o _ _ (by omega)) (by omega) (g_wm (hv h)).toNat 0 (by omega) (by omega)
            rw [show Int.toNat 0 = 0 from rfl, y_fill_0] at q
            have e97 : ∀ k, y_I (y_fill h 21 0 (Int.toNat (g_wm (hv h))) (fun q => y_I h (5 + Int.toNat r) q)) 97 k = y_I h 97 k := fun k => h1o _ _ (by omega)
            simp only [e97] at q
            rw [hm d hd _ h1v (h1o _ _ (by omega))]
            simp only [e97]
            rw [bi_t ⟨trivial, c5⟩, b208_47, hvwm, h1v, if_neg (by omega), if_neg (by omega), q]
          · refine INV_t2 II (fun b k => b = 21 ∨ b = 111) (fun b k q => ?_) (fun a' J => I_hou_cg (h := h) (fun b k q => ?_) rfl (fun p => rfl) J) (fun b k q => ?_) (fun b k q => ?_) (fun J => ?_) (fun J => I_rul_w (h := h) (fun b k q => ?_) J) (fun b k q => ?_)
            · rw [yI_fill_o (by omega), yI_fill_o (by omega)]
            · have := J.2.2.1.1
              unfold RX RG at q
              rw [yI_fill_o (by omega), yI_fill_o (by omega)]
            · unfold RR at q; omega
            · unfold RT at q; omega
            · have e0 : g_wm (hv (y_fill (y_fill h 21 0 (Int.toNat (g_wm (hv h))) (fun q => y_I h (5 + Int.toNat r) q)) 111 0 (Int.toNat (g_wm (hv h))) (fun q => y_I h 97 (Int.toNat (48 * r) + q)))) = g_wm (hv h) := hv_wm (by rw [yI_fill_o (by omega), yI_fill_o (by omega)])
              have e1 : ∀ w, 0 ≤ w → w < g_wm (hv h) → pl (y_fill (y_fill h 21 0 (Int.toNat (g_wm (hv h))) (fun q => y_I h (5 + Int.toNat r) q)) 111 0 (Int.toNat (g_wm (hv h))) (fun q => y_I h 97 (Int.toNat (48 * r) + q))) 111 w = y_I h 97 (Int.toNat (48 * r + w)) := fun w w1 w2 => by
                unfold pl
                rw [yI_fill_e (by omega)]
                congr 1
                omega
              have e2 : ∀ w, 0 ≤ w → w < g_wm (hv h) → pl (y_fill (y_fill h 21 0 (Int.toNat (g_wm (hv h))) (fun q => y_I h (5 + Int.toNat r) q)) 111 0 (Int.toNat (g_wm (hv h))) (fun q => y_I h 97 (Int.toNat (48 * r) + q))) 21 w = y_I h (5 + Int.toNat r) (Int.toNat w) := fun w w1 w2 => by
                unfold pl
                rw [yI_fill_o (by omega), yI_fill_e (by omega)]
              unfold I_pln
              refine ⟨p_ok_w e0 fun w w1 w2 => ?_, p_eq_w e0 fun w w1 w2 => ?_⟩
              · rw [e1 w w1 w2]
                exact u_all_iff.mp c5 w w1 (by omega)
              · rw [e1 w w1 w2, e2 w w1 w2, j3 w w1 (by omega)]
            · rw [yI_fill_o (by omega), yI_fill_o (by omega)]
            · unfold RE at q; omega
        · have c5 : ¬ u_all (fun i => u_isb (y_I h 97 (Int.toNat (48 * r + i)))) 0 (g_wm (hv h)).toNat := fun q => c4 ((u_all_cg fun i i1 i2 => by rw [j3 i i1 (by omega)]).mpr q)
          refine OP_fd II hN 3 (by omega) (fun d hd => ?_) (fun d hd => ?_)
          · refine hx d hd _ ?_
            rw [if_pos (bi_f c4)]
          · have h1v : hv (x_fd h 3) = hv h := hv_cg fun b k q => ef 3 b k (by unfold RG at q; omega) (by unfold RG at q; omega)
            have e97 : ∀ k, y_I (x_fd h 3) 97 k = y_I h 97 k := fun k => ef 3 _ _ (by omega) (by omega)
            rw [hm d hd _ h1v (ef 3 _ _ (by omega) (by omega))]
            simp only [e97]
            rw [bi_f (fun q => c5 q.2), b208_47, hvwm, h1v, if_neg (by omega), if_pos rfl]
      · refine OP_fd II hN 5 (by omega) (fun d hd => ?_) (fun d hd => ?_)
        · rw [e109, b109_0, s79a d (by omega), yci_s, if_neg (by rw [bi_t c1]; omega), s80a d (by omega) r (by omega), yci_s, if_pos (bi_f (by rw [j1]; exact c2)), yi_t (by omega), hF, yH0 ha, x3, j1, if_neg c3]
        · rw [e208, b208_0, s145 d (by omega), yci_s, if_neg (by rw [bi_t c1]; omega), yi_t (by omega), ef _ _ _ (by omega) (by omega), if_neg (by omega), yi_t (by omega), ef _ _ _ (by omega) (by omega), hvwm, if_neg c3]
  · refine OP_same II (-1) (fun d hd => ?_) (fun d hd => ?_)
    · rw [e109, b109_0, s79a d (by omega), yci_s, if_pos (bi_f c1)]
    · rw [e208, b208_0, s145 d (by omega), yci_s, if_pos (bi_f c1)]
end ON
