/-! CALLS: read, can, copies, post, late -/
def u_up (P : u_P) (k t : Int) : u_P := fun w => if Int.toNat w = Int.toNat k then t else P w
theorem pl_up {h : y_Hp} {b : Nat} {k t : Int} : pl (y_sI h b (Int.toNat k) t) b = u_up (pl h b) k t := funext fun w => by
  unfold pl u_up
  rw [yI_sI]
  by_cases c : Int.toNat w = Int.toNat k
  · rw [if_pos ⟨rfl, c⟩, if_pos c]
  · rw [if_neg (fun q => c q.2), if_neg c]
theorem pl_o {h : y_Hp} {b c k : Nat} {t : Int} (e : b ≠ c) : pl (y_sI h c k t) b = pl h b := funext fun w => yI_sI_o (fun q => e q.1)
theorem p_ok_up {G : u_G} {P : u_P} (hp : p_ok G P) {k t : Int} (ht : u_isb t) : p_ok G (u_up P k t) := fun w h1 h2 => by
  unfold u_up
  by_cases c : Int.toNat w = Int.toNat k
  · rw [if_pos c]; exact ht
  · rw [if_neg c]; exact hp w h1 h2
theorem p_eq_up {G : u_G} {P Q : u_P} (e : p_eq G P Q) {k t : Int} : p_eq G (u_up P k t) (u_up Q k t) := fun w h1 h2 => by
  unfold u_up
  by_cases c : Int.toNat w = Int.toNat k
  · rw [if_pos c, if_pos c]
  · rw [if_neg c, if_neg c]; exact e w h1 h2
def u_can (G : u_G) (P : u_P) (r t k : Int) : Prop := g_rd G k = r ∧ P k = -9 ∧ g_bad G (u_up P k t) = -9
theorem u_msk_cg {P Q : Int → Prop} {n : Nat} {s k : Int} (e : ∀ j, k ≤ j → j < k + n → (P j ↔ Q j)) : u_msk P s k n = u_msk Q s k n := u_fold_cg fun s j h1 h2 => by rw [propext (e j h1 h2)]
theorem u_can_cg {G : u_G} {P Q : u_P} (e : p_eq G P Q) {r t k : Int} (h1 : 0 ≤ k) (h2 : k < g_wm G) : u_can G P r t k ↔ u_can G Q r t k := by
  unfold u_can
  rw [e k h1 h2, g_bad_cg (p_eq_up e)]
theorem hv_s21 {h : y_Hp} {k : Nat} {v : Int} : hv (y_sI h 21 k v) = hv h := hv_cg fun b k q => yI_sI_o (by unfold RG at q; omega)
theorem hv_s111 {h : y_Hp} {k : Nat} {v : Int} : hv (y_sI h 111 k v) = hv h := hv_cg fun b k q => yI_sI_o (by unfold RG at q; omega)
theorem xm_gen {h h' : y_Hp} {a : Nat} (X : xm h a) (hg : g_ok (hv h)) (e94 : ∀ k, 8 ≤ k → k ≤ 13 → y_I h' 94 k = y_I h 94 k) (e103 : ∀ k, y_I h' 103 k = y_I h 103 k) (e104 : ∀ k, y_I h' 104 k = y_I h 104 k) (e105 : ∀ k, y_I h' 105 k = y_I h 105 k) (eo : ∀ r, 0 ≤ r → r < g_rm (hv h) → g_or (hv h') r = g_or (hv h) r) (ea : ∀ i k, i ≤ 15 → i ≠ 1 → i ≠ 2 → i ≠ 3 → i ≠ 5 → i ≠ 6 → y_I h' (a + i) k = y_I h (a + i) k) (ej : ∀ p, y_J h' (a + 4) p = y_J h (a + 4) p)
    (np : ∀ p, 0 ≤ p → p < g_pm (hv h) → y_I h' (a + 1) (Int.toNat p) = g_cp (hv h') p ∧ y_I h' (a + 2) (Int.toNat p) = g_cm (hv h') p ∧ y_I h' (a + 3) (Int.toNat p) = g_sl (hv h') p)
    (nr : ∀ r, 0 ≤ r → r < g_rm (hv h) → y_I h' (a + 5) (Int.toNat r) = g_fr (hv h') r ∧ y_I h' (a + 6) (Int.toNat r) = g_ti (hv h') r) : xm h' a := by
  obtain ⟨ha, x0, x1, x2, x3, x4, x5, x6, x7, x8, x9, x10, x11, x12, x13, x14, x15, x16, x17, x18⟩ := X
  have la : g_la (hv h') = g_la (hv h) := e94 8 (by omega) (by omega)
  have pm : g_pm (hv h') = g_pm (hv h) := e94 9 (by omega) (by omega)
  have rm : g_rm (hv h') = g_rm (hv h) := e94 10 (by omega) (by omega)
  have wm : g_wm (hv h') = g_wm (hv h) := e94 11 (by omega) (by omega)
  have nm : g_nm (hv h') = g_nm (hv h) := e94 12 (by omega) (by omega)
  have um : g_um (hv h') = g_um (hv h) := e94 13 (by omega) (by omega)
  have rd : ∀ w, g_rd (hv h') w = g_rd (hv h) w := fun w => e103 _
  have pt : ∀ w, g_pt (hv h') w = g_pt (hv h) w := fun w => e103 _
  have mn : ∀ w, g_mn (hv h') w = g_mn (hv h) w := fun w => e103 _
  have wo : ∀ w, g_wo (hv h') w = g_wo (hv h) w := fun w => e103 _
  have h4 : hv h' 104 = hv h 104 := funext e104
  have h5 : hv h' 105 = hv h 105 := funext e105
  have na : ∀ r q p, g_na (hv h') r q p = g_na (hv h) r q p := fun r q p => by unfold g_na; rw [nm, h4]
  have cv : ∀ p t, g_cv (hv h') p t = g_cv (hv h) p t := fun p t => by unfold g_cv; rw [um, h5]
  have f0 : ∀ k, y_I h' a k = y_I h a k := fun k => ea 0 k (by omega) (by omega) (by omega) (by omega) (by omega) (by omega)
  have f : ∀ i k, (i = 7 ∨ i = 8 ∨ i = 9 ∨ i = 10 ∨ i = 11 ∨ i = 12 ∨ i = 13 ∨ i = 14 ∨ i = 15) → y_I h' (a + i) k = y_I h (a + i) k := fun i k q => ea i k (by omega) (by omega) (by omega) (by omega) (by omega) (by omega)
  unfold xm
  simp only [la, pm, rm, wm, rd, pt, mn, wo, na, cv, f0, ej, f 7 _ (by omega), f 8 _ (by omega), f 9 _ (by omega), f 10 _ (by omega), f 11 _ (by omega), f 12 _ (by omega), f 13 _ (by omega), f 14 _ (by omega), f 15 _ (by omega)]
  exact ⟨ha, x0, x1, x2, x3, fun p p1 p2 => (np p p1 p2).1, fun p p1 p2 => (np p p1 p2).2.1, fun p p1 p2 => (np p p1 p2).2.2, x7, fun r r1 r2 => (nr r r1 r2).1, fun r r1 r2 => (nr r r1 r2).2, x10, fun r r1 r2 => (x11 r r1 r2).trans (eo r r1 r2).symm, x12, x13, x14, x15, x16, x17, fun w w1 w2 => ⟨(x18 w w1 w2).1, fun v v1 v2 => by
    rw [(x18 w w1 w2).2 v v1 v2]
    have b := (g_ok_w hg ⟨w1, w2⟩).2.1
    rw [eo _ b.1 b.2]⟩⟩
theorem g_ok_gen {G G' : u_G} (hg : g_ok G) (e94 : ∀ k, 8 ≤ k → k ≤ 13 → G' 94 k = G 94 k) (e103 : ∀ k, G' 103 k = G 103 k) (e105 : ∀ k, G' 105 k = G 105 k) (np : ∀ p, 0 ≤ p → p < g_pm G → (g_cp G' p = 1 ∨ g_cp G' p = 2) ∧ (0 ≤ g_cm G' p ∧ g_cm G' p ≤ 59) ∧ (0 ≤ g_sl G' p ∧ g_sl G' p ≤ 9)) (nr : ∀ r, 0 ≤ r → r < g_rm G → (0 ≤ g_fr G' r ∧ g_fr G' r < g_ti G' r ∧ g_ti G' r ≤ 60) ∧ (g_or G' r = 0 ∨ g_or G' r = 1)) : g_ok G' := by
  obtain ⟨k1, k2, k3, k4, k5, k6, k7, k8, k9, k10, k11⟩ := hg
  have la : g_la G' = g_la G := e94 8 (by omega) (by omega)
  have pm : g_pm G' = g_pm G := e94 9 (by omega) (by omega)
  have rm : g_rm G' = g_rm G := e94 10 (by omega) (by omega)
  have wm : g_wm G' = g_wm G := e94 11 (by omega) (by omega)
  have nm : g_nm G' = g_nm G := e94 12 (by omega) (by omega)
  have um : g_um G' = g_um G := e94 13 (by omega) (by omega)
  have rd : ∀ w, g_rd G' w = g_rd G w := fun w => e103 _
  have pt : ∀ w, g_pt G' w = g_pt G w := fun w => e103 _
  have mn : ∀ w, g_mn G' w = g_mn G w := fun w => e103 _
  have wo : ∀ w, g_wo G' w = g_wo G w := fun w => e103 _
  unfold g_ok
  simp only [la, pm, rm, wm, nm, um, rd, pt, mn, wo, e105]
  exact ⟨k1, k2, k3, k4, k5, k6, np, nr, k9, k10, k11⟩
section HO
variable {sc : z_Sc} {h : y_Hp} {N : Nat} {a : Nat}
theorem o_read (I : INV N h) (w v : Int) : OP sc 103 194 [y_vr 2, y_vi w, y_vi v] [y_vr 94, y_vi w, y_vi v] N h := by
  have II := I
  obtain ⟨a, ⟨hF, hD, X, hg⟩, -, -, ⟨hp, pe⟩, -⟩ := I
  have kw := hg.2.2.1
  by_cases c1 : 0 ≤ w ∧ w < g_wm (hv h)
  · by_cases c2 : u_isb v
    · have e1 : y_I h 21 (Int.toNat w) = y_I h 111 (Int.toNat w) := (pe w c1.1 c1.2).symm
      refine OP_do (y_I h 111 (Int.toNat w)) (y_sI h 21 (Int.toNat w) v) (y_sI (y_sI h 21 (Int.toNat w) v) 111 (Int.toNat w) v) (fun d hd => ?_) (fun d hd => ?_) ?_
      · rw [e103, b103_0, hF, yH0 X.1, s4 d (by omega) X, yci_s, if_neg (by rw [bi_t c1]; omega), s127 d (by omega), yci_s, if_neg (by rw [bi_t c2]; omega), yi_t (by omega), yi_t (by omega), e1]
      · rw [e194, b194_0, s172 d (by omega) _ (by rw [hv_s21]; exact hg), hv_s21, yci_s, if_neg (by rw [bi_t c1]; omega)]
        by_cases c3 : v = -9
        · rw [if_pos c3, yi_t (by omega), yi_t (by omega), yI_sI_o (by omega)]
        · rw [if_neg c3, s136 d (by omega), yci_s, if_neg (by rw [bi_t (by unfold u_isb at c2; omega)]; omega), yi_t (by omega), yi_t (by omega), yI_sI_o (by omega)]
      · refine INV_t2 II (fun b k => b = 21 ∨ b = 111) (fun b k q => ?_) (fun a' J => I_hou_cg (h := h) (fun b k q => ?_) rfl (fun p => rfl) J) (fun b k q => ?_) (fun b k q => ?_) (fun J => ?_) (fun J => I_rul_w (h := h) (fun b k q => ?_) J) (fun b k q => ?_)
        · rw [yI_sI_o (by omega), yI_sI_o (by omega)]
        · have := J.2.2.1.1
          unfold RX RG at q
          rw [yI_sI_o (by omega), yI_sI_o (by omega)]
        · unfold RR at q; omega
        · unfold RT at q; omega
        · unfold I_pln
          rw [hv_s111, hv_s21, pl_up, pl_o (by omega), pl_o (by omega), pl_up]
          exact ⟨p_ok_up hp c2, p_eq_up pe⟩
        · rw [yI_sI_o (by omega), yI_sI_o (by omega)]
        · unfold RE at q; omega
    · refine OP_same II (-1) (fun d hd => ?_) (fun d hd => ?_)
      · rw [e103, b103_0, hF, yH0 X.1, s4 d (by omega) X, yci_s, if_neg (by rw [bi_t c1]; omega), s127 d (by omega), yci_s, if_pos (bi_f c2)]
      · unfold u_isb at c2
        rw [e194, b194_0, s172 d (by omega) _ hg, yci_s, if_neg (by rw [bi_t c1]; omega), if_neg (by omega), s136 d (by omega), yci_s, if_pos (bi_f (by omega))]
  · refine OP_same II (-1) (fun d hd => ?_) (fun d hd => ?_)
    · rw [e103, b103_0, hF, yH0 X.1, s4 d (by omega) X, yci_s, if_pos (bi_f c1)]
    · rw [e194, b194_0, s172 d (by omega) _ hg, yci_s, if_pos (bi_f c1)]
theorem l107 (d : Nat) (hd : 4 ≤ d) (hF : y_F h 2 10 = a) (X : xm h a) (hg : g_ok (hv h)) (hp : p_ok (hv h) (pl h 21)) (r t : Int) (ht : 0 ≤ t ∧ t ≤ 59) : ∀ (n : Nat) (k s : Int), 0 ≤ k → k + n = g_wm (hv h) → y_ev z_pg sc d pgX7_can 47 [some (y_vr 2), some (y_vi r), some (y_vi t), some (y_vi s), some (y_vi k)] [] h = some (some (y_vi (u_msk (u_can (hv h) (pl h 21) r t) s k n)), h)
  | 0, k, s, hk, hn => by
    obtain ⟨ha, x0, x1, x2, x3, -⟩ := X
    rw [b107_47, hF, yH0 ha, x3, if_neg (by omega)]
    rfl
  | n + 1, k, s, hk, hn => by
    have kw := hg.2.2.1
    have ih := fun s => l107 d hd hF X hg hp r t ht n (k + 1) s (by omega) (by omega)
    have XX := X
    have ha := X.1
    have x3 := X.2.2.2.2.1
    have x12 := X.2.2.2.2.2.2.2.2.2.2.2.2.2.1
    rw [b107_47, hF, yH0 ha, x3, if_pos (by omega), yH0 ha, yH9 ha, lH9 ha, yi_t (by omega), x12 k hk (by omega)]
    by_cases c1 : g_rd (hv h) k = r
    · rw [if_pos c1, yi_t (by omega)]
      by_cases c2 : y_I h 21 (Int.toNat k) = -9
      · have xg : xm (y_sI h 21 (Int.toNat k) t) a := xm_cg (h := h) (fun b j q => yI_sI_o (by unfold RX RG at q; omega)) (fun p => rfl) X
        have pg : p_ok (hv (y_sI h 21 (Int.toNat k) t)) (pl (y_sI h 21 (Int.toNat k) t) (20 + 1)) := by rw [hv_s21, pl_up]; exact p_ok_up hp (Or.inr ht)
        have gF : y_F (y_sI h 21 (Int.toNat k) t) 2 10 = a := hF
        have eb : y_sI (y_sI h 21 (Int.toNat k) t) 21 (Int.toNat k) (-9) = h := by rw [y_sI_sI, y_sI_id c2]
        rw [if_pos c2, yi_t (by omega), gF, s40 d (by omega) (Or.inl rfl) xg (by rw [hv_s21]; exact hg) pg, yci_s, hv_s21, pl_up]
        by_cases c3 : g_bad (hv h) (u_up (pl h 21) k t) = -9
        · rw [if_pos c3, yi_t (by omega), yr_t (by omega), eb, ih, u_msk_s1 (P := u_can (hv h) (pl h 21) r t) ⟨c1, c2, c3⟩]
        · rw [if_neg c3, yi_t (by omega), yr_t (by omega), eb, ih, u_msk_s0 (P := u_can (hv h) (pl h 21) r t) (fun q => c3 q.2.2)]
      · rw [if_neg c2, yr_t (by omega), ih, u_msk_s0 (P := u_can (hv h) (pl h 21) r t) (fun q => c2 q.2.1)]
    · rw [if_neg c1, yr_t (by omega), ih, u_msk_s0 (P := u_can (hv h) (pl h 21) r t) (fun q => c1 q.1)]
theorem l206 (d : Nat) (hd : 6 ≤ d) (hg : g_ok (hv h)) (hp : p_ok (hv h) (pl h 111)) (r t : Int) (ht : 0 ≤ t ∧ t ≤ 59) : ∀ (n : Nat) (k s : Int), 0 ≤ k → k + n = g_wm (hv h) → y_inr s → y_ev z_pg sc d pgX8_can 37 [some (y_vr 94), some (y_vi r), some (y_vi t), some (y_vi s), some (y_vi k)] [] h = some (some (y_vi (u_msk (u_can (hv h) (pl h 111) r t) s k n)), h)
  | 0, k, s, hk, hn, hs => by
    rw [b206_37, hvwm, if_neg (by omega)]
    rfl
  | n + 1, k, s, hk, hn, hs => by
    have kw := hg.2.2.1
    have ih := fun s hs => l206 d hd hg hp r t ht n (k + 1) s (by omega) (by omega) hs
    rw [b206_37, hvwm, if_pos (by omega), s173 d (by omega) k (by omega), yci_s]
    by_cases c1 : g_rd (hv h) k = r
    · rw [if_pos c1, s191 d (by omega) k (by omega), yci_s]
      by_cases c2 : pl h 111 k = -9
      · have pg : p_ok (hv (y_sI h 111 (Int.toNat k) t)) (pl (y_sI h 111 (Int.toNat k) t) 111) := by rw [hv_s111, pl_up]; exact p_ok_up hp (Or.inr ht)
        have eb : y_sI (y_sI h 111 (Int.toNat k) t) 111 (Int.toNat k) (-9) = h := by rw [y_sI_sI, y_sI_id c2]
        rw [if_pos (bi_f fun q => q c2), yi_t (by omega), s200 d (by omega) (by rw [hv_s111]; exact hg) pg, yci_s, hv_s111, pl_up]
        by_cases c3 : g_bad (hv h) (u_up (pl h 111) k t) = -9
        · rw [if_pos c3, yi_t (by omega), yr_t (by omega), eb, ih _ y_or_r, u_msk_s1 (P := u_can (hv h) (pl h 111) r t) ⟨c1, c2, c3⟩]
        · rw [if_neg c3, yi_t (by omega), yr_t (by omega), eb, y_or0 hs, ih _ hs, u_msk_s0 (P := u_can (hv h) (pl h 111) r t) (fun q => c3 q.2.2)]
      · rw [if_neg (by rw [bi_t c2]; omega), yr_t (by omega), ih _ hs, u_msk_s0 (P := u_can (hv h) (pl h 111) r t) (fun q => c2 q.2.1)]
    · rw [if_neg c1, yr_t (by omega), ih _ hs, u_msk_s0 (P := u_can (hv h) (pl h 111) r t) (fun q => c1 q.1)]
theorem o_can (I : INV N h) (r t : Int) : OP sc 107 206 [y_vr 2, y_vi r, y_vi t] [y_vr 94, y_vi r, y_vi t] N h := by
  have II := I
  obtain ⟨a, ⟨hF, hD, X, hg⟩, -, -, ⟨hp, pe⟩, -⟩ := I
  have kw := hg.2.2.1
  refine OP_same II (if (0 ≤ r ∧ r < g_rm (hv h)) ∧ (0 ≤ t ∧ t ≤ 59) then if g_bad (hv h) (pl h 111) = -9 then u_msk (u_can (hv h) (pl h 111) r t) 0 0 (g_wm (hv h)).toNat else -4 else -1) (fun d hd => ?_) (fun d hd => ?_)
  · rw [e107, b107_0, hF, yH0 X.1, s3 d (by omega) X, yci_s]
    by_cases c1 : 0 ≤ r ∧ r < g_rm (hv h)
    · rw [if_neg (by rw [bi_t c1]; omega)]
      by_cases c2 : t < 0
      · rw [if_pos c2, if_neg (by omega)]
      rw [if_neg c2]
      by_cases c3 : 59 < t
      · rw [if_pos c3, if_neg (by omega)]
      rw [if_neg c3, if_pos (by omega), hF, s40 d (by omega) (Or.inl rfl) X hg (p_ok_cg pe hp), yci_s]
      have eb : g_bad (hv h) (pl h (20 + 1)) = g_bad (hv h) (pl h 111) := (g_bad_cg pe).symm
      rw [eb]
      by_cases c4 : g_bad (hv h) (pl h 111) = -9
      · rw [if_pos c4, if_pos c4, l107 d (by omega) hF X hg (p_ok_cg pe hp) r t (by omega) (g_wm (hv h)).toNat 0 0 (by omega) (by omega), u_msk_cg fun j j1 j2 => (u_can_cg pe j1 (by omega)).symm]
      · rw [if_neg c4, if_neg c4]
    · rw [if_pos (bi_f c1), if_neg (fun q => c1 q.1)]
  · rw [e206, b206_0, s171 d (by omega) _ hg, yci_s]
    by_cases c1 : 0 ≤ r ∧ r < g_rm (hv h)
    · rw [if_neg (by rw [bi_t c1]; omega), s136 d (by omega), yci_s]
      by_cases c2 : 0 ≤ t ∧ t ≤ 59
      · rw [if_neg (by rw [bi_t c2]; omega), if_pos ⟨c1, c2⟩, s200 d (by omega) hg hp, yci_s]
        by_cases c4 : g_bad (hv h) (pl h 111) = -9
        · rw [if_pos c4, if_pos c4, l206 d (by omega) hg hp r t c2 (g_wm (hv h)).toNat 0 0 (by omega) (by omega) y_inr_0]
        · rw [if_neg c4, if_neg c4]
      · rw [if_pos (bi_f c2), if_neg (fun q => c2 q.2)]
    · rw [if_pos (bi_f c1), if_neg (fun q => c1 q.1)]
end HO
