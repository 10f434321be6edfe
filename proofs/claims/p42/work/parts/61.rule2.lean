/-! CALLS: rule, mark -/
section RU
variable {sc : z_Sc} {h : y_Hp} {N : Nat} {a : Nat}
theorem s59 (d : Nat) (hd : 1 ≤ d) (k v : Int) (hk : 0 ≤ k ∧ k < 6) : y_se z_pg sc d 59 [y_vr (25 + 2 * Int.toNat k), y_vi v] h = some (some (y_vi (y_bi (y_I h (25 + 2 * Int.toNat k) 0 = v ∨ (y_I h (25 + 2 * Int.toNat k) 0 = 2 ∧ v = 1)))), h) := by
  rcases d with _ | d
  · omega
  rw [e59, b59_0, yU0 hk]
  by_cases c1 : y_I h (25 + 2 * Int.toNat k) 0 = v
  · rw [if_pos c1]; exact ab_t (Or.inl c1)
  rw [if_neg c1, yU0 hk]
  by_cases c2 : y_I h (25 + 2 * Int.toNat k) 0 = 2
  · rw [if_pos c2]
    by_cases c3 : v = 1
    · rw [if_pos c3]; exact ab_t (Or.inr ⟨c2, c3⟩)
    · rw [if_neg c3]; exact ab_f (by omega)
  · rw [if_neg c2]; exact ab_f (by omega)
theorem s58 (d : Nat) (hd : 1 ≤ d) (k : Int) (hk : 0 ≤ k ∧ k < 6) : y_se z_pg sc d 58 [y_vr (25 + 2 * Int.toNat k)] h = some (some (y_vi (y_bi (y_I h (25 + 2 * Int.toNat k) 0 = 1 ∨ y_I h (25 + 2 * Int.toNat k) 0 = 2))), h) := by
  rcases d with _ | d
  · omega
  rw [e58, b58_0, yU0 hk]
  by_cases c1 : y_I h (25 + 2 * Int.toNat k) 0 = 1
  · rw [if_pos c1]; exact ab_t (Or.inl c1)
  rw [if_neg c1, yU0 hk]
  by_cases c2 : y_I h (25 + 2 * Int.toNat k) 0 = 2
  · rw [if_pos c2]; exact ab_t (Or.inr c2)
  · rw [if_neg c2]; exact ab_f (by omega)
/-- rules changed -/
theorem INV_ru (II : INV N h) {h2 : y_Hp} (hs : ∀ b k, ¬ ((25 ≤ b ∧ b ≤ 36) ∨ b = 112 ∨ b = 113) → y_I h2 b k = y_I h b k) (ef : h2.2 = h.2) (hr : I_rul h2) : INV (N + 1) h2 := by
  refine INV_tr II (fun b k => (25 ≤ b ∧ b ≤ 36) ∨ b = 112 ∨ b = 113) hs ef (fun a ha b k q => ?_) (Or.inl fun b k q => ?_) (Or.inl fun b k q => ?_) (Or.inl fun b k q => ?_) (Or.inr hr) (Or.inl fun b k q => ?_)
  · unfold RX RG at q; omega
  · unfold RR at q; omega
  · unfold RT at q; omega
  · unfold RP RG at q; omega
  · unfold RE at q; omega
theorem m210 (d : Nat) (hd : 59 ≤ d) (k v r : Int) (hk : 0 ≤ k ∧ k ≤ 5) (hv : 1 ≤ v ∧ v ≤ 5) (hr : v = 1 ∨ v = 2 → 0 ≤ r ∧ r ≤ 5) : y_se z_pg sc (d + 1) 210 [y_vr 94, y_vi k, y_vi v, y_vi r] h = y_ev z_pg sc d pgX8_rule 47 [some (y_vr 94), some (y_vi k), some (y_vi v), some (y_vi r), some (y_vi (if v = 1 ∨ v = 2 then 1 else 0)), none, none, none] [] h := by
  rw [e210, b210_0]
  by_cases c1 : v = 1
  · rw [if_pos c1, b210_10, b210_15, s209 d (by omega), yci_s, if_neg (by rw [bi_t hk]; omega), s136 d (by omega), yci_s, if_neg (by rw [bi_t hv]; omega), if_neg (by omega), s145 d (by omega), yci_s, if_neg (by rw [bi_t (hr (Or.inl c1))]; omega), if_pos (Or.inl c1)]
  rw [if_neg c1]
  by_cases c2 : v = 2
  · rw [if_pos c2, b210_10, b210_15, s209 d (by omega), yci_s, if_neg (by rw [bi_t hk]; omega), s136 d (by omega), yci_s, if_neg (by rw [bi_t hv]; omega), if_neg (by omega), s145 d (by omega), yci_s, if_neg (by rw [bi_t (hr (Or.inr c2))]; omega), if_pos (Or.inr c2)]
  · rw [if_neg c2, b210_15, s209 d (by omega), yci_s, if_neg (by rw [bi_t hk]; omega), s136 d (by omega), yci_s, if_neg (by rw [bi_t hv]; omega), if_pos rfl, if_neg (by omega)]
theorem m210f (d : Nat) (hd : 59 ≤ d) (k v r : Int) (hf : ¬ (0 ≤ k ∧ k ≤ 5) ∨ ¬ (1 ≤ v ∧ v ≤ 5) ∨ ((v = 1 ∨ v = 2) ∧ ¬ (0 ≤ r ∧ r ≤ 5))) : y_se z_pg sc (d + 1) 210 [y_vr 94, y_vi k, y_vi v, y_vi r] h = some (some (y_vi (-1)), h) := by
  rw [e210, b210_0]
  have key : ∀ c : Int, (c = 0 → ¬ (v = 1 ∨ v = 2)) → y_ev z_pg sc d pgX8_rule 15 [some (y_vr 94), some (y_vi k), some (y_vi v), some (y_vi r), none, none, none, none] [y_vi c] h = some (some (y_vi (-1)), h) := fun c hc => by
    rw [b210_15, s209 d (by omega), yci_s]
    by_cases c1 : 0 ≤ k ∧ k ≤ 5
    · rw [if_neg (by rw [bi_t c1]; omega), s136 d (by omega), yci_s]
      by_cases c2 : 1 ≤ v ∧ v ≤ 5
      · rw [if_neg (by rw [bi_t c2]; omega), if_neg (by omega), s145 d (by omega), yci_s, if_pos (bi_f (by omega)), b210_45]
      · rw [if_pos (bi_f c2), b210_45]
    · rw [if_pos (bi_f c1), b210_45]
  by_cases c1 : v = 1
  · rw [if_pos c1, b210_10, key 1 (by omega)]
  rw [if_neg c1]
  by_cases c2 : v = 2
  · rw [if_pos c2, b210_10, key 1 (by omega)]
  · rw [if_neg c2, key 0 (by omega)]
theorem x110 (d : Nat) (k v r : Int) (hk : 0 ≤ k ∧ k ≤ 5) (hv : v = 1 ∨ v = 2) (u : Int) (R : y_O) (h1 : y_se z_pg sc d 79 [y_vr 3, y_vi r] h = some (some (y_vi 1), h)) (h2 : y_se z_pg sc d 129 [y_vr 2, y_vi r] h = some (some (y_vi u), h)) (hR : (if u = 0 then y_in r 6 (y_in k 6 (y_kt (25 + 2 * Int.toNat k) 4 (y_kt (y_F h 2 10) 0 (y_kt (5 + Int.toNat r) 10 (y_kt ((25 + 2 * Int.toNat k) + 1) 10 (y_cg 0 0 (y_I h (y_F h 2 10) 2) (z_kd (5 + Int.toNat r)).2 (z_kd ((25 + 2 * Int.toNat k) + 1)).2 (y_hb (y_cpI h (5 + Int.toNat r) (Int.toNat 0) ((25 + 2 * Int.toNat k) + 1) (Int.toNat 0) (Int.toNat (y_I h (y_F h 2 10) 2))) (fun g5 => y_in k 6 (y_kt (25 + 2 * Int.toNat k) 4 (some (some (y_vi 1), (y_sI g5 (25 + 2 * Int.toNat k) 0 v)))))))))))) else y_ci (y_se z_pg sc d 126 [y_vr 2, y_vi u] h) (fun u7 g6 => some (some (y_vi u7), g6))) = R) : y_se z_pg sc (d + 1) 110 [y_vr 2, y_vi k, y_vi v, y_vi r] h = R := by
  rw [e110, b110_0, if_neg (by omega), if_pos (by omega), if_neg (by omega), if_neg (by omega), h1]
  by_cases c1 : v = 1
  · rw [if_pos c1, yci_s, if_neg (by omega), h2, yci_s]; exact hR
  · rw [if_neg c1, if_pos (by omega), yci_s, if_neg (by omega), h2, yci_s]; exact hR
theorem l97w (d : Nat) (hd : 2 ≤ d) (hg : g_ok (hv h)) (k v r : Int) (hk : 0 ≤ k ∧ k < 6) (hr : 0 ≤ r ∧ r < 6) (F : Int → Int) (rm : Int) (er : g_rm (hv h) = rm) (eF : ∀ j, y_I h 97 (Int.toNat (48 * r + j)) = F j) : y_ev z_pg sc d pgX8_rule 97 [some (y_vr 94), some (y_vi k), some (y_vi v), some (y_vi r), some (y_vi 1), some (y_vi 0), some (y_vi 0), none] [] h = @ite _ (u_cok F rm rm.toNat 0 0) (Classical.propDecidable _) (some (some (y_vi 1), y_sI (y_fill h 113 (Int.toNat (8 * k)) (Int.toNat (8 * k + rm)) (fun q => F (q - 8 * k))) 112 (Int.toNat k) v)) (y_ci (y_se z_pg sc d 140 [y_vr 94, y_vi 3] h) (fun u g => some (some (y_vi u), g))) := by
  have kr := hg.2.1
  have e1 : (fun j => y_I h 97 (Int.toNat (48 * r + j))) = F := funext eF
  subst e1
  subst er
  rw [l97 d hd hg k v r hk hr (g_rm (hv h)).toNat 0 0 none (by omega) (by omega)]
  have e2 : (fun q : Nat => if (1 : Int) = 0 then 0 else y_I h 97 (Int.toNat (48 * r + ((q : Int) - 8 * k)))) = (fun q : Nat => y_I h 97 (Int.toNat (48 * r + ((q : Int) - 8 * k)))) := funext fun q => if_neg (by omega)
  rw [e2]
theorem o_rule (I : INV N h) (hN : N ≤ 1000) (k v r : Int) : OP sc 110 210 [y_vr 2, y_vi k, y_vi v, y_vi r] [y_vr 94, y_vi k, y_vi v, y_vi r] N h := by
  have II := I
  obtain ⟨a, ⟨hF, hD, X, hg⟩, i2, i3, -, i5, -⟩ := I
  have kr := hg.2.1
  have ha := X.1
  have x2 := X.2.2.2.1
  have ef : ∀ f b k, ¬ (b = 2 ∧ k = 12) → b ≠ 61 → y_I (x_fd h f) b k = y_I h b k := fun f b k h1 h2 => xfd_o h1 h2
  by_cases c1 : 0 ≤ k ∧ k ≤ 5
  · by_cases c2 : 1 ≤ v ∧ v ≤ 5
    · by_cases c3 : v = 1 ∨ v = 2
      · by_cases c4 : 0 ≤ r ∧ r ≤ 5
        · obtain ⟨j1, j2, j3⟩ := i2 r (by omega) (by omega)
          have h79 : ∀ d, 59 ≤ d → y_se z_pg sc d 79 [y_vr 3, y_vi r] h = some (some (y_vi 1), h) := fun d hd => by rw [s79a d (by omega), bi_t c4]
          by_cases c5 : y_I h 96 (Int.toNat r) = -1
          · refine OP_fd II hN 1 (by omega) (fun d hd => ?_) (fun d hd => ?_)
            · refine x110 d k v r c1 c3 _ _ (h79 d hd) (s129 d (by omega) hF X hg r (by omega)) ?_
              rw [j1, if_pos c5, if_neg (by omega)]
            · rw [m210 d hd k v r c1 c2 (fun _ => c4), if_pos c3, b210_47, if_neg (by omega), yi_t (by omega), ef _ _ _ (by omega) (by omega), if_pos (by omega)]
          · by_cases c6 : y_I h 96 (Int.toNat r) = g_rm (hv h)
            · have ec : u_cok (fun i => y_I h (5 + Int.toNat r) (Int.toNat i)) (g_rm (hv h)) (g_rm (hv h)).toNat 0 0 ↔ u_cok (fun i => y_I h 97 (Int.toNat (48 * r + i))) (g_rm (hv h)) (g_rm (hv h)).toNat 0 0 := u_cok_cg fun j j1 j2 => j3 j (by omega) (by omega)
              by_cases c7 : u_cok (fun i => y_I h 97 (Int.toNat (48 * r + i))) (g_rm (hv h)) (g_rm (hv h)).toNat 0 0
              · generalize e1 : y_sI (y_cpI h (5 + Int.toNat r) 0 ((25 + 2 * Int.toNat k) + 1) 0 (Int.toNat (g_rm (hv h)))) (25 + 2 * Int.toNat k) 0 v = h1
                have h1o : ∀ b j, ¬ (25 ≤ b ∧ b ≤ 36) → y_I h1 b j = y_I h b j := fun b j q => by rw [← e1, yI_sI_o (by omega), yI_cpI, if_neg (by omega)]
                have h1v : hv h1 = hv h := hv_cg fun b j q => h1o b j (by unfold RG at q; omega)
                have e97 : ∀ j, y_I h1 97 j = y_I h 97 j := fun j => h1o _ _ (by omega)
                refine OP_do 1 h1 (y_sI (y_fill h1 113 (Int.toNat (8 * k)) (Int.toNat (8 * k + g_rm (hv h))) (fun q => y_I h 97 (Int.toNat (48 * r + ((q : Int) - 8 * k))))) 112 (Int.toNat k) v) (fun d hd => ?_) (fun d hd => ?_) (INV_ru II (fun b j q => ?_) (by rw [← e1]; rfl) ?_)
                · refine x110 d k v r c1 c3 _ _ (h79 d hd) (s129 d (by omega) hF X hg r (by omega)) ?_
                  rw [j1, if_neg c5, if_pos c6, if_pos (ec.mpr c7), if_pos rfl, yi_t (by omega), yi_t (by omega), yU0 (by omega), hF, yH0 ha, yR (by omega), yU1 (by omega), x2, lR (by omega), lU1 (by omega), ycg_t (by omega), yhb_s, yi_t (by omega), yU0 (by omega)]
                  rw [show Int.toNat 0 = 0 from rfl, e1]
                · rw [m210 d hd k v r c1 c2 (fun _ => c4), if_pos c3, b210_47, if_neg (by omega), yi_t (by omega), h1o _ _ (by omega), if_neg (by omega), b210_67, if_neg (by omega), yi_t (by omega), h1o _ _ (by omega), hvrm, h1v, if_pos c6, b210_91, l97w d (by omega) (by rw [h1v]; exact hg) k v r (by omega) (by omega) _ (g_rm (hv h)) (by rw [h1v]) (fun j => e97 _), if_pos c7]
                · rw [yI_sI_o (by omega), yI_fill_o (by omega), h1o _ _ (by omega)]
                · have cin := (u_cok_in (by omega) c7).1
                  have cij := (u_cok_in (by omega) c7).2
                  intro l l1 l2
                  obtain ⟨p1, p2, p3⟩ := i5 l l1 l2
                  have gv : hv (y_sI (y_fill h1 113 (Int.toNat (8 * k)) (Int.toNat (8 * k + g_rm (hv h))) (fun q => y_I h 97 (Int.toNat (48 * r + ((q : Int) - 8 * k))))) 112 (Int.toNat k) v) = hv h := hv_cg fun b j q => by
                    unfold RG at q
                    rw [yI_sI_o (by omega), yI_fill_o (by omega), h1o _ _ (by omega)]
                  rw [gv]
                  by_cases el : l = k
                  · subst el
                    rw [yI_sI_o (by omega), yI_fill_o (by omega), ← e1, yI_sI_e (by omega), yI_sI_e (by omega)]
                    refine ⟨rfl, by omega, fun _ i i1 i2 => ?_⟩
                    have f1 : ∀ j, 0 ≤ j → j < g_rm (hv h) → y_I (y_sI (y_fill (y_sI (y_cpI h (5 + Int.toNat r) 0 ((25 + 2 * Int.toNat l) + 1) 0 (Int.toNat (g_rm (hv h)))) (25 + 2 * Int.toNat l) 0 v) 113 (Int.toNat (8 * l)) (Int.toNat (8 * l + g_rm (hv h))) (fun q => y_I h 97 (Int.toNat (48 * r + ((q : Int) - 8 * l))))) 112 (Int.toNat l) v) 113 (Int.toNat (8 * l + j)) = y_I h 97 (Int.toNat (48 * r + j)) := fun j j1 j2 => by
                      rw [yI_sI_o (by omega), yI_fill_e (by omega)]
                      congr 1
                      omega
                    rw [f1 i i1 i2]
                    refine ⟨?_, (cin i (by omega) (by omega)).1, fun j k1 k2 e => ?_⟩
                    · rw [yI_sI_o (by omega), yI_fill_o (by omega), yI_sI_o (by omega), yI_cpI, if_pos (by omega), show 0 + (Int.toNat i - 0) = Int.toNat i by omega]
                      exact j3 i i1 (by omega)
                    · rw [f1 j k1 k2] at e
                      exact cij i j (by omega) (by omega) (by omega) (by omega) e
                  · have q1 : y_I h1 (25 + 2 * Int.toNat l) 0 = y_I h (25 + 2 * Int.toNat l) 0 := by rw [← e1, yI_sI_o (by omega), yI_cpI, if_neg (by omega)]
                    have q2 : ∀ j, y_I h1 (26 + 2 * Int.toNat l) j = y_I h (26 + 2 * Int.toNat l) j := fun j => by rw [← e1, yI_sI_o (by omega), yI_cpI, if_neg (by omega)]
                    have f1 : ∀ j, 0 ≤ j → j < g_rm (hv h) → y_I (y_sI (y_fill h1 113 (Int.toNat (8 * k)) (Int.toNat (8 * k + g_rm (hv h))) (fun q => y_I h 97 (Int.toNat (48 * r + ((q : Int) - 8 * k))))) 112 (Int.toNat k) v) 113 (Int.toNat (8 * l + j)) = y_I h 113 (Int.toNat (8 * l + j)) := fun j j1 j2 => by
                      rw [yI_sI_o (by omega), yI_fill_o (by omega), h1o _ _ (by omega)]
                    rw [yI_sI_o (by omega), yI_fill_o (by omega), q1, yI_sI_o (by omega), yI_fill_o (by omega), h1o _ _ (by omega)]
                    refine ⟨p1, p2, fun c i i1 i2 => ?_⟩
                    obtain ⟨s1, s2, s3⟩ := p3 c i i1 i2
                    rw [f1 i i1 i2, yI_sI_o (by omega), yI_fill_o (by omega), q2]
                    refine ⟨s1, s2, fun j k1 k2 e => s3 j k1 k2 ?_⟩
                    rw [f1 j k1 k2] at e
                    exact e
              · refine OP_fd II hN 3 (by omega) (fun d hd => ?_) (fun d hd => ?_)
                · refine x110 d k v r c1 c3 _ _ (h79 d hd) (s129 d (by omega) hF X hg r (by omega)) ?_
                  rw [j1, if_neg c5, if_pos c6, if_neg (fun q => c7 (ec.mp q)), if_neg (by omega)]
                · have h1v : hv (x_fd h 3) = hv h := hv_cg fun b j q => ef 3 b j (by unfold RG at q; omega) (by unfold RG at q; omega)
                  have e97 : ∀ j, y_I (x_fd h 3) 97 j = y_I h 97 j := fun j => ef 3 _ _ (by omega) (by omega)
                  rw [m210 d hd k v r c1 c2 (fun _ => c4), if_pos c3, b210_47, if_neg (by omega), yi_t (by omega), ef _ _ _ (by omega) (by omega), if_neg (by omega), b210_67, if_neg (by omega), yi_t (by omega), ef _ _ _ (by omega) (by omega), hvrm, h1v, if_pos c6, b210_91, l97w d (by omega) (by rw [h1v]; exact hg) k v r (by omega) (by omega) _ (g_rm (hv h)) (by rw [h1v]) (fun j => e97 _), if_neg c7]
            · refine OP_fd II hN 5 (by omega) (fun d hd => ?_) (fun d hd => ?_)
              · refine x110 d k v r c1 c3 _ _ (h79 d hd) (s129 d (by omega) hF X hg r (by omega)) ?_
                rw [j1, if_neg c5, if_neg c6, if_neg (by omega)]
              · rw [m210 d hd k v r c1 c2 (fun _ => c4), if_pos c3, b210_47, if_neg (by omega), yi_t (by omega), ef _ _ _ (by omega) (by omega), if_neg (by omega), b210_67, if_neg (by omega), yi_t (by omega), ef _ _ _ (by omega) (by omega), ef _ _ _ (by omega) (by omega), hvrm, if_neg c6]
        · refine OP_same II (-1) (fun d hd => ?_) (fun d hd => m210f d hd k v r (Or.inr (Or.inr ⟨c3, c4⟩)))
          rw [e110, b110_0, if_neg (by omega), if_pos (by omega), if_neg (by omega), if_neg (by omega), s79a d (by omega), yci_s, if_pos (bi_f c4)]
          by_cases c5 : v = 1
          · rw [if_pos c5]
          · rw [if_neg c5, if_pos (by omega)]
      · have h1o : ∀ b j, ¬ (25 ≤ b ∧ b ≤ 36) → y_I (y_sI h (25 + 2 * Int.toNat k) 0 v) b j = y_I h b j := fun b j q => by rw [yI_sI_o (by omega)]
        refine OP_do 1 (y_sI h (25 + 2 * Int.toNat k) 0 v) (y_sI (y_fill (y_sI h (25 + 2 * Int.toNat k) 0 v) 113 (Int.toNat (8 * k)) (Int.toNat (8 * k + g_rm (hv h))) (fun q => if (0 : Int) = 0 then 0 else y_I (y_sI h (25 + 2 * Int.toNat k) 0 v) 97 (Int.toNat (48 * r + (q - 8 * k))))) 112 (Int.toNat k) v) (fun d hd => ?_) (fun d hd => ?_) (INV_ru II (fun b j q => ?_) rfl ?_)
        · rw [e110, b110_0, if_neg (by omega), if_pos (by omega), if_neg (by omega), if_neg (by omega), if_neg (by omega), if_neg (by omega), yi_t (by omega), yU0 (by omega)]
        · have q := l163 (sc := sc) d (by omega) k v r 0 0 none (y_sI h (25 + 2 * Int.toNat k) 0 v) (by omega) (Or.inl rfl) (g_rm (hv h)) (h1o _ _ (by omega)) kr (g_rm (hv h)).toNat 0 (by omega) (by omega)
          rw [Int.add_zero, y_fill_0] at q
          rw [m210 d hd k v r c1 c2 (fun q => absurd q c3), if_neg c3, b210_47, if_pos rfl, b210_67, if_pos rfl, b210_91, b210_97, h1o 94 10 (by omega), hvrm]
          by_cases c5 : 0 < g_rm (hv h)
          · rw [if_pos c5, if_pos rfl, b210_160, q]
          · rw [if_neg c5, b210_160, q]
        · rw [yI_sI_o (by omega), yI_fill_o (by omega), h1o _ _ (by omega)]
        · intro l l1 l2
          obtain ⟨p1, p2, p3⟩ := i5 l l1 l2
          have gv : hv (y_sI (y_fill (y_sI h (25 + 2 * Int.toNat k) 0 v) 113 (Int.toNat (8 * k)) (Int.toNat (8 * k + g_rm (hv h))) (fun q => if (0 : Int) = 0 then 0 else y_I (y_sI h (25 + 2 * Int.toNat k) 0 v) 97 (Int.toNat (48 * r + (q - 8 * k))))) 112 (Int.toNat k) v) = hv h := hv_cg fun b j q => by
            unfold RG at q
            rw [yI_sI_o (by omega), yI_fill_o (by omega), h1o _ _ (by omega)]
          rw [gv]
          by_cases el : l = k
          · subst el
            rw [yI_sI_o (by omega), yI_fill_o (by omega), yI_sI_e (by omega), yI_sI_e (by omega)]
            exact ⟨rfl, by omega, fun q => absurd q c3⟩
          · have q1 : y_I (y_sI h (25 + 2 * Int.toNat k) 0 v) (25 + 2 * Int.toNat l) 0 = y_I h (25 + 2 * Int.toNat l) 0 := yI_sI_o (by omega)
            have q2 : ∀ j, y_I (y_sI h (25 + 2 * Int.toNat k) 0 v) (26 + 2 * Int.toNat l) j = y_I h (26 + 2 * Int.toNat l) j := fun j => yI_sI_o (by omega)
            have f1 : ∀ j, 0 ≤ j → j < g_rm (hv h) → y_I (y_sI (y_fill (y_sI h (25 + 2 * Int.toNat k) 0 v) 113 (Int.toNat (8 * k)) (Int.toNat (8 * k + g_rm (hv h))) (fun q => if (0 : Int) = 0 then 0 else y_I (y_sI h (25 + 2 * Int.toNat k) 0 v) 97 (Int.toNat (48 * r + (q - 8 * k))))) 112 (Int.toNat k) v) 113 (Int.toNat (8 * l + j)) = y_I h 113 (Int.toNat (8 * l + j)) := fun j j1 j2 => by
              rw [yI_sI_o (by omega), yI_fill_o (by omega), h1o _ _ (by omega)]
            rw [yI_sI_o (by omega), yI_fill_o (by omega), q1, yI_sI_o (by omega), yI_fill_o (by omega), h1o _ _ (by omega)]
            refine ⟨p1, p2, fun c i i1 i2 => ?_⟩
            obtain ⟨s1, s2, s3⟩ := p3 c i i1 i2
            rw [f1 i i1 i2, yI_sI_o (by omega), yI_fill_o (by omega), q2]
            refine ⟨s1, s2, fun j k1 k2 e => s3 j k1 k2 ?_⟩
            rw [f1 j k1 k2] at e
            exact e
    · refine OP_same II (-1) (fun d hd => ?_) (fun d hd => m210f d hd k v r (Or.inr (Or.inl c2)))
      rw [e110, b110_0, if_neg (by omega), if_pos (by omega)]
      by_cases c3 : v < 1
      · rw [if_pos c3]
      · rw [if_neg c3, if_pos (by omega)]
  · refine OP_same II (-1) (fun d hd => ?_) (fun d hd => m210f d hd k v r (Or.inl c1))
    rw [e110, b110_0]
    by_cases c3 : k < 0
    · rw [if_pos c3]
    · rw [if_neg c3, if_neg (by omega)]
theorem o_mark (I : INV N h) (hN : N ≤ 1000) (k v : Int) : OP sc 111 212 [y_vr 2, y_vi k, y_vi v] [y_vr 94, y_vi k, y_vi v] N h := by
  have II := I
  obtain ⟨a, ⟨hF, hD, X, hg⟩, i2, i3, -, i5, -⟩ := I
  have kr := hg.2.1
  have ha := X.1
  have x2 := X.2.2.2.1
  have ef : ∀ f b k, ¬ (b = 2 ∧ k = 12) → b ≠ 61 → y_I (x_fd h f) b k = y_I h b k := fun f b k h1 h2 => xfd_o h1 h2
  by_cases c1 : 0 ≤ k ∧ k ≤ 5
  · by_cases c2 : 1 ≤ v ∧ v ≤ 5
    · obtain ⟨p1, p2, p3⟩ := i5 k (by omega) (by omega)
      have hx : ∀ d, 59 ≤ d → y_se z_pg sc (d + 1) 111 [y_vr 2, y_vi k, y_vi v] h = (if y_I h 112 (Int.toNat k) = 0 then y_ci (y_se z_pg sc d 126 [y_vr 2, y_vi 1] h) (fun u g => some (some (y_vi u), g)) else if (y_I h 112 (Int.toNat k) = v ∨ (y_I h 112 (Int.toNat k) = 2 ∧ v = 1)) then some (some (y_vi (if 2 < v then v else if g_rm (hv h) = 0 then -9 else if v = 1 then y_I h 113 (Int.toNat (8 * k)) else y_I h 113 (Int.toNat (8 * k + g_rm (hv h) - 1)))), h) else y_ci (y_se z_pg sc d 126 [y_vr 2, y_vi 3] h) (fun u g => some (some (y_vi u), g))) := by
        intro d hd
        rw [e111, b111_0, if_neg (by omega), if_pos (by omega), if_neg (by omega), if_neg (by omega), yi_t (by omega), yU0 (by omega), p1]
        by_cases c3 : y_I h 112 (Int.toNat k) = 0
        · rw [if_pos c3, if_pos c3]
        rw [if_neg c3, if_neg c3, yU0 (by omega), s59 d (by omega) k v (by omega), p1, yci_s]
        by_cases c4 : y_I h 112 (Int.toNat k) = v ∨ (y_I h 112 (Int.toNat k) = 2 ∧ v = 1)
        · rw [if_neg (by rw [bi_t c4]; omega), if_pos c4, yU0 (by omega), s58 d (by omega) k (by omega), p1, yci_s]
          by_cases c5 : 2 < v
          · rw [if_pos (bi_f (by omega)), if_pos c5]
          · rw [if_neg (by rw [bi_t (by omega)]; omega), if_neg c5, hF, yH0 ha, x2]
            by_cases c6 : g_rm (hv h) = 0
            · rw [if_pos (by omega), if_pos c6]
            · have p3 := p3 (by omega)
              rw [if_neg (by omega), if_neg c6, yU0 (by omega)]
              by_cases c7 : v = 1
              · rw [if_neg (by omega), if_pos c7, yU1 (by omega), lU1 (by omega), yi_t (by omega)]
                have e := (p3 0 (by omega) (by omega)).1
                rw [Int.add_zero, show 26 + 2 * Int.toNat k = 25 + 2 * Int.toNat k + 1 by omega] at e
                rw [e]
              · rw [if_pos (by omega), if_neg c7, yH0 ha, yr_t (by omega), yU1 (by omega), lU1 (by omega), yi_t (by omega)]
                have e := (p3 (g_rm (hv h) - 1) (by omega) (by omega)).1
                rw [show 26 + 2 * Int.toNat k = 25 + 2 * Int.toNat k + 1 by omega, show 8 * k + (g_rm (hv h) - 1) = 8 * k + g_rm (hv h) - 1 by omega] at e
                rw [e]
        · rw [if_pos (bi_f c4), if_neg c4]
      have hm : ∀ d, 59 ≤ d → ∀ g : y_Hp, y_I g 112 (Int.toNat k) = y_I h 112 (Int.toNat k) → y_se z_pg sc (d + 1) 212 [y_vr 94, y_vi k, y_vi v] g = (if y_I h 112 (Int.toNat k) = 0 then y_ci (y_se z_pg sc d 140 [y_vr 94, y_vi 1] g) (fun u14 g13 => some (some (y_vi u14), g13)) else if (y_I h 112 (Int.toNat k) = v ∨ (y_I h 112 (Int.toNat k) = 2 ∧ v = 1)) then y_ci (y_se z_pg sc d 211 [y_vr 94, y_vi k, y_vi v] g) (fun u6 g5 => some (some (y_vi u6), g5)) else y_ci (y_se z_pg sc d 140 [y_vr 94, y_vi 3] g) (fun u8 g7 => some (some (y_vi u8), g7))) := by
        intro d hd g e
        rw [e212, b212_0, s209 d (by omega), yci_s, if_neg (by rw [bi_t c1]; omega), s136 d (by omega), yci_s, if_neg (by rw [bi_t c2]; omega), yi_t (by omega), yi_t (by omega), yi_t (by omega), e]
        by_cases q0 : y_I h 112 (Int.toNat k) = 0
        · rw [if_pos q0, if_pos q0]
        rw [if_neg q0, if_neg q0]
        by_cases q1 : y_I h 112 (Int.toNat k) = v
        · rw [if_pos q1, if_pos (Or.inl q1)]
        rw [if_neg q1]
        by_cases q2 : v = 1
        · rw [if_pos q2]
          by_cases q3 : y_I h 112 (Int.toNat k) = 2
          · rw [if_pos q3, if_pos (Or.inr ⟨q3, q2⟩)]
          · rw [if_neg q3, if_neg (by omega)]
        · rw [if_neg q2, if_neg (by omega)]
      by_cases c3 : y_I h 112 (Int.toNat k) = 0
      · refine OP_fd II hN 1 (by omega) (fun d hd => ?_) (fun d hd => ?_)
        · rw [hx d hd, if_pos c3]
        · rw [hm d hd _ (ef _ _ _ (by omega) (by omega)), if_pos c3]
      · by_cases c4 : y_I h 112 (Int.toNat k) = v ∨ (y_I h 112 (Int.toNat k) = 2 ∧ v = 1)
        · refine OP_same II (if 2 < v then v else if g_rm (hv h) = 0 then -9 else if v = 1 then y_I h 113 (Int.toNat (8 * k)) else y_I h 113 (Int.toNat (8 * k + g_rm (hv h) - 1))) (fun d hd => ?_) (fun d hd => ?_)
          · rw [hx d hd, if_neg c3, if_pos c4]
          · rw [hm d hd _ rfl, if_neg c3, if_pos c4]
            obtain ⟨d, rfl⟩ : ∃ e, d = e + 1 := ⟨d - 1, by omega⟩
            rw [e211, b211_0, hvrm]
            by_cases c5 : 2 < v
            · rw [if_pos c5, if_pos c5, yci_s]
            rw [if_neg c5, if_neg c5]
            by_cases c6 : g_rm (hv h) = 0
            · rw [if_pos c6, if_pos c6, yci_s]
            rw [if_neg c6, if_neg c6]
            by_cases c7 : v = 1
            · rw [if_pos c7, if_pos c7, yr_t (by omega), yi_t (by omega), yci_s]
            · rw [if_neg c7, if_neg c7, yr_t (by omega), yr_t (by omega), yr_t (by omega), yi_t (by omega), yci_s]
        · refine OP_fd II hN 3 (by omega) (fun d hd => ?_) (fun d hd => ?_)
          · rw [hx d hd, if_neg c3, if_neg c4]
          · rw [hm d hd _ (ef _ _ _ (by omega) (by omega)), if_neg c3, if_neg c4]
    · refine OP_same II (-1) (fun d hd => ?_) (fun d hd => ?_)
      · rw [e111, b111_0, if_neg (by omega), if_pos (by omega)]
        by_cases c3 : v < 1
        · rw [if_pos c3]
        · rw [if_neg c3, if_pos (by omega)]
      · rw [e212, b212_0, s209 d (by omega), yci_s, if_neg (by rw [bi_t c1]; omega), s136 d (by omega), yci_s, if_pos (bi_f c2)]
  · refine OP_same II (-1) (fun d hd => ?_) (fun d hd => ?_)
    · rw [e111, b111_0]
      by_cases c3 : k < 0
      · rw [if_pos c3]
      · rw [if_neg c3, if_neg (by omega)]
    · rw [e212, b212_0, s209 d (by omega), yci_s, if_pos (bi_f c1)]
end RU
