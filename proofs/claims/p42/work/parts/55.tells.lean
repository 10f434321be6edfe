/-! CALLS: part, reader, want, judge, missed, who -/
noncomputable def u_msk (P : Int → Prop) (s k : Int) (n : Nat) : Int := u_fold (fun s w => @ite _ (P w) (Classical.propDecidable _) (y_or s (y_shl 1 w)) s) s k n
theorem u_msk_r {P : Int → Prop} : ∀ (n : Nat) (s k : Int), y_inr s → y_inr (u_msk P s k n)
  | 0, s, k, h => h
  | n + 1, s, k, h => by
    unfold u_msk
    rw [u_fold_s]
    refine u_msk_r n _ (k + 1) ?_
    by_cases c : P k
    · rw [if_pos c]; exact y_or_r
    · rw [if_neg c]; exact h
theorem u_msk_bs {P : Int → Prop} : ∀ (n : Nat) (s k : Int), 0 ≤ k → k + n ≤ 32 → ∀ q, 0 ≤ q → q < 32 → (u_bs (u_msk P s k n) q ↔ (u_bs s q ∨ (k ≤ q ∧ q < k + n ∧ P q)))
  | 0, s, k, h1, h2, q, q1, q2 => by
    show u_bs s q ↔ _
    exact ⟨Or.inl, fun e => e.elim id fun e => by omega⟩
  | n + 1, s, k, h1, h2, q, q1, q2 => by
    have ih := fun s => u_msk_bs (P := P) n s (k + 1) (by omega) (by omega) q q1 q2
    unfold u_msk at ih ⊢
    rw [u_fold_s, ih]
    by_cases c : P k
    · rw [if_pos c, ub_or, ub_shl (by omega) (by omega)]
      constructor
      · rintro ((e | e) | e)
        · exact Or.inl e
        · subst e; exact Or.inr ⟨Int.le_refl _, by omega, c⟩
        · exact Or.inr ⟨by omega, by omega, e.2.2⟩
      · rintro (e | e)
        · exact Or.inl (Or.inl e)
        · by_cases e2 : q = k
          · exact Or.inl (Or.inr e2)
          · exact Or.inr ⟨by omega, by omega, e.2.2⟩
    · rw [if_neg c]
      constructor
      · rintro (e | e)
        · exact Or.inl e
        · exact Or.inr ⟨by omega, by omega, e.2.2⟩
      · rintro (e | e)
        · exact Or.inl e
        · by_cases e2 : q = k
          · subst e2; exact absurd e.2.2 c
          · exact Or.inr ⟨by omega, by omega, e.2.2⟩
theorem u_msk_s1 {P : Int → Prop} {s k : Int} {n : Nat} (c : P k) : u_msk P s k (n + 1) = u_msk P (y_or s (y_shl 1 k)) (k + 1) n := by
  unfold u_msk
  rw [u_fold_s, if_pos c]
theorem u_msk_s0 {P : Int → Prop} {s k : Int} {n : Nat} (c : ¬ P k) : u_msk P s k (n + 1) = u_msk P s (k + 1) n := by
  unfold u_msk
  rw [u_fold_s, if_neg c]
/-- what a reader tells, what a want tells -/
noncomputable def g_rt (G : u_G) (r k : Int) : Int := if k = 2 then u_msk (fun w => g_rd G w = r) 0 0 (g_wm G).toNat else G 102 (Int.toNat (3 * r + if k = 3 then 2 else k))
noncomputable def g_wt (G : u_G) (P : u_P) (w k : Int) : Int := if k < 4 then G 103 (Int.toNat (4 * w + k)) else if k = 4 then P w else u_msk (fun q => g_na G (g_rd G w) q (g_pt G w)) 0 0 (g_rm G).toNat
theorem p_ok_cg {G : u_G} {P Q : u_P} (e : p_eq G P Q) (hp : p_ok G P) : p_ok G Q := fun w h1 h2 => e w h1 h2 ▸ hp w h1 h2
theorem y_inr_0 : y_inr 0 := by unfold y_inr; omega
section TE
variable {sc : z_Sc} {h : y_Hp} {N : Nat} {a : Nat}
theorem s5 (d : Nat) (hd : 1 ≤ d) (X : xm h a) (hg : g_ok (hv h)) (p k : Int) (hp : 0 ≤ p ∧ p < g_pm (hv h)) (hk : 0 ≤ k ∧ k ≤ 2) : y_se z_pg sc d 5 [y_vr a, y_vi p, y_vi k] h = some (some (y_vi (hv h 101 (Int.toNat (3 * p + k)))), h) := by
  rcases d with _ | d
  · omega
  obtain ⟨ha, x0, x1, x2, x3, x4, x5, x6, x7, x8, x9, x10, x11, x12, x13, x14, x15, x16, x17, x18⟩ := X
  have kp := hg.1
  rw [e5, b5_0]
  simp (disch := first | omega | assumption) only [yH0, yH1, yH2, yH3, lH1, lH2, lH3, x4, x5, x6, yi_t]
  rcases (show k = 0 ∨ k = 1 ∨ k = 2 by omega) with rfl | rfl | rfl
  · rw [if_pos rfl, Int.add_zero]; rfl
  · rw [if_neg (by omega), if_pos rfl]; rfl
  · rw [if_neg (by omega), if_neg (by omega)]; rfl
theorem s6 (d : Nat) (hd : 1 ≤ d) (X : xm h a) (hg : g_ok (hv h)) (r k : Int) (hr : 0 ≤ r ∧ r < g_rm (hv h)) (hk : 0 ≤ k ∧ k ≤ 3) : y_se z_pg sc d 6 [y_vr a, y_vi r, y_vi k] h = some (some (y_vi (g_rt (hv h) r k)), h) := by
  rcases d with _ | d
  · omega
  obtain ⟨ha, x0, x1, x2, x3, x4, x5, x6, x7, x8, x9, x10, x11, x12, x13, x14, x15, x16, x17, x18⟩ := X
  have kr := hg.2.1
  have kw := hg.2.2.1
  have ko := (hg.2.2.2.2.2.2.2.1 r hr.1 hr.2).2
  have e10 := x10 r hr.1 hr.2
  have em : y_I h (a + 7) (Int.toNat r) = u_msk (fun w => g_rd (hv h) w = r) 0 0 (g_wm (hv h)).toNat := ub_ext e10.1 (u_msk_r _ _ _ y_inr_0) fun w w1 w2 => by
    rw [e10.2 w w1 w2, u_msk_bs _ _ _ (by omega) (by omega) w w1 w2]
    constructor
    · exact fun e => Or.inr ⟨w1, by omega, e.2⟩
    · rintro (e | e)
      · exact absurd e ub_0
      · exact ⟨by omega, e.2.2⟩
  rw [e6, b6_0]
  simp (disch := first | omega | assumption) only [yH0, yH5, yH6, yH7, yH8, lH5, lH6, lH7, lH8, x8, x9, x11, yi_t]
  unfold g_rt
  rcases (show k = 0 ∨ k = 1 ∨ k = 2 ∨ k = 3 by omega) with rfl | rfl | rfl | rfl
  · rw [if_pos rfl, if_neg (by omega), if_neg (by omega), Int.add_zero]; rfl
  · rw [if_neg (by omega), if_pos rfl, if_neg (by omega), if_neg (by omega)]; rfl
  · rw [if_neg (by omega), if_neg (by omega), if_pos rfl, if_pos rfl, em]
  · rw [if_neg (by omega), if_neg (by omega), if_neg (by omega), if_neg (show ¬ (3 : Int) = 2 by omega), if_pos (show (3 : Int) = 3 from rfl)]
    show _ = some (some (y_vi (g_or (hv h) r)), h)
    rcases ko with e | e
    · rw [if_pos e, e]
    · rw [if_neg (by omega), e]
theorem l184 (d : Nat) (hd : 1 ≤ d) (hg : g_ok (hv h)) (r k : Int) (hr : 0 ≤ r ∧ r < g_rm (hv h)) (hk : 0 ≤ k ∧ k ≤ 3) : ∀ (n : Nat) (w s : Int), 0 ≤ w → w + n = g_wm (hv h) → y_inr s → y_ev z_pg sc d pgX8_readerTells 5 [some (y_vr 94), some (y_vi r), some (y_vi k), some (y_vi s), some (y_vi w)] [] h = some (some (y_vi (if k = 2 then u_msk (fun w => g_rd (hv h) w = r) s w n else hv h 102 (Int.toNat (3 * r + if k = 3 then 2 else k)))), h)
  | 0, w, s, hw, hn, hs => by
    have kr := hg.2.1
    rw [b184_5, hvwm, if_neg (by omega)]
    simp (disch := omega) only [yr_t, yi_t, hv102]
    by_cases c1 : k = 2
    · rw [if_pos c1, if_pos c1]; rfl
    · rw [if_neg c1, if_neg c1]
      by_cases c2 : k = 3
      · rw [if_pos c2, if_pos c2]
      · rw [if_neg c2, if_neg c2]
  | n + 1, w, s, hw, hn, hs => by
    have kw := hg.2.2.1
    rw [b184_5, hvwm, if_pos (by omega), s173 d hd w (by omega), yci_s, y_or0 hs]
    by_cases c : g_rd (hv h) w = r
    · rw [if_pos c, yr_t (by omega), l184 d hd hg r k hr hk n (w + 1) _ (by omega) (by omega) y_or_r, u_msk_s1 (P := fun w => g_rd (hv h) w = r) c]
    · rw [if_neg c, yr_t (by omega), l184 d hd hg r k hr hk n (w + 1) _ (by omega) (by omega) hs, u_msk_s0 (P := fun w => g_rd (hv h) w = r) c]
theorem s184 (d : Nat) (hd : 2 ≤ d) (hg : g_ok (hv h)) (r k : Int) (hr : 0 ≤ r ∧ r < g_rm (hv h)) (hk : 0 ≤ k ∧ k ≤ 3) : y_se z_pg sc d 184 [y_vr 94, y_vi r, y_vi k] h = some (some (y_vi (g_rt (hv h) r k)), h) := by
  rcases d with _ | d
  · omega
  have kw := hg.2.2.1
  rw [e184, b184_0, l184 d (by omega) hg r k hr hk (g_wm (hv h)).toNat 0 0 (by omega) (by omega) y_inr_0]
  rfl
theorem s128 (d : Nat) (hd : 2 ≤ d) (hF : y_F h 2 10 = a) (X : xm h a) (hg : g_ok (hv h)) (w k : Int) (hw : 0 ≤ w ∧ w < g_wm (hv h)) (hk : 0 ≤ k ∧ k ≤ 5) : y_se z_pg sc d 128 [y_vr 2, y_vi w, y_vi k] h = some (some (y_vi (g_wt (hv h) (pl h 21) w k)), h) := by
  rcases d with _ | _ | d
  · omega
  · omega
  obtain ⟨ha, x0, x1, x2, x3, x4, x5, x6, x7, x8, x9, x10, x11, x12, x13, x14, x15, x16, x17, x18⟩ := X
  have kr := hg.2.1
  have kw := hg.2.2.1
  have e16 := x16 w hw.1 hw.2
  have em : y_I h (a + 13) (Int.toNat w) = u_msk (fun q => g_na (hv h) (g_rd (hv h) w) q (g_pt (hv h) w)) 0 0 (g_rm (hv h)).toNat := ub_ext e16.1 (u_msk_r _ _ _ y_inr_0) fun q q1 q2 => by
    rw [e16.2 q q1 q2, u_msk_bs _ _ _ (by omega) (by omega) q q1 q2]
    constructor
    · exact fun e => Or.inr ⟨q1, by omega, e.2⟩
    · rintro (e | e)
      · exact absurd e ub_0
      · exact ⟨by omega, e.2.2⟩
  rw [e128, b128_0, hF, e7, b7_0]
  simp (disch := first | omega | assumption) only [yH0, yH9, yH10, yH11, yH12, yH13, lH9, lH10, lH11, lH12, lH13, x12, x13, x14, x15, yi_t]
  unfold g_wt
  rcases (show k = 0 ∨ k = 1 ∨ k = 2 ∨ k = 3 ∨ k = 4 ∨ k = 5 by omega) with rfl | rfl | rfl | rfl | rfl | rfl
  · rw [if_neg (by omega), if_pos rfl, yci_s, if_pos (by omega), Int.add_zero]; rfl
  · rw [if_neg (by omega), if_neg (by omega), if_pos rfl, yci_s, if_pos (by omega)]; rfl
  · rw [if_neg (by omega), if_neg (by omega), if_neg (by omega), if_pos rfl, yci_s, if_pos (by omega)]; rfl
  · rw [if_neg (by omega), if_neg (by omega), if_neg (by omega), if_neg (by omega), if_pos rfl, yci_s, if_pos (by omega)]; rfl
  · rw [if_pos rfl, if_neg (by omega), if_pos rfl]; rfl
  · rw [if_neg (by omega), if_neg (by omega), if_neg (by omega), if_neg (by omega), if_neg (by omega), yci_s, if_neg (by omega), if_neg (by omega), em]
theorem l186 (d : Nat) (hd : 1 ≤ d) (hg : g_ok (hv h)) (w k : Int) (hw : 0 ≤ w ∧ w < g_wm (hv h)) (hk : 0 ≤ k ∧ k ≤ 5) : ∀ (n : Nat) (q s : Int), 0 ≤ q → q + n = g_rm (hv h) → y_inr s → y_ev z_pg sc d pgX8_wantTells 5 [some (y_vr 94), some (y_vi w), some (y_vi k), some (y_vi s), some (y_vi q)] [] h = some (some (y_vi (if k < 4 then hv h 103 (Int.toNat (4 * w + k)) else if k = 4 then pl h 111 w else u_msk (fun q => g_na (hv h) (g_rd (hv h) w) q (g_pt (hv h) w)) s q n)), h)
  | 0, q, s, hq, hn, hs => by
    have kw := hg.2.2.1
    rw [b186_5, hvrm, if_neg (by omega)]
    simp (disch := omega) only [yr_t, hv103]
    by_cases c1 : k < 4
    · rw [if_pos c1, if_pos c1, yi_t (by omega)]
    · rw [if_neg c1, if_neg c1]
      by_cases c2 : k = 4
      · rw [if_pos c2, if_pos c2, yi_t (by omega)]; rfl
      · rw [if_neg c2, if_neg c2]; rfl
  | n + 1, q, s, hq, hn, hs => by
    have kw := hg.2.2.1
    have kr := hg.2.1
    rw [b186_5, hvrm, if_pos (by omega), s173 d hd w (by omega), yci_s, s174 d hd w (by omega), yci_s, s181 d hd _ _ _ hg, yci_s, y_or0 hs]
    by_cases c : g_na (hv h) (g_rd (hv h) w) q (g_pt (hv h) w)
    · rw [if_neg (by rw [bi_t c]; omega), yr_t (by omega), l186 d hd hg w k hw hk n (q + 1) _ (by omega) (by omega) y_or_r, u_msk_s1 (P := fun q => g_na (hv h) (g_rd (hv h) w) q (g_pt (hv h) w)) c]
    · rw [if_pos (bi_f c), yr_t (by omega), l186 d hd hg w k hw hk n (q + 1) _ (by omega) (by omega) hs, u_msk_s0 (P := fun q => g_na (hv h) (g_rd (hv h) w) q (g_pt (hv h) w)) c]
theorem s186 (d : Nat) (hd : 2 ≤ d) (hg : g_ok (hv h)) (w k : Int) (hw : 0 ≤ w ∧ w < g_wm (hv h)) (hk : 0 ≤ k ∧ k ≤ 5) : y_se z_pg sc d 186 [y_vr 94, y_vi w, y_vi k] h = some (some (y_vi (g_wt (hv h) (pl h 111) w k)), h) := by
  rcases d with _ | d
  · omega
  have kr := hg.2.1
  rw [e186, b186_0, l186 d (by omega) hg w k hw hk (g_rm (hv h)).toNat 0 0 (by omega) (by omega) y_inr_0]
  rfl
theorem hv_s13 {v : Int} : hv (y_sI h 2 13 v) = hv h := hv_cg fun b k q => yI_sI_o (by unfold RG at q; omega)
theorem o_part (I : INV N h) (p k : Int) : OP sc 97 183 [y_vr 2, y_vi p, y_vi k] [y_vr 94, y_vi p, y_vi k] N h := by
  have II := I
  obtain ⟨a, ⟨hF, hD, X, hg⟩, -⟩ := I
  by_cases c1 : 0 ≤ p ∧ p < g_pm (hv h)
  · by_cases c2 : 0 ≤ k ∧ k ≤ 2
    · have kp := hg.1
      refine OP_do 1 (y_sI h 2 13 (hv h 101 (Int.toNat (3 * p + k)))) (y_sI (y_sI h 2 13 (hv h 101 (Int.toNat (3 * p + k)))) 94 2 (hv h 101 (Int.toNat (3 * p + k)))) (fun d hd => ?_) (fun d hd => ?_) (INV_as II _)
      · rw [e97, b97_0, hF, yH0 X.1, s2 d (by omega) X, yci_s, if_neg (by rw [bi_t c1]; omega), if_neg (by omega), if_neg (by omega), hF, yH0 X.1, s5 d (by omega) X hg p k c1 c2, yci_s]
      · rw [e183, b183_0, s170 d (by omega) _ (by rw [hv_s13]; exact hg), yci_s, hv_s13, if_neg (by rw [bi_t c1]; omega), s136 d (by omega), yci_s, if_neg (by rw [bi_t c2]; omega), yr_t (by omega), yr_t (by omega), yi_t (by omega), hv101, hv_s13, s143 d (by omega), yci_s]
    · refine OP_same II (-1) (fun d hd => ?_) (fun d hd => ?_)
      · rw [e97, b97_0, hF, yH0 X.1, s2 d (by omega) X, yci_s, if_neg (by rw [bi_t c1]; omega)]
        by_cases c3 : k < 0
        · rw [if_pos c3]
        · rw [if_neg c3, if_pos (by omega)]
      · rw [e183, b183_0, s170 d (by omega) _ hg, yci_s, if_neg (by rw [bi_t c1]; omega), s136 d (by omega), yci_s, if_pos (bi_f c2)]
  · refine OP_same II (-1) (fun d hd => ?_) (fun d hd => ?_)
    · rw [e97, b97_0, hF, yH0 X.1, s2 d (by omega) X, yci_s, if_pos (bi_f c1)]
    · rw [e183, b183_0, s170 d (by omega) _ hg, yci_s, if_pos (bi_f c1)]
theorem o_reader (I : INV N h) (r k : Int) : OP sc 98 185 [y_vr 2, y_vi r, y_vi k] [y_vr 94, y_vi r, y_vi k] N h := by
  have II := I
  obtain ⟨a, ⟨hF, hD, X, hg⟩, -⟩ := I
  by_cases c1 : 0 ≤ r ∧ r < g_rm (hv h)
  · by_cases c2 : 0 ≤ k ∧ k ≤ 3
    · refine OP_do 1 (y_sI h 2 13 (g_rt (hv h) r k)) (y_sI (y_sI h 2 13 (g_rt (hv h) r k)) 94 2 (g_rt (hv h) r k)) (fun d hd => ?_) (fun d hd => ?_) (INV_as II _)
      · rw [e98, b98_0, hF, yH0 X.1, s3 d (by omega) X, yci_s, if_neg (by rw [bi_t c1]; omega), if_neg (by omega), if_neg (by omega), hF, yH0 X.1, s6 d (by omega) X hg r k c1 c2, yci_s]
      · rw [e185, b185_0, s171 d (by omega) _ (by rw [hv_s13]; exact hg), yci_s, hv_s13, if_neg (by rw [bi_t c1]; omega), s136 d (by omega), yci_s, if_neg (by rw [bi_t c2]; omega), s184 d (by omega) (by rw [hv_s13]; exact hg) r k (by rw [hv_s13]; exact c1) c2, yci_s, hv_s13, s143 d (by omega), yci_s]
    · refine OP_same II (-1) (fun d hd => ?_) (fun d hd => ?_)
      · rw [e98, b98_0, hF, yH0 X.1, s3 d (by omega) X, yci_s, if_neg (by rw [bi_t c1]; omega)]
        by_cases c3 : k < 0
        · rw [if_pos c3]
        · rw [if_neg c3, if_pos (by omega)]
      · rw [e185, b185_0, s171 d (by omega) _ hg, yci_s, if_neg (by rw [bi_t c1]; omega), s136 d (by omega), yci_s, if_pos (bi_f c2)]
  · refine OP_same II (-1) (fun d hd => ?_) (fun d hd => ?_)
    · rw [e98, b98_0, hF, yH0 X.1, s3 d (by omega) X, yci_s, if_pos (bi_f c1)]
    · rw [e185, b185_0, s171 d (by omega) _ hg, yci_s, if_pos (bi_f c1)]
theorem o_want (I : INV N h) (w k : Int) : OP sc 99 187 [y_vr 2, y_vi w, y_vi k] [y_vr 94, y_vi w, y_vi k] N h := by
  have II := I
  obtain ⟨a, ⟨hF, hD, X, hg⟩, -, -, ⟨hp, pe⟩, -⟩ := I
  by_cases c1 : 0 ≤ w ∧ w < g_wm (hv h)
  · by_cases c2 : 0 ≤ k ∧ k ≤ 5
    · have e1 : g_wt (hv h) (pl h 21) w k = g_wt (hv h) (pl h 111) w k := by
        unfold g_wt
        rw [pe w c1.1 c1.2]
      have e2 : pl (y_sI h 2 13 (g_wt (hv h) (pl h 111) w k)) 111 = pl h 111 := funext fun v => yI_sI_o (by omega)
      refine OP_do 1 (y_sI h 2 13 (g_wt (hv h) (pl h 111) w k)) (y_sI (y_sI h 2 13 (g_wt (hv h) (pl h 111) w k)) 94 2 (g_wt (hv h) (pl h 111) w k)) (fun d hd => ?_) (fun d hd => ?_) (INV_as II _)
      · rw [e99, b99_0, hF, yH0 X.1, s4 d (by omega) X, yci_s, if_neg (by rw [bi_t c1]; omega), if_neg (by omega), if_neg (by omega), s128 d (by omega) hF X hg w k c1 c2, yci_s, e1]
      · rw [e187, b187_0, s172 d (by omega) _ (by rw [hv_s13]; exact hg), yci_s, hv_s13, if_neg (by rw [bi_t c1]; omega), s136 d (by omega), yci_s, if_neg (by rw [bi_t c2]; omega), s186 d (by omega) (by rw [hv_s13]; exact hg) w k (by rw [hv_s13]; exact c1) c2, yci_s, hv_s13, e2, s143 d (by omega), yci_s]
    · refine OP_same II (-1) (fun d hd => ?_) (fun d hd => ?_)
      · rw [e99, b99_0, hF, yH0 X.1, s4 d (by omega) X, yci_s, if_neg (by rw [bi_t c1]; omega)]
        by_cases c3 : k < 0
        · rw [if_pos c3]
        · rw [if_neg c3, if_pos (by omega)]
      · rw [e187, b187_0, s172 d (by omega) _ hg, yci_s, if_neg (by rw [bi_t c1]; omega), s136 d (by omega), yci_s, if_pos (bi_f c2)]
  · refine OP_same II (-1) (fun d hd => ?_) (fun d hd => ?_)
    · rw [e99, b99_0, hF, yH0 X.1, s4 d (by omega) X, yci_s, if_pos (bi_f c1)]
    · rw [e187, b187_0, s172 d (by omega) _ hg, yci_s, if_pos (bi_f c1)]
theorem o_judge (I : INV N h) : OP sc 104 201 [y_vr 2] [y_vr 94] N h := by
  have II := I
  obtain ⟨a, ⟨hF, hD, X, hg⟩, -, -, ⟨hp, pe⟩, -⟩ := I
  refine OP_same II (g_bad (hv h) (pl h 111)) (fun d hd => ?_) (fun d hd => s201 (d + 1) (by omega) hg hp)
  rw [e104, b104_0, hF, s40 d (by omega) (Or.inl rfl) X hg (p_ok_cg pe hp), yci_s]
  rw [g_bad_cg pe]
theorem o_missed (I : INV N h) (r : Int) : OP sc 105 204 [y_vr 2, y_vi r] [y_vr 94, y_vi r] N h := by
  have II := I
  obtain ⟨a, ⟨hF, hD, X, hg⟩, -, -, ⟨hp, pe⟩, -⟩ := I
  refine OP_same II (if r = -9 ∨ (0 ≤ r ∧ r < g_rm (hv h)) then g_ms (hv h) (pl h 111) r else -1) (fun d hd => ?_) (fun d hd => s204 (d + 1) (by omega) r hg hp)
  rw [e105, b105_0, hF, yH0 X.1]
  by_cases c1 : r = -9
  · rw [if_pos c1, if_pos (Or.inl c1), s38 d (by omega) (Or.inl rfl) X hg (p_ok_cg pe hp), yci_s, c1]
    rw [g_ms_cg pe]
  · rw [if_neg c1, s3 d (by omega) X, yci_s]
    by_cases c2 : 0 ≤ r ∧ r < g_rm (hv h)
    · rw [if_neg (by rw [bi_t c2]; omega), if_pos (Or.inr c2), hF, s37 d (by omega) (Or.inl rfl) X hg (p_ok_cg pe hp) r c1, yci_s]
      rw [g_ms_cg pe]
    · rw [if_pos (bi_f c2), if_neg (by omega)]
end TE
