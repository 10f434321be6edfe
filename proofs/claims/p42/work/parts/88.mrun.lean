/-! THE PAPER GOES ROUND BY A RULE, as the model says it -/
def g_has (G : u_G) (P : u_P) (r t : Int) : Prop := u_all (fun w => g_rd G w = r → P w ≠ -9 ∧ P w + g_mn G w ≤ t) 0 (g_wm G).toNat
def g_kep (G : u_G) (P : u_P) (w t : Int) : Prop := P w ≠ -9 ∧ P w ≤ t ∧ t < g_ti G (g_rd G w) ∧ ¬ g_has G P (g_rd G w) t
noncomputable def g_tk (G : u_G) (P : u_P) (K p t : Int) : Int := u_sum (fun w => y_bi (g_pt G w = p ∧ (g_rg G P w t ∨ (K = 1 ∧ g_kep G P w t)))) 0 (g_wm G).toNat
def g_may (G : u_G) (P : u_P) (K w t : Int) : Prop := (g_fr G (g_rd G w) ≤ t ∧ t + g_mn G w ≤ g_ti G (g_rd G w) ∧ t + g_mn G w ≤ g_la G ∧ g_cm G (g_pt G w) ≤ t ∧ ¬ g_un G (g_pt G w) t (g_mn G w)) ∧ P w = -9 ∧ ¬ g_does G P (g_rd G w) t (-9) ∧ g_tk G P K (g_pt G w) t < g_cp G (g_pt G w) ∧ g_due G P w t ∧ ¬ g_spo G P w t
noncomputable def g_fst (G : u_G) (P : u_P) (K r t : Int) : Int := u_find (fun w => g_rd G w = r ∧ g_may G P K w t) 0 (g_wm G).toNat
def g_wsf (G : u_G) (P : u_P) (r s w : Int) : Int := if g_rd G w = r ∧ P w ≠ -9 then max s (P w + g_mn G w) else s
def g_ws (G : u_G) (P : u_P) (r : Int) : Int := u_fold (g_wsf G P r) (g_fr G r) 0 (g_wm G).toNat
noncomputable def g_c4 (G : u_G) (P : u_P) (kd t b w : Int) : Int := @ite _ (g_may G P 0 w t ∧ (b = -9 ∨ (kd = 4 ∧ g_wa G b t < g_wa G w t) ∨ (kd ≠ 4 ∧ g_mn G w < g_mn G b))) (Classical.propDecidable _) w b
noncomputable def g_c3 (G : u_G) (P : u_P) (kd : Int) (cd : Int → Int) (t b i : Int) : Int := if g_fst G P (if kd = 2 then 1 else 0) (if kd = 3 then i else cd i) t = -9 then b else if b = -9 ∨ (kd = 3 ∧ g_ws G P i < g_ws G P (g_rd G b)) then g_fst G P (if kd = 2 then 1 else 0) (if kd = 3 then i else cd i) t else b
noncomputable def g_cho (G : u_G) (P : u_P) (kd : Int) (cd : Int → Int) (t : Int) : Int := if 3 < kd then u_fold (g_c4 G P kd t) (-9) 0 (g_wm G).toNat else u_fold (g_c3 G P kd cd t) (-9) 0 (g_rm G).toNat
section MR
variable {sc : z_Sc} {h : y_Hp}
theorem l213 (d : Nat) (hd : 2 ≤ d) (r t : Int) (hg : g_ok (hv h)) (hp : p_ok (hv h) (pl h 111)) : ∀ (n : Nat) (k a : Int), 0 ≤ k → k + n = g_wm (hv h) → (a = 0 ∨ a = 1) → y_ev z_pg sc d pgX8_hasAll 5 [some (y_vr 94), some (y_vi r), some (y_vi t), some (y_vi a), some (y_vi k)] [] h = some (some (y_vi (y_bi (a = 1 ∧ u_all (fun w => g_rd (hv h) w = r → pl h 111 w ≠ -9 ∧ pl h 111 w + g_mn (hv h) w ≤ t) k n))), h)
  | 0, k, a, hk, hn, ha => by
    rw [b213_5, hvwm, if_neg (by omega), yb_t ha]
    rcases ha with rfl | rfl
    · exact ab_f (by simp)
    · exact ab_t (by simp [u_all])
  | n + 1, k, a, hk, hn, ha => by
    have h1 := hg.2.2.1
    have ih := fun a ha => l213 d hd r t hg hp n (k + 1) a (by omega) (by omega) ha
    rw [b213_5, hvwm, if_pos (by omega)]
    simp (disch := first | omega | assumption) only [yci_s, yr_t, s173, s191]
    rcases ha with rfl | rfl
    · rw [if_pos rfl, ih 0 (Or.inl rfl)]
      exact ab_cg (by simp)
    · rw [if_neg (by omega)]
      by_cases c1 : g_rd (hv h) k = r
      · rw [if_pos c1]
        by_cases c2 : pl h 111 k = -9
        · rw [if_pos (bi_f (fun g => g c2)), ih 0 (Or.inl rfl)]
          exact ab_cg (by simp [u_all_s, c1, c2])
        · rw [if_neg (by rw [bi_t c2]; omega), s192 d hd k hg hp (by omega), yci_s]
          by_cases c3 : t < pl h 111 k + g_mn (hv h) k
          · rw [if_pos c3, ih 0 (Or.inl rfl)]
            exact ab_cg (by simp [u_all_s, c1, c2]; intro; omega)
          · rw [if_neg c3, ih 1 (Or.inr rfl)]
            exact ab_cg (by simp [u_all_s, c1, c2]; intro; omega)
      · rw [if_neg c1, ih 1 (Or.inr rfl)]
        exact ab_cg (by simp [u_all_s, c1])
theorem s213 (d : Nat) (hd : 3 ≤ d) (r t : Int) (hg : g_ok (hv h)) (hp : p_ok (hv h) (pl h 111)) : y_se z_pg sc d 213 [y_vr 94, y_vi r, y_vi t] h = some (some (y_vi (y_bi (g_has (hv h) (pl h 111) r t))), h) := by
  rcases d with _ | d
  · omega
  have h1 := hg.2.2.1
  rw [e213, b213_0, l213 d (by omega) r t hg hp (g_wm (hv h)).toNat 0 1 (by omega) (by omega) (Or.inr rfl)]
  exact ab_cg (by simp [g_has])
theorem l214a (d : Nat) (hd : 3 ≤ d) (p t K : Int) (hg : g_ok (hv h)) (hp : p_ok (hv h) (pl h 111)) (hK : K = 0 ∨ K = 1) (a k : Int) (o : Option y_V) (hk : 0 ≤ k ∧ k < g_wm (hv h)) : y_ev z_pg sc d pgX8_takenMany 6 [some (y_vr 94), some (y_vi p), some (y_vi t), some (y_vi K), some (y_vi a), some (y_vi k), o] [] h = y_ev z_pg sc d pgX8_takenMany 72 [some (y_vr 94), some (y_vi p), some (y_vi t), some (y_vi K), some (y_vi a), some (y_vi k), o] [y_vi (y_bi (K = 1 ∧ g_kep (hv h) (pl h 111) k t))] h := by
  have h1 := hg.2.2.1
  have h2 := hg.2.1
  have h3 := (hg.2.2.2.2.2.2.2.2.1 k hk.1 hk.2).1
  rw [b214_6, hvwm, if_pos hk.2]
  rcases hK with rfl | rfl
  · rw [if_pos rfl, b214_71, bi_f (by omega)]
  · rw [if_neg (by omega), s191 d (by omega) k (by omega), yci_s]
    by_cases c1 : pl h 111 k = -9
    · rw [if_pos (bi_f (fun q => q c1)), b214_71, bi_f (fun q => q.2.1 c1)]
    · rw [if_neg (by rw [bi_t c1]; omega), yi_t (by omega), show y_I h 111 (Int.toNat k) = pl h 111 k from rfl]
      by_cases c2 : t < pl h 111 k
      · rw [if_pos c2, b214_71, bi_f (fun q => by have := q.2.2.1; omega)]
      · rw [if_neg c2, s173 d (by omega) k (by omega), yci_s, s179 d (by omega) _ (by omega), yci_s]
        by_cases c3 : t < g_ti (hv h) (g_rd (hv h) k)
        · rw [if_pos c3, s173 d (by omega) k (by omega), yci_s, s213 d hd _ t hg hp, yci_s]
          by_cases c4 : g_has (hv h) (pl h 111) (g_rd (hv h) k) t
          · rw [if_neg (by rw [bi_t c4]; omega), b214_71, bi_f (fun q => q.2.2.2.2 c4)]
          · rw [if_pos (bi_f c4), bi_t ⟨rfl, c1, by omega, c3, c4⟩]
        · rw [if_neg c3, b214_71, bi_f (fun q => c3 q.2.2.2.1)]
theorem l214 (d : Nat) (hd : 3 ≤ d) (p t K : Int) (hg : g_ok (hv h)) (hp : p_ok (hv h) (pl h 111)) (hK : K = 0 ∨ K = 1) : ∀ (n : Nat) (k a : Int) (o : Option y_V), 0 ≤ k → k + n = g_wm (hv h) → (0 ≤ a ∧ a ≤ k) → y_ev z_pg sc d pgX8_takenMany 6 [some (y_vr 94), some (y_vi p), some (y_vi t), some (y_vi K), some (y_vi a), some (y_vi k), o] [] h = some (some (y_vi (a + u_sum (fun w => y_bi (g_pt (hv h) w = p ∧ (g_rg (hv h) (pl h 111) w t ∨ (K = 1 ∧ g_kep (hv h) (pl h 111) w t)))) k n)), h)
  | 0, k, a, o, hk, hn, ha => by
    rw [b214_6, hvwm, if_neg (by omega)]
    exact av_cg (by simp [u_sum])
  | n + 1, k, a, o, hk, hn, ha => by
    have h1 := hg.2.2.1
    have ih := fun a o ha => l214 d hd p t K hg hp hK n (k + 1) a o (by omega) (by omega) ha
    rw [l214a d hd p t K hg hp hK a k o ⟨hk, by omega⟩, b214_72, s174 d (by omega) k (by omega), yci_s]
    by_cases c1 : g_pt (hv h) k = p
    · rw [if_pos c1, s193 d (by omega) k t hg hp (by omega), yci_s]
      by_cases c2 : g_rg (hv h) (pl h 111) k t
      · rw [if_neg (by rw [bi_t c2]; omega), b214_101, b214_106, yr_t (by omega), yr_t (by omega), ih (a + 1) _ (by omega)]
        exact av_cg (by rw [u_sum_s, bi_t ⟨c1, Or.inl c2⟩]; omega)
      · rw [if_pos (bi_f c2)]
        by_cases c3 : K = 1 ∧ g_kep (hv h) (pl h 111) k t
        · rw [if_neg (by rw [bi_t c3]; omega), b214_101, b214_106, yr_t (by omega), yr_t (by omega), ih (a + 1) _ (by omega)]
          exact av_cg (by rw [u_sum_s, bi_t ⟨c1, Or.inr c3⟩]; omega)
        · rw [if_pos (bi_f c3), b214_105, b214_106, yr_t (by omega), yr_t (by omega), ih (a + 0) _ (by omega)]
          exact av_cg (by rw [u_sum_s, bi_f (fun q => q.2.elim c2 c3)]; omega)
    · rw [if_neg c1, b214_105, b214_106, yr_t (by omega), yr_t (by omega), ih (a + 0) _ (by omega)]
      exact av_cg (by rw [u_sum_s, bi_f (fun q => c1 q.1)]; omega)
theorem s214 (d : Nat) (hd : 4 ≤ d) (p t K : Int) (hg : g_ok (hv h)) (hp : p_ok (hv h) (pl h 111)) (hK : K = 0 ∨ K = 1) : y_se z_pg sc d 214 [y_vr 94, y_vi p, y_vi t, y_vi K] h = some (some (y_vi (g_tk (hv h) (pl h 111) K p t)), h) := by
  rcases d with _ | d
  · omega
  have h1 := hg.2.2.1
  rw [e214, b214_0, l214 d (by omega) p t K hg hp hK (g_wm (hv h)).toNat 0 0 none (by omega) (by omega) (by omega)]
  exact av_cg (by unfold g_tk; omega)
theorem s215 (d : Nat) (hd : 5 ≤ d) (w t K : Int) (hg : g_ok (hv h)) (hp : p_ok (hv h) (pl h 111)) (hw : 0 ≤ w ∧ w < g_wm (hv h)) (ht : 0 ≤ t ∧ t ≤ 60) (hK : K = 0 ∨ K = 1) : y_se z_pg sc d 215 [y_vr 94, y_vi w, y_vi t, y_vi K] h = some (some (y_vi (y_bi (g_may (hv h) (pl h 111) K w t))), h) := by
  rcases d with _ | d
  · omega
  have h1 := hg.2.2.1
  have h2 := hg.2.1
  have h3 := hg.1
  obtain ⟨h4, h5, h6, -⟩ := hg.2.2.2.2.2.2.2.2.1 w hw.1 hw.2
  have no : ∀ (v4 v5 v6 : Int), ¬ g_may (hv h) (pl h 111) K w t → y_ev z_pg sc d pgX8_may 82 [some (y_vr 94), some (y_vi w), some (y_vi t), some (y_vi K), some (y_vi v4), some (y_vi v5), some (y_vi v6), none] [] h = some (some (y_vi (y_bi (g_may (hv h) (pl h 111) K w t))), h) := fun v4 v5 v6 q => by
    rw [b215_82, b215_83, if_pos rfl, b215_149, b215_150, yb_t (by omega)]
    exact ab_f q
  have no2 : ∀ (v4 v5 v6 v7 : Int), ¬ g_may (hv h) (pl h 111) K w t → y_ev z_pg sc d pgX8_may 149 [some (y_vr 94), some (y_vi w), some (y_vi t), some (y_vi K), some (y_vi v4), some (y_vi v5), some (y_vi v6), some (y_vi v7)] [] h = some (some (y_vi (y_bi (g_may (hv h) (pl h 111) K w t))), h) := fun v4 v5 v6 v7 q => by
    rw [b215_149, b215_150, yb_t (by omega)]
    exact ab_f q
  have hla : ∀ x, (y_I h 94 8 < x) = (g_la (hv h) < x) := fun x => rfl
  rw [e215, b215_0, s173 d (by omega) w (by omega), yci_s, s174 d (by omega) w (by omega), yci_s, s175 d (by omega) w (by omega), yci_s, yr_t (by omega), s178 d (by omega) _ (by omega), yci_s]
  by_cases c1 : t < g_fr (hv h) (g_rd (hv h) w)
  · rw [if_pos c1]; exact no _ _ _ (fun q => by have := q.1.1; omega)
  rw [if_neg c1, s179 d (by omega) _ (by omega), yci_s]
  by_cases c2 : g_ti (hv h) (g_rd (hv h) w) < t + g_mn (hv h) w
  · rw [if_pos c2]; exact no _ _ _ (fun q => by have := q.1.2.1; omega)
  rw [if_neg c2]
  by_cases c3 : y_I h 94 8 < t + g_mn (hv h) w
  · rw [if_pos c3]; exact no _ _ _ (fun q => by rw [hla] at c3; have := q.1.2.2.1; omega)
  rw [if_neg c3, s177 d (by omega) _ (by omega), yci_s]
  by_cases c4 : t < g_cm (hv h) (g_pt (hv h) w)
  · rw [if_pos c4]; exact no _ _ _ (fun q => by have := q.1.2.2.2.1; omega)
  rw [if_neg c4, s175 d (by omega) w (by omega), yci_s, s182 d (by omega) _ _ _ hg (by omega) (by omega), yci_s]
  by_cases c5 : g_un (hv h) (g_pt (hv h) w) t (g_mn (hv h) w)
  · rw [if_neg (by rw [bi_t c5]; omega)]; exact no _ _ _ (fun q => q.1.2.2.2.2 c5)
  rw [if_pos (bi_f c5), b215_83, if_neg (by omega), s191 d (by omega) w (by omega), yci_s]
  by_cases c6 : pl h 111 w = -9
  · rw [if_pos (bi_f (fun q => q c6)), s196 d (by omega) _ _ _ hg hp, yci_s]
    by_cases c7 : g_does (hv h) (pl h 111) (g_rd (hv h) w) t (-9)
    · rw [if_neg (by rw [bi_t c7]; omega)]; exact no2 _ _ _ _ (fun q => q.2.2.1 c7)
    rw [if_pos (bi_f c7), s214 d (by omega) _ _ _ hg hp hK, yci_s, s176 d (by omega) _ (by omega), yci_s]
    by_cases c8 : g_tk (hv h) (pl h 111) K (g_pt (hv h) w) t < g_cp (hv h) (g_pt (hv h) w)
    · rw [if_pos c8, s197 d (by omega) w t hg hp hw, yci_s]
      by_cases c9 : g_due (hv h) (pl h 111) w t
      · rw [if_neg (by rw [bi_t c9]; omega), s198 d (by omega) w t hg hw, yci_s]
        by_cases c10 : g_spo (hv h) (pl h 111) w t
        · rw [if_neg (by rw [bi_t c10]; omega)]; exact no2 _ _ _ _ (fun q => q.2.2.2.2.2 c10)
        rw [if_pos (bi_f c10), b215_150, yb_t (by omega)]
        rw [hla] at c3
        exact ab_t ⟨⟨by omega, by omega, by omega, by omega, c5⟩, c6, c7, c8, c9, c10⟩
      · rw [if_pos (bi_f c9)]; exact no2 _ _ _ _ (fun q => c9 q.2.2.2.2.1)
    · rw [if_neg c8]; exact no2 _ _ _ _ (fun q => c8 q.2.2.2.1)
  · rw [if_neg (by rw [bi_t c6]; omega)]; exact no2 _ _ _ _ (fun q => c6 q.2.1)
theorem l216 (d : Nat) (hd : 5 ≤ d) (r t K : Int) (hg : g_ok (hv h)) (hp : p_ok (hv h) (pl h 111)) (ht : 0 ≤ t ∧ t ≤ 60) (hK : K = 0 ∨ K = 1) : ∀ (n : Nat) (k : Int), 0 ≤ k → k + n = g_wm (hv h) → y_ev z_pg sc d pgX8_firstOf 3 [some (y_vr 94), some (y_vi r), some (y_vi t), some (y_vi K), some (y_vi k)] [] h = some (some (y_vi (u_find (fun w => g_rd (hv h) w = r ∧ g_may (hv h) (pl h 111) K w t) k n)), h)
  | 0, k, hk, hn => by
    rw [b216_3, hvwm, if_neg (by omega)]
    rfl
  | n + 1, k, hk, hn => by
    have h1 := hg.2.2.1
    have ih := l216 d hd r t K hg hp ht hK n (k + 1) (by omega) (by omega)
    rw [b216_3, hvwm, if_pos (by omega), s173 d (by omega) k (by omega), yci_s]
    by_cases c1 : g_rd (hv h) k = r
    · rw [if_pos c1, s215 d hd k t K hg hp (by omega) ht hK, yci_s]
      by_cases c2 : g_may (hv h) (pl h 111) K k t
      · rw [if_neg (by rw [bi_t c2]; omega), u_find_t ⟨c1, c2⟩]
      · rw [if_pos (bi_f c2), yr_t (by omega), ih, u_find_f (fun q => c2 q.2)]
    · rw [if_neg c1, yr_t (by omega), ih, u_find_f (fun q => c1 q.1)]
theorem s216 (d : Nat) (hd : 6 ≤ d) (r t K : Int) (hg : g_ok (hv h)) (hp : p_ok (hv h) (pl h 111)) (ht : 0 ≤ t ∧ t ≤ 60) (hK : K = 0 ∨ K = 1) : y_se z_pg sc d 216 [y_vr 94, y_vi r, y_vi t, y_vi K] h = some (some (y_vi (g_fst (hv h) (pl h 111) K r t)), h) := by
  rcases d with _ | d
  · omega
  have h1 := hg.2.2.1
  rw [e216, b216_0, l216 d (by omega) r t K hg hp ht hK (g_wm (hv h)).toNat 0 (by omega) (by omega)]
  rfl
theorem l217 (d : Nat) (hd : 2 ≤ d) (r : Int) (hg : g_ok (hv h)) (hp : p_ok (hv h) (pl h 111)) : ∀ (n : Nat) (k a : Int), 0 ≤ k → k + n = g_wm (hv h) → y_ev z_pg sc d pgX8_waitsSince 8 [some (y_vr 94), some (y_vi r), some (y_vi a), some (y_vi k)] [] h = some (some (y_vi (u_fold (g_wsf (hv h) (pl h 111) r) a k n)), h)
  | 0, k, a, hk, hn => by
    rw [b217_8, hvwm, if_neg (by omega)]
    rfl
  | n + 1, k, a, hk, hn => by
    have h1 := hg.2.2.1
    have ih := fun a => l217 d hd r hg hp n (k + 1) a (by omega) (by omega)
    rw [b217_8, hvwm, if_pos (by omega), s173 d (by omega) k (by omega), yci_s, u_fold_s]
    by_cases c1 : g_rd (hv h) k = r
    · rw [if_pos c1, s191 d (by omega) k (by omega), yci_s]
      by_cases c2 : pl h 111 k = -9
      · rw [if_pos (bi_f (fun q => q c2)), yr_t (by omega), ih, show g_wsf (hv h) (pl h 111) r a k = a from if_neg (fun q => q.2 c2)]
      · rw [if_neg (by rw [bi_t c2]; omega), s192 d hd k hg hp (by omega), yci_s, s139 d (by omega), yci_s, yr_t (by omega), ih, show g_wsf (hv h) (pl h 111) r a k = _ from if_pos ⟨c1, c2⟩]
    · rw [if_neg c1, yr_t (by omega), ih, show g_wsf (hv h) (pl h 111) r a k = a from if_neg (fun q => c1 q.1)]
theorem s217 (d : Nat) (hd : 3 ≤ d) (r : Int) (hg : g_ok (hv h)) (hp : p_ok (hv h) (pl h 111)) (hr : 0 ≤ r ∧ r < 8) : y_se z_pg sc d 217 [y_vr 94, y_vi r] h = some (some (y_vi (g_ws (hv h) (pl h 111) r)), h) := by
  rcases d with _ | d
  · omega
  have h1 := hg.2.2.1
  rw [e217, b217_0, s178 d (by omega) r hr, yci_s, l217 d (by omega) r hg hp (g_wm (hv h)).toNat 0 _ (by omega) (by omega)]
  rfl
theorem g_fst_in {G : u_G} {P : u_P} {K r t : Int} (hw : 0 ≤ g_wm G) : g_fst G P K r t = -9 ∨ ((0 ≤ g_fst G P K r t ∧ g_fst G P K r t < g_wm G) ∧ g_rd G (g_fst G P K r t) = r ∧ g_may G P K (g_fst G P K r t) t) := by
  by_cases e : g_fst G P K r t = -9
  · exact Or.inl e
  · obtain ⟨a, b, c, -⟩ := u_find_val (p := fun w => g_rd G w = r ∧ g_may G P K w t) (n := (g_wm G).toNat) (k := 0) (by omega) e
    exact Or.inr ⟨⟨a, by unfold g_fst; omega⟩, c⟩
theorem g_c3_in {G : u_G} {P : u_P} {kd : Int} {cd : Int → Int} {t : Int} (hw : 0 ≤ g_wm G) {b i : Int} (hb : b = -9 ∨ ((0 ≤ b ∧ b < g_wm G) ∧ g_may G P (if kd = 2 then 1 else 0) b t)) : g_c3 G P kd cd t b i = -9 ∨ ((0 ≤ g_c3 G P kd cd t b i ∧ g_c3 G P kd cd t b i < g_wm G) ∧ g_may G P (if kd = 2 then 1 else 0) (g_c3 G P kd cd t b i) t) := by
  unfold g_c3
  have q := g_fst_in (G := G) (P := P) (K := if kd = 2 then 1 else 0) (r := if kd = 3 then i else cd i) (t := t) hw
  generalize g_fst G P (if kd = 2 then 1 else 0) (if kd = 3 then i else cd i) t = f at q
  by_cases c1 : f = -9
  · rw [if_pos c1]; exact hb
  · rw [if_neg c1]
    by_cases c2 : b = -9 ∨ (kd = 3 ∧ g_ws G P i < g_ws G P (g_rd G b))
    · rw [if_pos c2]
      rcases q with q | q
      · exact absurd q c1
      · exact Or.inr ⟨q.1, q.2.2⟩
    · rw [if_neg c2]; exact hb
theorem g_c4_in {G : u_G} {P : u_P} {kd : Int} {t : Int} {b w : Int} (hb : b = -9 ∨ ((0 ≤ b ∧ b < g_wm G) ∧ g_may G P 0 b t)) (hw : 0 ≤ w ∧ w < g_wm G) : g_c4 G P kd t b w = -9 ∨ ((0 ≤ g_c4 G P kd t b w ∧ g_c4 G P kd t b w < g_wm G) ∧ g_may G P 0 (g_c4 G P kd t b w) t) := by
  unfold g_c4
  by_cases c : g_may G P 0 w t ∧ (b = -9 ∨ (kd = 4 ∧ g_wa G b t < g_wa G w t) ∨ (kd ≠ 4 ∧ g_mn G w < g_mn G b))
  · rw [if_pos c]; exact Or.inr ⟨hw, c.1⟩
  · rw [if_neg c]; exact hb
theorem l218a (d : Nat) (hd : 6 ≤ d) (kd t : Int) (hg : g_ok (hv h)) (hp : p_ok (hv h) (pl h 111)) (ht : 0 ≤ t ∧ t ≤ 60) : ∀ (n : Nat) (k b : Int) (o : Option y_V), 0 ≤ k → k + n = g_wm (hv h) → (b = -9 ∨ ((0 ≤ b ∧ b < g_wm (hv h)) ∧ g_may (hv h) (pl h 111) 0 b t)) → y_ev z_pg sc d pgX8_chosen 11 [some (y_vr 94), some (y_vi kd), some (y_vi t), some (y_vi b), some (y_vi k), o, none] [] h = some (some (y_vi (u_fold (g_c4 (hv h) (pl h 111) kd t) b k n)), h)
  | 0, k, b, o, hk, hn, hb => by
    rw [b218_11, hvwm, if_neg (by omega)]
    rfl
  | n + 1, k, b, o, hk, hn, hb => by
    have h1 := hg.2.2.1
    have ih := fun b o hb => l218a d hd kd t hg hp ht n (k + 1) b o (by omega) (by omega) hb
    have hb' := g_c4_in (G := hv h) (P := pl h 111) (kd := kd) (t := t) (b := b) (w := k) hb (by omega)
    have yes : ∀ o, (g_may (hv h) (pl h 111) 0 k t ∧ (b = -9 ∨ (kd = 4 ∧ g_wa (hv h) b t < g_wa (hv h) k t) ∨ (kd ≠ 4 ∧ g_mn (hv h) k < g_mn (hv h) b))) → y_ev z_pg sc d pgX8_chosen 75 [some (y_vr 94), some (y_vi kd), some (y_vi t), some (y_vi b), some (y_vi k), o, none] [] h = some (some (y_vi (u_fold (g_c4 (hv h) (pl h 111) kd t) (g_c4 (hv h) (pl h 111) kd t b k) (k + 1) n)), h) := fun o q => by
      have e : g_c4 (hv h) (pl h 111) kd t b k = k := if_pos q
      rw [e] at hb' ⊢
      rw [b218_75, b218_80, if_neg (by omega), b218_93, b218_94, yr_t (by omega), ih k _ hb']
    have no : ∀ o, ¬ (g_may (hv h) (pl h 111) 0 k t ∧ (b = -9 ∨ (kd = 4 ∧ g_wa (hv h) b t < g_wa (hv h) k t) ∨ (kd ≠ 4 ∧ g_mn (hv h) k < g_mn (hv h) b))) → y_ev z_pg sc d pgX8_chosen 94 [some (y_vr 94), some (y_vi kd), some (y_vi t), some (y_vi b), some (y_vi k), o, none] [] h = some (some (y_vi (u_fold (g_c4 (hv h) (pl h 111) kd t) (g_c4 (hv h) (pl h 111) kd t b k) (k + 1) n)), h) := fun o q => by
      have e : g_c4 (hv h) (pl h 111) kd t b k = b := if_neg q
      rw [e] at hb' ⊢
      rw [b218_94, yr_t (by omega), ih b _ hb']
    have no9 : ∀ o, ¬ (g_may (hv h) (pl h 111) 0 k t ∧ (b = -9 ∨ (kd = 4 ∧ g_wa (hv h) b t < g_wa (hv h) k t) ∨ (kd ≠ 4 ∧ g_mn (hv h) k < g_mn (hv h) b))) → y_ev z_pg sc d pgX8_chosen 79 [some (y_vr 94), some (y_vi kd), some (y_vi t), some (y_vi b), some (y_vi k), o, none] [] h = some (some (y_vi (u_fold (g_c4 (hv h) (pl h 111) kd t) (g_c4 (hv h) (pl h 111) kd t b k) (k + 1) n)), h) := fun o q => by
      rw [b218_79, b218_80, if_pos rfl, b218_93]
      exact no _ q
    rw [b218_11, hvwm, if_pos (by omega), s215 d (by omega) k t 0 hg hp (by omega) ht (Or.inl rfl), yci_s, u_fold_s]
    by_cases c1 : g_may (hv h) (pl h 111) 0 k t
    · rw [if_neg (by rw [bi_t c1]; omega)]
      by_cases c2 : b = -9
      · rw [if_pos c2]; exact yes _ ⟨c1, Or.inl c2⟩
      · rw [if_neg c2]
        have hbr : 0 ≤ b ∧ b < g_wm (hv h) := by rcases hb with q | q; exact absurd q c2; exact q.1
        by_cases c3 : kd = 4
        · rw [if_pos c3, s202 d (by omega) k t hg (by omega) (by omega), yci_s, s202 d (by omega) b t hg (by omega) (by omega), yci_s]
          by_cases c4 : g_wa (hv h) b t < g_wa (hv h) k t
          · rw [if_pos c4]; exact yes _ ⟨c1, Or.inr (Or.inl ⟨c3, c4⟩)⟩
          · rw [if_neg c4]; exact no9 _ (fun q => by omega)
        · rw [if_neg c3, s175 d (by omega) k (by omega), yci_s, s175 d (by omega) b (by omega), yci_s]
          by_cases c4 : g_mn (hv h) k < g_mn (hv h) b
          · rw [if_pos c4]; exact yes _ ⟨c1, Or.inr (Or.inr ⟨c3, c4⟩)⟩
          · rw [if_neg c4]; exact no9 _ (fun q => by omega)
    · rw [if_pos (bi_f c1)]; exact no _ (fun q => c1 q.1)
theorem l218b (d : Nat) (hd : 6 ≤ d) (kd t : Int) (hkd : 1 ≤ kd ∧ kd ≤ 3) (hg : g_ok (hv h)) (hp : p_ok (hv h) (pl h 111)) (ht : 0 ≤ t ∧ t ≤ 60) : ∀ (n : Nat) (k b : Int) (o5 o6 : Option y_V), 0 ≤ k → k + n = g_rm (hv h) → (b = -9 ∨ ((0 ≤ b ∧ b < g_wm (hv h)) ∧ g_may (hv h) (pl h 111) (if kd = 2 then 1 else 0) b t)) → y_ev z_pg sc d pgX8_chosen 105 [some (y_vr 94), some (y_vi kd), some (y_vi t), some (y_vi b), some (y_vi k), o5, o6] [] h = some (some (y_vi (u_fold (g_c3 (hv h) (pl h 111) kd (pl h 114) t) b k n)), h)
  | 0, k, b, o5, o6, hk, hn, hb => by
    rw [b218_105, show y_I h 94 10 = g_rm (hv h) from rfl, if_neg (by omega)]
    rfl
  | n + 1, k, b, o5, o6, hk, hn, hb => by
    have h1 := hg.2.2.1
    have h2 := hg.2.1
    have ih := fun b o5 o6 hb => l218b d hd kd t hkd hg hp ht n (k + 1) b o5 o6 (by omega) (by omega) hb
    have hb' := g_c3_in (G := hv h) (P := pl h 111) (kd := kd) (cd := pl h 114) (t := t) (b := b) (i := k) (by omega) hb
    have hf := g_fst_in (G := hv h) (P := pl h 111) (K := if kd = 2 then 1 else 0) (r := if kd = 3 then k else pl h 114 k) (t := t) (by omega)
    have hbk : kd = 3 → b ≠ -9 → 0 ≤ b ∧ b < g_wm (hv h) := fun _ q => by rcases hb with z | z; exact absurd z q; exact z.1
    have e132 : y_ev z_pg sc d pgX8_chosen 105 [some (y_vr 94), some (y_vi kd), some (y_vi t), some (y_vi b), some (y_vi k), o5, o6] [] h = y_ev z_pg sc d pgX8_chosen 143 [some (y_vr 94), some (y_vi kd), some (y_vi t), some (y_vi b), some (y_vi k), o5, o6] [y_vi (if kd = 2 then 1 else 0), y_vi t, y_vi (if kd = 3 then k else pl h 114 k), y_vr 94] h := by
      rw [b218_105, show y_I h 94 10 = g_rm (hv h) from rfl, if_pos (by omega)]
      by_cases c : kd = 3
      · rw [if_pos c, if_pos c, b218_132, if_neg (by omega), if_neg (by omega)]
      · rw [if_neg c, if_neg c, yi_t (by omega), b218_132]
        by_cases c2 : kd = 2
        · rw [if_pos c2, if_pos c2]; rfl
        · rw [if_neg c2, if_neg c2]; rfl
    rw [e132, b218_143, s216 d hd _ t _ hg hp ht (by by_cases c2 : kd = 2; rw [if_pos c2]; omega; rw [if_neg c2]; omega), yci_s, u_fold_s]
    have ec : g_c3 (hv h) (pl h 111) kd (pl h 114) t b k = if g_fst (hv h) (pl h 111) (if kd = 2 then 1 else 0) (if kd = 3 then k else pl h 114 k) t = -9 then b else if b = -9 ∨ (kd = 3 ∧ g_ws (hv h) (pl h 111) k < g_ws (hv h) (pl h 111) (g_rd (hv h) b)) then g_fst (hv h) (pl h 111) (if kd = 2 then 1 else 0) (if kd = 3 then k else pl h 114 k) t else b := rfl
    generalize g_fst (hv h) (pl h 111) (if kd = 2 then 1 else 0) (if kd = 3 then k else pl h 114 k) t = f at hf ec
    by_cases c1 : f = -9
    · rw [if_pos c1] at ec ⊢
      rw [ec] at hb' ⊢
      rw [b218_188, b218_189, if_pos c1, b218_204, if_pos rfl, b218_215, yr_t (by omega), ih b _ _ hb']
    · rw [if_neg c1] at ec ⊢
      by_cases c2 : b = -9
      · rw [if_pos (Or.inl c2)] at ec
        rw [ec] at hb' ⊢
        rw [if_pos c2, b218_188, b218_189, if_neg c1, if_pos c2, b218_209, b218_215, yr_t (by omega), ih f _ _ hb']
      · rw [if_neg c2]
        by_cases c3 : kd = 3
        · have hbr := hbk c3 c2
          have hrb := (hg.2.2.2.2.2.2.2.2.1 b hbr.1 hbr.2).1
          rw [if_pos c3, s217 d (by omega) k hg hp (by omega), yci_s, s173 d (by omega) b (by omega), yci_s, s217 d (by omega) _ hg hp (by omega), yci_s]
          by_cases c4 : g_ws (hv h) (pl h 111) k < g_ws (hv h) (pl h 111) (g_rd (hv h) b)
          · rw [if_pos (Or.inr ⟨c3, c4⟩)] at ec
            rw [ec] at hb' ⊢
            rw [if_pos c4, b218_189, if_neg c1, if_neg c2, b218_204, if_neg (by omega), b218_209, b218_215, yr_t (by omega), ih f _ _ hb']
          · rw [if_neg (by omega)] at ec
            rw [ec] at hb' ⊢
            rw [if_neg c4, b218_188, b218_189, if_neg c1, if_neg c2, b218_204, if_pos rfl, b218_215, yr_t (by omega), ih b _ _ hb']
        · rw [if_neg (by omega)] at ec
          rw [ec] at hb' ⊢
          rw [if_neg c3, b218_188, b218_189, if_neg c1, if_neg c2, b218_204, if_pos rfl, b218_215, yr_t (by omega), ih b _ _ hb']
theorem s218 (d : Nat) (hd : 7 ≤ d) (kd t : Int) (hkd : 1 ≤ kd ∧ kd ≤ 5) (hg : g_ok (hv h)) (hp : p_ok (hv h) (pl h 111)) (ht : 0 ≤ t ∧ t ≤ 60) : y_se z_pg sc d 218 [y_vr 94, y_vi kd, y_vi t] h = some (some (y_vi (g_cho (hv h) (pl h 111) kd (pl h 114) t)), h) := by
  rcases d with _ | d
  · omega
  have h1 := hg.2.2.1
  have h2 := hg.2.1
  rw [e218, b218_0]
  unfold g_cho
  by_cases c : 3 < kd
  · rw [if_pos c, if_pos c, l218a d (by omega) kd t hg hp ht (g_wm (hv h)).toNat 0 (-9) none (by omega) (by omega) (Or.inl rfl)]
  · rw [if_neg c, if_neg c, l218b d (by omega) kd t (by omega) hg hp ht (g_rm (hv h)).toNat 0 (-9) none none (by omega) (by omega) (Or.inl rfl)]
end MR
