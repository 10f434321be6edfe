/-! CALLS: digest -/
def d_m (s : Int64) (v : Int) : Int64 := Int64.ofInt 31 * s + y_i2l v
noncomputable def d_cn (h : y_Hp) (s : Int64) : Int64 := u_fold (fun s v => d_m s (m_cnt h v)) s 0 9
noncomputable def d_pt (h : y_Hp) (s : Int64) (p : Int) : Int64 := u_fold (fun s k => d_m s (hv h 101 (Int.toNat (3 * p + k)))) s 0 3
noncomputable def d_rd (h : y_Hp) (s : Int64) (p : Int) : Int64 := u_fold (fun s k => d_m s (g_rt (hv h) p k)) s 0 4
noncomputable def d_wt (h : y_Hp) (s : Int64) (p : Int) : Int64 := u_fold (fun s k => d_m s (g_wt (hv h) (pl h 111) p k)) s 0 6
noncomputable def d_rl (h : y_Hp) (s : Int64) (k : Int) : Int64 := if 1 ≤ y_I h 112 (Int.toNat k) ∧ y_I h 112 (Int.toNat k) ≤ 2 then u_fold (fun s i => d_m s (y_I h 113 (Int.toNat (8 * k + i)))) (d_m s (if y_I h 112 (Int.toNat k) = 0 then -1 else y_I h 112 (Int.toNat k))) 0 (g_rm (hv h)).toNat else d_m s (if y_I h 112 (Int.toNat k) = 0 then -1 else y_I h 112 (Int.toNat k))
noncomputable def d_rw (h : y_Hp) (s : Int64) (r : Int) : Int64 := u_fold (fun s i => d_m s (y_I h 97 (Int.toNat (48 * r + i)))) (d_m s (y_I h 96 (Int.toNat r))) 0 (y_I h 96 (Int.toNat r)).toNat
noncomputable def d_tx (h : y_Hp) (s : Int64) (r : Int) : Int64 := u_fold (fun s i => d_m s (y_I h 100 (Int.toNat (120 * r + i)))) (d_m s (y_I h 99 (Int.toNat r))) 0 (y_I h 99 (Int.toNat r)).toNat
noncomputable def d_ho (h : y_Hp) (s : Int64) : Int64 := u_fold (d_wt h) (u_fold (d_rd h) (u_fold (d_pt h) s 0 (g_pm (hv h)).toNat) 0 (g_rm (hv h)).toNat) 0 (g_wm (hv h)).toNat
noncomputable def d_al (h : y_Hp) : Int64 := u_fold (d_tx h) (u_fold (d_rw h) (u_fold (d_rl h) (d_ho h (d_cn h (Int64.ofInt 17))) 0 6) 0 6) 0 4
section DX
variable {sc : z_Sc} {h : y_Hp} {N : Nat} {a : Nat}
/-! x's -/
theorem l125a (d : Nat) (hd : 4 ≤ d) (hF : y_F h 2 10 = a) (X : xm h a) (hg : g_ok (hv h)) (i2 : I_row h) (i3 : I_txt h) (i4 : I_pln h) (i5 : I_rul h) (R : y_O) : ∀ (n : Nat) (k : Int) (s : Int64), 0 ≤ k → k + n = 9 → y_cl (y_se z_pg sc d 134 [y_vr 2, y_vl (u_fold (fun s v => d_m s (m_cnt h v)) s k n)] h) (fun u2 g1 => y_ev z_pg sc d pgX7_digest 39 [some (y_vr 2), some (y_vl u2), none, some (y_vi 0), none] [] g1) = R → y_ev z_pg sc d pgX7_digest 6 [some (y_vr 2), some (y_vl s), none, some (y_vi k), none] [] h = R
  | 0, k, s, hk, hn, hR => by
    rw [b125_6, if_pos (by omega), ← hR]
    rfl
  | n + 1, k, s, hk, hn, hR => by
    rw [b125_6, if_neg (by omega), s122 d hd hF X hg i2 i3 i4 i5, yci_s, yr_t (by omega), if_pos (by omega)]
    exact l125a d hd hF X hg i2 i3 i4 i5 R n (k + 1) _ (by omega) (by omega) hR
theorem l134a (d : Nat) (hd : 1 ≤ d) (hF : y_F h 2 10 = a) (X : xm h a) (hg : g_ok (hv h)) (j : Int64) (p : Int) (hp : 0 ≤ p ∧ p < g_pm (hv h)) (R : y_O) : ∀ (n : Nat) (k : Int) (s : Int64), 0 ≤ k → k + n = 3 → (∀ o, y_ev z_pg sc d pgX7_digestOfHouse 5 [some (y_vr 2), some (y_vl j), none, some (y_vl (u_fold (fun s k => d_m s (hv h 101 (Int.toNat (3 * p + k)))) s k n)), none, some (y_vi (p + 1)), o] [] h = R) → y_ev z_pg sc d pgX7_digestOfHouse 20 [some (y_vr 2), some (y_vl j), none, some (y_vl s), none, some (y_vi p), some (y_vi k)] [] h = R
  | 0, k, s, hk, hn, hR => by
    have kp := hg.1
    rw [b134_20, if_pos (by omega), yr_t (by omega)]
    exact hR _
  | n + 1, k, s, hk, hn, hR => by
    rw [b134_20, if_neg (by omega), hF, yH0 X.1, s5 d hd X hg p k hp (by omega), yci_s, yr_t (by omega)]
    exact l134a d hd hF X hg j p hp R n (k + 1) _ (by omega) (by omega) hR
theorem l134b (d : Nat) (hd : 1 ≤ d) (hF : y_F h 2 10 = a) (X : xm h a) (hg : g_ok (hv h)) (j : Int64) (R : y_O) : ∀ (n : Nat) (p : Int) (s : Int64) (o : Option y_V), 0 ≤ p → p + n = g_pm (hv h) → (∀ o, y_ev z_pg sc d pgX7_digestOfHouse 60 [some (y_vr 2), some (y_vl j), none, some (y_vl (u_fold (d_pt h) s p n)), none, some (y_vi 0), o] [] h = R) → y_ev z_pg sc d pgX7_digestOfHouse 5 [some (y_vr 2), some (y_vl j), none, some (y_vl s), none, some (y_vi p), o] [] h = R
  | 0, p, s, o, hp, hn, hR => by
    have x1 := X.2.2.1
    rw [b134_5, hF, yH0 X.1, x1, if_neg (by omega)]
    exact hR _
  | n + 1, p, s, o, hp, hn, hR => by
    have x1 := X.2.2.1
    rw [b134_5, hF, yH0 X.1, x1, if_pos (by omega)]
    exact l134a d hd hF X hg j p (by omega) R 3 0 s (by omega) (by omega) fun o => l134b d hd hF X hg j R n (p + 1) _ o (by omega) (by omega) hR
theorem l134c (d : Nat) (hd : 1 ≤ d) (hF : y_F h 2 10 = a) (X : xm h a) (hg : g_ok (hv h)) (j : Int64) (p : Int) (hp : 0 ≤ p ∧ p < g_rm (hv h)) (R : y_O) : ∀ (n : Nat) (k : Int) (s : Int64), 0 ≤ k → k + n = 4 → (∀ o, y_ev z_pg sc d pgX7_digestOfHouse 60 [some (y_vr 2), some (y_vl j), none, some (y_vl (u_fold (fun s k => d_m s (g_rt (hv h) p k)) s k n)), none, some (y_vi (p + 1)), o] [] h = R) → y_ev z_pg sc d pgX7_digestOfHouse 75 [some (y_vr 2), some (y_vl j), none, some (y_vl s), none, some (y_vi p), some (y_vi k)] [] h = R
  | 0, k, s, hk, hn, hR => by
    have kp := hg.2.1
    rw [b134_75, if_pos (by omega), yr_t (by omega)]
    exact hR _
  | n + 1, k, s, hk, hn, hR => by
    rw [b134_75, if_neg (by omega), hF, yH0 X.1, s6 d hd X hg p k hp (by omega), yci_s, yr_t (by omega)]
    exact l134c d hd hF X hg j p hp R n (k + 1) _ (by omega) (by omega) hR
theorem l134d (d : Nat) (hd : 1 ≤ d) (hF : y_F h 2 10 = a) (X : xm h a) (hg : g_ok (hv h)) (j : Int64) (R : y_O) : ∀ (n : Nat) (p : Int) (s : Int64) (o : Option y_V), 0 ≤ p → p + n = g_rm (hv h) → (∀ o, y_ev z_pg sc d pgX7_digestOfHouse 115 [some (y_vr 2), some (y_vl j), none, some (y_vl (u_fold (d_rd h) s p n)), none, some (y_vi 0), o] [] h = R) → y_ev z_pg sc d pgX7_digestOfHouse 60 [some (y_vr 2), some (y_vl j), none, some (y_vl s), none, some (y_vi p), o] [] h = R
  | 0, p, s, o, hp, hn, hR => by
    have x2 := X.2.2.2.1
    rw [b134_60, hF, yH0 X.1, x2, if_neg (by omega)]
    exact hR _
  | n + 1, p, s, o, hp, hn, hR => by
    have x2 := X.2.2.2.1
    rw [b134_60, hF, yH0 X.1, x2, if_pos (by omega)]
    exact l134c d hd hF X hg j p (by omega) R 4 0 s (by omega) (by omega) fun o => l134d d hd hF X hg j R n (p + 1) _ o (by omega) (by omega) hR
theorem l134e (d : Nat) (hd : 2 ≤ d) (hF : y_F h 2 10 = a) (X : xm h a) (hg : g_ok (hv h)) (i4 : I_pln h) (j : Int64) (p : Int) (hp : 0 ≤ p ∧ p < g_wm (hv h)) (R : y_O) : ∀ (n : Nat) (k : Int) (s : Int64), 0 ≤ k → k + n = 6 → (∀ o, y_ev z_pg sc d pgX7_digestOfHouse 115 [some (y_vr 2), some (y_vl j), none, some (y_vl (u_fold (fun s k => d_m s (g_wt (hv h) (pl h 111) p k)) s k n)), none, some (y_vi (p + 1)), o] [] h = R) → y_ev z_pg sc d pgX7_digestOfHouse 130 [some (y_vr 2), some (y_vl j), none, some (y_vl s), none, some (y_vi p), some (y_vi k)] [] h = R
  | 0, k, s, hk, hn, hR => by
    have kp := hg.2.2.1
    rw [b134_130, if_pos (by omega), yr_t (by omega)]
    exact hR _
  | n + 1, k, s, hk, hn, hR => by
    have e1 : g_wt (hv h) (pl h 21) p k = g_wt (hv h) (pl h 111) p k := by
      unfold g_wt
      rw [i4.2 p hp.1 hp.2]
    rw [b134_130, if_neg (by omega), s128 d hd hF X hg p k hp (by omega), yci_s, yr_t (by omega), e1]
    exact l134e d hd hF X hg i4 j p hp R n (k + 1) _ (by omega) (by omega) hR
theorem l134f (d : Nat) (hd : 2 ≤ d) (hF : y_F h 2 10 = a) (X : xm h a) (hg : g_ok (hv h)) (i4 : I_pln h) (j : Int64) (R : y_O) : ∀ (n : Nat) (p : Int) (s : Int64) (o : Option y_V), 0 ≤ p → p + n = g_wm (hv h) → (some (some (y_vl (u_fold (d_wt h) s p n)), h) = R) → y_ev z_pg sc d pgX7_digestOfHouse 115 [some (y_vr 2), some (y_vl j), none, some (y_vl s), none, some (y_vi p), o] [] h = R
  | 0, p, s, o, hp, hn, hR => by
    have x3 := X.2.2.2.2.1
    rw [b134_115, hF, yH0 X.1, x3, if_neg (by omega)]
    exact hR
  | n + 1, p, s, o, hp, hn, hR => by
    have x3 := X.2.2.2.2.1
    rw [b134_115, hF, yH0 X.1, x3, if_pos (by omega)]
    exact l134e d hd hF X hg i4 j p (by omega) R 6 0 s (by omega) (by omega) fun o => l134f d hd hF X hg i4 j R n (p + 1) _ o (by omega) (by omega) hR
theorem s134 (d : Nat) (hd : 3 ≤ d) (hF : y_F h 2 10 = a) (X : xm h a) (hg : g_ok (hv h)) (i4 : I_pln h) (s : Int64) : y_se z_pg sc d 134 [y_vr 2, y_vl s] h = some (some (y_vl (d_ho h s)), h) := by
  rcases d with _ | d
  · omega
  have k1 := hg.1
  have k2 := hg.2.1
  have k3 := hg.2.2.1
  rw [e134, b134_0]
  refine l134b d (by omega) hF X hg s _ (g_pm (hv h)).toNat 0 s none (by omega) (by omega) fun o => ?_
  refine l134d d (by omega) hF X hg s _ (g_rm (hv h)).toNat 0 _ o (by omega) (by omega) fun o => ?_
  exact l134f d (by omega) hF X hg i4 s _ (g_wm (hv h)).toNat 0 _ o (by omega) (by omega) rfl
theorem l85a (d : Nat) (I : I_row h) (j : Int64) (r : Int) (hr : 0 ≤ r ∧ r < 6) (R : y_O) : ∀ (n : Nat) (k : Int) (s : Int64), 0 ≤ k → k + n = max k (y_I h 96 (Int.toNat r)) → (∀ o, y_ev z_pg sc d pgX6_digestOn 5 [some (y_vr 3), some (y_vl j), none, some (y_vl (u_fold (fun s i => d_m s (y_I h 97 (Int.toNat (48 * r + i)))) s k n)), none, some (y_vi (r + 1)), o] [] h = R) → y_ev z_pg sc d pgX6_digestOn 33 [some (y_vr 3), some (y_vl j), none, some (y_vl s), none, some (y_vi r), some (y_vi k)] [] h = R
  | 0, k, s, hk, hn, hR => by
    obtain ⟨j1, j2, j3⟩ := I r hr.1 hr.2
    rw [b85a_33, yi_t (by omega), j1, if_neg (by omega), yr_t (by omega)]
    exact hR _
  | n + 1, k, s, hk, hn, hR => by
    obtain ⟨j1, j2, j3⟩ := I r hr.1 hr.2
    rw [b85a_33, yi_t (by omega), j1, if_pos (by omega), yi_t (by omega), yR hr, lR hr, yi_t (by omega), yr_t (by omega), j3 k hk (by omega)]
    exact l85a d I j r hr R n (k + 1) _ (by omega) (by omega) hR
theorem l85b (d : Nat) (I : I_row h) (j : Int64) (R : y_O) : ∀ (n : Nat) (r : Int) (s : Int64) (o : Option y_V), 0 ≤ r → r + n = 6 → (some (some (y_vl (u_fold (d_rw h) s r n)), h) = R) → y_ev z_pg sc d pgX6_digestOn 5 [some (y_vr 3), some (y_vl j), none, some (y_vl s), none, some (y_vi r), o] [] h = R
  | 0, r, s, o, hr, hn, hR => by
    rw [b85a_5, if_neg (by omega)]
    exact hR
  | n + 1, r, s, o, hr, hn, hR => by
    obtain ⟨j1, j2, j3⟩ := I r hr (by omega)
    rw [b85a_5, if_pos (by omega), yi_t (by omega), j1]
    exact l85a d I j r (by omega) R (y_I h 96 (Int.toNat r)).toNat 0 _ (by omega) (by omega) fun o => l85b d I j R n (r + 1) _ o (by omega) (by omega) hR
theorem l85c (d : Nat) (I : I_txt h) (j : Int64) (r : Int) (hr : 0 ≤ r ∧ r < 4) (R : y_O) : ∀ (n : Nat) (k : Int) (s : Int64), 0 ≤ k → k + n = max k (y_I h 99 (Int.toNat r)) → (∀ o, y_ev z_pg sc d pgX6_digestOn 5 [some (y_vr 12), some (y_vl j), none, some (y_vl (u_fold (fun s i => d_m s (y_I h 100 (Int.toNat (120 * r + i)))) s k n)), none, some (y_vi (r + 1)), o] [] h = R) → y_ev z_pg sc d pgX6_digestOn 33 [some (y_vr 12), some (y_vl j), none, some (y_vl s), none, some (y_vi r), some (y_vi k)] [] h = R
  | 0, k, s, hk, hn, hR => by
    obtain ⟨j1, j2, j3⟩ := I r hr.1 hr.2
    rw [b85b_33, yi_t (by omega), j1, if_neg (by omega), yr_t (by omega)]
    exact hR _
  | n + 1, k, s, hk, hn, hR => by
    obtain ⟨j1, j2, j3⟩ := I r hr.1 hr.2
    rw [b85b_33, yi_t (by omega), j1, if_pos (by omega), yi_t (by omega), yT hr, lT hr, yi_t (by omega), yr_t (by omega), (j3 k hk (by omega)).1]
    exact l85c d I j r hr R n (k + 1) _ (by omega) (by omega) hR
theorem l85d (d : Nat) (I : I_txt h) (j : Int64) (R : y_O) : ∀ (n : Nat) (r : Int) (s : Int64) (o : Option y_V), 0 ≤ r → r + n = 4 → (some (some (y_vl (u_fold (d_tx h) s r n)), h) = R) → y_ev z_pg sc d pgX6_digestOn 5 [some (y_vr 12), some (y_vl j), none, some (y_vl s), none, some (y_vi r), o] [] h = R
  | 0, r, s, o, hr, hn, hR => by
    rw [b85b_5, if_neg (by omega)]
    exact hR
  | n + 1, r, s, o, hr, hn, hR => by
    obtain ⟨j1, j2, j3⟩ := I r hr (by omega)
    rw [b85b_5, if_pos (by omega), yi_t (by omega), j1]
    exact l85c d I j r (by omega) R (y_I h 99 (Int.toNat r)).toNat 0 _ (by omega) (by omega) fun o => l85d d I j R n (r + 1) _ o (by omega) (by omega) hR
theorem s85a (d : Nat) (hd : 1 ≤ d) (I : I_row h) (s : Int64) : y_se z_pg sc d 85 [y_vr 3, y_vl s] h = some (some (y_vl (u_fold (d_rw h) s 0 6)), h) := by
  rcases d with _ | d
  · omega
  rw [e85a, b85a_0]
  exact l85b d I s _ 6 0 s none (by omega) (by omega) rfl
theorem s85b (d : Nat) (hd : 1 ≤ d) (I : I_txt h) (s : Int64) : y_se z_pg sc d 85 [y_vr 12, y_vl s] h = some (some (y_vl (u_fold (d_tx h) s 0 4)), h) := by
  rcases d with _ | d
  · omega
  rw [e85b, b85b_0]
  exact l85d d I s _ 4 0 s none (by omega) (by omega) rfl
theorem l125b (d : Nat) (hd : 1 ≤ d) (hF : y_F h 2 10 = a) (X : xm h a) (hg : g_ok (hv h)) (i5 : I_rul h) (k : Int) (hk : 0 ≤ k ∧ k < 6) (hc : 1 ≤ y_I h 112 (Int.toNat k) ∧ y_I h 112 (Int.toNat k) ≤ 2) (R : y_O) : ∀ (n : Nat) (i : Int) (s : Int64), 0 ≤ i → i + n = g_rm (hv h) → (∀ o, y_ev z_pg sc d pgX7_digest 39 [some (y_vr 2), some (y_vl (u_fold (fun s i => d_m s (y_I h 113 (Int.toNat (8 * k + i)))) s i n)), none, some (y_vi (k + 1)), o] [] h = R) → y_ev z_pg sc d pgX7_digest 81 [some (y_vr 2), some (y_vl s), none, some (y_vi k), some (y_vi i)] [] h = R
  | 0, i, s, hi, hn, hR => by
    obtain ⟨p1, p2, p3⟩ := i5 k hk.1 hk.2
    have x2 := X.2.2.2.1
    rw [b125_81, yi_t (by omega), yU0 hk, s58 d hd k hk, p1, yci_s, if_neg (by rw [bi_t (by omega)]; omega), hF, yH0 X.1, x2, if_neg (by omega), yr_t (by omega)]
    exact hR _
  | n + 1, i, s, hi, hn, hR => by
    obtain ⟨p1, p2, p3⟩ := i5 k hk.1 hk.2
    have x2 := X.2.2.2.1
    have kr := hg.2.1
    have e := (p3 (by omega) i hi (by omega)).1
    rw [show 26 + 2 * Int.toNat k = 25 + 2 * Int.toNat k + 1 by omega] at e
    rw [b125_81, yi_t (by omega), yU0 hk, s58 d hd k hk, p1, yci_s, if_neg (by rw [bi_t (by omega)]; omega), hF, yH0 X.1, x2, if_pos (by omega), yi_t (by omega), yU0 hk, yU1 hk, lU1 hk, yi_t (by omega), yr_t (by omega), e]
    exact l125b d hd hF X hg i5 k hk hc R n (i + 1) _ (by omega) (by omega) hR
theorem l125c (d : Nat) (hd : 1 ≤ d) (hF : y_F h 2 10 = a) (X : xm h a) (hg : g_ok (hv h)) (i5 : I_rul h) (R : y_O) : ∀ (n : Nat) (k : Int) (s : Int64) (o : Option y_V), 0 ≤ k → k + n = 6 → (y_cl (y_se z_pg sc d 85 [y_vr 3, y_vl (u_fold (d_rl h) s k n)] h) (fun u2 g1 => y_cl (y_se z_pg sc d 85 [y_vr 12, y_vl u2] g1) (fun u4 g3 => some (some (y_vl u4), g3))) = R) → y_ev z_pg sc d pgX7_digest 39 [some (y_vr 2), some (y_vl s), none, some (y_vi k), o] [] h = R
  | 0, k, s, o, hk, hn, hR => by
    rw [b125_39, if_neg (by omega)]
    exact hR
  | n + 1, k, s, o, hk, hn, hR => by
    have kr := hg.2.1
    obtain ⟨p1, p2, p3⟩ := i5 k hk (by omega)
    rw [u_fold_s] at hR
    rw [b125_39, if_pos (by omega), yi_t (by omega), yU0 (by omega), yi_t (by omega), yU0 (by omega), p1]
    have key : ∀ s', d_m s (if y_I h 112 (Int.toNat k) = 0 then -1 else y_I h 112 (Int.toNat k)) = s' → y_ev z_pg sc d pgX7_digest 81 [some (y_vr 2), some (y_vl s'), none, some (y_vi k), some (y_vi 0)] [] h = R := fun s' es => by
      by_cases c : 1 ≤ y_I h 112 (Int.toNat k) ∧ y_I h 112 (Int.toNat k) ≤ 2
      · have ed : d_rl h s k = u_fold (fun s i => d_m s (y_I h 113 (Int.toNat (8 * k + i)))) s' 0 (g_rm (hv h)).toNat := by rw [← es]; exact if_pos c
        rw [ed] at hR
        exact l125b d hd hF X hg i5 k (by omega) c R (g_rm (hv h)).toNat 0 s' (by omega) (by omega) fun o => l125c d hd hF X hg i5 R n (k + 1) _ o (by omega) (by omega) hR
      · have ed : d_rl h s k = s' := by rw [← es]; exact if_neg c
        rw [ed] at hR
        rw [b125_81, yi_t (by omega), yU0 (by omega), s58 d hd k (by omega), p1, yci_s, if_pos (bi_f (by omega)), yr_t (by omega)]
        exact l125c d hd hF X hg i5 R n (k + 1) _ _ (by omega) (by omega) hR
    by_cases c : y_I h 112 (Int.toNat k) = 0
    · rw [if_pos c]
      exact key _ (by rw [if_pos c]; rfl)
    · rw [if_neg c]
      exact key _ (by rw [if_neg c]; rfl)
theorem s125 (d : Nat) (hd : 6 ≤ d) (I : INV N h) : y_se z_pg sc d 125 [y_vr 2] h = some (some (y_vl (d_al h)), h) := by
  obtain ⟨a, ⟨hF, hD, X, hg⟩, i2, i3, i4, i5, -⟩ := I
  rcases d with _ | d
  · omega
  rw [e125, b125_0]
  refine l125a d (by omega) hF X hg i2 i3 i4 i5 _ 9 0 _ (by omega) (by omega) ?_
  rw [s134 d (by omega) hF X hg i4, ycl_s]
  refine l125c d (by omega) hF X hg i5 _ 6 0 _ none (by omega) (by omega) ?_
  rw [s85a d (by omega) i2, ycl_s, s85b d (by omega) i3, ycl_s]
  rfl
end DX
