/-! the model's digest -/
def u_H (h : y_Hp) (s : Int64) : y_Hp := y_sJ h 94 47 s
theorem u_HJ {h : y_Hp} {s : Int64} : y_J (u_H h s) 94 47 = s := by
  unfold u_H y_J y_sJ z_row z_up
  simp
theorem u_HH {h : y_Hp} {s t : Int64} : y_sJ (u_H h s) 94 47 t = u_H h t := by
  unfold u_H y_sJ
  refine Prod.ext rfl (Prod.ext rfl ?_)
  funext a k
  have e : z_up (z_up (h.2.2 94) 47 s) 47 t = z_up (h.2.2 94) 47 t := funext fun j => by
    unfold z_up
    by_cases c : j = 47
    · rw [if_pos c, if_pos c]
    · rw [if_neg c, if_neg c, if_neg c]
  by_cases c1 : a = 94
  · subst c1
    exact congrFun e k
  · show (if a = 94 then _ else if a = 94 then _ else h.2.2 a) k = (if a = 94 then _ else h.2.2 a) k
    rw [if_neg c1, if_neg c1, if_neg c1]
section DM
variable {sc : z_Sc} {h : y_Hp} {N : Nat} {a : Nat}
theorem s247 (d : Nat) (hd : 1 ≤ d) (s j : Int64) : y_se z_pg sc d 247 [y_vr 94, y_vl j] (u_H h s) = some (none, u_H h (Int64.ofInt 31 * s + j)) := by
  rcases d with _ | d
  · omega
  rw [e247, b247_0, u_HJ, u_HH]
theorem l249a (d : Nat) (hd : 4 ≤ d) (hg : g_ok (hv h)) (R : y_O) : ∀ (n : Nat) (k : Int) (s : Int64), 0 ≤ k → k + n = 9 → (y_cv (y_se z_pg sc d 248 [y_vr 94] (u_H h (u_fold (fun s v => d_m s (m_cnt h v)) s k n))) (fun g1 => y_ev z_pg sc d pgX8_digest 37 [some (y_vr 94), some (y_vi 0), none] [] g1)) = R → y_ev z_pg sc d pgX8_digest 9 [some (y_vr 94), some (y_vi k), none] [] (u_H h s) = R
  | 0, k, s, hk, hn, hR => by
    rw [b249_9, if_neg (by omega)]
    exact hR
  | n + 1, k, s, hk, hn, hR => by
    rw [b249_9, if_pos (by omega), s245 (h := u_H h s) d (by omega) hg k, yci_s, s247 d (by omega), ycv_s, yr_t (by omega)]
    exact l249a d hd hg R n (k + 1) _ (by omega) (by omega) hR
theorem l248a (d : Nat) (hd : 1 ≤ d) (hg : g_ok (hv h)) (p : Int) (hp : 0 ≤ p ∧ p < g_pm (hv h)) (R : y_O) : ∀ (n : Nat) (k : Int) (s : Int64), 0 ≤ k → k + n = 3 → (∀ o, y_ev z_pg sc d pgX8_mixHouse 2 [some (y_vr 94), some (y_vi (p + 1)), o] [] (u_H h (u_fold (fun s k => d_m s (hv h 101 (Int.toNat (3 * p + k)))) s k n)) = R) → y_ev z_pg sc d pgX8_mixHouse 12 [some (y_vr 94), some (y_vi p), some (y_vi k)] [] (u_H h s) = R
  | 0, k, s, hk, hn, hR => by
    have kp := hg.1
    rw [b248_12, if_neg (by omega), yr_t (by omega)]
    exact hR _
  | n + 1, k, s, hk, hn, hR => by
    have kp := hg.1
    rw [b248_12, if_pos (by omega), yr_t (by omega), yr_t (by omega), yi_t (by omega), s247 d hd, ycv_s, yr_t (by omega)]
    exact l248a d hd hg p hp R n (k + 1) _ (by omega) (by omega) hR
theorem l248b (d : Nat) (hd : 1 ≤ d) (hg : g_ok (hv h)) (R : y_O) : ∀ (n : Nat) (p : Int) (s : Int64) (o : Option y_V), 0 ≤ p → p + n = g_pm (hv h) → (∀ o, y_ev z_pg sc d pgX8_mixHouse 46 [some (y_vr 94), some (y_vi 0), o] [] (u_H h (u_fold (d_pt h) s p n)) = R) → y_ev z_pg sc d pgX8_mixHouse 2 [some (y_vr 94), some (y_vi p), o] [] (u_H h s) = R
  | 0, p, s, o, hp, hn, hR => by
    have e : y_I (u_H h s) 94 9 = g_pm (hv h) := rfl
    rw [b248_2, e, if_neg (by omega)]
    exact hR _
  | n + 1, p, s, o, hp, hn, hR => by
    have e : y_I (u_H h s) 94 9 = g_pm (hv h) := rfl
    rw [b248_2, e, if_pos (by omega)]
    exact l248a d hd hg p (by omega) R 3 0 s (by omega) (by omega) fun o => l248b d hd hg R n (p + 1) _ o (by omega) (by omega) hR
theorem l248c (d : Nat) (hd : 2 ≤ d) (hg : g_ok (hv h)) (p : Int) (hp : 0 ≤ p ∧ p < g_rm (hv h)) (R : y_O) : ∀ (n : Nat) (k : Int) (s : Int64), 0 ≤ k → k + n = 4 → (∀ o, y_ev z_pg sc d pgX8_mixHouse 46 [some (y_vr 94), some (y_vi (p + 1)), o] [] (u_H h (u_fold (fun s k => d_m s (g_rt (hv h) p k)) s k n)) = R) → y_ev z_pg sc d pgX8_mixHouse 56 [some (y_vr 94), some (y_vi p), some (y_vi k)] [] (u_H h s) = R
  | 0, k, s, hk, hn, hR => by
    have kp := hg.2.1
    rw [b248_56, if_neg (by omega), yr_t (by omega)]
    exact hR _
  | n + 1, k, s, hk, hn, hR => by
    rw [b248_56, if_pos (by omega), s184 (h := u_H h s) d hd hg p k hp (by omega), yci_s, s247 d (by omega), ycv_s, yr_t (by omega)]
    exact l248c d hd hg p hp R n (k + 1) _ (by omega) (by omega) hR
theorem l248d (d : Nat) (hd : 2 ≤ d) (hg : g_ok (hv h)) (R : y_O) : ∀ (n : Nat) (p : Int) (s : Int64) (o : Option y_V), 0 ≤ p → p + n = g_rm (hv h) → (∀ o, y_ev z_pg sc d pgX8_mixHouse 86 [some (y_vr 94), some (y_vi 0), o] [] (u_H h (u_fold (d_rd h) s p n)) = R) → y_ev z_pg sc d pgX8_mixHouse 46 [some (y_vr 94), some (y_vi p), o] [] (u_H h s) = R
  | 0, p, s, o, hp, hn, hR => by
    have e : y_I (u_H h s) 94 10 = g_rm (hv h) := rfl
    rw [b248_46, e, if_neg (by omega)]
    exact hR _
  | n + 1, p, s, o, hp, hn, hR => by
    have e : y_I (u_H h s) 94 10 = g_rm (hv h) := rfl
    rw [b248_46, e, if_pos (by omega)]
    exact l248c d hd hg p (by omega) R 4 0 s (by omega) (by omega) fun o => l248d d hd hg R n (p + 1) _ o (by omega) (by omega) hR
theorem l248e (d : Nat) (hd : 2 ≤ d) (hg : g_ok (hv h)) (p : Int) (hp : 0 ≤ p ∧ p < g_wm (hv h)) (R : y_O) : ∀ (n : Nat) (k : Int) (s : Int64), 0 ≤ k → k + n = 6 → (∀ o, y_ev z_pg sc d pgX8_mixHouse 86 [some (y_vr 94), some (y_vi (p + 1)), o] [] (u_H h (u_fold (fun s k => d_m s (g_wt (hv h) (pl h 111) p k)) s k n)) = R) → y_ev z_pg sc d pgX8_mixHouse 96 [some (y_vr 94), some (y_vi p), some (y_vi k)] [] (u_H h s) = R
  | 0, k, s, hk, hn, hR => by
    have kp := hg.2.2.1
    rw [b248_96, if_neg (by omega), yr_t (by omega)]
    exact hR _
  | n + 1, k, s, hk, hn, hR => by
    rw [b248_96, if_pos (by omega), s186 (h := u_H h s) d hd hg p k hp (by omega), yci_s, s247 d (by omega), ycv_s, yr_t (by omega)]
    exact l248e d hd hg p hp R n (k + 1) _ (by omega) (by omega) hR
theorem l248f (d : Nat) (hd : 2 ≤ d) (hg : g_ok (hv h)) (R : y_O) : ∀ (n : Nat) (p : Int) (s : Int64) (o : Option y_V), 0 ≤ p → p + n = g_wm (hv h) → (∀ o, y_ev z_pg sc d pgX8_mixHouse 127 [some (y_vr 94), some (y_vi 0), o] [] (u_H h (u_fold (d_wt h) s p n)) = R) → y_ev z_pg sc d pgX8_mixHouse 86 [some (y_vr 94), some (y_vi p), o] [] (u_H h s) = R
  | 0, p, s, o, hp, hn, hR => by
    have e : y_I (u_H h s) 94 11 = g_wm (hv h) := rfl
    rw [b248_86, e, if_neg (by omega)]
    exact hR _
  | n + 1, p, s, o, hp, hn, hR => by
    have e : y_I (u_H h s) 94 11 = g_wm (hv h) := rfl
    rw [b248_86, e, if_pos (by omega)]
    exact l248e d hd hg p (by omega) R 6 0 s (by omega) (by omega) fun o => l248f d hd hg R n (p + 1) _ o (by omega) (by omega) hR
theorem l248g (d : Nat) (hd : 1 ≤ d) (hg : g_ok (hv h)) (k : Int) (hk : 0 ≤ k ∧ k < 6) (hc : 1 ≤ y_I h 112 (Int.toNat k) ∧ y_I h 112 (Int.toNat k) ≤ 2) (R : y_O) : ∀ (n : Nat) (i : Int) (s : Int64), 0 ≤ i → i + n = g_rm (hv h) → (∀ o, y_ev z_pg sc d pgX8_mixHouse 127 [some (y_vr 94), some (y_vi (k + 1)), o] [] (u_H h (u_fold (fun s i => d_m s (y_I h 113 (Int.toNat (8 * k + i)))) s i n)) = R) → y_ev z_pg sc d pgX8_mixHouse 161 [some (y_vr 94), some (y_vi k), some (y_vi i)] [] (u_H h s) = R
  | 0, i, s, hi, hn, hR => by
    have e : y_I (u_H h s) 94 10 = g_rm (hv h) := rfl
    rw [b248_161, e, if_neg (by omega), yr_t (by omega)]
    exact hR _
  | n + 1, i, s, hi, hn, hR => by
    have kr := hg.2.1
    have e : y_I (u_H h s) 94 10 = g_rm (hv h) := rfl
    have e2 : y_I (u_H h s) 112 (Int.toNat k) = y_I h 112 (Int.toNat k) := rfl
    rw [b248_161, e, if_pos (by omega), yi_t (by omega), e2, s136 d hd, yci_s, if_neg (by rw [bi_t hc]; omega), yr_t (by omega), yr_t (by omega), yi_t (by omega), s247 d hd, ycv_s, yr_t (by omega)]
    exact l248g d hd hg k hk hc R n (i + 1) _ (by omega) (by omega) hR
theorem l248h (d : Nat) (hd : 1 ≤ d) (hg : g_ok (hv h)) (R : y_O) : ∀ (n : Nat) (k : Int) (s : Int64) (o : Option y_V), 0 ≤ k → k + n = 6 → some (none, u_H h (u_fold (d_rl h) s k n)) = R → y_ev z_pg sc d pgX8_mixHouse 127 [some (y_vr 94), some (y_vi k), o] [] (u_H h s) = R
  | 0, k, s, o, hk, hn, hR => by
    rw [b248_127, if_neg (by omega)]
    exact hR
  | n + 1, k, s, o, hk, hn, hR => by
    have kr := hg.2.1
    have e2 : ∀ s, y_I (u_H h s) 112 (Int.toNat k) = y_I h 112 (Int.toNat k) := fun s => rfl
    rw [u_fold_s] at hR
    have key : ∀ s', d_m s (if y_I h 112 (Int.toNat k) = 0 then -1 else y_I h 112 (Int.toNat k)) = s' → y_ev z_pg sc d pgX8_mixHouse 161 [some (y_vr 94), some (y_vi k), some (y_vi 0)] [] (u_H h s') = R := fun s' es => by
      by_cases c : 1 ≤ y_I h 112 (Int.toNat k) ∧ y_I h 112 (Int.toNat k) ≤ 2
      · have ed : d_rl h s k = u_fold (fun s i => d_m s (y_I h 113 (Int.toNat (8 * k + i)))) s' 0 (g_rm (hv h)).toNat := by rw [← es]; exact if_pos c
        rw [ed] at hR
        exact l248g d hd hg k (by omega) c R (g_rm (hv h)).toNat 0 s' (by omega) (by omega) fun o => l248h d hd hg R n (k + 1) _ o (by omega) (by omega) hR
      · have ed : d_rl h s k = s' := by rw [← es]; exact if_neg c
        rw [ed] at hR
        have e : y_I (u_H h s') 94 10 = g_rm (hv h) := rfl
        rw [b248_161, e]
        by_cases c2 : 0 < g_rm (hv h)
        · rw [if_pos c2, yi_t (by omega), e2, s136 d hd, yci_s, if_pos (bi_f c), yr_t (by omega)]
          exact l248h d hd hg R n (k + 1) _ _ (by omega) (by omega) hR
        · rw [if_neg c2, yr_t (by omega)]
          exact l248h d hd hg R n (k + 1) _ _ (by omega) (by omega) hR
    rw [b248_127, if_pos (by omega), yi_t (by omega), yi_t (by omega), e2]
    by_cases c : y_I h 112 (Int.toNat k) = 0
    · rw [if_pos c, s247 d hd, ycv_s]
      exact key _ (by rw [if_pos c]; rfl)
    · rw [if_neg c, s247 d hd, ycv_s]
      exact key _ (by rw [if_neg c]; rfl)
theorem s248 (d : Nat) (hd : 3 ≤ d) (hg : g_ok (hv h)) (s : Int64) : y_se z_pg sc d 248 [y_vr 94] (u_H h s) = some (none, u_H h (u_fold (d_rl h) (d_ho h s) 0 6)) := by
  rcases d with _ | d
  · omega
  have k1 := hg.1
  have k2 := hg.2.1
  have k3 := hg.2.2.1
  rw [e248, b248_0]
  refine l248b d (by omega) hg _ (g_pm (hv h)).toNat 0 s none (by omega) (by omega) fun o => ?_
  refine l248d d (by omega) hg _ (g_rm (hv h)).toNat 0 _ o (by omega) (by omega) fun o => ?_
  refine l248f d (by omega) hg _ (g_wm (hv h)).toNat 0 _ o (by omega) (by omega) fun o => ?_
  exact l248h d (by omega) hg _ 6 0 _ o (by omega) (by omega) rfl
theorem l249b (d : Nat) (hd : 1 ≤ d) (r : Int) (hr : 0 ≤ r ∧ r < 6) (hs : y_I h 96 (Int.toNat r) ≤ 48) (R : y_O) : ∀ (n : Nat) (k : Int) (s : Int64), 0 ≤ k → k + n = max k (y_I h 96 (Int.toNat r)) → (∀ o, y_ev z_pg sc d pgX8_digest 37 [some (y_vr 94), some (y_vi (r + 1)), o] [] (u_H h (u_fold (fun s i => d_m s (y_I h 97 (Int.toNat (48 * r + i)))) s k n)) = R) → y_ev z_pg sc d pgX8_digest 56 [some (y_vr 94), some (y_vi r), some (y_vi k)] [] (u_H h s) = R
  | 0, k, s, hk, hn, hR => by
    have e : y_I (u_H h s) 96 (Int.toNat r) = y_I h 96 (Int.toNat r) := rfl
    rw [b249_56, yi_t (by omega), e, if_neg (by omega), yr_t (by omega)]
    exact hR _
  | n + 1, k, s, hk, hn, hR => by
    have e : y_I (u_H h s) 96 (Int.toNat r) = y_I h 96 (Int.toNat r) := rfl
    rw [b249_56, yi_t (by omega), e, if_pos (by omega), s146 d hd r k hr (by omega), yci_s, s247 d hd, ycv_s, yr_t (by omega)]
    exact l249b d hd r hr hs R n (k + 1) _ (by omega) (by omega) hR
theorem l249c (d : Nat) (hd : 1 ≤ d) (I : I_row h) (R : y_O) : ∀ (n : Nat) (r : Int) (s : Int64) (o : Option y_V), 0 ≤ r → r + n = 6 → (∀ o, y_ev z_pg sc d pgX8_digest 91 [some (y_vr 94), some (y_vi 0), o] [] (u_H h (u_fold (d_rw h) s r n)) = R) → y_ev z_pg sc d pgX8_digest 37 [some (y_vr 94), some (y_vi r), o] [] (u_H h s) = R
  | 0, r, s, o, hr, hn, hR => by
    rw [b249_37, if_neg (by omega)]
    exact hR _
  | n + 1, r, s, o, hr, hn, hR => by
    obtain ⟨j1, j2, j3⟩ := I r hr (by omega)
    rw [b249_37, if_pos (by omega), yi_t (by omega), s247 d hd, ycv_s]
    exact l249b d hd r (by omega) (by omega) R (y_I h 96 (Int.toNat r)).toNat 0 _ (by omega) (by omega) fun o => l249c d hd I R n (r + 1) _ o (by omega) (by omega) hR
theorem s156 (d : Nat) (hd : 1 ≤ d) (r i : Int) (hr : 0 ≤ r ∧ r < 4) (hi : 0 ≤ i ∧ i < 120) : y_se z_pg sc d 156 [y_vr 94, y_vi r, y_vi i] h = some (some (y_vi (if i < y_I h 99 (Int.toNat r) then y_I h 100 (Int.toNat (120 * r + i)) else 0)), h) := by
  rcases d with _ | d
  · omega
  rw [e156, b156_0, yi_t (by omega)]
  by_cases c : i < y_I h 99 (Int.toNat r)
  · rw [if_pos c, if_pos c, yr_t (by omega), yr_t (by omega), yi_t (by omega)]
  · rw [if_neg c, if_neg c]
theorem l249d (d : Nat) (hd : 1 ≤ d) (r : Int) (hr : 0 ≤ r ∧ r < 4) (hs : y_I h 99 (Int.toNat r) ≤ 120) (R : y_O) : ∀ (n : Nat) (k : Int) (s : Int64), 0 ≤ k → k + n = max k (y_I h 99 (Int.toNat r)) → (∀ o, y_ev z_pg sc d pgX8_digest 91 [some (y_vr 94), some (y_vi (r + 1)), o] [] (u_H h (u_fold (fun s i => d_m s (y_I h 100 (Int.toNat (120 * r + i)))) s k n)) = R) → y_ev z_pg sc d pgX8_digest 109 [some (y_vr 94), some (y_vi r), some (y_vi k)] [] (u_H h s) = R
  | 0, k, s, hk, hn, hR => by
    have e : y_I (u_H h s) 99 (Int.toNat r) = y_I h 99 (Int.toNat r) := rfl
    rw [b249_109, yi_t (by omega), e, if_neg (by omega), yr_t (by omega)]
    exact hR _
  | n + 1, k, s, hk, hn, hR => by
    have e : y_I (u_H h s) 99 (Int.toNat r) = y_I h 99 (Int.toNat r) := rfl
    rw [b249_109, yi_t (by omega), e, if_pos (by omega), s156 d hd r k hr (by omega), e, if_pos (by omega), yci_s, s247 d hd, ycv_s, yr_t (by omega)]
    exact l249d d hd r hr hs R n (k + 1) _ (by omega) (by omega) hR
theorem l249e (d : Nat) (hd : 1 ≤ d) (I : I_txt h) (R : y_O) : ∀ (n : Nat) (r : Int) (s : Int64) (o : Option y_V), 0 ≤ r → r + n = 4 → some (some (y_vl (u_fold (d_tx h) s r n)), u_H h (u_fold (d_tx h) s r n)) = R → y_ev z_pg sc d pgX8_digest 91 [some (y_vr 94), some (y_vi r), o] [] (u_H h s) = R
  | 0, r, s, o, hr, hn, hR => by
    rw [b249_91, if_neg (by omega), u_HJ]
    exact hR
  | n + 1, r, s, o, hr, hn, hR => by
    obtain ⟨j1, j2, j3⟩ := I r hr (by omega)
    rw [b249_91, if_pos (by omega), yi_t (by omega), s247 d hd, ycv_s]
    exact l249d d hd r (by omega) (by omega) R (y_I h 99 (Int.toNat r)).toNat 0 _ (by omega) (by omega) fun o => l249e d hd I R n (r + 1) _ o (by omega) (by omega) hR
theorem s249 (d : Nat) (hd : 6 ≤ d) (I : INV N h) : y_se z_pg sc d 249 [y_vr 94] h = some (some (y_vl (d_al h)), u_H h (d_al h)) := by
  obtain ⟨a, ⟨hF, hD, X, hg⟩, i2, i3, i4, i5, -⟩ := I
  rcases d with _ | d
  · omega
  rw [e249, b249_0]
  refine l249a d (by omega) hg _ 9 0 _ (by omega) (by omega) ?_
  rw [s248 d (by omega) hg, ycv_s]
  refine l249c d (by omega) i2 _ 6 0 _ none (by omega) (by omega) fun o => ?_
  refine l249e d (by omega) i3 _ 4 0 _ o (by omega) (by omega) ?_
  rfl
/-- both digests are alike, and all still holds -/
theorem o_digest (I : INV N h) : ∃ (u : Int64) (h1 h2 : y_Hp), (∀ d, 60 ≤ d → y_se z_pg sc d 125 [y_vr 2] h = some (some (y_vl u), h1)) ∧ (∀ d, 60 ≤ d → y_se z_pg sc d 249 [y_vr 94] h1 = some (some (y_vl u), h2)) ∧ INV (N + 1) h2 := by
  refine ⟨d_al h, h, u_H h (d_al h), fun d hd => s125 d (by omega) I, fun d hd => s249 d (by omega) I, ?_⟩
  obtain ⟨a, i1, i2, i3, i4, i5, i6⟩ := I
  have ha := i1.2.2.1.1
  refine ⟨a, I_hou_cg (h := h) (fun b k q => rfl) rfl (fun p => ?_) i1, I_row_cg (h := h) (fun b k q => rfl) i2, I_txt_cg (h := h) (fun b k q => rfl) i3, I_pln_cg (h := h) (fun b k q => rfl) i4, I_rul_cg (h := h) (fun b k q => rfl) i5, I_tel_up (Nat.le_succ N) (I_tel_cg (h := h) (fun b k q => rfl) i6)⟩
  unfold u_H y_J y_sJ z_row
  have : a + 4 ≠ 94 := by omega
  simp [this]
end DM
