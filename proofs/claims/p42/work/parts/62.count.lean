/-! CALLS: asked, count, finding, findings -/
theorem u_sum_z {k : Int} : ∀ {n : Nat}, u_sum (fun _ => 0) k n = 0
  | 0 => rfl
  | n + 1 => by rw [u_sum_s, u_sum_z]; rfl
noncomputable def m_c1 (h : y_Hp) (v w : Int) : Int := if v = 4 then y_bi (pl h 111 w ≠ -9) else 0
noncomputable def m_c2 (h : y_Hp) (v k : Int) : Int := if v = 5 then y_bi (0 < y_I h 112 (Int.toNat k)) else if v = 6 then y_bi (1 ≤ y_I h 112 (Int.toNat k) ∧ y_I h 112 (Int.toNat k) ≤ 2) else if v = 7 then y_bi (¬ y_I h 96 (Int.toNat k) < 0) else 0
noncomputable def m_c3 (h : y_Hp) (v k : Int) : Int := if v = 8 then y_bi (¬ y_I h 99 (Int.toNat k) < 0) else 0
noncomputable def m_cnt (h : y_Hp) (v : Int) : Int := if v = 0 then g_pm (hv h) else if v = 1 then g_rm (hv h) else if v = 2 then g_wm (hv h) else if v = 3 then g_la (hv h) else u_sum (m_c1 h v) 0 (g_wm (hv h)).toNat + u_sum (m_c2 h v) 0 6 + u_sum (m_c3 h v) 0 4
theorem bi_bd {p : Prop} : 0 ≤ y_bi p ∧ y_bi p ≤ 1 := by
  by_cases c : p
  · rw [bi_t c]; omega
  · rw [bi_f c]; omega
section CO
variable {sc : z_Sc} {h : y_Hp} {N : Nat} {a : Nat}
theorem l245c (d : Nat) (v : Int) : ∀ (n : Nat) (k s : Int), 0 ≤ k → k + n = 4 → 0 ≤ s ∧ s + n ≤ 1000 → y_ev z_pg sc d pgX8_counted 120 [some (y_vr 94), some (y_vi v), some (y_vi s), some (y_vi k)] [] h = some (some (y_vi (if v = 0 then g_pm (hv h) else if v = 1 then g_rm (hv h) else if v = 2 then g_wm (hv h) else if v = 3 then g_la (hv h) else s + u_sum (m_c3 h v) k n)), h)
  | 0, k, s, hk, hn, hs => by
    rw [b245_120, if_neg (by omega), u_sum_0, Int.add_zero]
    by_cases c0 : v = 0
    · rw [if_pos c0, if_pos c0]; rfl
    rw [if_neg c0, if_neg c0]
    by_cases c1 : v = 1
    · rw [if_pos c1, if_pos c1]; rfl
    rw [if_neg c1, if_neg c1]
    by_cases c2 : v = 2
    · rw [if_pos c2, if_pos c2]; rfl
    rw [if_neg c2, if_neg c2]
    by_cases c3 : v = 3
    · rw [if_pos c3, if_pos c3]; rfl
    · rw [if_neg c3, if_neg c3]
  | n + 1, k, s, hk, hn, hs => by
    have ih := fun s => l245c d v n (k + 1) s (by omega) (by omega)
    have e : s + u_sum (m_c3 h v) k (n + 1) = (s + m_c3 h v k) + u_sum (m_c3 h v) (k + 1) n := by rw [u_sum_s]; omega
    rw [b245_120, if_pos (by omega), e]
    unfold m_c3
    by_cases c8 : v = 8
    · rw [if_pos c8, yi_t (by omega), if_pos c8]
      by_cases q : y_I h 99 (Int.toNat k) < 0
      · rw [if_pos q, yr_t (by omega), yr_t (by omega), ih _ (by omega), bi_f (fun z => z q)]
        rfl
      · rw [if_neg q, yr_t (by omega), yr_t (by omega), ih _ (by omega), bi_t q]
        rfl
    · rw [if_neg c8, yr_t (by omega), yr_t (by omega), ih _ (by omega), if_neg c8]
      rfl
theorem l245b (d : Nat) (hd : 1 ≤ d) (v : Int) : ∀ (n : Nat) (k s : Int), 0 ≤ k → k + n = 6 → 0 ≤ s ∧ s + n ≤ 900 → y_ev z_pg sc d pgX8_counted 41 [some (y_vr 94), some (y_vi v), some (y_vi s), some (y_vi k)] [] h = y_ev z_pg sc d pgX8_counted 120 [some (y_vr 94), some (y_vi v), some (y_vi (s + u_sum (m_c2 h v) k n)), some (y_vi 0)] [] h
  | 0, k, s, hk, hn, hs => by
    rw [b245_41, if_neg (by omega), u_sum_0, Int.add_zero]
  | n + 1, k, s, hk, hn, hs => by
    have ih := fun s => l245b d hd v n (k + 1) s (by omega) (by omega)
    have e : s + u_sum (m_c2 h v) k (n + 1) = (s + m_c2 h v k) + u_sum (m_c2 h v) (k + 1) n := by rw [u_sum_s]; omega
    rw [b245_41, if_pos (by omega), e]
    by_cases c5 : v = 5
    · have em : m_c2 h v k = y_bi (0 < y_I h 112 (Int.toNat k)) := if_pos c5
      rw [if_pos c5, yi_t (by omega), em]
      by_cases q : 0 < y_I h 112 (Int.toNat k)
      · rw [if_pos q, yr_t (by omega), if_neg (by omega), yr_t (by omega), yr_t (by omega), ih _ (by omega), bi_t q, Int.add_zero]
      · rw [if_neg q, if_neg (by omega), yr_t (by omega), if_neg (by omega), yr_t (by omega), yr_t (by omega), ih _ (by omega), bi_f q, Int.add_zero]
    rw [if_neg c5]
    by_cases c6 : v = 6
    · have em : m_c2 h v k = y_bi (1 ≤ y_I h 112 (Int.toNat k) ∧ y_I h 112 (Int.toNat k) ≤ 2) := (if_neg c5).trans (if_pos c6)
      rw [if_pos c6, yi_t (by omega), s136 d hd, yci_s, em]
      by_cases q : 1 ≤ y_I h 112 (Int.toNat k) ∧ y_I h 112 (Int.toNat k) ≤ 2
      · rw [if_neg (by rw [bi_t q]; omega), yr_t (by omega), if_neg (by omega), yr_t (by omega), yr_t (by omega), ih _ (by omega), bi_t q, Int.add_zero]
      · rw [if_pos (bi_f q), yr_t (by omega), if_neg (by omega), yr_t (by omega), yr_t (by omega), ih _ (by omega), bi_f q, Int.add_zero]
    rw [if_neg c6, yr_t (by omega)]
    by_cases c7 : v = 7
    · have em : m_c2 h v k = y_bi (¬ y_I h 96 (Int.toNat k) < 0) := (if_neg c5).trans ((if_neg c6).trans (if_pos c7))
      rw [if_pos c7, yi_t (by omega), em]
      by_cases q : y_I h 96 (Int.toNat k) < 0
      · rw [if_pos q, yr_t (by omega), yr_t (by omega), ih _ (by omega), bi_f (fun z => z q), Int.add_zero, Int.add_zero]
      · rw [if_neg q, yr_t (by omega), yr_t (by omega), ih _ (by omega), bi_t q, Int.add_zero]
    · have em : m_c2 h v k = 0 := (if_neg c5).trans ((if_neg c6).trans (if_neg c7))
      rw [if_neg c7, yr_t (by omega), yr_t (by omega), ih _ (by omega), em, Int.add_zero]
theorem l245a (d : Nat) (hd : 1 ≤ d) (hg : g_ok (hv h)) (v : Int) : ∀ (n : Nat) (k s : Int), 0 ≤ k → k + n = g_wm (hv h) → 0 ≤ s ∧ s + n ≤ 800 → y_ev z_pg sc d pgX8_counted 4 [some (y_vr 94), some (y_vi v), some (y_vi s), some (y_vi k)] [] h = y_ev z_pg sc d pgX8_counted 41 [some (y_vr 94), some (y_vi v), some (y_vi (s + u_sum (m_c1 h v) k n)), some (y_vi 0)] [] h
  | 0, k, s, hk, hn, hs => by
    rw [b245_4, hvwm, if_neg (by omega), u_sum_0, Int.add_zero]
  | n + 1, k, s, hk, hn, hs => by
    have kw := hg.2.2.1
    have ih := fun s => l245a d hd hg v n (k + 1) s (by omega) (by omega)
    have e : s + u_sum (m_c1 h v) k (n + 1) = (s + m_c1 h v k) + u_sum (m_c1 h v) (k + 1) n := by rw [u_sum_s]; omega
    rw [b245_4, hvwm, if_pos (by omega), e]
    by_cases c : v = 4
    · have em : m_c1 h v k = y_bi (pl h 111 k ≠ -9) := if_pos c
      rw [if_pos c, s191 d hd k (by omega), yci_s, em]
      by_cases q : pl h 111 k ≠ -9
      · rw [if_neg (by rw [bi_t q]; omega), yr_t (by omega), yr_t (by omega), ih _ (by omega), bi_t q]
      · rw [if_pos (bi_f q), yr_t (by omega), yr_t (by omega), ih _ (by omega), bi_f q]
    · have em : m_c1 h v k = 0 := if_neg c
      rw [if_neg c, yr_t (by omega), yr_t (by omega), ih _ (by omega), em]
theorem m_c1_bd {v j : Int} : 0 ≤ m_c1 h v j ∧ m_c1 h v j ≤ 1 := by
  unfold m_c1
  split
  · exact bi_bd
  · omega
theorem m_c2_bd {v j : Int} : 0 ≤ m_c2 h v j ∧ m_c2 h v j ≤ 1 := by
  unfold m_c2
  split
  · exact bi_bd
  split
  · exact bi_bd
  split
  · exact bi_bd
  · omega
theorem s245 (d : Nat) (hd : 2 ≤ d) (hg : g_ok (hv h)) (v : Int) : y_se z_pg sc d 245 [y_vr 94, y_vi v] h = some (some (y_vi (m_cnt h v)), h) := by
  rcases d with _ | d
  · omega
  have kw := hg.2.2.1
  have q1 := u_sum_bd (f := m_c1 h v) (lo := 0) (hi := 1) (n := (g_wm (hv h)).toNat) (k := 0) fun j _ _ => m_c1_bd
  have q2 := u_sum_bd (f := m_c2 h v) (lo := 0) (hi := 1) (n := 6) (k := 0) fun j _ _ => m_c2_bd
  rw [e245, b245_0, l245a d (by omega) hg v (g_wm (hv h)).toNat 0 0 (by omega) (by omega) (by omega), l245b d (by omega) v 6 0 _ (by omega) (by omega) (by omega), l245c d v 4 0 _ (by omega) (by omega) (by omega), Int.zero_add]
  rfl
theorem l130 (d : Nat) (hd : 1 ≤ d) (hr : I_rul h) (v : Int) (o : Option y_V) (hv' : v = 0 ∨ v = 1) : ∀ (n : Nat) (k s : Int) (o : Option y_V), 0 ≤ k → k + n = 6 → 0 ≤ s ∧ s + n ≤ 900 → y_ev z_pg sc d pgX7_rulesThere 4 [some (y_vr 2), some (y_vi v), some (y_vi s), some (y_vi k), o] [] h = some (some (y_vi (s + u_sum (m_c2 h (5 + v)) k n)), h)
  | 0, k, s, o, hk, hn, hs => by
    rw [b130_4, if_neg (by omega), u_sum_0, Int.add_zero]
  | n + 1, k, s, o, hk, hn, hs => by
    have ih := fun s => l130 d hd hr v none hv' n (k + 1) s
    obtain ⟨p1, p2, -⟩ := hr k hk (by omega)
    have e : s + u_sum (m_c2 h (5 + v)) k (n + 1) = (s + m_c2 h (5 + v) k) + u_sum (m_c2 h (5 + v)) (k + 1) n := by rw [u_sum_s]; omega
    rw [b130_4, if_pos (by omega), e]
    by_cases c : v = 0
    · have em : m_c2 h (5 + v) k = y_bi (0 < y_I h 112 (Int.toNat k)) := if_pos (by omega)
      rw [if_pos c, yi_t (by omega), yU0 (by omega), p1, em]
      by_cases q : y_I h 112 (Int.toNat k) = 0
      · rw [if_pos q, yr_t (by omega), yr_t (by omega), ih _ _ (by omega) (by omega) (by omega), bi_f (by omega)]
      · rw [if_neg q, yr_t (by omega), yr_t (by omega), ih _ _ (by omega) (by omega) (by omega), bi_t (by omega)]
    · have em : m_c2 h (5 + v) k = y_bi (1 ≤ y_I h 112 (Int.toNat k) ∧ y_I h 112 (Int.toNat k) ≤ 2) := (if_neg (by omega)).trans (if_pos (by omega))
      rw [if_neg c, yi_t (by omega), yU0 (by omega), s58 d hd k (by omega), yci_s, p1, em]
      by_cases q : 1 ≤ y_I h 112 (Int.toNat k) ∧ y_I h 112 (Int.toNat k) ≤ 2
      · rw [if_neg (by rw [bi_t (by omega)]; omega), yr_t (by omega), yr_t (by omega), ih _ _ (by omega) (by omega) (by omega), bi_t q]
      · rw [if_pos (bi_f (by omega)), yr_t (by omega), yr_t (by omega), ih _ _ (by omega) (by omega) (by omega), bi_f q]
theorem s130 (d : Nat) (hd : 2 ≤ d) (hr : I_rul h) (v : Int) (hv' : v = 0 ∨ v = 1) : y_se z_pg sc d 130 [y_vr 2, y_vi v] h = some (some (y_vi (u_sum (m_c2 h (5 + v)) 0 6)), h) := by
  rcases d with _ | d
  · omega
  rw [e130, b130_0, l130 d (by omega) hr v none hv' 6 0 0 none (by omega) (by omega) (by omega), Int.zero_add]
theorem l84a (d : Nat) (hd : 1 ≤ d) (I : I_row h) : ∀ (n : Nat) (k s : Int), 0 ≤ k → k + n = 6 → 0 ≤ s ∧ s + n ≤ 900 → y_ev z_pg sc d pgX6_there 4 [some (y_vr 3), some (y_vi s), some (y_vi k)] [] h = some (some (y_vi (s + u_sum (m_c2 h 7) k n)), h)
  | 0, k, s, hk, hn, hs => by
    rw [b84a_4, if_neg (by omega), u_sum_0, Int.add_zero]
  | n + 1, k, s, hk, hn, hs => by
    have ih := fun s => l84a d hd I n (k + 1) s (by omega) (by omega)
    obtain ⟨p1, p2, -⟩ := I k hk (by omega)
    have em : m_c2 h 7 k = y_bi (¬ y_I h 96 (Int.toNat k) < 0) := rfl
    have e : s + u_sum (m_c2 h 7) k (n + 1) = (s + m_c2 h 7 k) + u_sum (m_c2 h 7) (k + 1) n := by rw [u_sum_s]; omega
    rw [b84a_4, if_pos (by omega), e, s80a d hd k (by omega), yci_s, p1, em]
    by_cases q : y_I h 96 (Int.toNat k) < 0
    · rw [if_neg (by rw [bi_t (by omega)]; omega), yr_t (by omega), yr_t (by omega), ih _ (by omega), bi_f (fun z => z q)]
    · rw [if_pos (bi_f (by omega)), yr_t (by omega), yr_t (by omega), ih _ (by omega), bi_t q]
theorem l84b (d : Nat) (hd : 1 ≤ d) (I : I_txt h) : ∀ (n : Nat) (k s : Int), 0 ≤ k → k + n = 4 → 0 ≤ s ∧ s + n ≤ 900 → y_ev z_pg sc d pgX6_there 4 [some (y_vr 12), some (y_vi s), some (y_vi k)] [] h = some (some (y_vi (s + u_sum (m_c3 h 8) k n)), h)
  | 0, k, s, hk, hn, hs => by
    rw [b84b_4, if_neg (by omega), u_sum_0, Int.add_zero]
  | n + 1, k, s, hk, hn, hs => by
    have ih := fun s => l84b d hd I n (k + 1) s (by omega) (by omega)
    obtain ⟨p1, p2, -⟩ := I k hk (by omega)
    have em : m_c3 h 8 k = y_bi (¬ y_I h 99 (Int.toNat k) < 0) := rfl
    have e : s + u_sum (m_c3 h 8) k (n + 1) = (s + m_c3 h 8 k) + u_sum (m_c3 h 8) (k + 1) n := by rw [u_sum_s]; omega
    rw [b84b_4, if_pos (by omega), e, s80b d hd k (by omega), yci_s, p1, em]
    by_cases q : y_I h 99 (Int.toNat k) < 0
    · rw [if_neg (by rw [bi_t (by omega)]; omega), yr_t (by omega), yr_t (by omega), ih _ (by omega), bi_f (fun z => z q)]
    · rw [if_pos (bi_f (by omega)), yr_t (by omega), yr_t (by omega), ih _ (by omega), bi_t q]
theorem s122 (d : Nat) (hd : 4 ≤ d) (hF : y_F h 2 10 = a) (X : xm h a) (hg : g_ok (hv h)) (i2 : I_row h) (i3 : I_txt h) (i4 : I_pln h) (i5 : I_rul h) (v : Int) : y_se z_pg sc d 122 [y_vr 2, y_vi v] h = some (some (y_vi (if 0 ≤ v ∧ v ≤ 8 then m_cnt h v else -1)), h) := by
  rcases d with _ | d
  · omega
  obtain ⟨hp, pe⟩ := i4
  have kw := hg.2.2.1
  have ha := X.1
  have XX := X
  obtain ⟨-, x0, x1, x2, x3, -⟩ := X
  have z1 : ∀ u : Int, u ≠ 4 → u_sum (m_c1 h u) 0 (g_wm (hv h)).toNat = 0 := fun u q => by
    rw [show m_c1 h u = fun _ => 0 from funext fun w => if_neg q]; exact u_sum_z
  have z2 : ∀ u : Int, u ≠ 5 → u ≠ 6 → u ≠ 7 → u_sum (m_c2 h u) 0 6 = 0 := fun u q q2 q3 => by
    rw [show m_c2 h u = fun _ => 0 from funext fun w => (if_neg q).trans ((if_neg q2).trans (if_neg q3))]; exact u_sum_z
  have z3 : ∀ u : Int, u ≠ 8 → u_sum (m_c3 h u) 0 4 = 0 := fun u q => by
    rw [show m_c3 h u = fun _ => 0 from funext fun w => if_neg q]; exact u_sum_z
  rw [e122, b122_0, hF]
  by_cases c0 : v = 0
  · rw [if_pos c0, yH0 ha, x1, if_pos (by omega), c0]; rfl
  rw [if_neg c0]
  by_cases c1 : v = 1
  · rw [if_pos c1, yH0 ha, x2, if_pos (by omega), c1]; rfl
  rw [if_neg c1]
  by_cases c2 : v = 2
  · rw [if_pos c2, yH0 ha, x3, if_pos (by omega), c2]; rfl
  rw [if_neg c2]
  by_cases c3 : v = 3
  · rw [if_pos c3, yH0 ha, x0, if_pos (by omega), c3]; rfl
  rw [if_neg c3]
  have em : m_cnt h v = u_sum (m_c1 h v) 0 (g_wm (hv h)).toNat + u_sum (m_c2 h v) 0 6 + u_sum (m_c3 h v) 0 4 := (if_neg c0).trans ((if_neg c1).trans ((if_neg c2).trans (if_neg c3)))
  by_cases c4 : v = 4
  · rw [if_pos c4, s35 d (by omega) (Or.inl rfl) XX hg, yci_s, if_pos (by omega), em, z2 v (by omega) (by omega) (by omega), z3 v (by omega), Int.add_zero, Int.add_zero]
    unfold g_ba
    rw [u_sum_cg fun w w1 w2 => ?_]
    show y_bi (pl h 21 w ≠ -9 ∧ pl h 21 w < 60) = m_c1 h v w
    have e : m_c1 h v w = y_bi (pl h 111 w ≠ -9) := if_pos c4
    have e2 := pe w w1 (by omega)
    have e3 := hp w w1 (by omega)
    rw [e]
    exact bi_cg (by omega)
  rw [if_neg c4]
  by_cases c5 : v = 5
  · rw [if_pos c5, s130 d (by omega) i5 0 (Or.inl rfl), yci_s, if_pos (by omega), em, z1 v (by omega), z3 v (by omega), c5]
    simp only [Int.add_zero, Int.zero_add]
  rw [if_neg c5]
  by_cases c6 : v = 6
  · rw [if_pos c6, s130 d (by omega) i5 1 (Or.inr rfl), yci_s, if_pos (by omega), em, z1 v (by omega), z3 v (by omega), c6, show (5 : Int) + 1 = 6 from rfl]
    simp only [Int.add_zero, Int.zero_add]
  rw [if_neg c6]
  by_cases c7 : v = 7
  · rcases d with _ | d
    · omega
    rw [if_pos c7, e84a, b84a_0, l84a d (by omega) i2 6 0 0 (by omega) (by omega) (by omega), yci_s, if_pos (by omega), em, z1 v (by omega), z3 v (by omega), c7]
    simp only [Int.add_zero, Int.zero_add]
  rw [if_neg c7]
  by_cases c8 : v = 8
  · rcases d with _ | d
    · omega
    rw [if_pos c8, e84b, b84b_0, l84b d (by omega) i3 4 0 0 (by omega) (by omega) (by omega), yci_s, if_pos (by omega), em, z1 v (by omega), z2 v (by omega) (by omega) (by omega), c8]
    simp only [Int.add_zero, Int.zero_add]
  · rw [if_neg c8, if_neg (by omega)]
theorem o_count (I : INV N h) (v : Int) : OP sc 122 246 [y_vr 2, y_vi v] [y_vr 94, y_vi v] N h := by
  have II := I
  obtain ⟨a, ⟨hF, hD, X, hg⟩, i2, i3, i4, i5, -⟩ := I
  refine OP_same II (if 0 ≤ v ∧ v ≤ 8 then m_cnt h v else -1) (fun d hd => s122 (d + 1) (by omega) hF X hg i2 i3 i4 i5 v) (fun d hd => ?_)
  rw [e246, b246_0, s136 d (by omega), yci_s]
  by_cases c : 0 ≤ v ∧ v ≤ 8
  · rw [if_neg (by rw [bi_t c]; omega), if_pos c, s245 d (by omega) hg, yci_s]
  · rw [if_pos (bi_f c), if_neg c]
theorem o_asked (I : INV N h) : OP sc 121 144 [y_vr 2] [y_vr 94] N h := by
  have II := I
  obtain ⟨a, -, -, -, -, -, i6⟩ := I
  refine OP_same II (y_I h 94 2) (fun d hd => ?_) (fun d hd => ?_)
  · rw [e121, b121_0, i6.1]
  · rw [e144, b144_0]
theorem o_finding (I : INV N h) : OP sc 123 141 [y_vr 2] [y_vr 94] N h := by
  have II := I
  obtain ⟨a, -, -, -, -, -, i6⟩ := I
  refine OP_same II (y_I h 94 0) (fun d hd => ?_) (fun d hd => ?_)
  · rw [e123, b123_0, i6.2.1]
  · rw [e141, b141_0]
theorem o_findings (I : INV N h) (v : Int) : OP sc 124 142 [y_vr 2, y_vi v] [y_vr 94, y_vi v] N h := by
  have II := I
  obtain ⟨a, -, -, -, -, -, i6⟩ := I
  refine OP_same II (if 1 ≤ v ∧ v ≤ 5 then y_I h 95 (Int.toNat v) else -1) (fun d hd => ?_) (fun d hd => ?_)
  · rw [e124, b124_0]
    by_cases c1 : v < 1
    · rw [if_pos c1, if_neg (by omega)]
    rw [if_neg c1]
    by_cases c2 : 5 < v
    · rw [if_pos c2, if_neg (by omega)]
    · rw [if_neg c2, if_pos (by omega), yi_t (by omega), (i6.2.2 v (by omega) (by omega)).1]
  · rw [e142, b142_0, s136 d (by omega), yci_s]
    by_cases c : 1 ≤ v ∧ v ≤ 5
    · rw [if_neg (by rw [bi_t c]; omega), if_pos c, yi_t (by omega)]
    · rw [if_pos (bi_f c), if_neg c]
end CO
