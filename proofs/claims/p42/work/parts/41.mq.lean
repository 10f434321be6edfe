/-! THE MODEL'S QUERIES: what it is asked of a house, a plan -/
/-- the model's house: last, how many parts, readers, wants, nots, cushions; their rows -/
def hv (h : y_Hp) : Nat → Nat → Int := fun a => match a with
  | 94 => fun k => match k with
    | 8 => h.1 94 8
    | 9 => h.1 94 9
    | 10 => h.1 94 10
    | 11 => h.1 94 11
    | 12 => h.1 94 12
    | 13 => h.1 94 13
    | _ => 0
  | 101 => h.1 101
  | 102 => h.1 102
  | 103 => h.1 103
  | 104 => h.1 104
  | 105 => h.1 105
  | _ => fun _ => 0
abbrev u_G : Type := Nat → Nat → Int
abbrev u_P : Type := Int → Int
def g_la (G : u_G) : Int := G 94 8
def g_pm (G : u_G) : Int := G 94 9
def g_rm (G : u_G) : Int := G 94 10
def g_wm (G : u_G) : Int := G 94 11
def g_nm (G : u_G) : Int := G 94 12
def g_um (G : u_G) : Int := G 94 13
def g_cp (G : u_G) (p : Int) : Int := G 101 (Int.toNat (3 * p))
def g_cm (G : u_G) (p : Int) : Int := G 101 (Int.toNat ((3 * p) + 1))
def g_sl (G : u_G) (p : Int) : Int := G 101 (Int.toNat ((3 * p) + 2))
def g_fr (G : u_G) (r : Int) : Int := G 102 (Int.toNat (3 * r))
def g_ti (G : u_G) (r : Int) : Int := G 102 (Int.toNat ((3 * r) + 1))
def g_or (G : u_G) (r : Int) : Int := G 102 (Int.toNat ((3 * r) + 2))
def g_rd (G : u_G) (w : Int) : Int := G 103 (Int.toNat (4 * w))
def g_pt (G : u_G) (w : Int) : Int := G 103 (Int.toNat ((4 * w) + 1))
def g_mn (G : u_G) (w : Int) : Int := G 103 (Int.toNat ((4 * w) + 2))
def g_wo (G : u_G) (w : Int) : Int := G 103 (Int.toNat ((4 * w) + 3))
/-- the plan in a cell -/
def pl (h : y_Hp) (b : Nat) : u_P := fun w => y_I h b (Int.toNat w)
/-- what a house keeps within bounds -/
def g_ok (G : u_G) : Prop :=
  (0 ≤ g_pm G ∧ g_pm G ≤ 6) ∧ (0 ≤ g_rm G ∧ g_rm G ≤ 8) ∧ (0 ≤ g_wm G ∧ g_wm G ≤ 24) ∧ (0 ≤ g_nm G ∧ g_nm G ≤ 8) ∧ (0 ≤ g_um G ∧ g_um G ≤ 8) ∧ (1 ≤ g_la G ∧ g_la G ≤ 60) ∧
  (∀ p, 0 ≤ p → p < g_pm G → (g_cp G p = 1 ∨ g_cp G p = 2) ∧ (0 ≤ g_cm G p ∧ g_cm G p ≤ 59) ∧ (0 ≤ g_sl G p ∧ g_sl G p ≤ 9)) ∧
  (∀ r, 0 ≤ r → r < g_rm G → (0 ≤ g_fr G r ∧ g_fr G r < g_ti G r ∧ g_ti G r ≤ 60) ∧ (g_or G r = 0 ∨ g_or G r = 1)) ∧
  (∀ w, 0 ≤ w → w < g_wm G → (0 ≤ g_rd G w ∧ g_rd G w < g_rm G) ∧ (0 ≤ g_pt G w ∧ g_pt G w < g_pm G) ∧ (1 ≤ g_mn G w ∧ g_mn G w ≤ 20) ∧ (1 ≤ g_wo G w ∧ g_wo G w ≤ 9)) ∧
  (∀ v w, 0 ≤ v → v < g_wm G → 0 ≤ w → w < g_wm G → g_rd G v = g_rd G w → g_pt G v = g_pt G w → v = w) ∧
  (∀ k, 0 ≤ k → k < g_um G → 0 ≤ G 105 (Int.toNat ((3 * k) + 1)) ∧ G 105 (Int.toNat ((3 * k) + 1)) ≤ G 105 (Int.toNat ((3 * k) + 2)) ∧ G 105 (Int.toNat ((3 * k) + 2)) ≤ 60)
/-- a plan's beginnings -/
def p_ok (G : u_G) (P : u_P) : Prop := ∀ w, 0 ≤ w → w < g_wm G → P w = -9 ∨ (0 ≤ P w ∧ P w ≤ 59)
/-- not after; under a cushion -/
def g_na (G : u_G) (r q p : Int) : Prop := u_any (fun k => G 104 (Int.toNat (3 * k)) = r ∧ G 104 (Int.toNat ((3 * k) + 1)) = q ∧ G 104 (Int.toNat ((3 * k) + 2)) = p) 0 (g_nm G).toNat
def g_un (G : u_G) (p t n : Int) : Prop := u_any (fun k => G 105 (Int.toNat (3 * k)) = p ∧ G 105 (Int.toNat ((3 * k) + 1)) < t + n ∧ t ≤ G 105 (Int.toNat ((3 * k) + 2))) 0 (g_um G).toNat
section MQ
variable {sc : z_Sc} {h : y_Hp}
theorem s136 (d : Nat) (hd : 1 ≤ d) (v a b : Int) : y_se z_pg sc d 136 [y_vi v, y_vi a, y_vi b] h = some (some (y_vi (y_bi (a ≤ v ∧ v ≤ b))), h) := by
  rcases d with _ | d
  · omega
  rw [e136, b136_0]
  by_cases h1 : v < a
  · rw [if_pos h1, bi_f (by omega)]
  · rw [if_neg h1]
    by_cases h2 : b < v
    · rw [if_pos h2, bi_f (by omega)]
    · rw [if_neg h2, bi_t (by omega)]
theorem s139 (d : Nat) (hd : 1 ≤ d) (a b : Int) : y_se z_pg sc d 139 [y_vi a, y_vi b] h = some (some (y_vi (max a b)), h) := by
  rcases d with _ | d
  · omega
  rw [e139, b139_0]
  by_cases h1 : b < a
  · rw [if_pos h1, show max a b = a by omega]
  · rw [if_neg h1, show max a b = b by omega]
theorem s145 (d : Nat) (hd : 2 ≤ d) (r : Int) : y_se z_pg sc d 145 [y_vi r] h = some (some (y_vi (y_bi (0 ≤ r ∧ r ≤ 5))), h) := by
  rcases d with _ | d
  · omega
  rw [e145, b145_0, s136 d (by omega), yci_s, bi_b1]
theorem s153 (d : Nat) (hd : 2 ≤ d) (r : Int) : y_se z_pg sc d 153 [y_vi r] h = some (some (y_vi (y_bi (0 ≤ r ∧ r ≤ 3))), h) := by
  rcases d with _ | d
  · omega
  rw [e153, b153_0, s136 d (by omega), yci_s, bi_b1]
theorem s209 (d : Nat) (hd : 2 ≤ d) (r : Int) : y_se z_pg sc d 209 [y_vi r] h = some (some (y_vi (y_bi (0 ≤ r ∧ r ≤ 5))), h) := by
  rcases d with _ | d
  · omega
  rw [e209, b209_0, s136 d (by omega), yci_s, bi_b1]
theorem s173 (d : Nat) (hd : 1 ≤ d) (w : Int) (hw : 0 ≤ w ∧ w < 24) : y_se z_pg sc d 173 [y_vr 94, y_vi w] h = some (some (y_vi (g_rd (hv h) w)), h) := by
  rcases d with _ | d
  · omega
  rw [e173, b173_0, yr_t (by omega), yi_t (by omega)]
  rfl
theorem s174 (d : Nat) (hd : 1 ≤ d) (w : Int) (hw : 0 ≤ w ∧ w < 24) : y_se z_pg sc d 174 [y_vr 94, y_vi w] h = some (some (y_vi (g_pt (hv h) w)), h) := by
  rcases d with _ | d
  · omega
  rw [e174, b174_0]
  simp (disch := omega) only [yr_t, yi_t]
  rfl
theorem s175 (d : Nat) (hd : 1 ≤ d) (w : Int) (hw : 0 ≤ w ∧ w < 24) : y_se z_pg sc d 175 [y_vr 94, y_vi w] h = some (some (y_vi (g_mn (hv h) w)), h) := by
  rcases d with _ | d
  · omega
  rw [e175, b175_0]
  simp (disch := omega) only [yr_t, yi_t]
  rfl
theorem s176 (d : Nat) (hd : 1 ≤ d) (p : Int) (hp : 0 ≤ p ∧ p < 6) : y_se z_pg sc d 176 [y_vr 94, y_vi p] h = some (some (y_vi (g_cp (hv h) p)), h) := by
  rcases d with _ | d
  · omega
  rw [e176, b176_0]
  simp (disch := omega) only [yr_t, yi_t]
  rfl
theorem s177 (d : Nat) (hd : 1 ≤ d) (p : Int) (hp : 0 ≤ p ∧ p < 6) : y_se z_pg sc d 177 [y_vr 94, y_vi p] h = some (some (y_vi (g_cm (hv h) p)), h) := by
  rcases d with _ | d
  · omega
  rw [e177, b177_0]
  simp (disch := omega) only [yr_t, yi_t]
  rfl
theorem s178 (d : Nat) (hd : 1 ≤ d) (p : Int) (hp : 0 ≤ p ∧ p < 8) : y_se z_pg sc d 178 [y_vr 94, y_vi p] h = some (some (y_vi (g_fr (hv h) p)), h) := by
  rcases d with _ | d
  · omega
  rw [e178, b178_0]
  simp (disch := omega) only [yr_t, yi_t]
  rfl
theorem s179 (d : Nat) (hd : 1 ≤ d) (p : Int) (hp : 0 ≤ p ∧ p < 8) : y_se z_pg sc d 179 [y_vr 94, y_vi p] h = some (some (y_vi (g_ti (hv h) p)), h) := by
  rcases d with _ | d
  · omega
  rw [e179, b179_0]
  simp (disch := omega) only [yr_t, yi_t]
  rfl
theorem s180 (d : Nat) (hd : 1 ≤ d) (p : Int) (hp : 0 ≤ p ∧ p < 8) : y_se z_pg sc d 180 [y_vr 94, y_vi p] h = some (some (y_vi (y_bi (g_or (hv h) p = 1))), h) := by
  rcases d with _ | d
  · omega
  rw [e180, b180_0]
  simp (disch := omega) only [yr_t, yi_t]
  by_cases q : g_or (hv h) p = 1
  · rw [bi_t q]; exact if_pos q
  · rw [bi_f q]; exact if_neg q
theorem s170 (d : Nat) (hd : 2 ≤ d) (p : Int) (hg : g_ok (hv h)) : y_se z_pg sc d 170 [y_vr 94, y_vi p] h = some (some (y_vi (y_bi (0 ≤ p ∧ p < g_pm (hv h)))), h) := by
  rcases d with _ | d
  · omega
  have e : y_I h 94 9 = g_pm (hv h) := rfl
  have := hg.1
  rw [e170, b170_0, e, yr_t (by omega), s136 d (by omega), yci_s, bi_b1]
  rw [bi_cg (p := 0 ≤ p ∧ p ≤ g_pm (hv h) - 1) (q := 0 ≤ p ∧ p < g_pm (hv h)) (by omega)]
theorem s171 (d : Nat) (hd : 2 ≤ d) (p : Int) (hg : g_ok (hv h)) : y_se z_pg sc d 171 [y_vr 94, y_vi p] h = some (some (y_vi (y_bi (0 ≤ p ∧ p < g_rm (hv h)))), h) := by
  rcases d with _ | d
  · omega
  have e : y_I h 94 10 = g_rm (hv h) := rfl
  have := hg.2.1
  rw [e171, b171_0, e, yr_t (by omega), s136 d (by omega), yci_s, bi_b1]
  rw [bi_cg (p := 0 ≤ p ∧ p ≤ g_rm (hv h) - 1) (q := 0 ≤ p ∧ p < g_rm (hv h)) (by omega)]
theorem s172 (d : Nat) (hd : 2 ≤ d) (p : Int) (hg : g_ok (hv h)) : y_se z_pg sc d 172 [y_vr 94, y_vi p] h = some (some (y_vi (y_bi (0 ≤ p ∧ p < g_wm (hv h)))), h) := by
  rcases d with _ | d
  · omega
  have e : y_I h 94 11 = g_wm (hv h) := rfl
  have := hg.2.2.1
  rw [e172, b172_0, e, yr_t (by omega), s136 d (by omega), yci_s, bi_b1]
  rw [bi_cg (p := 0 ≤ p ∧ p ≤ g_wm (hv h) - 1) (q := 0 ≤ p ∧ p < g_wm (hv h)) (by omega)]
theorem s191 (d : Nat) (hd : 1 ≤ d) (w : Int) (hw : 0 ≤ w ∧ w < 24) : y_se z_pg sc d 191 [y_vr 94, y_vi w] h = some (some (y_vi (y_bi (pl h 111 w ≠ -9))), h) := by
  rcases d with _ | d
  · omega
  rw [e191, b191_0, yi_t (by omega)]
  by_cases q : pl h 111 w = -9
  · rw [bi_f (fun g => g q)]; exact if_pos q
  · rw [bi_t q]; exact if_neg q
/-- a reading goes on in a minute -/
def g_rg (G : u_G) (P : u_P) (w t : Int) : Prop := P w ≠ -9 ∧ P w ≤ t ∧ t < P w + g_mn G w
theorem s192 (d : Nat) (hd : 2 ≤ d) (w : Int) (hg : g_ok (hv h)) (hp : p_ok (hv h) (pl h 111)) (hw : 0 ≤ w ∧ w < g_wm (hv h)) : y_se z_pg sc d 192 [y_vr 94, y_vi w] h = some (some (y_vi (pl h 111 w + g_mn (hv h) w)), h) := by
  rcases d with _ | d
  · omega
  have h1 := hg.2.2.1
  have h2 := hp w hw.1 hw.2
  have h3 := (hg.2.2.2.2.2.2.2.2.1 w hw.1 hw.2).2.2.1
  rw [e192, b192_0, yi_t (by omega), s175 d (by omega) w (by omega), yci_s, yr_t (by show -2147483648 ≤ pl h 111 w + _ ∧ pl h 111 w + _ < _; omega)]
  rfl
theorem s193 (d : Nat) (hd : 3 ≤ d) (w t : Int) (hg : g_ok (hv h)) (hp : p_ok (hv h) (pl h 111)) (hw : 0 ≤ w ∧ w < g_wm (hv h)) : y_se z_pg sc d 193 [y_vr 94, y_vi w, y_vi t] h = some (some (y_vi (y_bi (g_rg (hv h) (pl h 111) w t))), h) := by
  rcases d with _ | d
  · omega
  have h1 := hg.2.2.1
  rw [e193, b193_0, s191 d (by omega) w (by omega), yci_s]
  by_cases q : pl h 111 w = -9
  · rw [if_pos (bi_f (fun g => g q)), bi_f (fun g => g.1 q)]
  · rw [if_neg (by rw [bi_t q]; omega), yi_t (by omega)]
    by_cases q2 : t < pl h 111 w
    · rw [bi_f (fun g => by have := g.2.1; omega)]
      exact if_pos q2
    · refine (if_neg q2).trans ?_
      rw [s192 d (by omega) w hg hp hw, yci_s]
      by_cases q3 : t < pl h 111 w + g_mn (hv h) w
      · rw [if_pos q3, bi_t ⟨q, by omega, q3⟩]
      · rw [if_neg q3, bi_f (fun g => q3 g.2.2)]
theorem hv101 : y_I h 101 = hv h 101 := rfl
theorem hv102 : y_I h 102 = hv h 102 := rfl
theorem hv103 : y_I h 103 = hv h 103 := rfl
theorem hv104 : y_I h 104 = hv h 104 := rfl
theorem hv105 : y_I h 105 = hv h 105 := rfl
theorem hvla : y_I h 94 8 = g_la (hv h) := rfl
theorem hvpm : y_I h 94 9 = g_pm (hv h) := rfl
theorem hvrm : y_I h 94 10 = g_rm (hv h) := rfl
theorem hvwm : y_I h 94 11 = g_wm (hv h) := rfl
theorem hvnm : y_I h 94 12 = g_nm (hv h) := rfl
theorem hvum : y_I h 94 13 = g_um (hv h) := rfl
theorem l181 (d : Nat) (r q p : Int) (hg : g_ok (hv h)) : ∀ (n : Nat) (k a : Int), 0 ≤ k → k + n = g_nm (hv h) → (a = 0 ∨ a = 1) → y_ev z_pg sc d pgX8_isNotAfter 6 [some (y_vr 94), some (y_vi r), some (y_vi q), some (y_vi p), some (y_vi a), some (y_vi k)] [] h = some (some (y_vi (y_bi (a = 1 ∨ u_any (fun k => (hv h) 104 (Int.toNat (3 * k)) = r ∧ (hv h) 104 (Int.toNat ((3 * k) + 1)) = q ∧ (hv h) 104 (Int.toNat ((3 * k) + 2)) = p) k n))), h)
  | 0, k, a, hk, hn, ha => by
    rw [b181_6, hvnm, if_neg (by omega), yb_t ha]
    rcases ha with rfl | rfl
    · exact ab_f (by simp [u_any])
    · exact ab_t (Or.inl rfl)
  | n + 1, k, a, hk, hn, ha => by
    have h1 := hg.2.2.2.1
    have ih := fun a ha => l181 d r q p hg n (k + 1) a (by omega) (by omega) ha
    rw [b181_6, hvnm, if_pos (by omega)]
    simp (disch := omega) only [yr_t, yi_t, hv104]
    rcases ha with rfl | rfl
    · (repeat' split)
      all_goals first
        | (exfalso; omega)
        | (rw [ih 0 (Or.inl rfl)]; apply ab_cg; simp only [u_any_s, *]; simp; done)
        | (rw [ih 1 (Or.inr rfl)]; apply ab_cg; simp only [u_any_s, *]; simp; done)
    · rw [if_neg (by omega), ih 1 (Or.inr rfl)]
      exact ab_cg (by simp)
theorem s181 (d : Nat) (hd : 1 ≤ d) (r q p : Int) (hg : g_ok (hv h)) : y_se z_pg sc d 181 [y_vr 94, y_vi r, y_vi q, y_vi p] h = some (some (y_vi (y_bi (g_na (hv h) r q p))), h) := by
  rcases d with _ | d
  · omega
  have h1 := hg.2.2.2.1
  rw [e181, b181_0, l181 d r q p hg (g_nm (hv h)).toNat 0 0 (by omega) (by omega) (Or.inl rfl)]
  exact ab_cg (by simp [g_na])
end MQ
