/-! the model's queries of a plan -/
noncomputable def g_many (G : u_G) (P : u_P) (p t : Int) : Int := u_sum (fun w => y_bi (g_pt G w = p ∧ g_rg G P w t)) 0 (g_wm G).toNat
def g_does (G : u_G) (P : u_P) (r t b : Int) : Prop := u_any (fun w => w ≠ b ∧ g_rd G w = r ∧ g_rg G P w t) 0 (g_wm G).toNat
def g_due (G : u_G) (P : u_P) (w t : Int) : Prop := g_or G (g_rd G w) = 1 → u_all (fun v => g_rd G v = g_rd G w → P v ≠ -9 ∧ P v + g_mn G v ≤ t) 0 w.toNat
def g_spo (G : u_G) (P : u_P) (w t : Int) : Prop := u_any (fun v => g_pt G v = g_pt G w ∧ P v ≠ -9 ∧ P v < t ∧ g_na G (g_rd G w) (g_rd G v) (g_pt G w)) 0 (g_wm G).toNat
def g_wa (G : u_G) (w t : Int) : Int := max 0 (g_wo G w - g_sl G (g_pt G w) * (Int.tdiv t 10))
def g_ls (G : u_G) (P : u_P) (w : Int) : Int := g_wo G w - (if P w = -9 then 0 else g_wa G w (P w))
def g_ms (G : u_G) (P : u_P) (r : Int) : Int := u_sum (fun w => if r = -9 ∨ g_rd G w = r then g_ls G P w else 0) 0 (g_wm G).toNat
def g_there (G : u_G) (w t : Int) : Prop := (g_fr G (g_rd G w) ≤ t ∧ t ≤ g_ti G (g_rd G w) - 1) ∧ t < g_la G ∧ g_cm G (g_pt G w) ≤ t ∧ ¬ g_un G (g_pt G w) t 1
def g_free (G : u_G) (P : u_P) (w t : Int) : Prop := g_many G P (g_pt G w) t ≤ g_cp G (g_pt G w) ∧ ¬ g_does G P (g_rd G w) t w
def g_well (G : u_G) (P : u_P) (w t : Int) : Prop := g_there G w t ∧ g_free G P w t ∧ (P w = t → g_due G P w t ∧ ¬ g_spo G P w t)
section MQ
variable {sc : z_Sc} {h : y_Hp}
theorem l182 (d : Nat) (p t m : Int) (hg : g_ok (hv h)) (ht : -1000 ≤ t ∧ t ≤ 1000) (hm : 0 ≤ m ∧ m ≤ 1000) : ∀ (n : Nat) (k a : Int), 0 ≤ k → k + n = g_um (hv h) → (a = 0 ∨ a = 1) → y_ev z_pg sc d pgX8_isUnder 6 [some (y_vr 94), some (y_vi p), some (y_vi t), some (y_vi m), some (y_vi a), some (y_vi k)] [] h = some (some (y_vi (y_bi (a = 1 ∨ u_any (fun k => (hv h) 105 (Int.toNat (3 * k)) = p ∧ (hv h) 105 (Int.toNat ((3 * k) + 1)) < t + m ∧ t ≤ (hv h) 105 (Int.toNat ((3 * k) + 2))) k n))), h)
  | 0, k, a, hk, hn, ha => by
    rw [b182_6, hvum, if_neg (by omega), yb_t ha]
    rcases ha with rfl | rfl
    · exact ab_f (by simp [u_any])
    · exact ab_t (Or.inl rfl)
  | n + 1, k, a, hk, hn, ha => by
    have h1 := hg.2.2.2.2.1
    have ih := fun a ha => l182 d p t m hg ht hm n (k + 1) a (by omega) (by omega) ha
    rw [b182_6, hvum, if_pos (by omega)]
    simp (disch := omega) only [yr_t, yi_t, hv105]
    rcases ha with rfl | rfl
    · (repeat' split)
      all_goals first
        | (exfalso; omega)
        | (rw [ih 0 (Or.inl rfl)]; apply ab_cg; simp only [u_any_s, *]; simp <;> omega)
        | (rw [ih 1 (Or.inr rfl)]; apply ab_cg; simp only [u_any_s, *]; simp <;> omega)
    · rw [if_neg (by omega), ih 1 (Or.inr rfl)]
      exact ab_cg (by simp)
theorem s182 (d : Nat) (hd : 1 ≤ d) (p t m : Int) (hg : g_ok (hv h)) (ht : -1000 ≤ t ∧ t ≤ 1000) (hm : 0 ≤ m ∧ m ≤ 1000) : y_se z_pg sc d 182 [y_vr 94, y_vi p, y_vi t, y_vi m] h = some (some (y_vi (y_bi (g_un (hv h) p t m))), h) := by
  rcases d with _ | d
  · omega
  have h1 := hg.2.2.2.2.1
  rw [e182, b182_0, l182 d p t m hg ht hm (g_um (hv h)).toNat 0 0 (by omega) (by omega) (Or.inl rfl)]
  exact ab_cg (by simp [g_un])
theorem l195 (d : Nat) (hd : 3 ≤ d) (p t : Int) (hg : g_ok (hv h)) (hp : p_ok (hv h) (pl h 111)) : ∀ (n : Nat) (k a : Int), 0 ≤ k → k + n = g_wm (hv h) → (0 ≤ a ∧ a ≤ k) → y_ev z_pg sc d pgX8_readingMany 5 [some (y_vr 94), some (y_vi p), some (y_vi t), some (y_vi a), some (y_vi k)] [] h = some (some (y_vi (a + u_sum (fun w => y_bi (g_pt (hv h) w = p ∧ g_rg (hv h) (pl h 111) w t)) k n)), h)
  | 0, k, a, hk, hn, ha => by
    rw [b195_5, hvwm, if_neg (by omega)]
    exact av_cg (by simp [u_sum])
  | n + 1, k, a, hk, hn, ha => by
    have h1 := hg.2.2.1
    have ih := fun a ha => l195 d hd p t hg hp n (k + 1) a (by omega) (by omega) ha
    rw [b195_5, hvwm, if_pos (by omega), s174 d (by omega) k (by omega), yci_s]
    by_cases c1 : g_pt (hv h) k = p
    · rw [if_pos c1, s193 d (by omega) k t hg hp (by omega), yci_s]
      by_cases c2 : g_rg (hv h) (pl h 111) k t
      · rw [if_neg (by rw [bi_t c2]; omega)]
        simp (disch := omega) only [yr_t]
        rw [ih (a + 1) (by omega)]
        exact av_cg (by rw [u_sum_s, bi_t ⟨c1, c2⟩]; omega)
      · rw [if_pos (bi_f c2)]
        simp (disch := omega) only [yr_t]
        rw [ih (a + 0) (by omega)]
        exact av_cg (by rw [u_sum_s, bi_f (fun g => c2 g.2)]; omega)
    · rw [if_neg c1]
      simp (disch := omega) only [yr_t]
      rw [ih (a + 0) (by omega)]
      exact av_cg (by rw [u_sum_s, bi_f (fun g => c1 g.1)]; omega)
theorem s195 (d : Nat) (hd : 4 ≤ d) (p t : Int) (hg : g_ok (hv h)) (hp : p_ok (hv h) (pl h 111)) : y_se z_pg sc d 195 [y_vr 94, y_vi p, y_vi t] h = some (some (y_vi (g_many (hv h) (pl h 111) p t)), h) := by
  rcases d with _ | d
  · omega
  have h1 := hg.2.2.1
  rw [e195, b195_0, l195 d (by omega) p t hg hp (g_wm (hv h)).toNat 0 0 (by omega) (by omega) (by omega)]
  exact av_cg (by unfold g_many; omega)
theorem l196 (d : Nat) (hd : 3 ≤ d) (r t b : Int) (hg : g_ok (hv h)) (hp : p_ok (hv h) (pl h 111)) : ∀ (n : Nat) (k a : Int), 0 ≤ k → k + n = g_wm (hv h) → (a = 0 ∨ a = 1) → y_ev z_pg sc d pgX8_doesRead 6 [some (y_vr 94), some (y_vi r), some (y_vi t), some (y_vi b), some (y_vi a), some (y_vi k)] [] h = some (some (y_vi (y_bi (a = 1 ∨ u_any (fun w => w ≠ b ∧ g_rd (hv h) w = r ∧ g_rg (hv h) (pl h 111) w t) k n))), h)
  | 0, k, a, hk, hn, ha => by
    rw [b196_6, hvwm, if_neg (by omega), yb_t ha]
    rcases ha with rfl | rfl
    · exact ab_f (by simp [u_any])
    · exact ab_t (Or.inl rfl)
  | n + 1, k, a, hk, hn, ha => by
    have h1 := hg.2.2.1
    have ih := fun a ha => l196 d hd r t b hg hp n (k + 1) a (by omega) (by omega) ha
    rw [b196_6, hvwm, if_pos (by omega)]
    simp (disch := omega) only [yr_t]
    rcases ha with rfl | rfl
    · rw [if_pos rfl, s173 d (by omega) k (by omega), yci_s]
      by_cases c0 : k = b
      · rw [if_pos c0, ih 0 (Or.inl rfl)]
        exact ab_cg (by simp [u_any_s, c0])
      · rw [if_neg c0]
        by_cases c1 : g_rd (hv h) k = r
        · rw [if_pos c1, s193 d (by omega) k t hg hp (by omega), yci_s]
          by_cases c2 : g_rg (hv h) (pl h 111) k t
          · rw [if_neg (by rw [bi_t c2]; omega), ih 1 (Or.inr rfl)]
            exact ab_cg (by simp [u_any_s, c0, c1, c2])
          · rw [if_pos (bi_f c2), ih 0 (Or.inl rfl)]
            exact ab_cg (by simp [u_any_s, c2])
        · rw [if_neg c1, ih 0 (Or.inl rfl)]
          exact ab_cg (by simp [u_any_s, c1])
    · rw [if_neg (by omega), ih 1 (Or.inr rfl)]
      exact ab_cg (by simp)
theorem s196 (d : Nat) (hd : 4 ≤ d) (r t b : Int) (hg : g_ok (hv h)) (hp : p_ok (hv h) (pl h 111)) : y_se z_pg sc d 196 [y_vr 94, y_vi r, y_vi t, y_vi b] h = some (some (y_vi (y_bi (g_does (hv h) (pl h 111) r t b))), h) := by
  rcases d with _ | d
  · omega
  have h1 := hg.2.2.1
  rw [e196, b196_0, l196 d (by omega) r t b hg hp (g_wm (hv h)).toNat 0 0 (by omega) (by omega) (Or.inl rfl)]
  exact ab_cg (by simp [g_does])
theorem l197 (d : Nat) (hd : 3 ≤ d) (w t : Int) (hg : g_ok (hv h)) (hp : p_ok (hv h) (pl h 111)) (hw : 0 ≤ w ∧ w < g_wm (hv h)) : ∀ (n : Nat) (k a : Int), 0 ≤ k → k + n = w → (a = 0 ∨ a = 1) → y_ev z_pg sc d pgX8_isDue 5 [some (y_vr 94), some (y_vi w), some (y_vi t), some (y_vi a), some (y_vi k)] [] h = some (some (y_vi (y_bi (a = 1 ∧ (g_or (hv h) (g_rd (hv h) w) = 1 → u_all (fun v => g_rd (hv h) v = g_rd (hv h) w → pl h 111 v ≠ -9 ∧ pl h 111 v + g_mn (hv h) v ≤ t) k n)))), h)
  | 0, k, a, hk, hn, ha => by
    rw [b197_5, if_neg (by omega), yb_t ha]
    rcases ha with rfl | rfl
    · exact ab_f (by simp)
    · exact ab_t (by simp [u_all])
  | n + 1, k, a, hk, hn, ha => by
    have h1 := hg.2.2.1
    have h2 := hg.2.1
    have h3 := (hg.2.2.2.2.2.2.2.2.1 w hw.1 hw.2).1
    have ih := fun a ha => l197 d hd w t hg hp hw n (k + 1) a (by omega) (by omega) ha
    rw [b197_5, if_pos (by omega), s173 d (by omega) w (by omega), yci_s, s180 d (by omega) _ (by omega), yci_s]
    simp (disch := omega) only [yr_t]
    by_cases c0 : g_or (hv h) (g_rd (hv h) w) = 1
    · rw [if_neg (by rw [bi_t c0]; omega)]
      simp (disch := first | omega | assumption) only [yci_s, yr_t, s173, s191, s192]
      rcases ha with rfl | rfl
      · rw [if_pos rfl, ih 0 (Or.inl rfl)]
        exact ab_cg (by simp)
      · rw [if_neg (by omega)]
        by_cases c1 : g_rd (hv h) k = g_rd (hv h) w
        · rw [if_pos c1]
          by_cases c2 : pl h 111 k = -9
          · rw [if_pos (bi_f (fun g => g c2)), ih 0 (Or.inl rfl)]
            exact ab_cg (by simp [u_all_s, c0, c1, c2])
          · rw [if_neg (by rw [bi_t c2]; omega)]
            by_cases c3 : t < pl h 111 k + g_mn (hv h) k
            · rw [if_pos c3, ih 0 (Or.inl rfl)]
              exact ab_cg (by simp [u_all_s, c0, c1, c2]; intro; omega)
            · rw [if_neg c3, ih 1 (Or.inr rfl)]
              exact ab_cg (by simp [u_all_s, c0, c1, c2]; intro; omega)
        · rw [if_neg c1, ih 1 (Or.inr rfl)]
          exact ab_cg (by simp [u_all_s, c0, c1])
    · rw [if_pos (bi_f c0), yb_t ha]
      rcases ha with rfl | rfl
      · exact ab_f (by simp)
      · exact ab_t (by simp [c0])
theorem s197 (d : Nat) (hd : 4 ≤ d) (w t : Int) (hg : g_ok (hv h)) (hp : p_ok (hv h) (pl h 111)) (hw : 0 ≤ w ∧ w < g_wm (hv h)) : y_se z_pg sc d 197 [y_vr 94, y_vi w, y_vi t] h = some (some (y_vi (y_bi (g_due (hv h) (pl h 111) w t))), h) := by
  rcases d with _ | d
  · omega
  rw [e197, b197_0, l197 d (by omega) w t hg hp hw w.toNat 0 1 (by omega) (by omega) (Or.inr rfl)]
  exact ab_cg (by simp [g_due])
theorem l198 (d : Nat) (hd : 2 ≤ d) (w t : Int) (hg : g_ok (hv h)) (hw : 0 ≤ w ∧ w < g_wm (hv h)) : ∀ (n : Nat) (k a : Int) (o : Option y_V), 0 ≤ k → k + n = g_wm (hv h) → (a = 0 ∨ a = 1) → y_ev z_pg sc d pgX8_isSpoilt 5 [some (y_vr 94), some (y_vi w), some (y_vi t), some (y_vi a), some (y_vi k), o] [] h = some (some (y_vi (y_bi (a = 1 ∨ u_any (fun v => g_pt (hv h) v = g_pt (hv h) w ∧ pl h 111 v ≠ -9 ∧ pl h 111 v < t ∧ g_na (hv h) (g_rd (hv h) w) (g_rd (hv h) v) (g_pt (hv h) w)) k n))), h)
  | 0, k, a, o, hk, hn, ha => by
    rw [b198_5, hvwm, if_neg (by omega), yb_t ha]
    rcases ha with rfl | rfl
    · exact ab_f (by simp [u_any])
    · exact ab_t (Or.inl rfl)
  | n + 1, k, a, o, hk, hn, ha => by
    have h1 := hg.2.2.1
    have ih := fun a o ha => l198 d hd w t hg hw n (k + 1) a o (by omega) (by omega) ha
    have ep : y_I h 111 (Int.toNat k) = pl h 111 k := rfl
    rw [b198_5, hvwm, if_pos (by omega)]
    simp (disch := first | omega | assumption) only [yci_s, yr_t, yi_t, s173, s174, s191, s181, ep]
    by_cases c1 : g_pt (hv h) k = g_pt (hv h) w
    · rw [if_pos c1]
      by_cases c2 : pl h 111 k = -9
      · rw [if_pos (bi_f (fun g => g c2))]
        rcases ha with rfl | rfl
        · rw [if_pos rfl, ih 0 _ (Or.inl rfl)]
          exact ab_cg (by simp [u_any_s, c2])
        · rw [if_neg (by omega), ih 1 _ (Or.inr rfl)]
          exact ab_cg (by simp)
      · rw [if_neg (by rw [bi_t c2]; omega)]
        by_cases c3 : pl h 111 k < t
        · rw [if_pos c3]
          rcases ha with rfl | rfl
          · rw [if_pos rfl]
            by_cases c4 : g_na (hv h) (g_rd (hv h) w) (g_rd (hv h) k) (g_pt (hv h) w)
            · rw [if_neg (by rw [bi_t c4]; omega), ih 1 _ (Or.inr rfl)]
              exact ab_cg (by simp [u_any_s, c1, c2, c3, c4])
            · rw [if_pos (bi_f c4), ih 0 _ (Or.inl rfl)]
              exact ab_cg (by simp [u_any_s, c4])
          · rw [if_neg (by omega), ih 1 _ (Or.inr rfl)]
            exact ab_cg (by simp)
        · rw [if_neg c3]
          rcases ha with rfl | rfl
          · rw [if_pos rfl, ih 0 _ (Or.inl rfl)]
            exact ab_cg (by simp [u_any_s, c3])
          · rw [if_neg (by omega), ih 1 _ (Or.inr rfl)]
            exact ab_cg (by simp)
    · rw [if_neg c1]
      rcases ha with rfl | rfl
      · rw [if_pos rfl, ih 0 _ (Or.inl rfl)]
        exact ab_cg (by simp [u_any_s, c1])
      · rw [if_neg (by omega), ih 1 _ (Or.inr rfl)]
        exact ab_cg (by simp)
theorem s198 (d : Nat) (hd : 3 ≤ d) (w t : Int) (hg : g_ok (hv h)) (hw : 0 ≤ w ∧ w < g_wm (hv h)) : y_se z_pg sc d 198 [y_vr 94, y_vi w, y_vi t] h = some (some (y_vi (y_bi (g_spo (hv h) (pl h 111) w t))), h) := by
  rcases d with _ | d
  · omega
  have h1 := hg.2.2.1
  rw [e198, b198_0, l198 d (by omega) w t hg hw (g_wm (hv h)).toNat 0 0 none (by omega) (by omega) (Or.inl rfl)]
  exact ab_cg (by simp [g_spo])
end MQ
