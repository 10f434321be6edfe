/-! a plan looked at; worth, losses -/
/-- the first from k on, of n; -9 -/
noncomputable def u_find (p : Int → Prop) (k : Int) : Nat → Int
  | 0 => -9
  | n + 1 => @ite _ (p k) (Classical.propDecidable _) k (u_find p (k + 1) n)
theorem u_find_s {p : Int → Prop} {k : Int} {n : Nat} : u_find p k (n + 1) = @ite _ (p k) (Classical.propDecidable _) k (u_find p (k + 1) n) := rfl
theorem u_find_t {p : Int → Prop} {k : Int} {n : Nat} (h : p k) : u_find p k (n + 1) = k := by rw [u_find_s]; exact if_pos h
theorem u_find_f {p : Int → Prop} {k : Int} {n : Nat} (h : ¬ p k) : u_find p k (n + 1) = u_find p (k + 1) n := by rw [u_find_s]; exact if_neg h
theorem u_find_none {p : Int → Prop} : ∀ {n : Nat} {k : Int}, 0 ≤ k → (u_find p k n = -9 ↔ ∀ j, k ≤ j → j < k + n → ¬ p j)
  | 0, k, hk => ⟨fun _ j h1 h2 => by omega, fun _ => rfl⟩
  | n + 1, k, hk => by
    by_cases q : p k
    · rw [u_find_t q]
      exact ⟨fun e => by omega, fun h => absurd q (h k (Int.le_refl _) (by omega))⟩
    · rw [u_find_f q, u_find_none (by omega)]
      constructor
      · intro h j h1 h2
        by_cases e : j = k
        · subst e; exact q
        · exact h j (by omega) (by omega)
      · intro h j h1 h2
        exact h j (by omega) (by omega)
theorem u_find_some {p : Int → Prop} : ∀ {n : Nat} {k t : Int}, 0 ≤ k → k ≤ t → t < k + n → p t → (∀ j, k ≤ j → j < t → ¬ p j) → u_find p k n = t
  | 0, k, t, hk, h1, h2, _, _ => by omega
  | n + 1, k, t, hk, h1, h2, h3, h4 => by
    by_cases q : p k
    · rw [u_find_t q]
      by_cases e : k = t
      · exact e
      · exact absurd q (h4 k (Int.le_refl _) (by omega))
    · rw [u_find_f q]
      have e : k ≠ t := fun e => by subst e; exact q h3
      exact u_find_some (by omega) (by omega) (by omega) h3 fun j g1 g2 => h4 j (by omega) g2
noncomputable def g_bad (G : u_G) (P : u_P) : Int := u_find (fun t => u_any (fun w => g_rg G P w t ∧ ¬ g_well G P w t) 0 (g_wm G).toNat) 0 80
section MQ
variable {sc : z_Sc} {h : y_Hp}
theorem g_ok_w {G : u_G} (hg : g_ok G) {w : Int} (hw : 0 ≤ w ∧ w < g_wm G) : (0 ≤ w ∧ w < 24) ∧ (0 ≤ g_rd G w ∧ g_rd G w < g_rm G) ∧ (0 ≤ g_pt G w ∧ g_pt G w < g_pm G) ∧ (1 ≤ g_mn G w ∧ g_mn G w ≤ 20) ∧ (1 ≤ g_wo G w ∧ g_wo G w ≤ 9) ∧ (0 ≤ g_rd G w ∧ g_rd G w < 8) ∧ (0 ≤ g_pt G w ∧ g_pt G w < 6) ∧ (0 ≤ g_fr G (g_rd G w) ∧ g_fr G (g_rd G w) < g_ti G (g_rd G w) ∧ g_ti G (g_rd G w) ≤ 60) ∧ (0 ≤ g_cm G (g_pt G w) ∧ g_cm G (g_pt G w) ≤ 59) ∧ (0 ≤ g_sl G (g_pt G w) ∧ g_sl G (g_pt G w) ≤ 9) ∧ (g_cp G (g_pt G w) = 1 ∨ g_cp G (g_pt G w) = 2) := by
  obtain ⟨h1, h2, h3, h4, h5, h6, h7, h8, h9, h10⟩ := hg
  obtain ⟨q1, q2, q3, q4⟩ := h9 w hw.1 hw.2
  have r1 := h8 _ q1.1 q1.2
  have r2 := h7 _ q2.1 q2.2
  exact ⟨by omega, q1, q2, q3, q4, by omega, by omega, r1.1, r2.2.1, r2.2.2, r2.1⟩
theorem s199 (d : Nat) (hd : 5 ≤ d) (w t : Int) (hg : g_ok (hv h)) (hp : p_ok (hv h) (pl h 111)) (hw : 0 ≤ w ∧ w < g_wm (hv h)) (ht : -1000 ≤ t ∧ t ≤ 1000) : y_se z_pg sc d 199 [y_vr 94, y_vi w, y_vi t] h = some (some (y_vi (y_bi (g_well (hv h) (pl h 111) w t))), h) := by
  rcases d with _ | d
  · omega
  obtain ⟨k1, k2, k3, k4, k5, k6, k7, k8, k9, k10, k11⟩ := g_ok_w hg hw
  have ep : y_I h 111 (Int.toNat w) = pl h 111 w := rfl
  have tail : ∀ a c : Prop, y_ev z_pg sc d pgX8_isWell 99 [some (y_vr 94), some (y_vi w), some (y_vi t), some (y_vi (g_rd (hv h) w)), some (y_vi (g_pt (hv h) w)), some (y_vi (y_bi a)), none] [y_vi (y_bi c)] h = some (some (y_vi (y_bi (a ∧ c ∧ (pl h 111 w = t → g_due (hv h) (pl h 111) w t ∧ ¬ g_spo (hv h) (pl h 111) w t)))), h) := by
    intro a c
    rw [b199_99]
    simp (disch := first | omega | assumption) only [yci_s, yi_t, s197, s198, ep, b199_139, b199_143, b199_144]
    by_cases qa : a
    · rw [if_neg (by rw [bi_t qa]; omega)]
      by_cases qc : c
      · rw [if_neg (by rw [bi_t qc]; omega)]
        by_cases q : pl h 111 w = t
        · rw [if_pos q]
          by_cases q1 : g_due (hv h) (pl h 111) w t
          · rw [if_neg (by rw [bi_t q1]; omega)]
            by_cases q2 : g_spo (hv h) (pl h 111) w t
            · rw [if_neg (by rw [bi_t q2]; omega), yb_t (Or.inl rfl)]
              exact ab_f (by simp [q, q2])
            · rw [if_pos (bi_f q2), yb_t (Or.inr rfl)]
              exact ab_t ⟨qa, qc, fun _ => ⟨q1, q2⟩⟩
          · rw [if_pos (bi_f q1), yb_t (Or.inl rfl)]
            exact ab_f (by simp [q, q1])
        · rw [if_neg q, yb_t (Or.inr rfl)]
          exact ab_t ⟨qa, qc, fun e => absurd e q⟩
      · rw [if_pos (bi_f qc), yb_t (Or.inl rfl)]
        exact ab_f (fun g => qc g.2.1)
    · rw [if_pos (bi_f qa), yb_t (Or.inl rfl)]
      exact ab_f (fun g => qa g.1)
  have mid : ∀ a : Prop, y_ev z_pg sc d pgX8_isWell 66 [some (y_vr 94), some (y_vi w), some (y_vi t), some (y_vi (g_rd (hv h) w)), some (y_vi (g_pt (hv h) w)), none, none] [y_vi (y_bi a)] h = some (some (y_vi (y_bi (a ∧ g_free (hv h) (pl h 111) w t ∧ (pl h 111 w = t → g_due (hv h) (pl h 111) w t ∧ ¬ g_spo (hv h) (pl h 111) w t)))), h) := by
    intro a
    rw [b199_66]
    simp (disch := first | omega | assumption) only [yci_s, s195, s176, s196, b199_98]
    by_cases q1 : g_cp (hv h) (g_pt (hv h) w) < g_many (hv h) (pl h 111) (g_pt (hv h) w) t
    · rw [if_pos q1]
      have := tail a False
      rw [bi_F] at this
      rw [this]
      exact ab_cg (by unfold g_free; constructor <;> (rintro ⟨_, g, _⟩; first | exact g.elim | (have := g.1; omega)))
    · rw [if_neg q1]
      by_cases q2 : g_does (hv h) (pl h 111) (g_rd (hv h) w) t w
      · rw [if_neg (by rw [bi_t q2]; omega)]
        have := tail a False
        rw [bi_F] at this
        rw [this]
        exact ab_cg (by unfold g_free; constructor <;> (rintro ⟨_, g, _⟩; first | exact g.elim | exact absurd q2 g.2))
      · rw [if_pos (bi_f q2)]
        have := tail a True
        rw [bi_T] at this
        rw [this]
        exact ab_cg (by
          have : g_free (hv h) (pl h 111) w t := ⟨by omega, q2⟩
          simp [this])
  rw [e199, b199_0]
  simp (disch := first | omega | assumption) only [yci_s, yr_t, s173, s174, s178, s179, s136, s177, s182, b199_65, hvla]
  have fin : ∀ a : Prop, (a ↔ g_there (hv h) w t) → y_ev z_pg sc d pgX8_isWell 66 [some (y_vr 94), some (y_vi w), some (y_vi t), some (y_vi (g_rd (hv h) w)), some (y_vi (g_pt (hv h) w)), none, none] [y_vi (y_bi a)] h = some (some (y_vi (y_bi (g_well (hv h) (pl h 111) w t))), h) := by
    intro a ha
    rw [mid a]
    exact ab_cg (by unfold g_well; rw [ha])
  have fF := fin False
  rw [bi_F] at fF
  have fT := fin True
  rw [bi_T] at fT
  by_cases q1 : g_fr (hv h) (g_rd (hv h) w) ≤ t ∧ t ≤ g_ti (hv h) (g_rd (hv h) w) - 1
  · rw [if_neg (by rw [bi_t q1]; omega)]
    by_cases q2 : t < g_la (hv h)
    · rw [if_pos q2]
      by_cases q3 : t < g_cm (hv h) (g_pt (hv h) w)
      · rw [if_pos q3]
        exact fF ⟨fun g => g.elim, fun g => by have := g.2.2.1; omega⟩
      · rw [if_neg q3]
        by_cases q4 : g_un (hv h) (g_pt (hv h) w) t 1
        · rw [if_neg (by rw [bi_t q4]; omega)]
          exact fF ⟨fun g => g.elim, fun g => g.2.2.2 q4⟩
        · rw [if_pos (bi_f q4)]
          exact fT ⟨fun _ => ⟨q1, q2, by omega, q4⟩, fun _ => trivial⟩
    · rw [if_neg q2]
      exact fF ⟨fun g => g.elim, fun g => q2 g.2.1⟩
  · rw [if_pos (bi_f q1)]
    exact fF ⟨fun g => g.elim, fun g => q1 g.1⟩
theorem l200b (d : Nat) (hd : 5 ≤ d) (t : Int) (hg : g_ok (hv h)) (hp : p_ok (hv h) (pl h 111)) (ht : 0 ≤ t ∧ t ≤ 100) (R : y_O) (hR : ∀ o : Option y_V, y_ev z_pg sc d pgX8_firstBad 2 [some (y_vr 94), some (y_vi (t + 1)), o] [] h = R) : ∀ (n : Nat) (k : Int), 0 ≤ k → k + n = g_wm (hv h) → y_ev z_pg sc d pgX8_firstBad 10 [some (y_vr 94), some (y_vi t), some (y_vi k)] [] h = @ite _ (u_any (fun w => g_rg (hv h) (pl h 111) w t ∧ ¬ g_well (hv h) (pl h 111) w t) k n) (Classical.propDecidable _) (some (some (y_vi t), h)) R
  | 0, k, hk, hn => by
    rw [b200_10, hvwm, if_neg (by omega), yr_t (by omega), hR]
    exact (if_neg (by simp [u_any])).symm
  | n + 1, k, hk, hn => by
    have h1 := hg.2.2.1
    have ih := l200b d hd t hg hp ht R hR n (k + 1) (by omega) (by omega)
    rw [b200_10, hvwm, if_pos (by omega)]
    simp (disch := first | omega | assumption) only [yci_s, yr_t, s193, s199, ih]
    by_cases q1 : g_rg (hv h) (pl h 111) k t
    · rw [if_neg (by rw [bi_t q1]; omega)]
      by_cases q2 : g_well (hv h) (pl h 111) k t
      · rw [if_neg (by rw [bi_t q2]; omega)]
        congr 1
        exact propext (by simp [u_any_s, q2])
      · rw [if_pos (bi_f q2)]
        exact (if_pos (Or.inl ⟨q1, q2⟩)).symm
    · rw [if_pos (bi_f q1)]
      congr 1
      exact propext (by simp [u_any_s, q1])
theorem l200 (d : Nat) (hd : 5 ≤ d) (hg : g_ok (hv h)) (hp : p_ok (hv h) (pl h 111)) : ∀ (n : Nat) (t : Int) (o : Option y_V), 0 ≤ t → t + n = 80 → y_ev z_pg sc d pgX8_firstBad 2 [some (y_vr 94), some (y_vi t), o] [] h = some (some (y_vi (u_find (fun t => u_any (fun w => g_rg (hv h) (pl h 111) w t ∧ ¬ g_well (hv h) (pl h 111) w t) 0 (g_wm (hv h)).toNat) t n)), h)
  | 0, t, o, hk, hn => by
    rw [b200_2, if_neg (by omega)]
    rfl
  | n + 1, t, o, hk, hn => by
    have h1 := hg.2.2.1
    have ih := fun o => l200 d hd hg hp n (t + 1) o (by omega) (by omega)
    rw [b200_2, if_pos (by omega), l200b d hd t hg hp (by omega) _ ih (g_wm (hv h)).toNat 0 (by omega) (by omega), u_find_s]
    split <;> rfl
theorem s200 (d : Nat) (hd : 6 ≤ d) (hg : g_ok (hv h)) (hp : p_ok (hv h) (pl h 111)) : y_se z_pg sc d 200 [y_vr 94] h = some (some (y_vi (g_bad (hv h) (pl h 111))), h) := by
  rcases d with _ | d
  · omega
  rw [e200, b200_0, l200 d (by omega) hg hp 80 0 none (by omega) (by omega)]
  rfl
theorem s201 (d : Nat) (hd : 7 ≤ d) (hg : g_ok (hv h)) (hp : p_ok (hv h) (pl h 111)) : y_se z_pg sc d 201 [y_vr 94] h = some (some (y_vi (g_bad (hv h) (pl h 111))), h) := by
  rcases d with _ | d
  · omega
  rw [e201, b201_0, s200 d (by omega) hg hp, yci_s]
end MQ
