/-! CALL: mend; what stays of a plan that goes -/
abbrev k_A := u_P × (Int → Int)
def k_st (G : u_G) (P : u_P) (m : Int) (s : k_A) (w : Int) : k_A := if P w = m then (u_up s.1 w m, q_up G s.2 w m) else s
def k_in (G : u_G) (P : u_P) (s : k_A) (m : Int) : k_A := u_fold (k_st G P m) s 0 (g_wm G).toNat
def k_0 : k_A := (fun _ => -9, fun _ => 0)
def k_all (G : u_G) (P : u_P) (t : Int) : k_A := u_fold (k_in G P) k_0 0 t.toNat
/-- what holds of it before the want w of minute m -/
def KI2 (G : u_G) (P : u_P) (s : k_A) (m w : Int) : Prop := (∀ v, 0 ≤ v → v < g_wm G → s.1 v = if P v ≠ -9 ∧ (P v < m ∨ (P v = m ∧ v < w)) then P v else -9) ∧ (∃ κ : Int → Int, ∀ p, 0 ≤ p → p < g_pm G → m_ce G s.1 κ p 0 = s.2 (2 * p) ∧ m_ce G s.1 κ p 1 = s.2 (2 * p + 1)) ∧ q_in G s.1 s.2
theorem ite_iff {p q : Prop} [Decidable p] [Decidable q] {a b : Int} (h : p ↔ q) : (if p then a else b) = if q then a else b := by
  by_cases c : p
  · rw [if_pos c, if_pos (h.mp c)]
  · rw [if_neg c, if_neg (fun z => c (h.mpr z))]
section KP
variable {G : u_G} {P : u_P} {s : k_A} {m w : Int}
theorem m_ce_gt {Q : u_P} {κ : Int → Int} {p c T : Int} (hw : 0 ≤ g_wm G) (hT : 0 ≤ T) (h : T < m_ce G Q κ p c) : ∃ v, 0 ≤ v ∧ v < g_wm G ∧ Q v ≠ -9 ∧ g_pt G v = p ∧ κ v = c ∧ T < Q v + g_mn G v := Classical.byContradiction fun q => by
  have : m_ce G Q κ p c ≤ T := (m_ce_le hw).mpr ⟨hT, fun v h1 h2 h3 h4 h5 => by
    rcases Int.lt_or_le T (Q v + g_mn G v) with z | z
    · exact absurd ⟨v, h1, h2, h3, h4, h5, z⟩ q
    · exact z⟩
  omega
theorem u_sum_2 {f : Int → Int} {n : Nat} {a b c : Int} (h0 : ∀ j, 0 ≤ f j) (ha : 0 ≤ a ∧ a < n) (hb : 0 ≤ b ∧ b < n) (hab : a ≠ b) (fa : f a = 1) (fb : f b = 1) : 2 ≤ u_sum f 0 n := by
  have : u_sum (fun j => (0 + if j = a then 1 else 0) + if j = b then 1 else 0) 0 n ≤ u_sum f 0 n := u_sum_le fun j _ _ => by
    have := h0 j
    by_cases z : j = a
    · rw [if_pos z, if_neg (by omega), z, fa]; omega
    · rw [if_neg z]
      by_cases y : j = b
      · rw [if_pos y, y, fb]; omega
      · rw [if_neg y]; omega
  rw [u_sum_ind (g := fun j => 0 + if j = a then 1 else 0), u_sum_ind (g := fun _ => 0), u_sum_z, if_pos (by omega), if_pos (by omega)] at this
  omega
theorem u_sum_3 {f : Int → Int} {n : Nat} {a b c : Int} (h0 : ∀ j, 0 ≤ f j) (ha : 0 ≤ a ∧ a < n) (hb : 0 ≤ b ∧ b < n) (hc : 0 ≤ c ∧ c < n) (hab : a ≠ b) (hac : a ≠ c) (hbc : b ≠ c) (fa : f a = 1) (fb : f b = 1) (fc : f c = 1) : 3 ≤ u_sum f 0 n := by
  have : u_sum (fun j => ((0 + if j = a then 1 else 0) + if j = b then 1 else 0) + if j = c then 1 else 0) 0 n ≤ u_sum f 0 n := u_sum_le fun j _ _ => by
    have := h0 j
    by_cases z : j = a
    · rw [if_pos z, if_neg (by omega), if_neg (by omega), z, fa]; omega
    · rw [if_neg z]
      by_cases y : j = b
      · rw [if_pos y, if_neg (by omega), y, fb]; omega
      · rw [if_neg y]
        by_cases x : j = c
        · rw [if_pos x, x, fc]; omega
        · rw [if_neg x]; omega
  rw [u_sum_ind (g := fun j => (0 + if j = a then 1 else 0) + if j = b then 1 else 0), u_sum_ind (g := fun j => 0 + if j = a then 1 else 0), u_sum_ind (g := fun _ => 0), u_sum_z, if_pos (by omega), if_pos (by omega), if_pos (by omega)] at this
  omega
theorem well_of (hb : g_bad G P = -9) (hg : g_ok G) {v t : Int} (h1 : 0 ≤ v) (h2 : v < g_wm G) (t0 : 0 ≤ t) (t1 : t < 80) (r : g_rg G P v t) : g_well G P v t := Classical.byContradiction fun q => by
  have kw := hg.2.2.1
  unfold g_bad at hb
  rw [u_find_none (by omega)] at hb
  exact hb t t0 (by omega) (u_any_iff.mpr ⟨v, h1, by omega, r, q⟩)
/-- it can be placed there -/
theorem KI2_at (hg : g_ok G) (hp : p_ok G P) (hb : g_bad G P = -9) (K : KI2 G P s m w) (hw : 0 ≤ w ∧ w < g_wm G) (hm : 0 ≤ m) (e : P w = m) : s.1 w = -9 ∧ g_ws G s.1 (g_rd G w) ≤ m ∧ s.2 (q_fc G s.2 (g_pt G w)) ≤ m ∧ m + g_mn G w ≤ 60 ∧ m ≤ 59 := by
  obtain ⟨K1, ⟨κ, K2⟩, K3⟩ := K
  have kw := hg.2.2.1
  have kl := hg.2.2.2.2.2.1
  obtain ⟨k1, k2, k3, k4⟩ := hg.2.2.2.2.2.2.2.2.1 w hw.1 hw.2
  have m59 : m ≤ 59 := by
    rcases hp w hw.1 hw.2 with q | q <;> omega
  have rw : g_rg G P w m := ⟨by omega, by omega, by omega⟩
  have wl := well_of hb hg hw.1 hw.2 hm (by omega) rw
  have e9 : s.1 w = -9 := by rw [K1 w hw.1 hw.2, if_neg (by omega)]
  -- processed ones
  have pr : ∀ v, 0 ≤ v → v < g_wm G → s.1 v ≠ -9 → s.1 v = P v ∧ P v ≠ -9 ∧ P v ≤ m ∧ v ≠ w := fun v h1 h2 h3 => by
    have := K1 v h1 h2
    by_cases c : P v ≠ -9 ∧ (P v < m ∨ (P v = m ∧ v < w))
    · rw [if_pos c] at this
      refine ⟨this, c.1, by omega, fun z => ?_⟩
      rw [z, e] at c
      omega
    · rw [if_neg c] at this
      exact absurd this h3
  have ends : m + g_mn G w ≤ 60 := by
    have r2 : g_rg G P w (m + g_mn G w - 1) := ⟨by omega, by omega, by omega⟩
    have w2 := well_of hb hg hw.1 hw.2 (by omega) (by omega) r2
    have := w2.1.2.1
    omega
  refine ⟨e9, (ws_le kw.1).mpr ⟨wl.1.1.1, fun v h1 h2 h3 h4 => ?_⟩, ?_, ends, m59⟩
  · obtain ⟨a1, a2, a3, a4⟩ := pr v h1 h2 h4
    rw [a1]
    rcases Int.lt_or_le m (P v + g_mn G v) with z | z
    · exact absurd (u_any_iff.mpr ⟨v, h1, by omega, a4, h3, a2, a3, z⟩) wl.2.1.2
    · exact z
  · have many := wl.2.1.1
    have k2' := K2 _ k2.1 k2.2
    have cpp := (hg.2.2.2.2.2.2.1 _ k2.1 k2.2).1
    have fcr := q_fc_r (E := s.2) hg k2
    have fw : y_bi (g_pt G w = g_pt G w ∧ g_rg G P w m) = 1 := bi_t ⟨rfl, rw⟩
    have one : ∀ c, m < m_ce G s.1 κ (g_pt G w) c → ∃ v, (0 ≤ v ∧ v < (((g_wm G).toNat : Nat) : Int)) ∧ v ≠ w ∧ κ v = c ∧ y_bi (g_pt G v = g_pt G w ∧ g_rg G P v m) = 1 := fun c q => by
      obtain ⟨v, h1, h2, h3, h4, h5, h6⟩ := m_ce_gt kw.1 hm q
      obtain ⟨a1, a2, a3, a4⟩ := pr v h1 h2 h3
      rw [a1] at h6
      exact ⟨v, ⟨h1, by omega⟩, a4, h5, bi_t ⟨h4, a2, a3, h6⟩⟩
    rcases Int.lt_or_le m (s.2 (q_fc G s.2 (g_pt G w))) with z | z
    · exfalso
      obtain ⟨v0, b1, b2, b3, b4⟩ := one 0 (by rw [k2'.1]; omega)
      by_cases c : g_cp G (g_pt G w) = 2
      · have := fcr.2.2.2 c
        obtain ⟨v1, c1, c2, c3, c4⟩ := one 1 (by rw [k2'.2]; omega)
        have n3 := u_sum_3 (f := fun v => y_bi (g_pt G v = g_pt G w ∧ g_rg G P v m)) (n := (g_wm G).toNat) (a := w) (b := v0) (c := v1) (fun j => bi_rng.1) ⟨hw.1, by omega⟩ b1 c1 b2.symm c2.symm (fun y => by rw [y] at b3; omega) fw b4 c4
        unfold g_many at many
        omega
      · have n2 := u_sum_2 (f := fun v => y_bi (g_pt G v = g_pt G w ∧ g_rg G P v m)) (n := (g_wm G).toNat) (a := w) (b := v0) (c := 0) (fun j => bi_rng.1) ⟨hw.1, by omega⟩ b1 b2.symm fw b4
        unfold g_many at many
        omega
    · exact z
theorem KI2_st (hg : g_ok G) (hp : p_ok G P) (hb : g_bad G P = -9) (K : KI2 G P s m w) (hw : 0 ≤ w ∧ w < g_wm G) (hm : 0 ≤ m) : KI2 G P (k_st G P m s w) m (w + 1) := by
  have kw := hg.2.2.1
  unfold k_st
  by_cases e : P w = m
  · obtain ⟨a1, a2, a3, a4, a5⟩ := KI2_at hg hp hb K hw hm e
    rw [if_pos e]
    obtain ⟨K1, ⟨κ, K2⟩, K3⟩ := K
    obtain ⟨k1, k2, k3, k4⟩ := hg.2.2.2.2.2.2.2.2.1 w hw.1 hw.2
    have cpp := (hg.2.2.2.2.2.2.1 _ k2.1 k2.2).1
    have fcr := q_fc_r (E := s.2) hg k2
    have hc : m_ce G s.1 κ (g_pt G w) (q_fc G s.2 (g_pt G w) - 2 * g_pt G w) ≤ m := by
      have c2 := K2 _ k2.1 k2.2
      rcases (show q_fc G s.2 (g_pt G w) = 2 * g_pt G w ∨ q_fc G s.2 (g_pt G w) = 2 * g_pt G w + 1 by omega) with z | z
      · rw [show q_fc G s.2 (g_pt G w) - 2 * g_pt G w = 0 by omega, c2.1, ← z]; exact a3
      · rw [show q_fc G s.2 (g_pt G w) - 2 * g_pt G w = 1 by omega, c2.2, ← z]; exact a3
    refine ⟨fun v h1 h2 => ?_, ⟨fun v => if v = w then q_fc G s.2 (g_pt G w) - 2 * g_pt G w else κ v, fun p p1 p2 => ?_⟩, fun v h1 h2 h3 => ?_, fun c h1 h2 => ?_⟩
    · show u_up s.1 w m v = _
      by_cases z : v = w
      · rw [z, up_e, if_pos (by omega), e]
      · rw [up_o h1 hw.1 z, K1 v h1 h2]
        by_cases c : P v ≠ -9 ∧ (P v < m ∨ (P v = m ∧ v < w))
        · rw [if_pos c, if_pos ⟨c.1, by omega⟩]
        · rw [if_neg c, if_neg (by omega)]
    · have c2 := K2 p p1 p2
      show m_ce G (u_up s.1 w m) _ p 0 = q_up G s.2 w m (2 * p) ∧ m_ce G (u_up s.1 w m) _ p 1 = q_up G s.2 w m (2 * p + 1)
      rw [m_ce_up hg hw a1 hm (fun v _ => rfl) hc, m_ce_up hg hw a1 hm (fun v _ => rfl) hc]
      unfold q_up
      constructor
      · by_cases z : p = g_pt G w ∧ 0 = q_fc G s.2 (g_pt G w) - 2 * g_pt G w
        · rw [if_pos z, if_pos (by omega)]
        · rw [if_neg z, if_neg (by omega)]; exact c2.1
      · by_cases z : p = g_pt G w ∧ 1 = q_fc G s.2 (g_pt G w) - 2 * g_pt G w
        · rw [if_pos z, if_pos (by omega)]
        · rw [if_neg z, if_neg (by omega)]; exact c2.2
    · have h3 : u_up s.1 w m v ≠ -9 := h3
      show 0 ≤ u_up s.1 w m v ∧ u_up s.1 w m v + g_mn G v ≤ 60
      by_cases z : v = w
      · rw [z, up_e]; omega
      · rw [up_o h1 hw.1 z] at h3 ⊢
        exact K3.1 v h1 h2 h3
    · show 0 ≤ q_up G s.2 w m c ∧ q_up G s.2 w m c ≤ 60
      unfold q_up
      by_cases z : c = q_fc G s.2 (g_pt G w)
      · rw [if_pos z]; omega
      · rw [if_neg z]; exact K3.2 c h1 h2
  · rw [if_neg e]
    refine ⟨fun v h1 h2 => ?_, K.2⟩
    rw [K.1 v h1 h2]
    have : (P v ≠ -9 ∧ (P v < m ∨ (P v = m ∧ v < w))) ↔ (P v ≠ -9 ∧ (P v < m ∨ (P v = m ∧ v < w + 1))) := by
      have : v = w → P v ≠ m := fun z => by rw [z]; exact e
      by_cases z : v = w
      · have := this z
        omega
      · omega
    exact ite_iff this
theorem KI2_nx (K : KI2 G P s m (g_wm G)) : KI2 G P s (m + 1) 0 := ⟨fun v h1 h2 => by
  rw [K.1 v h1 h2]
  exact ite_iff (by omega), K.2⟩
theorem KI2_0 (hg : g_ok G) (hp : p_ok G P) : KI2 G P k_0 0 0 := ⟨fun v h1 h2 => by
  have := hp v h1 h2
  show (-9 : Int) = _
  rw [if_neg (by omega)], ⟨fun _ => 0, fun p _ _ => ⟨m_ce_0 hg.2.2.1.1, m_ce_0 hg.2.2.1.1⟩⟩, q_in_0⟩
end KP
