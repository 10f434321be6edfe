/-! WHAT IS REACHED GOES; what a rule makes goes -/
def NI (G : u_G) (oc : Int) (P : u_P) (E : Int → Int) : Prop :=
  (∀ w, 0 ≤ w → w < g_wm G → P w ≠ -9 → g_tm G w (P w)) ∧
  (∀ v w, 0 ≤ v → v < g_wm G → 0 ≤ w → w < g_wm G → v ≠ w → g_rd G v = g_rd G w → P v ≠ -9 → P w ≠ -9 → P v + g_mn G v ≤ P w ∨ P w + g_mn G w ≤ P v) ∧
  (oc = 1 → ∀ v w, 0 ≤ v → v < w → w < g_wm G → g_rd G v = g_rd G w → g_or G (g_rd G w) = 1 → P w ≠ -9 → P v ≠ -9 ∧ P v + g_mn G v ≤ P w) ∧
  ∃ κ : Int → Int, (∀ v, 0 ≤ v → v < g_wm G → P v ≠ -9 → (κ v = 0 ∨ (κ v = 1 ∧ g_cp G (g_pt G v) = 2)) ∧ P v + g_mn G v ≤ E (2 * g_pt G v + κ v)) ∧ ∀ v w, 0 ≤ v → v < g_wm G → 0 ≤ w → w < g_wm G → v ≠ w → g_pt G v = g_pt G w → κ v = κ w → P v ≠ -9 → P w ≠ -9 → P v + g_mn G v ≤ P w ∨ P w + g_mn G w ≤ P v
theorem u_sum_add {f g : Int → Int} : ∀ {n : Nat} {k : Int}, u_sum (fun j => f j + g j) k n = u_sum f k n + u_sum g k n
  | 0, _ => rfl
  | n + 1, k => by
    rw [u_sum_s, u_sum_s, u_sum_s, u_sum_add]
    omega
theorem u_cnt_uq {p : Int → Prop} {n : Nat} {k : Int} (h : ∀ i j, k ≤ i → i < k + n → k ≤ j → j < k + n → p i → p j → i = j) : u_sum (fun j => y_bi (p j)) k n ≤ 1 := by
  by_cases c : ∃ i, k ≤ i ∧ i < k + n ∧ p i
  · obtain ⟨i, i1, i2, i3⟩ := c
    exact u_cnt_le1 (w := i) fun j j1 j2 j3 => h j i j1 j2 i1 i2 j3 i3
  · rw [u_cnt_0 fun j j1 j2 j3 => c ⟨j, j1, j2, j3⟩]
    omega
section NO
variable {G : u_G} {P Q : u_P} {L : Int → Prop} {E : Int → Int} {b0 oc wt : Int} {m : u_P → Int}
theorem NI_0 : NI G oc (fun _ => -9) (fun _ => 0) := ⟨fun w _ _ q => absurd rfl q, fun v w _ _ _ _ _ _ q => absurd rfl q, fun _ v w _ _ _ _ _ q => absurd rfl q, fun _ => 0, fun v _ _ q => absurd rfl q, fun v w _ _ _ _ _ _ _ q => absurd rfl q⟩
theorem NI_go (hg : g_ok G) (N : NI G oc P E) : g_go G oc P := by
  obtain ⟨n1, n2, n3, κ, n4, n5⟩ := N
  have kw := hg.2.2.1
  refine ⟨n1, n2, n3, fun w t w1 w2 r => ?_⟩
  obtain ⟨k1, k2, k3, k4⟩ := hg.2.2.2.2.2.2.2.2.1 w w1 w2
  have kp := (hg.2.2.2.2.2.2.1 _ k2.1 k2.2).1
  have one : ∀ c, u_sum (fun j => y_bi ((g_pt G j = g_pt G w ∧ g_rg G P j t) ∧ κ j = c)) 0 (g_wm G).toNat ≤ 1 := fun c => u_cnt_uq fun i j i1 i2 j1 j2 hi hj => Classical.byContradiction fun e => by
    obtain ⟨⟨a1, a2, a3, a4⟩, a5⟩ := hi
    obtain ⟨⟨b1, b2, b3, b4⟩, b5⟩ := hj
    have := n5 i j i1 (by omega) j1 (by omega) e (a1.trans b1.symm) (a5.trans b5.symm) a2 b2
    omega
  show u_sum (fun j => y_bi (g_pt G j = g_pt G w ∧ g_rg G P j t)) 0 (g_wm G).toNat ≤ _
  rcases kp with c1 | c2
  · rw [c1]
    refine Int.le_trans (u_sum_le fun j j1 j2 => ?_) (one 0)
    by_cases c : g_pt G j = g_pt G w ∧ g_rg G P j t
    · have := (n4 j j1 (by omega) c.2.1).1
      rw [c.1] at this
      rw [bi_t c, bi_t ⟨c, by omega⟩]
      exact Int.le_refl _
    · rw [bi_f c]; exact bi_nn
  · rw [c2]
    refine Int.le_trans (b := u_sum (fun j => y_bi ((g_pt G j = g_pt G w ∧ g_rg G P j t) ∧ κ j = 0) + y_bi ((g_pt G j = g_pt G w ∧ g_rg G P j t) ∧ κ j = 1)) 0 (g_wm G).toNat) (u_sum_le fun j j1 j2 => ?_) ?_
    · by_cases c : g_pt G j = g_pt G w ∧ g_rg G P j t
      · have a0 : ∀ x, 0 ≤ y_bi ((g_pt G j = g_pt G w ∧ g_rg G P j t) ∧ κ j = x) := fun x => bi_nn
        rcases (n4 j j1 (by omega) c.2.1).1 with z | z
        · rw [bi_t c, bi_t (show _ ∧ κ j = 0 from ⟨c, z⟩)]
          have := a0 1
          omega
        · rw [bi_t c, bi_t (show _ ∧ κ j = 1 from ⟨c, z.1⟩)]
          have := a0 0
          omega
      · rw [bi_f c]
        have a0 : ∀ x, 0 ≤ y_bi ((g_pt G j = g_pt G w ∧ g_rg G P j t) ∧ κ j = x) := fun x => bi_nn
        have := a0 0
        have := a0 1
        omega
    · rw [u_sum_add]
      have := one 0
      have := one 1
      omega
theorem NI_st (hg : g_ok G) (N : NI G oc P E) {w t : Int} (hw : 0 ≤ w ∧ w < g_wm G) (e : P w = -9) (ht : 0 ≤ t) (tm : g_tm G w t) (ws : g_ws G P (g_rd G w) ≤ t) (fc : E (q_fc G E (g_pt G w)) ≤ t) (nx : q_nx G oc P w) : NI G oc (u_up P w t) (q_up G E w t) := by
  obtain ⟨n1, n2, n3, κ, n4, n5⟩ := N
  have kw := hg.2.2.1
  obtain ⟨k1, k2, k3, k4⟩ := hg.2.2.2.2.2.2.2.2.1 w hw.1 hw.2
  have f := ((ws_le kw.1).mp ws).2
  have fcr := q_fc_r (E := E) hg k2
  have kp := (hg.2.2.2.2.2.2.1 _ k2.1 k2.2).1
  have rd : ∀ v, 0 ≤ v → v < g_wm G → u_up P w t v ≠ -9 → v ≠ w → P v ≠ -9 ∧ u_up P w t v = P v := fun v v1 v2 v3 v4 => by
    rw [up_o v1 hw.1 v4] at v3 ⊢
    exact ⟨v3, rfl⟩
  refine ⟨fun v v1 v2 v3 => ?_, fun u v u1 u2 v1 v2 uv er u3 v3 => ?_, fun o u v u1 uv v2 er oo v3 => ?_, fun v => if v = w then q_fc G E (g_pt G w) - 2 * g_pt G w else κ v, fun v v1 v2 v3 => ?_, fun u v u1 u2 v1 v2 uv ep ek u3 v3 => ?_⟩
  · by_cases z : v = w
    · rw [z, up_e]; exact tm
    · obtain ⟨a, b⟩ := rd v v1 v2 v3 z
      rw [b]; exact n1 v v1 v2 a
  · by_cases z : u = w
    · obtain ⟨a, b⟩ := rd v v1 v2 v3 (fun y => uv (z.trans y.symm))
      rw [b, z, up_e]
      exact Or.inr (f v v1 v2 (by rw [← er, z]) a)
    · obtain ⟨a, b⟩ := rd u u1 u2 u3 z
      by_cases y : v = w
      · rw [b, y, up_e]
        exact Or.inl (f u u1 u2 (by rw [er, y]) a)
      · obtain ⟨c, d⟩ := rd v v1 v2 v3 y
        rw [b, d]
        exact n2 u v u1 u2 v1 v2 uv er a c
  · by_cases z : v = w
    · have zu : u ≠ w := by omega
      rw [up_o u1 hw.1 zu, z, up_e]
      have a := nx o (by rw [← z]; exact oo) u u1 (by omega) (by rw [er, z])
      exact ⟨a, f u u1 (by omega) (by rw [er, z]) a⟩
    · obtain ⟨c, d⟩ := rd v (by omega) v2 v3 z
      have a := n3 o u v u1 uv v2 er oo c
      have zu : u ≠ w := fun y => a.1 (by rw [y]; exact e)
      rw [d, up_o u1 hw.1 zu]
      exact a
  · dsimp only
    by_cases z : v = w
    · rw [if_pos z, z, up_e]
      refine ⟨by omega, ?_⟩
      unfold q_up
      rw [if_pos (by omega)]
      exact Int.le_refl _
    · rw [if_neg z]
      obtain ⟨a, b⟩ := rd v v1 v2 v3 z
      obtain ⟨c, d⟩ := n4 v v1 v2 a
      refine ⟨c, ?_⟩
      rw [b]
      unfold q_up
      by_cases y : 2 * g_pt G v + κ v = q_fc G E (g_pt G w)
      · rw [if_pos y]
        rw [y] at d
        omega
      · rw [if_neg y]; exact d
  · dsimp only at ek
    by_cases z : u = w
    · have y : v ≠ w := fun y => uv (z.trans y.symm)
      rw [if_pos z, if_neg y] at ek
      obtain ⟨a, b⟩ := rd v v1 v2 v3 y
      obtain ⟨c, d⟩ := n4 v v1 v2 a
      rw [b, z, up_e]
      rw [show 2 * g_pt G v + κ v = q_fc G E (g_pt G w) by rw [← ek, ← ep, z]; omega] at d
      omega
    · rw [if_neg z] at ek
      obtain ⟨a, b⟩ := rd u u1 u2 u3 z
      obtain ⟨c, d⟩ := n4 u u1 u2 a
      by_cases y : v = w
      · rw [if_pos y] at ek
        rw [b, y, up_e]
        rw [show 2 * g_pt G u + κ u = q_fc G E (g_pt G w) by rw [ek, ep, y]; omega] at d
        omega
      · rw [if_neg y] at ek
        obtain ⟨a2, b2⟩ := rd v v1 v2 v3 y
        rw [b, b2]
        exact n5 u v u1 u2 v1 v2 uv ep ek a a2
theorem rc_NI (hg : g_ok G) (hb : 0 ≤ b0) : ∀ {k : Nat} {P : u_P} {E : Int → Int} {P' : u_P} {E' : Int → Int}, q_rc G L b0 oc k P E P' E' → NI G oc P E → NI G oc P' E'
  | 0, _, _, _, _, ⟨e1, e2⟩, N => by rw [e1, e2]; exact N
  | k + 1, P, E, _, _, ⟨w, hw, c, r⟩, N => by
    obtain ⟨⟨a1, a2⟩, a3, a4⟩ := q_t_in hg hw c.2.2 hb
    have lo : max (max b0 (E (q_fc G E (g_pt G w)))) (max (g_ws G P (g_rd G w)) (g_cm G (g_pt G w))) ≤ q_t G b0 P E w := a1
    have hi : q_t G b0 P E w ≤ min (g_ti G (g_rd G w)) (g_la G) - g_mn G w := a2
    have kw := hg.2.2.1
    have fr := ((ws_le (P := P) (r := g_rd G w) (T := q_t G b0 P E w) kw.1).mp (by omega)).1
    exact rc_NI hg hb r (NI_st hg N hw c.1.2 (by omega) ⟨⟨fr, by omega⟩, by omega, by omega, a3⟩ (by omega) (by omega) c.2.1)
/-- what stays of a plan that goes -/
theorem k_NI (hg : g_ok G) (hn : g_nm G = 0) (hp : p_ok G P) (hb : g_bad G P = -9) {t : Int} (ht : 0 ≤ t) : KI2 G P (k_all G P t) t 0 ∧ NI G 1 (k_all G P t).1 (k_all G P t).2 := by
  have g := bad_go hg hp hb
  have kw := hg.2.2.1
  have st1 : ∀ {s : k_A} {m w : Int}, KI2 G P s m w → NI G 1 s.1 s.2 → 0 ≤ w ∧ w < g_wm G → 0 ≤ m → NI G 1 (k_st G P m s w).1 (k_st G P m s w).2 := by
    intro s m w K N hw hm
    unfold k_st
    by_cases e : P w = m
    · rw [if_pos e]
      obtain ⟨a1, a2, a3, a4, a5⟩ := KI2_at hg hp hb K hw hm e
      have z : P w ≠ -9 := by omega
      refine NI_st hg N hw a1 hm (by rw [← e]; exact g.1 w hw.1 hw.2 z) a2 a3 fun _ o v v1 v2 v3 => ?_
      have c := g.2.2.1 rfl v w v1 v2 hw.2 v3 o z
      obtain ⟨-, -, k3, -⟩ := hg.2.2.2.2.2.2.2.2.1 v v1 (by omega)
      rw [K.1 v v1 (by omega), if_pos ⟨c.1, by omega⟩]
      exact c.1
    · rw [if_neg e]; exact N
  have st : ∀ (m : Int), 0 ≤ m → ∀ (n : Nat) (w : Int) (s : k_A), 0 ≤ w → w + n = g_wm G → (KI2 G P s m w ∧ NI G 1 s.1 s.2) → KI2 G P (u_fold (k_st G P m) s w n) m (g_wm G) ∧ NI G 1 (u_fold (k_st G P m) s w n).1 (u_fold (k_st G P m) s w n).2 := by
    intro m hm n
    induction n with
    | zero => intro w s h1 h2 K; rw [u_fold_0]; rw [show w = g_wm G by omega] at K; exact K
    | succ n ih => intro w s h1 h2 K; rw [u_fold_s]; exact ih (w + 1) _ (by omega) (by omega) ⟨KI2_st hg hp hb K.1 ⟨h1, by omega⟩ hm, st1 K.1 K.2 ⟨h1, by omega⟩ hm⟩
  have all : ∀ (n : Nat) (m : Int) (s : k_A), 0 ≤ m → (KI2 G P s m 0 ∧ NI G 1 s.1 s.2) → KI2 G P (u_fold (k_in G P) s m n) (m + n) 0 ∧ NI G 1 (u_fold (k_in G P) s m n).1 (u_fold (k_in G P) s m n).2 := by
    intro n
    induction n with
    | zero => intro m s h1 K; rw [u_fold_0, show m + ((0 : Nat) : Int) = m by omega]; exact K
    | succ n ih =>
      intro m s h1 K
      have a := st m h1 (g_wm G).toNat 0 s (by omega) (by omega) K
      have := ih (m + 1) (k_in G P s m) (by omega) ⟨KI2_nx a.1, a.2⟩
      rw [u_fold_s, show m + ((n + 1 : Nat) : Int) = m + 1 + n by omega]
      exact this
  have := all t.toNat 0 k_0 (by omega) ⟨KI2_0 hg hp, NI_0⟩
  rw [show (0 : Int) + (t.toNat : Int) = t by omega] at this
  exact this
/-- by a rule -/
def RI (G : u_G) (t : Int) (P : u_P) : Prop := g_go G 1 P ∧ ∀ w, 0 ≤ w → w < g_wm G → P w ≠ -9 → 0 ≤ P w ∧ P w ≤ t
theorem RI_may (hg : g_ok G) {t K w : Int} (R : RI G t P) (ht : 0 ≤ t) (hw : 0 ≤ w ∧ w < g_wm G) (y : g_may G P K w t) : RI G t (u_up P w t) := by
  obtain ⟨⟨g1, g2, g3, g4⟩, r⟩ := R
  obtain ⟨⟨y1, y2, y3, y4, y5⟩, y6, y7, y8, y9, -⟩ := y
  have kw := hg.2.2.1
  obtain ⟨k1, k2, k3, k4⟩ := hg.2.2.2.2.2.2.2.2.1 w hw.1 hw.2
  have rd : ∀ v, 0 ≤ v → v < g_wm G → u_up P w t v ≠ -9 → v ≠ w → P v ≠ -9 ∧ u_up P w t v = P v := fun v v1 v2 v3 v4 => by
    rw [up_o v1 hw.1 v4] at v3 ⊢
    exact ⟨v3, rfl⟩
  have f : ∀ v, 0 ≤ v → v < g_wm G → g_rd G v = g_rd G w → P v ≠ -9 → P v + g_mn G v ≤ t := fun v v1 v2 v3 v4 => Int.not_lt.mp fun lt => y7 (u_any_iff.mpr ⟨v, v1, by omega, by omega, v3, v4, (r v v1 v2 v4).2, lt⟩)
  refine ⟨⟨fun v v1 v2 v3 => ?_, fun u v u1 u2 v1 v2 uv er u3 v3 => ?_, fun o u v u1 uv v2 er oo v3 => ?_, fun v m v1 v2 rg => ?_⟩, fun v v1 v2 v3 => ?_⟩
  · by_cases z : v = w
    · rw [z, up_e]; exact ⟨⟨y1, y2⟩, y3, y4, y5⟩
    · obtain ⟨a, b⟩ := rd v v1 v2 v3 z
      rw [b]; exact g1 v v1 v2 a
  · by_cases z : u = w
    · obtain ⟨a, b⟩ := rd v v1 v2 v3 (fun y => uv (z.trans y.symm))
      rw [b, z, up_e]
      exact Or.inr (f v v1 v2 (by rw [← er, z]) a)
    · obtain ⟨a, b⟩ := rd u u1 u2 u3 z
      by_cases y : v = w
      · rw [b, y, up_e]
        exact Or.inl (f u u1 u2 (by rw [er, y]) a)
      · obtain ⟨c, d⟩ := rd v v1 v2 v3 y
        rw [b, d]
        exact g2 u v u1 u2 v1 v2 uv er a c
  · by_cases z : v = w
    · have zu : u ≠ w := by omega
      rw [up_o u1 hw.1 zu, z, up_e]
      exact u_all_iff.mp (y9 (by rw [← z]; exact oo)) u u1 (by omega) (by rw [er, z])
    · obtain ⟨c, d⟩ := rd v (by omega) v2 v3 z
      have a := g3 o u v u1 uv v2 er oo c
      have zu : u ≠ w := fun y => a.1 (by rw [y]; exact y6)
      rw [d, up_o u1 hw.1 zu]
      exact a
  · have rgo : ∀ j x, 0 ≤ j → j < g_wm G → g_rg G (u_up P w t) j x → (j = w ∧ t ≤ x) ∨ (j ≠ w ∧ g_rg G P j x) := fun j x j1 j2 q => by
      by_cases z : j = w
      · have := q.2.1
        rw [z, up_e] at this
        exact Or.inl ⟨z, this⟩
      · obtain ⟨q1, q2, q3⟩ := q
        rw [up_o j1 hw.1 z] at q1 q2 q3
        exact Or.inr ⟨z, q1, q2, q3⟩
    by_cases c : g_pt G v = g_pt G w ∧ t ≤ m
    · rw [c.1]
      have le : g_many G (u_up P w t) (g_pt G w) m ≤ u_sum (fun j => y_bi (g_pt G j = g_pt G w ∧ (g_rg G P j t ∨ (K = 1 ∧ g_kep G P j t))) + if j = w then 1 else 0) 0 (g_wm G).toNat := u_sum_le fun j j1 j2 => by
        have nn : 0 ≤ y_bi (g_pt G j = g_pt G w ∧ (g_rg G P j t ∨ (K = 1 ∧ g_kep G P j t))) := bi_nn
        by_cases q : g_pt G j = g_pt G w ∧ g_rg G (u_up P w t) j m
        · rw [bi_t q]
          rcases rgo j m j1 (by omega) q.2 with z | z
          · rw [if_pos z.1]; omega
          · obtain ⟨z1, z2, z3, z4⟩ := z
            have := r j j1 (by omega) z2
            rw [bi_t (show g_pt G j = g_pt G w ∧ (g_rg G P j t ∨ (K = 1 ∧ g_kep G P j t)) from ⟨q.1, Or.inl ⟨z2, this.2, by omega⟩⟩)]
            split <;> omega
        · rw [bi_f q]
          split <;> omega
      rw [u_sum_ind, if_pos (by omega)] at le
      unfold g_tk at y8
      omega
    · have le : g_many G (u_up P w t) (g_pt G v) m ≤ g_many G P (g_pt G v) m := u_sum_le fun j j1 j2 => by
        by_cases q : g_pt G j = g_pt G v ∧ g_rg G (u_up P w t) j m
        · rcases rgo j m j1 (by omega) q.2 with z | z
          · exact absurd ⟨by rw [← q.1, z.1], z.2⟩ c
          · rw [bi_t q, bi_t (show g_pt G j = g_pt G v ∧ g_rg G P j m from ⟨q.1, z.2⟩)]
            exact Int.le_refl _
        · rw [bi_f q]; exact bi_nn
      rcases rgo v m v1 v2 rg with z | z
      · exact absurd ⟨by rw [z.1], z.2⟩ c
      · exact Int.le_trans le (g4 v m v1 v2 z.2)
  · by_cases z : v = w
    · rw [z, up_e]; omega
    · obtain ⟨a, b⟩ := rd v v1 v2 v3 z
      rw [b]; exact r v v1 v2 a
theorem RI_in (hg : g_ok G) {kd : Int} {cd : Int → Int} {t : Int} (ht : 0 ≤ t) : ∀ {n : Nat} {P : u_P}, RI G t P → RI G t (g_in G kd cd t n P)
  | 0, P, R => R
  | n + 1, P, R => by
    unfold g_in
    rcases g_cho_in (G := G) (P := P) (kd := kd) (cd := cd) (t := t) hg.2.2.1.1 with e | ⟨e1, e2⟩
    · rw [if_pos e]; exact R
    · rw [if_neg (by omega)]
      exact RI_in hg ht (RI_may hg R ht e1 e2)
theorem RI_out (hg : g_ok G) {kd : Int} {cd : Int → Int} : ∀ {n : Nat} {t : Int} {P : u_P}, 0 ≤ t → RI G t P → g_go G 1 (g_out G kd cd n t P)
  | 0, t, P, ht, R => R.1
  | n + 1, t, P, ht, R => by
    have a := RI_in (kd := kd) (cd := cd) (n := 24) hg ht R
    exact RI_out hg (n := n) (t := t + 1) (by omega) ⟨a.1, fun w w1 w2 w3 => by have := a.2 w w1 w2 w3; omega⟩
theorem run_go (hg : g_ok G) {kd : Int} {cd : Int → Int} : g_go G 1 (g_run G kd cd) := RI_out hg (Int.le_refl 0) ⟨⟨fun w _ _ q => absurd rfl q, fun v w _ _ _ _ _ _ q => absurd rfl q, fun _ v w _ _ _ _ _ q => absurd rfl q, fun w t _ _ q => absurd rfl q.1⟩, fun w _ _ q => absurd rfl q⟩
end NO
