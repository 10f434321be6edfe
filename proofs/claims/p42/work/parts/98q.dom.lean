/-! NOTHING THAT GOES IS BETTER than what is reached -/
theorem u_min {p : Int → Prop} {f : Int → Int} : ∀ {n : Nat} {k : Int}, (∃ w, k ≤ w ∧ w < k + n ∧ p w) → ∃ w, (k ≤ w ∧ w < k + n) ∧ p w ∧ ∀ v, k ≤ v → v < k + n → p v → f w ≤ f v
  | 0, k, ⟨w, h1, h2, _⟩ => by omega
  | n + 1, k, ⟨w, h1, h2, h3⟩ => by
    by_cases c : ∃ w, k + 1 ≤ w ∧ w < k + 1 + n ∧ p w
    · obtain ⟨u, u1, u2, u3⟩ := u_min (f := f) c
      by_cases c2 : p k ∧ f k ≤ f u
      · refine ⟨k, by omega, c2.1, fun v v1 v2 v3 => ?_⟩
        by_cases e : v = k
        · rw [e]; exact Int.le_refl _
        · have := u3 v (by omega) (by omega) v3
          have := c2.2
          omega
      · refine ⟨u, by omega, u2, fun v v1 v2 v3 => ?_⟩
        by_cases e : v = k
        · subst e
          have : ¬ f v ≤ f u := fun q => c2 ⟨v3, q⟩
          omega
        · exact u3 v (by omega) (by omega) v3
    · have ek : ∀ v, k ≤ v → v < k + ((n + 1 : Nat) : Int) → p v → v = k := fun v v1 v2 v3 => Classical.byContradiction fun e => c ⟨v, by omega, by omega, v3⟩
      have e := ek w h1 h2 h3
      subst e
      exact ⟨w, by omega, h3, fun v v1 v2 v3 => by rw [ek v v1 v2 v3]; exact Int.le_refl _⟩
/-- how a row stands to a plan that goes -/
def DM (G : u_G) (L : Int → Prop) (b0 : Int) (Q : u_P) (P : u_P) (E : Int → Int) : Prop :=
  (∀ w, 0 ≤ w → w < g_wm G → P w ≠ -9 → Q w ≠ -9 ∧ P w ≤ Q w) ∧
  (∀ w, 0 ≤ w → w < g_wm G → P w = -9 → Q w ≠ -9 → L w ∧ b0 ≤ Q w) ∧
  (∀ v w, 0 ≤ v → v < g_wm G → 0 ≤ w → w < g_wm G → P v ≠ -9 → P w = -9 → Q w ≠ -9 → Q v ≤ Q w) ∧
  (∀ p c T, (0 ≤ p ∧ p < g_pm G) → (c = 0 ∨ c = 1) → 0 ≤ T → T < E (2 * p + c) → ∃ v, (0 ≤ v ∧ v < g_wm G) ∧ P v ≠ -9 ∧ g_pt G v = p ∧ T < Q v + g_mn G v) ∧
  (∀ p T, (0 ≤ p ∧ p < g_pm G) → 0 ≤ T → T < E (2 * p) → T < E (2 * p + 1) → ∃ u v, (0 ≤ u ∧ u < g_wm G) ∧ (0 ≤ v ∧ v < g_wm G) ∧ u ≠ v ∧ (P u ≠ -9 ∧ P v ≠ -9) ∧ (g_pt G u = p ∧ g_pt G v = p) ∧ T < Q u + g_mn G u ∧ T < Q v + g_mn G v)
section DO
variable {G : u_G} {P Q : u_P} {L : Int → Prop} {E : Int → Int} {b0 oc wt : Int} {m : u_P → Int}
theorem bi_nn {p : Prop} : 0 ≤ y_bi p := bi_bd.1
theorem dm_lo (hg : g_ok G) (hn : g_nm G = 0) (g : g_go G oc Q) (hQ : p_ok G Q) (D : DM G L b0 Q P E) {w : Int} (hw : 0 ≤ w ∧ w < g_wm G) (e : P w = -9) (eq : Q w ≠ -9) : q_lo G b0 P E w ≤ Q w ∧ Q w ≤ q_hi G w ∧ q_ok G P w (Q w) := by
  obtain ⟨d1, d2, d3, d4, d5⟩ := D
  obtain ⟨g1, g2, g3, g4⟩ := g
  have kw := hg.2.2.1
  obtain ⟨k1, k2, k3, k4⟩ := hg.2.2.2.2.2.2.2.2.1 w hw.1 hw.2
  have kp := hg.2.2.2.2.2.2.1 _ k2.1 k2.2
  have q0 := (hQ w hw.1 hw.2).resolve_left eq
  obtain ⟨⟨t1, t2⟩, t3, t4, t5⟩ := g1 w hw.1 hw.2 eq
  have many := g4 w (Q w) hw.1 hw.2 ⟨eq, Int.le_refl _, by omega⟩
  have rgv : ∀ v, 0 ≤ v → v < g_wm G → P v ≠ -9 → Q w < Q v + g_mn G v → g_rg G Q v (Q w) := fun v v1 v2 v3 v4 => ⟨(d1 v v1 v2 v3).1, d3 v w v1 v2 hw.1 hw.2 v3 e eq, v4⟩
  have rgw : g_rg G Q w (Q w) := ⟨eq, Int.le_refl _, by omega⟩
  have fcE : E (q_fc G E (g_pt G w)) ≤ Q w := by
    refine Int.not_lt.mp fun lt => ?_
    rcases kp.1 with c1 | c2
    · have ef : q_fc G E (g_pt G w) = 2 * g_pt G w := if_neg (by omega)
      rw [ef] at lt
      obtain ⟨v, hv, v1, v2, v3⟩ := d4 (g_pt G w) 0 (Q w) k2 (Or.inl rfl) q0.1 (by rw [Int.add_zero]; exact lt)
      have := u_sum_2 (f := fun j => y_bi (g_pt G j = g_pt G w ∧ g_rg G Q j (Q w))) (n := (g_wm G).toNat) (a := v) (b := w) (c := 0) (fun _ => bi_nn) (by omega) (by omega) (fun q => v1 (by rw [q]; exact e)) (bi_t ⟨v2, rgv v hv.1 hv.2 v1 v3⟩) (bi_t ⟨rfl, rgw⟩)
      unfold g_many at many
      omega
    · have both : Q w < E (2 * g_pt G w) ∧ Q w < E (2 * g_pt G w + 1) := by
        unfold q_fc at lt
        by_cases c3 : g_cp G (g_pt G w) = 2 ∧ E (2 * g_pt G w + 1) < E (2 * g_pt G w)
        · rw [if_pos c3] at lt; omega
        · rw [if_neg c3] at lt
          have : ¬ E (2 * g_pt G w + 1) < E (2 * g_pt G w) := fun q => c3 ⟨c2, q⟩
          omega
      obtain ⟨u, v, hu, hv, uv, ⟨u1, v1⟩, ⟨u2, v2⟩, u3, v3⟩ := d5 (g_pt G w) (Q w) k2 q0.1 both.1 both.2
      have := u_sum_3 (f := fun j => y_bi (g_pt G j = g_pt G w ∧ g_rg G Q j (Q w))) (n := (g_wm G).toNat) (a := u) (b := v) (c := w) (fun _ => bi_nn) (by omega) (by omega) (by omega) uv (fun q => u1 (by rw [q]; exact e)) (fun q => v1 (by rw [q]; exact e)) (bi_t ⟨u2, rgv u hu.1 hu.2 u1 u3⟩) (bi_t ⟨v2, rgv v hv.1 hv.2 v1 v3⟩) (bi_t ⟨rfl, rgw⟩)
      unfold g_many at many
      omega
  have wsE : g_ws G P (g_rd G w) ≤ Q w := (ws_le kw.1).mpr ⟨t1, fun v v1 v2 v3 v4 => by
    have a := d1 v v1 v2 v4
    have b := d3 v w v1 v2 hw.1 hw.2 v4 e eq
    have := g2 v w v1 v2 hw.1 hw.2 (fun q => v4 (by rw [q]; exact e)) v3 a.1 eq
    omega⟩
  have bE := (d2 w hw.1 hw.2 e eq).2
  refine ⟨?_, ?_, t5, let_0 hn⟩
  · unfold q_lo; omega
  · unfold q_hi; omega
theorem q_dom (hg : g_ok G) (hn : g_nm G = 0) (hb : 0 ≤ b0) (g : g_go G oc Q) (hQ : p_ok G Q) : ∀ (n : Nat) (P : u_P) (E : Int → Int), q_lf G (fun w => Q w ≠ -9) P = n → q_in G P E → DM G L b0 Q P E → ∃ k P' E', q_rc G L b0 oc k P E P' E' ∧ q_in G P' E' ∧ (∀ w, 0 ≤ w → w < g_wm G → Q w ≠ -9 → P' w ≠ -9 ∧ P' w ≤ Q w) ∧ (∀ w, 0 ≤ w → w < g_wm G → Q w = -9 → P' w = -9) := by
  have kw := hg.2.2.1
  intro n
  induction n with
  | zero =>
    intro P E hl I D
    refine ⟨0, P, E, ⟨rfl, rfl⟩, I, fun w w1 w2 eq => ?_, fun w w1 w2 eq => Classical.byContradiction fun z => (D.1 w w1 w2 z).1 eq⟩
    have z := q_lf_0 (G := G) (P := P) (L := fun w => Q w ≠ -9) (by omega) ⟨w1, w2⟩ eq
    exact ⟨z, (D.1 w w1 w2 z).2⟩
  | succ n ih =>
    intro P E hl I D
    have ex : ∃ w, 0 ≤ w ∧ w < 0 + (((g_wm G).toNat : Nat) : Int) ∧ (Q w ≠ -9 ∧ P w = -9) := Classical.byContradiction fun q => by
      have : q_lf G (fun w => Q w ≠ -9) P = 0 := u_cnt_0 (p := fun w => Q w ≠ -9 ∧ P w = -9) (n := (g_wm G).toNat) (k := 0) (fun j j1 j2 j3 => q ⟨j, j1, j2, j3⟩)
      omega
    obtain ⟨w, hw, ⟨eq, e⟩, mi⟩ := u_min (f := Q) ex
    have hw : 0 ≤ w ∧ w < g_wm G := by omega
    have mi : ∀ v, 0 ≤ v → v < g_wm G → Q v ≠ -9 → P v = -9 → Q w ≤ Q v := fun v v1 v2 v3 v4 => mi v v1 (by omega) ⟨v3, v4⟩
    obtain ⟨k1, k2, k3, k4⟩ := hg.2.2.2.2.2.2.2.2.1 w hw.1 hw.2
    have q0 := (hQ w hw.1 hw.2).resolve_left eq
    obtain ⟨a1, a2, a3⟩ := dm_lo hg hn g hQ D hw e eq
    obtain ⟨b1, b2⟩ := q_t_le hb a1 a2 a3
    obtain ⟨d1, d2, d3, d4, d5⟩ := D
    obtain ⟨g1, g2, g3, g4⟩ := g
    have ch : q_ch G L b0 oc P E w := ⟨⟨(d2 w hw.1 hw.2 e eq).1, e⟩, fun o or v v1 v2 v3 => fun z => by
      have := g3 o v w v1 v2 hw.2 v3 or eq
      obtain ⟨-, -, l3, -⟩ := hg.2.2.2.2.2.2.2.2.1 v v1 (by omega)
      have := mi v v1 (by omega) this.1 z
      omega, b1⟩
    have I' := q_in_up hg hb I hw b1
    have lf : q_lf G (fun w => Q w ≠ -9) (u_up P w (q_t G b0 P E w)) = n := by
      have := q_lf_up (G := G) (P := P) (L := fun w => Q w ≠ -9) hw eq e b1
      omega
    have ws : ∀ v, 0 ≤ v → v < g_wm G → u_up P w (q_t G b0 P E w) v ≠ -9 → v ≠ w → P v ≠ -9 := fun v v1 v2 v3 v4 => by rwa [up_o v1 hw.1 v4] at v3
    have wn : ∀ v, 0 ≤ v → v < g_wm G → P v ≠ -9 → u_up P w (q_t G b0 P E w) v ≠ -9 := fun v v1 v2 v3 => by
      by_cases z : v = w
      · rw [z, up_e]; exact b1
      · rw [up_o v1 hw.1 z]; exact v3
    have w9 : ∀ v, 0 ≤ v → v < g_wm G → u_up P w (q_t G b0 P E w) v = -9 → v ≠ w ∧ P v = -9 := fun v v1 v2 v3 => by
      have z : v ≠ w := fun z => b1 (by rw [z, up_e] at v3; exact v3)
      exact ⟨z, by rwa [up_o v1 hw.1 z] at v3⟩
    have fcr : q_fc G E (g_pt G w) = 2 * g_pt G w ∨ q_fc G E (g_pt G w) = 2 * g_pt G w + 1 := by
      unfold q_fc
      split
      · exact Or.inr rfl
      · exact Or.inl rfl
    have D' : DM G L b0 Q (u_up P w (q_t G b0 P E w)) (q_up G E w (q_t G b0 P E w)) := by
      refine ⟨fun v v1 v2 v3 => ?_, fun v v1 v2 v3 v4 => d2 v v1 v2 (w9 v v1 v2 v3).2 v4, fun v u v1 v2 u1 u2 v3 u3 u4 => ?_, fun p c T hp hc hT q => ?_, fun p T hp hT q1 q2 => ?_⟩
      · by_cases z : v = w
        · rw [z, up_e]; exact ⟨eq, b2⟩
        · rw [up_o v1 hw.1 z] at v3 ⊢
          exact d1 v v1 v2 v3
      · obtain ⟨u5, u6⟩ := w9 u u1 u2 u3
        by_cases z : v = w
        · rw [z]; exact mi u u1 u2 u4 u6
        · exact d3 v u v1 v2 u1 u2 (ws v v1 v2 v3 z) u6 u4
      · unfold q_up at q
        by_cases z : 2 * p + c = q_fc G E (g_pt G w)
        · rw [if_pos z] at q
          exact ⟨w, hw, by rw [up_e]; exact b1, by omega, by omega⟩
        · rw [if_neg z] at q
          obtain ⟨v, hv, v1, v2, v3⟩ := d4 p c T hp hc hT q
          exact ⟨v, hv, wn v hv.1 hv.2 v1, v2, v3⟩
      · unfold q_up at q1 q2
        have nw : ∀ v, 0 ≤ v → v < g_wm G → P v ≠ -9 → v ≠ w := fun v _ _ v1 q => v1 (by rw [q]; exact e)
        by_cases z : 2 * p = q_fc G E (g_pt G w)
        · rw [if_neg (by omega)] at q2
          rw [if_pos z] at q1
          obtain ⟨v, hv, v1, v2, v3⟩ := d4 p 1 T hp (Or.inr rfl) hT q2
          exact ⟨v, w, hv, hw, nw v hv.1 hv.2 v1, ⟨wn v hv.1 hv.2 v1, by rw [up_e]; exact b1⟩, ⟨v2, by omega⟩, v3, by omega⟩
        · rw [if_neg z] at q1
          by_cases y : 2 * p + 1 = q_fc G E (g_pt G w)
          · rw [if_pos y] at q2
            obtain ⟨v, hv, v1, v2, v3⟩ := d4 p 0 T hp (Or.inl rfl) hT (by rw [Int.add_zero]; exact q1)
            exact ⟨v, w, hv, hw, nw v hv.1 hv.2 v1, ⟨wn v hv.1 hv.2 v1, by rw [up_e]; exact b1⟩, ⟨v2, by omega⟩, v3, by omega⟩
          · rw [if_neg y] at q2
            obtain ⟨u, v, hu, hv, uv, ⟨u1, v1⟩, h2, h3⟩ := d5 p T hp hT q1 q2
            exact ⟨u, v, hu, hv, uv, ⟨wn u hu.1 hu.2 u1, wn v hv.1 hv.2 v1⟩, h2, h3⟩
    obtain ⟨k, P', E', r, c1, c2, c3⟩ := ih _ _ lf I' D'
    exact ⟨k + 1, P', E', ⟨w, hw, ch, r⟩, c1, c2, c3⟩
theorem dm_0 (hQ : p_ok G Q) (hL : ∀ w, 0 ≤ w → w < g_wm G → Q w ≠ -9 → L w) : DM G L 0 Q (fun _ => -9) (fun _ => 0) := ⟨fun w _ _ q => absurd rfl q, fun w w1 w2 _ q => ⟨hL w w1 w2 q, ((hQ w w1 w2).resolve_left q).1⟩, fun v w _ _ _ _ q => absurd rfl q, fun p c T _ _ hT q => by have q : T < 0 := q; omega, fun p T _ hT q => by have q : T < 0 := q; omega⟩
theorem ls_mono (hg : g_ok G) (I : q_in G P E) (hQ : p_ok G Q) {w : Int} (hw : 0 ≤ w ∧ w < g_wm G) (h : Q w ≠ -9 → P w ≠ -9 ∧ P w ≤ Q w) : g_ls G P w ≤ g_ls G Q w := by
  unfold g_ls
  by_cases c : Q w = -9
  · rw [if_pos c]
    by_cases c2 : P w = -9
    · rw [if_pos c2]; omega
    · rw [if_neg c2]
      have a := I.1 w hw.1 hw.2 c2
      have := g_wa_bd hg hw (t := P w) (by omega)
      omega
  · obtain ⟨h1, h2⟩ := h c
    rw [if_neg c, if_neg h1]
    have a := I.1 w hw.1 hw.2 h1
    have := g_wa_mono hg hw a.1 h2
    omega
end DO
