/-! CALLS: bound, quarrel -/
theorem yor_nat {a b : Nat} (ha : a < 16777216) (hb : b < 16777216) : y_or (a : Int) (b : Int) = ((a ||| b : Nat) : Int) ∧ a ||| b < 16777216 := by
  have e1 : ((Int32.ofInt (a : Int)) ||| (Int32.ofInt (b : Int))).toBitVec.toNat = a ||| b := by
    rw [Int32.toBitVec_or, BitVec.toNat_or, Int32.toBitVec_ofInt, Int32.toBitVec_ofInt, BitVec.toNat_ofInt, BitVec.toNat_ofInt]
    congr 1 <;> omega
  have e2 : a ||| b < 2 ^ 24 := Nat.or_lt_two_pow (show a < 2 ^ 24 by omega) (show b < 2 ^ 24 by omega)
  refine ⟨?_, by omega⟩
  show ((Int32.ofInt (a : Int)) ||| (Int32.ofInt (b : Int))).toBitVec.toInt = _
  rw [BitVec.toInt_eq_toNat_cond, e1, if_pos (by omega)]
theorem yor_bd {s t : Int} (hs : 0 ≤ s ∧ s < 16777216) (ht : 0 ≤ t ∧ t < 16777216) : 0 ≤ y_or s t ∧ y_or s t < 16777216 := by
  have := yor_nat (a := s.toNat) (b := t.toNat) (by omega) (by omega)
  rw [show (s.toNat : Int) = s by omega, show (t.toNat : Int) = t by omega] at this
  rw [this.1]
  omega
theorem yshl_bd {w : Int} (hw : 0 ≤ w ∧ w < 24) : 0 ≤ y_shl 1 w ∧ y_shl 1 w < 16777216 := by
  have key : ∀ n, n < 24 → (0 ≤ y_shl 1 ((n : Nat) : Int) ∧ y_shl 1 ((n : Nat) : Int) < 16777216) := by decide +kernel
  have := key w.toNat (by omega)
  rwa [show (w.toNat : Int) = w by omega] at this
theorem q_ct_part {G : u_G} (hg : g_ok G) {p : Int} : q_ct (fun w => g_pt G w = p) (g_wm G) ≤ 8 := by
  have kw := hg.2.2.1
  have kr := hg.2.1
  have key : ∀ n : Nat, (n : Int) ≤ g_wm G → u_sum (fun w => y_bi (g_pt G w = p)) 0 n ≤ u_sum (fun r => y_bi (∃ j, 0 ≤ j ∧ j < (n : Int) ∧ g_pt G j = p ∧ g_rd G j = r)) 0 8 := by
    intro n
    induction n with
    | zero =>
      intro _
      rw [u_sum_0]
      have := (u_sum_bd (f := fun r => y_bi (∃ j, 0 ≤ j ∧ j < ((0 : Nat) : Int) ∧ g_pt G j = p ∧ g_rd G j = r)) (lo := 0) (hi := 1) (n := 8) (k := 0) fun j _ _ => bi_bd).1
      omega
    | succ n ih =>
      intro h
      have ih := ih (by omega)
      have mono : u_sum (fun r => y_bi (∃ j, 0 ≤ j ∧ j < (n : Int) ∧ g_pt G j = p ∧ g_rd G j = r)) 0 8 ≤ u_sum (fun r => y_bi (∃ j, 0 ≤ j ∧ j < ((n + 1 : Nat) : Int) ∧ g_pt G j = p ∧ g_rd G j = r)) 0 8 := u_sum_le fun r _ _ => by
        by_cases c : ∃ j, 0 ≤ j ∧ j < (n : Int) ∧ g_pt G j = p ∧ g_rd G j = r
        · obtain ⟨j, j1, j2, j3⟩ := c
          rw [bi_t ⟨j, j1, j2, j3⟩, bi_t ⟨j, j1, by omega, j3⟩]
          exact Int.le_refl _
        · rw [bi_f c]
          exact bi_rng.1
      rw [u_sum_last, show (0 : Int) + (n : Int) = n by omega]
      by_cases c : g_pt G n = p
      · have k1 := (hg.2.2.2.2.2.2.2.2.1 n (by omega) (by omega)).1
        have e : u_sum (fun r => y_bi (∃ j, 0 ≤ j ∧ j < ((n + 1 : Nat) : Int) ∧ g_pt G j = p ∧ g_rd G j = r)) 0 8 = u_sum (fun r => y_bi (∃ j, 0 ≤ j ∧ j < (n : Int) ∧ g_pt G j = p ∧ g_rd G j = r) + if r = g_rd G n then 1 else 0) 0 8 := u_sum_cg fun r _ _ => by
          by_cases z : r = g_rd G n
          · rw [if_pos z, bi_t ⟨n, by omega, by omega, c, z.symm⟩, bi_f fun q => ?_]
            · rfl
            · obtain ⟨j, j1, j2, j3, j4⟩ := q
              have := hg.2.2.2.2.2.2.2.2.2.1 j n j1 (by omega) (by omega) (by omega) (by rw [j4, z]) (by rw [j3, c])
              omega
          · rw [if_neg z, Int.add_zero]
            refine bi_cg ⟨fun ⟨j, j1, j2, j3, j4⟩ => ⟨j, j1, ?_, j3, j4⟩, fun ⟨j, j1, j2, j3, j4⟩ => ⟨j, j1, by omega, j3, j4⟩⟩
            have : j ≠ (n : Int) := fun y => z (by rw [← j4, y])
            omega
        rw [bi_t c, e, u_sum_ind, if_pos (by omega)]
        omega
      · rw [bi_f c]
        omega
  have k := key (g_wm G).toNat (by omega)
  have b := (u_sum_bd (f := fun r => y_bi (∃ j, 0 ≤ j ∧ j < (((g_wm G).toNat : Nat) : Int) ∧ g_pt G j = p ∧ g_rd G j = r)) (lo := 0) (hi := 1) (n := 8) (k := 0) fun j _ _ => bi_bd).2
  show u_sum (fun w => y_bi (g_pt G w = p)) 0 (g_wm G).toNat ≤ 8
  omega
theorem q_lf_ct {G : u_G} {L : Int → Prop} : q_lf G L (fun _ => -9) = q_ct L (g_wm G) := u_sum_cg fun j _ _ => bi_cg ⟨fun q => q.1, fun q => ⟨q, rfl⟩⟩
/-- rows of a set of wants -/
noncomputable def q_S (G : u_G) (L : Int → Prop) (oc wt : Int) : Int := (q_tr G L 0 oc wt (m_mu G) (q_ct L (g_wm G)).toNat (fun _ => -9) (fun _ => 0) q_A0).1
theorem q_S_x {G : u_G} {L : Int → Prop} {oc wt : Int} {m : u_P → Int} : (q_tr G L 0 oc wt m (q_ct L (g_wm G)).toNat (fun _ => -9) (fun _ => 0) q_A0).1 = q_S G L oc wt := (q_tr_mu _ _ _ _ _ ⟨rfl, rfl⟩).1
theorem q_S_good {G : u_G} {L : Int → Prop} {oc wt : Int} (hg : g_ok G) : q_S G L oc wt = -9 ∨ (0 ≤ q_S G L oc wt ∧ q_S G L oc wt ≤ 1000) := by
  have := q_tr_good (L := L) (oc := oc) (wt := wt) (m := m_mu G) hg (Int.le_refl 0) (q_ct L (g_wm G)).toNat (fun _ => -9) (fun _ => 0) q_A0 q_in_0 (Or.inl rfl)
  rcases this with q | q
  · exact Or.inl q
  · exact Or.inr q.1
section BO
variable {sc : z_Sc} {h : y_Hp} {a : Nat} {G : u_G} {N : Nat}
/-- x looks at all rows of those added -/
theorem s67S {L : Int → Prop} {oc wt : Int} (hwt : 0 ≤ wt ∧ wt ≤ 3) (hoc : oc = 0 ∨ oc = 1) (hg : g_ok G) (h8 : q_ct L (g_wm G) ≤ 8) (S : XS0 h a G (fun _ => False) L 0 oc (fun _ => -9) (fun _ => 0) (g_wm G)) : ∃ h', (∀ d, 20 ≤ d → y_se z_pg sc d 67 [y_vr 43, y_vi (q_gl wt)] h = some (some (y_vi (if q_S G L oc wt < 0 then 1000000 else q_S G L oc wt)), h')) ∧ (∀ b k, ¬ (43 ≤ b ∧ b ≤ 60) → y_I h' b k = y_I h b k) ∧ h'.2 = h.2 := by
  obtain ⟨Q, T1, T2⟩ := S
  have cb := q_ct_bd (TD := L) (w := g_wm G)
  obtain ⟨h', a1, a2, a3, a4⟩ := s67 (sc := sc) (a := a) (L := L) (TD := L) (wt := wt) hg (by omega) hwt hoc h8 q_in_0 (XQ_L hg Q fun j j1 j2 => ⟨fun q => q.elim False.elim (fun q => q.1), fun q => Or.inr ⟨q, j2⟩⟩) ⟨T1, T2⟩ (q_ct L (g_wm G)).toNat (by omega) (by rw [q_lf_ct]; omega) (fun _ _ _ _ => Iff.rfl)
  refine ⟨h', fun d hd => ?_, fun b k q => a3 b k (by omega), a4⟩
  rw [a1 d hd]
  unfold q_best
  rw [q_S_x]
/-- the model looks at all rows of a set -/
theorem m_S {L : Int → Prop} {wt : Int} (hwt : wt = 0 ∨ wt = 1 ∨ wt = 3) (hg : g_ok (hv h)) (h8 : q_ct L (g_wm (hv h)) ≤ 8) (s : Int) (hs : 0 ≤ s ∧ s < 16777216) (hL : ∀ w, 0 ≤ w → w < g_wm (hv h) → (u_bs s w ↔ L w)) (oc : Int) (hoc : oc = 0 ∨ oc = 1) : ∃ h' h'' u, (∀ d, 2 ≤ d → y_se z_pg sc d 235 [y_vr 94, y_vi s] h = some (some (y_vi u), h')) ∧ (∀ d, 12 ≤ d → y_se z_pg sc d 234 [y_vr 94, y_vi wt] (y_sI h' 94 41 oc) = some (none, h'')) ∧ y_I h'' 94 43 = q_S (hv h) L oc wt ∧ (∀ b k, ¬ ((b = 94 ∧ 39 ≤ k ∧ k ≤ 45) ∨ b = 111 ∨ (116 ≤ b ∧ b ≤ 118)) → y_I h'' b k = y_I h b k) ∧ h''.2 = h.2 ∧ y_I h' 94 41 = 1 := by
  have kw := hg.2.2.1
  have cb := q_ct_bd (TD := L) (w := g_wm (hv h))
  obtain ⟨h', u, a1, a2, a3, a4⟩ := s235 (sc := sc) (L := L) hg s (by omega) hL
  have Q : MSQ (y_sI h' 94 41 oc) (hv h) L 0 oc (fun _ => -9) (fun _ => 0) := by
    obtain ⟨⟨e0, e39⟩, ⟨e40, e41⟩, e111, ce⟩ := a2
    refine ⟨⟨(hv_cg fun b k q => yI_sI_o (by unfold RG at q; omega)).trans e0, fun w w1 w2 => ?_⟩, ⟨?_, yI_sI_e ⟨rfl, rfl⟩⟩, fun w w1 w2 => ?_, fun p _ _ => ⟨m_ce_0 kw.1, m_ce_0 kw.1⟩⟩
    · rw [yI_sI_o (by omega)]; exact e39 w w1 w2
    · rw [yI_sI_o (by omega)]; exact e40
    · exact (yI_sI_o (by omega)).trans (e111 w w1 w2)
  obtain ⟨h'', b1, b2, b3, b4⟩ := s234 (sc := sc) (wt := wt) hg (by omega) (by omega) hoc (fun q => by omega) q_in_0 Q (q_ct L (g_wm (hv h))).toNat (by omega) (by rw [q_lf_ct]; omega)
  exact ⟨h', h'', u, a1, b1, b2.1, fun b k q => by rw [b3 b k (by omega), yI_sI_o (by omega), a3 b k (by omega)], b4.trans a4, a2.2.1.2⟩
noncomputable def g_bo (G : u_G) (p : Int) : Int := q_S G (fun w => g_pt G w = p) 0 0
theorem g_bo_bd (hg : g_ok G) {p : Int} : 0 ≤ g_bo G p ∧ g_bo G p ≤ 1000 := by
  have ge := q_tr_ge (L := fun w => g_pt G w = p) (oc := 0) (wt := 0) (m := m_mu G) (q_ct (fun w => g_pt G w = p) (g_wm G)).toNat (fun _ => -9) (fun _ => 0) q_A0 hg (Int.le_refl 0) q_in_0 (Or.inr ⟨by show (-9 : Int) < 0; omega, by omega, by omega⟩)
  have ge' : 0 ≤ g_bo G p := ge
  have := q_S_good (L := fun w => g_pt G w = p) (oc := 0) (wt := 0) hg
  unfold g_bo at ge' ⊢
  omega
theorem l118b (hg : g_ok G) (p s : Int) : ∀ (m : Nat) (k : Int) (h : y_Hp), 0 ≤ k → k + m = g_wm G → XS0 h a G (fun _ => False) (fun w => g_pt G w = p) 0 0 (fun _ => -9) (fun _ => 0) k → y_F h 2 10 = a → ∃ h' o, (∀ d, 20 ≤ d → y_ev z_pg sc d pgX7_bound 30 [some (y_vr 2), some (y_vi s), some (y_vi p), some (y_vi k)] [] h = y_rg (s + g_bo G p) (y_rg (p + 1) (y_ev z_pg sc d pgX7_bound 4 [some (y_vr 2), some (y_vi (s + g_bo G p)), some (y_vi (p + 1)), o] [] h'))) ∧ (∀ b k, ¬ (43 ≤ b ∧ b ≤ 60) → y_I h' b k = y_I h b k) ∧ h'.2 = h.2
  | 0, k, h, h1, h2, S, hF => by
    have kw := hg.2.2.1
    have ha := S.1.1.2.1
    have x3 : y_I h a 3 = g_wm G := S.1.1.2.2.2.2.2.1
    have ek : k = g_wm G := by omega
    have bb := g_bo_bd (p := p) hg
    rw [ek] at S
    obtain ⟨h', a1, a3, a4⟩ := s67S (sc := sc) (wt := 0) (by omega) (Or.inl rfl) hg (q_ct_part hg) S
    refine ⟨h', some (y_vi k), fun d hd => ?_, a3, a4⟩
    have a1' : y_se z_pg sc d 67 [y_vr 43, y_vi 0] h = some (some (y_vi (g_bo G p)), h') := by
      have := a1 d hd
      rwa [if_neg (show ¬ q_S G (fun w => g_pt G w = p) 0 0 < 0 by unfold g_bo at bb; omega)] at this
    rw [b118_30, hF, yH0 ha, x3, if_neg (by omega), a1', yci_s]
  | m + 1, k, h, h1, h2, S, hF => by
    have kw := hg.2.2.1
    have ha := S.1.1.2.1
    have x3 : y_I h a 3 = g_wm G := S.1.1.2.2.2.2.2.1
    have x10 : y_I h (a + 10) (Int.toNat k) = g_pt G k := S.1.1.2.2.2.2.2.2.2.2.2.2.2.2.2.2.2.1 k h1 (by omega)
    by_cases c : g_pt G k = p
    · obtain ⟨h1', a1, a2, a3, a4⟩ := XS0_add (sc := sc) hg q_in_0 ⟨h1, by omega⟩ S c (q_ct_part hg) id rfl
      obtain ⟨h', o, b1, b3, b4⟩ := l118b hg p s m (k + 1) h1' (by omega) (by omega) a2 (by unfold y_F; rw [a4]; exact hF)
      refine ⟨h', o, fun d hd => ?_, fun b j q => (b3 b j q).trans (a3 b j q), b4.trans a4⟩
      rw [b118_30, hF, yH0 ha, x3, if_pos (by omega), yH0 ha, yH10 ha, lH10 ha, yi_t (by omega), x10, if_pos c, a1 d (by omega), ycv_s, yr_t (by omega), b1 d hd]
    · obtain ⟨h', o, b1, b3, b4⟩ := l118b hg p s m (k + 1) h (by omega) (by omega) (XS0_no hg h1 S c) hF
      refine ⟨h', o, fun d hd => ?_, b3, b4⟩
      rw [b118_30, hF, yH0 ha, x3, if_pos (by omega), yH0 ha, yH10 ha, lH10 ha, yi_t (by omega), x10, if_neg c, yr_t (by omega), b1 d hd]
theorem l118 (hg : g_ok G) : ∀ (m : Nat) (p s : Int) (h : y_Hp) (o : Option y_V), 0 ≤ p → p + m = g_pm G → (0 ≤ s ∧ s ≤ 1000 * p) → xmg h a G → y_F h 2 10 = a → ∃ h', (∀ d, 20 ≤ d → y_ev z_pg sc d pgX7_bound 4 [some (y_vr 2), some (y_vi s), some (y_vi p), o] [] h = some (some (y_vi (s + u_sum (g_bo G) p m)), h')) ∧ (∀ b k, ¬ (43 ≤ b ∧ b ≤ 60) → y_I h' b k = y_I h b k) ∧ (∀ b k, b ≠ 43 → y_F h' b k = y_F h b k) ∧ y_J h' = y_J h
  | 0, p, s, h, o, h1, h2, h3, X, hF => by
    have ha := X.1
    have x1 : y_I h a 1 = g_pm G := X.2.2.1
    refine ⟨h, fun d hd => ?_, fun _ _ _ => rfl, fun _ _ _ => rfl, rfl⟩
    rw [b118_4, hF, yH0 ha, x1, if_neg (by omega), u_sum_0, Int.add_zero]
  | m + 1, p, s, h, o, h1, h2, h3, X, hF => by
    have ha := X.1
    have kp := hg.1
    have kw := hg.2.2.1
    have x1 : y_I h a 1 = g_pm G := X.2.2.1
    have bb := g_bo_bd (p := p) hg
    obtain ⟨g1, a1, a2, a3, a4, a5, a6⟩ := s64 (sc := sc) (b0 := 0) (oc := 0) X hg (Or.inl rfl)
    have F1 : y_F g1 2 10 = a := (a5 _ _ (by omega)).trans hF
    obtain ⟨g2, o2, b1, b2, b3⟩ := l118b (sc := sc) hg p s (g_wm G).toNat 0 g1 (by omega) (by omega) (XS0_0 hg a2 a3) F1
    have F2 : ∀ b k, y_F g2 b k = y_F g1 b k := fun b k => by unfold y_F; rw [b3]
    have J2 : y_J g2 = y_J g1 := by unfold y_J; rw [b3]
    obtain ⟨h', c1, c2, c3, c4⟩ := l118 hg m (p + 1) (s + g_bo G p) g2 o2 (by omega) (by omega) (by omega) (xmg_cg (h := h) (fun b k q => by rw [b2 b k (by omega), a4 b k (by omega)]) (fun q => by rw [J2, a6]) X) ((F2 _ _).trans F1)
    refine ⟨h', fun d hd => ?_, fun b k q => by rw [c2 b k q, b2 b k q, a4 b k q], fun b k q => by rw [c3 b k q, F2, a5 b k q], by rw [c4, J2, a6]⟩
    rw [b118_4, hF, yH0 ha, x1, if_pos (by omega), a1 d (by omega), ycv_s, b1 d hd, yr_t (by omega), yr_t (by omega), c1 d hd, u_sum_s, Int.add_assoc]
theorem l241b (d : Nat) (hd : 1 ≤ d) (v1 p : Int) (hg : g_ok (hv h)) : ∀ (m : Nat) (k s : Int), 0 ≤ k → k + m = g_wm (hv h) → (0 ≤ s ∧ s < 16777216) → (∀ j, 0 ≤ j → j < 24 → (u_bs s j ↔ (g_pt (hv h) j = p ∧ j < k))) → ∃ s', (0 ≤ s' ∧ s' < 16777216) ∧ (∀ j, 0 ≤ j → j < 24 → (u_bs s' j ↔ (g_pt (hv h) j = p ∧ j < g_wm (hv h)))) ∧ y_ev z_pg sc d pgX8_bound 25 [some (y_vr 94), some (y_vi v1), some (y_vi p), some (y_vi s), some (y_vi k)] [] h = y_ev z_pg sc d pgX8_bound 25 [some (y_vr 94), some (y_vi v1), some (y_vi p), some (y_vi s'), some (y_vi (g_wm (hv h)))] [] h
  | 0, k, s, h1, h2, h3, h4 => by
    have e : k = g_wm (hv h) := by omega
    subst e
    exact ⟨s, h3, h4, rfl⟩
  | m + 1, k, s, h1, h2, h3, h4 => by
    have kw := hg.2.2.1
    by_cases c : g_pt (hv h) k = p
    · obtain ⟨s', a1, a2, a3⟩ := l241b d hd v1 p hg m (k + 1) (y_or s (y_shl 1 k)) (by omega) (by omega) (yor_bd h3 (yshl_bd (by omega))) (fun j j1 j2 => by
        rw [ub_or, h4 j j1 j2, ub_shl (by omega) (by omega)]
        refine ⟨fun q => q.elim (fun q => ⟨q.1, by omega⟩) (fun q => ⟨by rw [q]; exact c, by omega⟩), fun q => ?_⟩
        by_cases z : j = k
        · exact Or.inr z
        · exact Or.inl ⟨q.1, by omega⟩)
      refine ⟨s', a1, a2, ?_⟩
      rw [b241_25, hvwm, if_pos (by omega), s174 d hd k (by omega), yci_s, if_pos c, yr_t (by omega), a3]
    · obtain ⟨s', a1, a2, a3⟩ := l241b d hd v1 p hg m (k + 1) (y_or s 0) (by omega) (by omega) (yor_bd h3 (by omega)) (fun j j1 j2 => by
        rw [ub_or, h4 j j1 j2]
        refine ⟨fun q => q.elim (fun q => ⟨q.1, by omega⟩) (fun q => absurd q ub_0), fun q => Or.inl ⟨q.1, ?_⟩⟩
        have : j ≠ k := fun z => c (by rw [← z]; exact q.1)
        omega)
      refine ⟨s', a1, a2, ?_⟩
      rw [b241_25, hvwm, if_pos (by omega), s174 d hd k (by omega), yci_s, if_neg c, yr_t (by omega), a3]
theorem l241 (G : u_G) (hg : g_ok G) : ∀ (m : Nat) (p s : Int) (h : y_Hp) (o3 o4 : Option y_V), 0 ≤ p → p + m = g_pm G → (0 ≤ s ∧ s ≤ 1000 * p) → hv h = G → ∃ h', (∀ d, 13 ≤ d → y_ev z_pg sc d pgX8_bound 12 [some (y_vr 94), some (y_vi s), some (y_vi p), o3, o4] [] h = y_cv (y_se z_pg sc d 222 [y_vr 94, y_vr 115] h') (fun g1 => some (some (y_vi (s + u_sum (g_bo G) p m)), g1))) ∧ (∀ b k, ¬ ((b = 94 ∧ 39 ≤ k ∧ k ≤ 45) ∨ b = 111 ∨ (116 ≤ b ∧ b ≤ 118)) → y_I h' b k = y_I h b k) ∧ h'.2 = h.2
  | 0, p, s, h, o3, o4, h1, h2, h3, e => by
    refine ⟨h, fun d hd => ?_, fun _ _ _ => rfl, rfl⟩
    rw [b241_12, hvpm, e, if_neg (by omega), u_sum_0, Int.add_zero]
  | m + 1, p, s, h, o3, o4, h1, h2, h3, e => by
    have kp := hg.1
    have kw := hg.2.2.1
    have bb := g_bo_bd (p := p) hg
    have hg' : g_ok (hv h) := by rw [e]; exact hg
    obtain ⟨s', a1, a2, -⟩ := l241b (sc := sc) (h := h) 1 (by omega) s p hg' (g_wm (hv h)).toNat 0 0 (by omega) (by rw [e]; omega) (by omega) (fun j _ _ => ⟨fun q => absurd q ub_0, fun q => by omega⟩)
    have la := fun d (hd : 1 ≤ d) => l241b (sc := sc) (h := h) d hd s p hg' (g_wm (hv h)).toNat 0 0 (by omega) (by rw [e]; omega) (by omega) (fun j _ _ => ⟨fun q => absurd q ub_0, fun q => by omega⟩)
    -- the mask is one and the same
    have la' : ∀ d, 1 ≤ d → y_ev z_pg sc d pgX8_bound 25 [some (y_vr 94), some (y_vi s), some (y_vi p), some (y_vi 0), some (y_vi 0)] [] h = y_ev z_pg sc d pgX8_bound 25 [some (y_vr 94), some (y_vi s), some (y_vi p), some (y_vi s'), some (y_vi (g_wm (hv h)))] [] h := fun d hd => by
      obtain ⟨s2, b1, b2, b3⟩ := la d hd
      have : s2 = s' := by
        refine ub_ext (by unfold y_inr; omega) (by unfold y_inr; omega) fun k k1 k2 => ?_
        by_cases z : k < 24
        · rw [a2 k k1 z, b2 k k1 z]
        · have hi : ∀ t, (0 ≤ t ∧ t < 16777216) → ¬ u_bs t k := fun t ht q => by
            unfold u_bs at q
            have e1 : (Int32.ofInt t).toBitVec.toNat < 2 ^ 24 := by
              rw [Int32.toBitVec_ofInt, BitVec.toNat_ofInt]
              omega
            rw [BitVec.getLsbD, Nat.testBit_lt_two_pow (Nat.lt_of_lt_of_le e1 (Nat.pow_le_pow_right (by omega) (show 24 ≤ k.toNat by omega)))] at q
            cases q
          exact ⟨fun q => absurd q (hi _ b1), fun q => absurd q (hi _ a1)⟩
      rw [b3, this]
    obtain ⟨g1, g2, u, c1, c2, c3, c4, c5, c6⟩ := m_S (sc := sc) (h := h) (L := fun w => g_pt G w = p) (wt := 0) (Or.inl rfl) hg' (by rw [e]; exact q_ct_part hg) s' a1 (fun w w1 w2 => by
      rw [a2 w w1 (by rw [e] at w2; omega), e]
      exact ⟨fun q => q.1, fun q => ⟨q, by rw [e] at w2; exact w2⟩⟩) 0 (Or.inl rfl)
    rw [e] at c3
    have e2 : hv g2 = G := (hv_cg fun b k q => c4 b k (by unfold RG at q; omega)).trans e
    obtain ⟨h', d1, d2, d3⟩ := l241 G hg m (p + 1) (s + g_bo G p) g2 (some (y_vi s')) (some (y_vi (g_wm (hv h)))) (by omega) (by omega) (by omega) e2
    refine ⟨h', fun d hd => ?_, fun b k q => by rw [d2 b k q, c4 b k q], d3.trans c5⟩
    rw [b241_12, hvpm, e, if_pos (by omega), la' d (by omega), b241_25, hvwm, e, if_neg (by omega), c1 d (by omega), yci_s, c2 d (by omega), ycv_s, c3]
    show y_rg (s + g_bo G p) _ = _
    rw [yr_t (by omega), yr_t (by omega)]
    have dd := d1 d hd
    rw [e] at dd
    show y_ev z_pg sc d pgX8_bound 12 [some (y_vr 94), some (y_vi (s + g_bo G p)), some (y_vi (p + 1)), some (y_vi s'), some (y_vi (g_wm G))] [] g2 = _
    rw [dd, u_sum_s, Int.add_assoc]
theorem o_bound (I : INV N h) (hN : N ≤ 1000) : OP sc 118 241 [y_vr 2] [y_vr 94] N h := by
  have II := I
  obtain ⟨a, ⟨hF, hD, X, hg⟩, i2, i3, i4, i5, i6⟩ := I
  have kp := hg.1
  obtain ⟨h1, a1, a3, a4, a5⟩ := l118 (sc := sc) hg (g_pm (hv h)).toNat 0 0 h none (by omega) (by omega) (by omega) (xmg_xm.mpr X) hF
  generalize e2 : y_fill h1 115 0 24 (fun j => y_I h1 111 j) = g2
  have I2 : ∀ b k, b ≠ 115 → y_I g2 b k = y_I h1 b k := fun b k q => by rw [← e2, yI_fill_o (by omega)]
  have v2 : hv g2 = hv h := hv_cg fun b k q => by rw [I2 b k (by unfold RG at q; omega), a3 b k (by unfold RG at q; omega)]
  obtain ⟨g4, b1, b4, b5⟩ := l241 (sc := sc) (hv h) hg (g_pm (hv h)).toNat 0 0 g2 none none (by omega) (by omega) (by omega) v2
  generalize e5 : y_fill g4 111 0 24 (fun j => y_I g4 115 j) = g5
  have I5 : ∀ b k, b ≠ 111 → y_I g5 b k = y_I g4 b k := fun b k q => by rw [← e5, yI_fill_o (by omega)]
  have fr : ∀ b k, ¬ ((43 ≤ b ∧ b ≤ 60) ∨ (b = 94 ∧ 39 ≤ k ∧ k ≤ 45) ∨ b = 111 ∨ (115 ≤ b ∧ b ≤ 118)) → y_I g5 b k = y_I h b k := fun b k q => by
    rw [I5 b k (by omega), b4 b k (by omega), I2 b k (by omega), a3 b k (by omega)]
  have p111 : ∀ j, j < 24 → y_I g5 111 j = y_I h 111 j := fun j q => by
    rw [← e5, yI_fill_e ⟨rfl, by omega, q⟩, b4 _ _ (by omega), ← e2, yI_fill_e ⟨rfl, by omega, q⟩, a3 _ _ (by omega)]
  have S5 : g5.2 = h1.2 := by rw [← e5]; exact b5.trans (by rw [← e2]; rfl)
  have fF : ∀ b k, b ≠ 43 → y_F g5 b k = y_F h b k := fun b k q => by
    have : y_F g5 b k = y_F h1 b k := by unfold y_F; rw [S5]
    rw [this, a4 b k q]
  have fJ : y_J g5 = y_J h := by
    have : y_J g5 = y_J h1 := by unfold y_J; rw [S5]
    rw [this, a5]
  have eg : hv g5 = hv h := hv_cg fun b k q => fr b k (by unfold RG at q; omega)
  refine OP_do (0 + u_sum (g_bo (hv h)) 0 (g_pm (hv h)).toNat) h1 g5 (fun d hd => ?_) (fun d hd => ?_) (INV_sk II (fun b k q => fr b k (by omega)) fF fJ (I_pln_sk i4 hg eg p111 (fun j => fr _ _ (by omega))) ?_)
  · rw [e118, b118_0, a1 d (by omega)]
  · have s221' := s221 (sc := sc) (h := h1) d (by omega) 115 (Or.inl rfl)
    rw [e2] at s221'
    have s222' := s222 (sc := sc) (h := g4) d (by omega) 115 (Or.inl rfl)
    rw [e5] at s222'
    rw [e241, b241_0, s221', ycv_s, b1 d (by omega), s222', ycv_s]
  · rw [fr _ _ (by omega), fr _ _ (by omega)]; exact i6.1
end BO
