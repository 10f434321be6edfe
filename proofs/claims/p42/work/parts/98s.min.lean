/-! THE LEAST OF ALL PLANS THAT GO: what the walks come to -/
/-- a plan that goes, of wants of a set (of all of them, if f) -/
def f_pl (G : u_G) (oc : Int) (L : Int → Prop) (f : Prop) (Q : u_P) : Prop := p_ok G Q ∧ g_go G oc Q ∧ (∀ w, 0 ≤ w → w < g_wm G → Q w ≠ -9 → L w) ∧ (f → ∀ w, 0 ≤ w → w < g_wm G → L w → Q w ≠ -9)
noncomputable def f_A (G : u_G) (L : Int → Prop) (oc wt : Int) (m : u_P → Int) : q_A := q_tr G L 0 oc wt m (q_ct L (g_wm G)).toNat (fun _ => -9) (fun _ => 0) q_A0
theorem f_one {c x : Int} : ∀ {n : Nat} {k : Int}, u_sum (fun p => if c = p then x else 0) k n = if k ≤ c ∧ c < k + n then x else 0
  | 0, k => by rw [u_sum_0, if_neg (by omega)]
  | n + 1, k => by
    rw [u_sum_s, f_one]
    by_cases e : c = k
    · rw [if_pos e, if_neg (by omega), if_pos (by omega)]; omega
    · rw [if_neg e]
      by_cases e2 : k + 1 ≤ c ∧ c < k + 1 + (n : Int)
      · rw [if_pos e2, if_pos (by omega)]; omega
      · rw [if_neg e2, if_neg (by omega)]; omega
/-- by kinds -/
theorem f_dbl {c f : Int → Int} {mm : Int} : ∀ {n : Nat} {k : Int}, (∀ w, k ≤ w → w < k + n → 0 ≤ c w ∧ c w < mm) → u_sum (fun p => u_sum (fun w => if c w = p then f w else 0) k n) 0 mm.toNat = u_sum f k n
  | 0, k, _ => u_sum_z
  | n + 1, k, h => by
    have h0 := h k (Int.le_refl _) (by omega)
    have e : u_sum (fun p => u_sum (fun w => if c w = p then f w else 0) k (n + 1)) 0 mm.toNat = u_sum (fun p => (if c k = p then f k else 0) + u_sum (fun w => if c w = p then f w else 0) (k + 1) n) 0 mm.toNat := u_sum_cg fun j _ _ => u_sum_s
    rw [e, u_sum_add (f := fun p => if c k = p then f k else 0) (g := fun p => u_sum (fun w => if c w = p then f w else 0) (k + 1) n), f_dbl (fun w w1 w2 => h w (by omega) (by omega)), f_one, if_pos (by omega), u_sum_s]
section FM
variable {G : u_G} {P Q : u_P} {L : Int → Prop} {E : Int → Int} {b0 oc wt : Int} {m : u_P → Int} {f : Prop}
theorem f_pl.of (h : f_pl G oc L False Q) (n : ¬ f) : f_pl G oc L f Q := ⟨h.1, h.2.1, h.2.2.1, fun q => absurd q n⟩
theorem f_pl.no (h : f_pl G oc L f Q) : f_pl G oc L False Q := ⟨h.1, h.2.1, h.2.2.1, fun q => q.elim⟩
theorem f_vmono (hg : g_ok G) (I : q_in G P E) (hQ : p_ok G Q) (h : ∀ w, 0 ≤ w → w < g_wm G → Q w ≠ -9 → P w ≠ -9 ∧ P w ≤ Q w) (h2 : ∀ w, 0 ≤ w → w < g_wm G → Q w = -9 → P w = -9) : q_v G L wt P ≤ q_v G L wt Q := by
  have kw := hg.2.2.1
  have ls := fun w w1 w2 => ls_mono hg I hQ (w := w) ⟨w1, w2⟩ (h w w1 w2)
  unfold q_v
  by_cases c0 : wt = 0
  · rw [if_pos c0, if_pos c0]
    refine u_sum_le fun j j1 j2 => ?_
    by_cases c : L j
    · rw [if_pos c, if_pos c]; exact ls j j1 (by omega)
    · rw [if_neg c, if_neg c]; exact Int.le_refl _
  · rw [if_neg c0, if_neg c0]
    by_cases c1 : wt = 1
    · rw [if_pos c1, if_pos c1, q_end_le hg]
      have z := (q_end_le (P := Q) hg).mp (Int.le_refl _)
      refine ⟨z.1, fun w w1 w2 w3 => ?_⟩
      have q : Q w ≠ -9 := fun q => w3 (h2 w w1 w2 q)
      have := z.2 w w1 w2 q
      have := (h w w1 w2 q).2
      omega
    · rw [if_neg c1, if_neg c1]
      by_cases c2 : wt = 2
      · rw [if_pos c2, if_pos c2, q_mx_le]
        have z := q_mx_le.mp (Int.le_refl (q_mx (q_lr G L Q) 8))
        refine ⟨z.1, fun r r1 r2 => Int.le_trans (u_sum_le fun j j1 j2 => ?_) (z.2 r r1 r2)⟩
        by_cases c : L j ∧ g_rd G j = r
        · rw [if_pos c, if_pos c]; exact ls j j1 (by omega)
        · rw [if_neg c, if_neg c]; exact Int.le_refl _
      · rw [if_neg c2, if_neg c2]; exact Int.le_refl _
theorem rc_L : ∀ {k : Nat} {P : u_P} {E : Int → Int} {P' : u_P} {E' : Int → Int}, q_rc G L b0 oc k P E P' E' → (∀ w, 0 ≤ w → w < g_wm G → P w ≠ -9 → L w) → ∀ w, 0 ≤ w → w < g_wm G → P' w ≠ -9 → L w
  | 0, _, _, _, _, ⟨e1, _⟩, h => by rw [e1]; exact h
  | k + 1, P, E, _, _, ⟨w, hw, c, r⟩, h => rc_L r fun v v1 v2 v3 => by
    by_cases z : v = w
    · rw [z]; exact c.1.1
    · rw [up_o v1 hw.1 z] at v3
      exact h v v1 v2 v3
/-- none that goes is better -/
theorem f_le (hg : g_ok G) (hn : g_nm G = 0) (hQ : f_pl G oc L (wt = 1 ∨ wt = 3) Q) : 0 ≤ (f_A G L oc wt m).1 ∧ (f_A G L oc wt m).1 ≤ q_v G L wt Q := by
  obtain ⟨a1, a2, a3, a4⟩ := hQ
  have kw := hg.2.2.1
  have nq := q_lf_nn (G := G) (L := fun w => Q w ≠ -9) (P := fun _ => -9)
  obtain ⟨k, P', E', r, I, d1, d2⟩ := q_dom hg hn (Int.le_refl 0) a2 a1 (q_lf G (fun w => Q w ≠ -9) (fun _ => -9)).toNat (fun _ => -9) (fun _ => 0) (by omega) q_in_0 (dm_0 a1 a3)
  have lf := rc_lf r
  have lf0 : q_lf G L (fun _ => -9) = q_ct L (g_wm G) := q_lf_ct
  have nn := q_lf_nn (G := G) (L := L) (P := P')
  have := tr_le (L := L) (oc := oc) (wt := wt) (m := m) hg (Int.le_refl 0) (q_ct L (g_wm G)).toNat k (fun _ => -9) (fun _ => 0) q_A0 P' E' q_in_0 r (by omega) (fun q => by
    have z : q_lf G L P' = 0 := u_cnt_0 (p := fun w => L w ∧ P' w = -9) (n := (g_wm G).toNat) (k := 0) (fun j j1 j2 j3 => (d1 j j1 (by omega) (a4 q j j1 (by omega) j3.1)).1 j3.2)
    omega)
  exact ⟨this.1, Int.le_trans this.2 (f_vmono hg I a1 d1 d2)⟩
/-- and it is one's that goes -/
theorem f_or (hg : g_ok G) : f_A G L oc wt m = q_A0 ∨ ∃ Q, f_pl G oc L (wt = 1 ∨ wt = 3) Q ∧ f_A G L oc wt m = (q_v G L wt Q, m Q, Q) := by
  have kw := hg.2.2.1
  rcases tr_or (L := L) (b0 := 0) (oc := oc) (wt := wt) (m := m) hg (q_ct L (g_wm G)).toNat (fun _ => -9) (fun _ => 0) q_A0 with e | ⟨k, P', E', r, k1, k2, e⟩
  · exact Or.inl e
  · refine Or.inr ⟨P', ⟨q_in_ok hg (rc_in hg (Int.le_refl 0) r q_in_0), NI_go hg (rc_NI hg (Int.le_refl 0) r NI_0), rc_L r (fun w _ _ q => absurd rfl q), fun q w w1 w2 lw => ?_⟩, e⟩
    have lf := rc_lf r
    have lf0 : q_lf G L (fun _ => -9) = q_ct L (g_wm G) := q_lf_ct
    have cb := q_ct_bd (TD := L) (w := g_wm G)
    have := k2 q
    exact q_lf_0 (G := G) (L := L) (by omega) ⟨w1, w2⟩ lw
theorem f_pos (hg : g_ok G) (h : 0 ≤ (f_A G L oc wt m).1) : ∃ Q, f_pl G oc L (wt = 1 ∨ wt = 3) Q ∧ f_A G L oc wt m = (q_v G L wt Q, m Q, Q) := by
  rcases f_or (L := L) (oc := oc) (wt := wt) (m := m) hg with e | e
  · rw [e] at h
    exact absurd h (by show ¬ (0 : Int) ≤ -9; omega)
  · exact e
theorem f_neg (hg : g_ok G) (h : ¬ 0 ≤ (f_A G L oc wt m).1) : f_A G L oc wt m = q_A0 := by
  rcases f_or (L := L) (oc := oc) (wt := wt) (m := m) hg with e | ⟨Q, -, e⟩
  · exact e
  · exfalso
    have b := q_tr_good (L := L) (oc := oc) (wt := wt) (m := m) hg (Int.le_refl 0) (q_ct L (g_wm G)).toNat (fun _ => -9) (fun _ => 0) q_A0 q_in_0 (Or.inl rfl)
    have b : q_good G (f_A G L oc wt m) := b
    rcases b with b | b
    · have v : 0 ≤ q_v G L wt Q := by
        have : (f_A G L oc wt m).1 = q_v G L wt Q := by rw [e]
        unfold q_v at this ⊢
        have z : ∀ {f : Int → Int}, 0 ≤ q_mx f 8 := fun {f} => (q_mx_le.mp (Int.le_refl (q_mx f 8))).1
        by_cases c0 : wt = 0
        · have := q_tr_ge (L := L) (oc := oc) (wt := wt) (m := m) (q_ct L (g_wm G)).toNat (fun _ => -9) (fun _ => 0) q_A0 hg (Int.le_refl 0) q_in_0 (Or.inr ⟨by show (-9 : Int) < 0; omega, by omega, by omega⟩)
          exact absurd this h
        · rw [if_neg c0]
          by_cases c1 : wt = 1
          · rw [if_pos c1]; exact z
          · rw [if_neg c1]
            by_cases c2 : wt = 2
            · rw [if_pos c2]; exact z
            · rw [if_neg c2]; omega
      rw [e] at h
      exact h v
    · exact h b.1.1
theorem f_R (hg : g_ok G) : q_R G wt = f_A G LT 1 wt (m_mu G) := by
  unfold q_R f_A
  rw [q_ct_LT hg.2.2.1.1]
theorem f_v0 {Q : u_P} : q_v G LT 0 Q = g_ms G Q (-9) := by
  show q_lk G LT Q = m_mu G Q
  rw [q_lk_all]
/-- one house is no worse than another one -/
theorem f_cmp {G' : u_G} {L' : Int → Prop} {oc' : Int} {m' : u_P → Int} (hg : g_ok G) (hg' : g_ok G') (hn' : g_nm G' = 0) (h : ∀ Q, f_pl G oc L (wt = 1 ∨ wt = 3) Q → ∃ Q', f_pl G' oc' L' (wt = 1 ∨ wt = 3) Q' ∧ q_v G' L' wt Q' ≤ q_v G L wt Q) (q : 0 ≤ (f_A G L oc wt m).1) : 0 ≤ (f_A G' L' oc' wt m').1 ∧ (f_A G' L' oc' wt m').1 ≤ (f_A G L oc wt m).1 := by
  obtain ⟨Q, hQ, e⟩ := f_pos hg q
  obtain ⟨Q', hQ', le⟩ := h Q hQ
  have := f_le (m := m') hg' hn' hQ'
  rw [e]
  show _ ∧ _ ≤ q_v G L wt Q
  omega
/-- the best -/
theorem f_least (hg : g_ok G) (hn : g_nm G = 0) : f_pl G 1 LT False (q_R G 0).2.2 ∧ (q_R G 0).1 = g_ms G (q_R G 0).2.2 (-9) ∧ ∀ P, f_pl G 1 LT False P → (q_R G 0).1 ≤ g_ms G P (-9) := by
  have ge := q_R_ge (wt := 0) hg (by omega)
  rw [f_R hg] at ge ⊢
  obtain ⟨Q, hQ, e⟩ := f_pos hg ge
  rw [e]
  refine ⟨hQ.no, f_v0, fun P hP => ?_⟩
  have := (f_le (m := m_mu G) (wt := 0) hg hn (hP.of (by omega))).2
  rw [e] at this
  exact Int.le_trans this (Int.le_of_eq f_v0)
theorem f_of_bad (hg : g_ok G) (hp : p_ok G P) (hb : g_bad G P = -9) : f_pl G 1 LT False P := ⟨hp, bad_go hg hp hb, fun _ _ _ _ => trivial, fun q => q.elim⟩
theorem f_bad (hg : g_ok G) (hn : g_nm G = 0) (h : f_pl G 1 L f P) : g_bad G P = -9 := go_bad hg hn h.2.1
theorem f_run (hg : g_ok G) {kd : Int} {cd : Int → Int} : f_pl G 1 LT False (g_run G kd cd) := ⟨g_run_ok hg, run_go hg, fun _ _ _ _ => trivial, fun q => q.elim⟩
/-- by readers -/
theorem f_rds (hg : g_ok G) : u_sum (g_ms G P) 0 (g_rm G).toNat = g_ms G P (-9) := by
  have kw := hg.2.2.1
  have e1 : u_sum (g_ms G P) 0 (g_rm G).toNat = u_sum (fun r => u_sum (fun w => if g_rd G w = r then g_ls G P w else 0) 0 (g_wm G).toNat) 0 (g_rm G).toNat := u_sum_cg fun r r1 r2 => u_sum_cg fun w w1 w2 => by
    by_cases c : g_rd G w = r
    · rw [if_pos (Or.inr c), if_pos c]
    · rw [if_neg (by omega), if_neg c]
  rw [e1, f_dbl (fun w w1 w2 => (hg.2.2.2.2.2.2.2.2.1 w w1 (by omega)).1)]
  exact u_sum_cg fun w _ _ => (if_pos (Or.inl rfl)).symm
/-- no bound is above it -/
theorem f_bo (hg : g_ok G) (hn : g_nm G = 0) (hP : f_pl G 1 LT False P) : u_sum (g_bo G) 0 (g_pm G).toNat ≤ g_ms G P (-9) := by
  have kw := hg.2.2.1
  obtain ⟨p1, ⟨p2, p3, -, p5⟩, -, -⟩ := hP
  have one : ∀ p, g_bo G p ≤ u_sum (fun w => if g_pt G w = p then g_ls G P w else 0) 0 (g_wm G).toNat := fun p => by
    generalize eQ : (fun w => if g_pt G w = p then P w else -9 : u_P) = Q
    have q1 : ∀ w, Q w ≠ -9 → g_pt G w = p ∧ Q w = P w := fun w h => by
      rw [← eQ] at h ⊢
      dsimp only at h ⊢
      by_cases c : g_pt G w = p
      · rw [if_pos c]; exact ⟨c, rfl⟩
      · rw [if_neg c] at h; exact absurd rfl h
    have rg : ∀ w t, g_rg G Q w t → g_rg G P w t := fun w t h => by
      obtain ⟨a, b⟩ := q1 w h.1
      unfold g_rg at h ⊢
      rw [b] at h
      exact h
    have hQ : f_pl G 0 (fun w => g_pt G w = p) ((0 : Int) = 1 ∨ (0 : Int) = 3) Q := by
      refine ⟨fun w w1 w2 => ?_, ⟨fun w w1 w2 h => ?_, fun v w v1 v2 w1 w2 n e h1 h2 => ?_, fun q => by omega, fun w t w1 w2 h => ?_⟩, fun w _ _ h => (q1 w h).1, fun q => by omega⟩
      · by_cases c : Q w = -9
        · exact Or.inl c
        · rw [(q1 w c).2]; exact p1 w w1 w2
      · have e := (q1 w h).2
        rw [e] at h ⊢
        exact p2 w w1 w2 h
      · have e1 := (q1 v h1).2
        have e2 := (q1 w h2).2
        rw [e1] at h1 ⊢
        rw [e2] at h2 ⊢
        exact p3 v w v1 v2 w1 w2 n e h1 h2
      · refine Int.le_trans (u_sum_le fun j j1 j2 => ?_) (p5 w t w1 w2 (rg w t h))
        by_cases c : g_pt G j = g_pt G w ∧ g_rg G Q j t
        · rw [bi_t c, bi_t (show g_pt G j = g_pt G w ∧ g_rg G P j t from ⟨c.1, rg j t c.2⟩)]
          exact Int.le_refl _
        · rw [bi_f c]; exact bi_nn
    have := (f_le (m := m_mu G) (wt := 0) hg hn hQ).2
    refine Int.le_trans this (Int.le_of_eq (u_sum_cg fun w w1 w2 => ?_))
    by_cases c : g_pt G w = p
    · have ew : Q w = P w := by
        rw [← eQ]
        exact if_pos c
      rw [if_pos c, if_pos c]
      unfold g_ls
      rw [ew]
    · rw [if_neg c, if_neg c]
  refine Int.le_trans (u_sum_le (fun p _ _ => one p)) (Int.le_of_eq ?_)
  rw [f_dbl (fun w w1 w2 => (hg.2.2.2.2.2.2.2.2.1 w w1 (by omega)).2.1)]
  exact u_sum_cg fun w _ _ => (if_pos (Or.inl rfl)).symm
theorem f_lr {r : Int} (hr : 0 ≤ r) : q_lr G LT P r = g_ms G P r := u_sum_cg fun w _ _ => by
  by_cases c : g_rd G w = r
  · rw [if_pos ⟨trivial, c⟩, if_pos (Or.inr c)]
  · rw [if_neg (fun q => c q.2), if_neg (by omega)]
theorem f_ms_o (hg : g_ok G) {r : Int} (hr : g_rm G ≤ r) : g_ms G P r = 0 := by
  have kw := hg.2.2.1
  have kr := hg.2.1
  refine (u_sum_cg (g := fun _ => 0) fun w w1 w2 => ?_).trans u_sum_z
  have := (hg.2.2.2.2.2.2.2.2.1 w w1 (by omega)).1
  rw [if_neg (by omega)]
/-- the worst loss -/
theorem f_even (hg : g_ok G) (hn : g_nm G = 0) {worst : Int} (h0 : 0 ≤ worst) (hw : ∀ r, 0 ≤ r → r < g_rm G → g_ms G (q_R G 0).2.2 r ≤ worst) : (q_R G 2).1 ≤ worst ∧ (q_R G 0).1 ≤ (q_R G 2).2.1 ∧ (q_R G 0).1 ≤ (q_R G 2).1 * g_rm G := by
  have kr := hg.2.1
  have ge := q_R_ge (wt := 2) hg (by omega)
  have L0 := f_least hg hn
  rw [f_R (wt := 2) hg] at ge ⊢
  obtain ⟨Q, hQ, e⟩ := f_pos hg ge
  have le := (f_le (m := m_mu G) (wt := 2) hg hn (L0.1.of (by omega))).2
  rw [e] at le ⊢
  have le : q_mx (q_lr G LT Q) 8 ≤ q_mx (q_lr G LT (q_R G 0).2.2) 8 := le
  have le2 : q_mx (q_lr G LT (q_R G 0).2.2) 8 ≤ worst := q_mx_le.mpr ⟨h0, fun r r1 r2 => by
    rw [f_lr r1]
    rcases Int.lt_or_le r (g_rm G) with c | c
    · exact hw r r1 c
    · rw [f_ms_o hg c]; exact h0⟩
  have best := L0.2.2 Q hQ.no
  refine ⟨Int.le_trans le le2, best, ?_⟩
  show (q_R G 0).1 ≤ q_mx (q_lr G LT Q) 8 * g_rm G
  have z := q_mx_le.mp (Int.le_refl (q_mx (q_lr G LT Q) 8))
  have b := (u_sum_bd (f := g_ms G Q) (lo := 0) (hi := q_mx (q_lr G LT Q) 8) (n := (g_rm G).toNat) (k := 0) fun r r1 r2 => ⟨(g_ms_bd hg hQ.1).1, by rw [← f_lr r1]; exact z.2 r r1 (by omega)⟩).2
  rw [f_rds hg, show (((g_rm G).toNat : Nat) : Int) = g_rm G by omega] at b
  omega
/-- all done is after 7 -/
theorem f_soon (hg : g_ok G) (h1 : 1 ≤ g_wm G) : (q_R G 1).1 ≠ 0 := by
  rw [f_R hg]
  intro z
  obtain ⟨Q, hQ, e⟩ := f_pos (L := LT) (oc := 1) (wt := 1) (m := m_mu G) hg (by omega)
  rw [e] at z
  have z : q_end G Q = 0 := z
  have k := ((q_end_le (P := Q) hg).mp (Int.le_refl _)).2 0 (by omega) (by omega) (hQ.2.2.2 (Or.inl rfl) 0 (by omega) (by omega) trivial)
  have p := (hQ.1 0 (by omega) (by omega)).resolve_left (hQ.2.2.2 (Or.inl rfl) 0 (by omega) (by omega) trivial)
  have km := (hg.2.2.2.2.2.2.2.2.1 0 (by omega) (by omega)).2.2.1
  omega
/-- gone on from -/
theorem f_mend (hg : g_ok G) (hn : g_nm G = 0) (hP : f_pl G 1 LT False P) {t : Int} (ht : 0 ≤ t) : f_pl G 1 LT False (q_M G P t).2.2 ∧ (q_M G P t).1 = g_ms G (q_M G P t).2.2 (-9) ∧ (q_M G P t).1 ≤ g_ms G P (-9) := by
  have kw := hg.2.2.1
  have hp := hP.1
  have hb := f_bad hg hn hP
  obtain ⟨K, N⟩ := k_NI hg hn hp hb ht
  have ge := q_M_ge hg ht K
  have lfe := k_lf hg K
  have cb := q_ct_bd (TD := LO P t) (w := g_wm G)
  generalize es : k_all G P t = s at K N lfe
  have D : DM G LT t P s.1 s.2 := by
    have st : ∀ w, 0 ≤ w → w < g_wm G → s.1 w ≠ -9 → P w ≠ -9 ∧ s.1 w = P w ∧ P w < t := fun w w1 w2 h => by
      have e := K.1 w w1 w2
      by_cases c : P w ≠ -9 ∧ (P w < t ∨ (P w = t ∧ w < 0))
      · rw [if_pos c] at e
        exact ⟨c.1, e, by omega⟩
      · rw [if_neg c] at e
        exact absurd e h
    have no : ∀ w, 0 ≤ w → w < g_wm G → s.1 w = -9 → P w ≠ -9 → t ≤ P w := fun w w1 w2 h h2 => by
      have e := K.1 w w1 w2
      by_cases c : P w ≠ -9 ∧ (P w < t ∨ (P w = t ∧ w < 0))
      · rw [if_pos c] at e
        exact absurd (e.symm.trans h) h2
      · omega
    obtain ⟨-, ⟨κ, kap⟩, -⟩ := id K
    have one : ∀ p c T, (0 ≤ p ∧ p < g_pm G) → (c = 0 ∨ c = 1) → 0 ≤ T → T < s.2 (2 * p + c) → ∃ v, (0 ≤ v ∧ v < g_wm G) ∧ s.1 v ≠ -9 ∧ g_pt G v = p ∧ κ v = c ∧ T < P v + g_mn G v := fun p c T hp hc hT h => by
      have kp := kap p hp.1 hp.2
      have : T < m_ce G s.1 κ p c := by
        rcases hc with rfl | rfl
        · rw [kp.1]; rwa [Int.add_zero] at h
        · rw [kp.2]; exact h
      obtain ⟨v, v1, v2, v3, v4, v5, v6⟩ := m_ce_gt kw.1 hT this
      rw [(st v v1 v2 v3).2.1] at v6
      exact ⟨v, ⟨v1, v2⟩, v3, v4, v5, v6⟩
    refine ⟨fun w w1 w2 h => ?_, fun w w1 w2 h h2 => ⟨trivial, no w w1 w2 h h2⟩, fun v w v1 v2 w1 w2 h1 h2 h3 => ?_, fun p c T hp hc hT h => ?_, fun p T hp hT h1 h2 => ?_⟩
    · obtain ⟨a, b, -⟩ := st w w1 w2 h
      exact ⟨a, by omega⟩
    · have := no w w1 w2 h2 h3
      have := (st v v1 v2 h1).2.2
      omega
    · obtain ⟨v, hv, v3, v4, -, v6⟩ := one p c T hp hc hT h
      exact ⟨v, hv, v3, v4, v6⟩
    · obtain ⟨u, hu, u3, u4, u5, u6⟩ := one p 0 T hp (Or.inl rfl) hT (by rw [Int.add_zero]; exact h1)
      obtain ⟨v, hv, v3, v4, v5, v6⟩ := one p 1 T hp (Or.inr rfl) hT h2
      exact ⟨u, v, hu, hv, fun q => by rw [q] at u5; omega, ⟨u3, v3⟩, ⟨u4, v4⟩, u6, v6⟩
  have nq := q_lf_nn (G := G) (L := fun w => P w ≠ -9) (P := s.1)
  obtain ⟨k, P', E', r, I, d1, d2⟩ := q_dom hg hn ht hP.2.1 hp (q_lf G (fun w => P w ≠ -9) s.1).toNat s.1 s.2 (by omega) K.2.2 D
  have lf := rc_lf r
  have nn := q_lf_nn (G := G) (L := LT) (P := P')
  have le := (tr_le (L := LT) (oc := 1) (wt := 0) (m := m_mu G) hg ht (q_ct (LO P t) (g_wm G)).toNat k s.1 s.2 q_A0 P' E' K.2.2 r (by omega) (fun q => by omega)).2
  have eM : q_M G P t = q_tr G LT t 1 0 (m_mu G) (q_ct (LO P t) (g_wm G)).toNat s.1 s.2 q_A0 := by rw [← es]; rfl
  have le2 := f_vmono (L := LT) (wt := 0) hg I hp d1 d2
  rw [f_v0, f_v0] at le2
  rw [f_v0] at le
  rw [eM] at ge ⊢
  rcases tr_or (L := LT) (b0 := t) (oc := 1) (wt := 0) (m := m_mu G) hg (q_ct (LO P t) (g_wm G)).toNat s.1 s.2 q_A0 with e | ⟨k, P2, E2, r2, k1, k2, e⟩
  · rw [e] at ge
    exact absurd ge (by show ¬ (0 : Int) ≤ -9; omega)
  · rw [e] at le ⊢
    refine ⟨⟨q_in_ok hg (rc_in hg ht r2 K.2.2), NI_go hg (rc_NI hg ht r2 N), fun _ _ _ _ => trivial, fun q => q.elim⟩, f_v0, ?_⟩
    exact Int.le_trans le le2
end FM
/-- the least of a row of values is one of them -/
theorem f_pls {F : Nat → Int} (h : ∀ k, F k ≤ 216) : ∀ {k : Nat}, 0 < k → pls F k = F (pbs F k)
  | 0, h0 => by omega
  | 1, _ => by
    have := h 0
    show (if F 0 < 1000000 then F 0 else 1000000) = F (if F 0 < 1000000 then 0 else 0)
    rw [if_pos (by omega), if_pos (by omega)]
  | k + 2, _ => by
    have ih := f_pls h (k := k + 1) (by omega)
    show (if F (k + 1) < pls F (k + 1) then F (k + 1) else pls F (k + 1)) = F (if F (k + 1) < pls F (k + 1) then k + 1 else pbs F (k + 1))
    by_cases c : F (k + 1) < pls F (k + 1)
    · rw [if_pos c, if_pos c]
    · rw [if_neg c, if_neg c, ih]
