/-! TWO HOUSES: whatever goes in one goes in the other; who cannot all have all; the other way round -/
def f_re (π : Int → Int) (G G' : u_G) : Prop := (g_la G' = g_la G ∧ g_rm G' = g_rm G ∧ g_wm G' = g_wm G ∧ g_pm G' = g_pm G) ∧
  (∀ r, 0 ≤ r → r < g_rm G → g_fr G' r = g_fr G r ∧ g_ti G r ≤ g_ti G' r ∧ g_or G' r = g_or G r) ∧
  (∀ w, 0 ≤ w → w < g_wm G → (g_rd G' w = g_rd G w ∧ g_mn G' w = g_mn G w ∧ g_wo G' w = g_wo G w) ∧ g_pt G' w = π (g_pt G w)) ∧
  (∀ p, 0 ≤ p → p < g_pm G → (g_cm G' (π p) = g_cm G p ∧ g_sl G' (π p) = g_sl G p ∧ g_cp G p ≤ g_cp G' (π p)) ∧ ∀ t n, g_un G' (π p) t n → g_un G p t n) ∧
  ∀ p q, 0 ≤ p → p < g_pm G → 0 ≤ q → q < g_pm G → π p = π q → p = q
section FR
variable {G G' : u_G} {π : Int → Int} {P Q : u_P} {L L' : Int → Prop} {oc wt : Int} {m m' : u_P → Int} {f : Prop}
theorem re_go (hg : g_ok G) (R : f_re π G G') (g : g_go G oc P) : g_go G' oc P := by
  obtain ⟨⟨r1, r2, r3, r4⟩, rr, rw', rp, ri⟩ := R
  obtain ⟨g1, g2, g3, g4⟩ := g
  have kk := fun w w1 w2 => hg.2.2.2.2.2.2.2.2.1 w w1 w2
  have rg : ∀ w t, 0 ≤ w → w < g_wm G → (g_rg G' P w t ↔ g_rg G P w t) := fun w t w1 w2 => by
    unfold g_rg
    rw [(rw' w w1 w2).1.2.1]
  unfold g_go
  rw [r3]
  refine ⟨fun w w1 w2 h => ?_, fun v w v1 v2 w1 w2 n e h1 h2 => ?_, fun o v w v1 vw w2 e oo h => ?_, fun w t w1 w2 h => ?_⟩
  · obtain ⟨⟨a1, a2⟩, a3, a4, a5⟩ := g1 w w1 w2 h
    obtain ⟨k1, k2, k3, k4⟩ := kk w w1 w2
    obtain ⟨⟨b1, b2, b3⟩, b4⟩ := rw' w w1 w2
    obtain ⟨c1, c2, c3⟩ := rr _ k1.1 k1.2
    obtain ⟨⟨d1, d2, d3⟩, d4⟩ := rp _ k2.1 k2.2
    unfold g_tm
    rw [b1, b2, b4, c1, d1, r1]
    exact ⟨⟨a1, by omega⟩, a3, a4, fun q => a5 (d4 _ _ q)⟩
  · obtain ⟨⟨b1, b2, -⟩, -⟩ := rw' v v1 v2
    obtain ⟨⟨c1, c2, -⟩, -⟩ := rw' w w1 w2
    rw [b1, c1] at e
    rw [b2, c2]
    exact g2 v w v1 v2 w1 w2 n e h1 h2
  · obtain ⟨⟨b1, b2, -⟩, -⟩ := rw' v v1 (by omega)
    obtain ⟨⟨c1, c2, -⟩, -⟩ := rw' w (by omega) w2
    obtain ⟨k1, -, -, -⟩ := kk w (by omega) w2
    rw [b1, c1] at e
    rw [c1, (rr _ k1.1 k1.2).2.2] at oo
    rw [b2]
    exact g3 o v w v1 vw w2 e oo h
  · obtain ⟨k1, k2, k3, k4⟩ := kk w w1 w2
    have d := (rp _ k2.1 k2.2).1.2.2
    have ew := (rw' w w1 w2).2
    refine Int.le_trans (b := g_many G P (g_pt G w) t) ?_ (Int.le_trans (g4 w t w1 w2 ((rg w t w1 w2).mp h)) (by rw [ew]; exact d))
    unfold g_many
    rw [r3]
    refine u_sum_le fun j j1 j2 => ?_
    have jk := (kk j j1 (by omega)).2.1
    by_cases c : g_pt G' j = g_pt G' w ∧ g_rg G' P j t
    · have e : g_pt G j = g_pt G w := ri _ _ jk.1 jk.2 k2.1 k2.2 (by rw [← (rw' j j1 (by omega)).2, ← ew]; exact c.1)
      rw [bi_t c, bi_t (show g_pt G j = g_pt G w ∧ g_rg G P j t from ⟨e, (rg j t j1 (by omega)).mp c.2⟩)]
      exact Int.le_refl _
    · rw [bi_f c]; exact bi_nn
theorem re_ls (hg : g_ok G) (R : f_re π G G') {w : Int} (w1 : 0 ≤ w) (w2 : w < g_wm G) : g_ls G' P w = g_ls G P w := by
  obtain ⟨-, -, rw', rp, -⟩ := R
  obtain ⟨k1, k2, k3, k4⟩ := hg.2.2.2.2.2.2.2.2.1 w w1 w2
  obtain ⟨⟨b1, b2, b3⟩, b4⟩ := rw' w w1 w2
  have d := (rp _ k2.1 k2.2).1.2.1
  unfold g_ls g_wa
  rw [b3, b4, d]
theorem re_ms (hg : g_ok G) (R : f_re π G G') {r : Int} : g_ms G' P r = g_ms G P r := by
  have kw := hg.2.2.1
  unfold g_ms
  rw [R.1.2.2.1]
  refine u_sum_cg fun w w1 w2 => ?_
  rw [re_ls hg R w1 (by omega), (R.2.2.1 w w1 (by omega)).1.1]
theorem re_v (hg : g_ok G) (R : f_re π G G') (hL : ∀ w, 0 ≤ w → w < g_wm G → (L' w ↔ L w)) : q_v G' L' wt P = q_v G L wt P := by
  have kw := hg.2.2.1
  have e0 : q_lk G' L' P = q_lk G L P := by
    unfold q_lk
    rw [R.1.2.2.1]
    refine u_sum_cg fun w w1 w2 => ?_
    by_cases c : L w
    · rw [if_pos c, if_pos ((hL w w1 (by omega)).mpr c)]; exact re_ls hg R w1 (by omega)
    · rw [if_neg c, if_neg (fun q => c ((hL w w1 (by omega)).mp q))]
  have e1 : q_end G' P = q_end G P := by
    unfold q_end
    congr 1
    funext r
    unfold q_re
    rw [R.1.2.2.1]
    refine u_fold_cg fun s w w1 w2 => ?_
    obtain ⟨⟨b1, b2, b3⟩, b4⟩ := R.2.2.1 w w1 (by omega)
    unfold g_wsf
    rw [b1, b2]
  have e2 : q_lr G' L' P = q_lr G L P := by
    funext r
    unfold q_lr
    rw [R.1.2.2.1]
    refine u_sum_cg fun w w1 w2 => ?_
    have b1 := (R.2.2.1 w w1 (by omega)).1.1
    by_cases c : L w ∧ g_rd G w = r
    · rw [if_pos c, if_pos ⟨(hL w w1 (by omega)).mpr c.1, by rw [b1]; exact c.2⟩]; exact re_ls hg R w1 (by omega)
    · rw [if_neg c, if_neg (fun q => c ⟨(hL w w1 (by omega)).mp q.1, by rw [← b1]; exact q.2⟩)]
  unfold q_v
  rw [e0, e1, e2]
theorem re_pl (hg : g_ok G) (R : f_re π G G') (hL : ∀ w, 0 ≤ w → w < g_wm G → (L' w ↔ L w)) (h : f_pl G oc L f P) : f_pl G' oc L' f P := by
  obtain ⟨a1, a2, a3, a4⟩ := h
  have e := R.1.2.2.1
  refine ⟨fun w w1 w2 => a1 w w1 (by rw [← e]; exact w2), re_go hg R a2, fun w w1 w2 h => ?_, fun q w w1 w2 h => ?_⟩
  · rw [e] at w2
    exact (hL w w1 w2).mpr (a3 w w1 w2 h)
  · rw [e] at w2
    exact a4 q w w1 w2 ((hL w w1 w2).mp h)
theorem re_A (hg : g_ok G) (hg' : g_ok G') (hn' : g_nm G' = 0) (R : f_re π G G') (hL : ∀ w, 0 ≤ w → w < g_wm G → (L' w ↔ L w)) (q : 0 ≤ (f_A G L oc wt m).1) : 0 ≤ (f_A G' L' oc wt m').1 ∧ (f_A G' L' oc wt m').1 ≤ (f_A G L oc wt m).1 := f_cmp hg hg' hn' (fun Q hQ => ⟨Q, re_pl hg R hL hQ, Int.le_of_eq (re_v hg R hL)⟩) q
theorem re_R (hg : g_ok G) (hg' : g_ok G') (hn' : g_nm G' = 0) (R : f_re π G G') (q : 0 ≤ (q_R G wt).1) : 0 ≤ (q_R G' wt).1 ∧ (q_R G' wt).1 ≤ (q_R G wt).1 := by
  rw [f_R hg] at q ⊢
  rw [f_R hg']
  exact re_A hg hg' hn' R (fun _ _ _ => Iff.rfl) q
theorem re_can (hg : g_ok G) (hg' : g_ok G') (hn' : g_nm G' = 0) (R : f_re π G G') {s : Int} (q : g_can G s) : g_can G' s := (re_A (m := m_mu G) (m' := m_mu G') (wt := 3) hg hg' hn' R (fun w w1 w2 => by
  unfold LRS
  rw [(R.2.2.1 w w1 w2).1.1]) q).1
theorem re_bo (hg : g_ok G) (hg' : g_ok G') (hn' : g_nm G' = 0) (R : f_re π G G') {p : Int} (hp : 0 ≤ p ∧ p < g_pm G) : g_bo G' (π p) ≤ g_bo G p := (re_A (m := m_mu G) (m' := m_mu G') (oc := 0) (wt := 0) (L := fun w => g_pt G w = p) (L' := fun w => g_pt G' w = π p) hg hg' hn' R (fun w w1 w2 => by
  have k := (hg.2.2.2.2.2.2.2.2.1 w w1 w2).2.1
  rw [(R.2.2.1 w w1 w2).2]
  exact ⟨fun q => R.2.2.2.2 _ _ k.1 k.2 hp.1 hp.2 q, fun q => by rw [q]⟩) (g_bo_bd hg).1).2
/-- who can all have all -/
theorem f_can (hg : g_ok G) (hn : g_nm G = 0) {s : Int} : g_can G s ↔ ∃ Q, f_pl G 1 (LRS G s) True Q := by
  constructor
  · intro q
    obtain ⟨Q, hQ, -⟩ := f_pos (m := m_mu G) hg (show 0 ≤ (f_A G (LRS G s) 1 3 (m_mu G)).1 from q)
    exact ⟨Q, hQ.1, hQ.2.1, hQ.2.2.1, fun _ => hQ.2.2.2 (Or.inr rfl)⟩
  · rintro ⟨Q, hQ⟩
    exact (f_le (m := m_mu G) (wt := 3) hg hn ⟨hQ.1, hQ.2.1, hQ.2.2.1, fun _ => hQ.2.2.2 trivial⟩).1
noncomputable def f_qs (G : u_G) : Int := y_shl 1 (g_rm G) - 1
/-- whom quarrel tells -/
noncomputable def f_qu (G : u_G) : Int := @ite _ (g_can G (f_qs G)) (Classical.propDecidable _) (-9) (g_qr G (g_rm G).toNat 0 (f_qs G))
noncomputable def f_so (G : u_G) : Int := if (q_R G 1).1 < 0 then -9 else (q_R G 1).1
theorem f_qs_b (hg : g_ok G) {k : Int} (hk : 0 ≤ k ∧ k < 32) : u_bs (f_qs G) k ↔ k < g_rm G := ub_mask (by have := hg.2.1; omega) hk
theorem f_qs_so (hg : g_ok G) (hn : g_nm G = 0) : g_can G (f_qs G) ↔ 0 ≤ (q_R G 1).1 := by
  have kr := hg.2.1
  have all : ∀ w, 0 ≤ w → w < g_wm G → LRS G (f_qs G) w := fun w w1 w2 => by
    have k := (hg.2.2.2.2.2.2.2.2.1 w w1 w2).1
    exact (f_qs_b hg (by omega)).mpr k.2
  rw [f_R hg]
  constructor
  · intro q
    obtain ⟨Q, hQ⟩ := (f_can hg hn).mp q
    exact (f_le (m := m_mu G) (wt := 1) hg hn ⟨hQ.1, hQ.2.1, fun _ _ _ _ => trivial, fun _ w w1 w2 _ => hQ.2.2.2 trivial w w1 w2 (all w w1 w2)⟩).1
  · intro q
    obtain ⟨Q, hQ, -⟩ := f_pos (m := m_mu G) hg q
    exact (f_can hg hn).mpr ⟨Q, hQ.1, hQ.2.1, fun w w1 w2 _ => all w w1 w2, fun _ w w1 w2 _ => hQ.2.2.2 (Or.inl rfl) w w1 w2 trivial⟩
theorem f_can0 (hg : g_ok G) (hn : g_nm G = 0) : g_can G 0 := (f_can hg hn).mpr ⟨fun _ => -9, fun _ _ _ => Or.inl rfl, ⟨fun w _ _ q => absurd rfl q, fun v w _ _ _ _ _ _ q => absurd rfl q, fun _ v w _ _ _ _ _ q => absurd rfl q, fun w t _ _ q => absurd rfl q.1⟩, fun w _ _ q => absurd rfl q, fun _ w _ _ q => absurd q ub_0⟩
theorem f_qr (hg : g_ok G) : ∀ (n : Nat) (r s : Int), 0 ≤ r → ¬ u_bs s 31 → ¬ g_can G s → ¬ u_bs (g_qr G n r s) 31 ∧ ¬ g_can G (g_qr G n r s)
  | 0, r, s, _, h1, h2 => ⟨h1, h2⟩
  | n + 1, r, s, h0, h1, h2 => by
    unfold g_qr
    by_cases c : g_can G (y_and s (y_xor (y_shl 1 r) (-1)))
    · rw [if_pos c]; exact f_qr hg n (r + 1) s (by omega) h1 h2
    · rw [if_neg c]; exact f_qr hg n (r + 1) _ (by omega) (fun q => h1 (ub_and.mp q).1) c
theorem f_quar (hg : g_ok G) (hn : g_nm G = 0) : (f_qu G = -9 ↔ 0 ≤ f_so G) ∧ f_qu G ≠ 0 := by
  have e := f_qs_so hg hn
  have kr := hg.2.1
  unfold f_qu f_so
  by_cases c : g_can G (f_qs G)
  · rw [if_pos c, if_neg (by have := e.mp c; omega)]
    exact ⟨⟨fun _ => e.mp c, fun _ => rfl⟩, by omega⟩
  · have n1 : ¬ u_bs (f_qs G) 31 := fun q => by
      have := (f_qs_b hg (by omega)).mp q
      omega
    obtain ⟨a, b⟩ := f_qr hg (g_rm G).toNat 0 (f_qs G) (by omega) n1 c
    have nn : (q_R G 1).1 < 0 := by
      rcases Int.lt_or_le (q_R G 1).1 0 with z | z
      · exact z
      · exact absurd (e.mpr z) c
    rw [if_neg c, if_pos nn]
    refine ⟨⟨fun q => ?_, fun q => by omega⟩, fun q => b (by rw [q]; exact f_can0 hg hn)⟩
    rw [q] at a
    exact absurd (by unfold u_bs; decide) a
/-- a house no worse -/
theorem mo_all (hg : g_ok G) (hg' : g_ok G') (hn' : g_nm G' = 0) (R : f_re id G G') : (q_R G' 0).1 ≤ (q_R G 0).1 ∧ (q_R G' 2).1 ≤ (q_R G 2).1 ∧ u_sum (g_bo G') 0 (g_pm G').toNat ≤ u_sum (g_bo G) 0 (g_pm G).toNat ∧ (f_qu G = -9 → f_qu G' = -9) := by
  have kp := hg.1
  have kr := hg.2.1
  refine ⟨(re_R hg hg' hn' R (q_R_ge hg (by omega))).2, (re_R hg hg' hn' R (q_R_ge hg (by omega))).2, ?_, fun q => ?_⟩
  · rw [R.1.2.2.2]
    exact u_sum_le fun p p1 p2 => re_bo hg hg' hn' R (p := p) ⟨p1, by omega⟩
  · have es : f_qs G' = f_qs G := by unfold f_qs; rw [R.1.2.1]
    unfold f_qu at q ⊢
    rw [es]
    by_cases c : g_can G (f_qs G)
    · rw [if_pos (re_can hg hg' hn' R c)]
    · rw [if_neg c] at q
      have n1 : ¬ u_bs (f_qs G) 31 := fun q => by
        have := (f_qs_b hg (by omega)).mp q
        omega
      have a := (f_qr hg (g_rm G).toNat 0 (f_qs G) (by omega) n1 c).1
      rw [q] at a
      exact absurd (by unfold u_bs; decide) a
/-- sums the other way round -/
theorem u_sum_sh {f : Int → Int} : ∀ {n : Nat} {k : Int}, u_sum f (k + 1) n = u_sum (fun p => f (p + 1)) k n
  | 0, _ => rfl
  | n + 1, k => by rw [u_sum_s, u_sum_s, u_sum_sh]
theorem u_sum_rv {f : Int → Int} : ∀ {n : Nat}, u_sum (fun p => f ((n : Int) - 1 - p)) 0 n = u_sum f 0 n
  | 0 => rfl
  | n + 1 => by
    have ih := u_sum_rv (f := f) (n := n)
    rw [u_sum_s, u_sum_sh, u_sum_last]
    have e : u_sum (fun p => f (((n + 1 : Nat) : Int) - 1 - (p + 1))) 0 n = u_sum (fun p => f ((n : Int) - 1 - p)) 0 n := u_sum_cg fun j _ _ => by
      show f _ = f _
      congr 1
      omega
    rw [e, ih]
    show f (((n + 1 : Nat) : Int) - 1 - 0) + u_sum f 0 n = u_sum f 0 n + f (0 + (n : Int))
    rw [show ((n + 1 : Nat) : Int) - 1 - 0 = 0 + (n : Int) by omega]
    omega
section MI
variable {n : Int}
theorem mi_R (hg : g_ok G) (hg' : g_ok G') (hn : g_nm G = 0) (hn' : g_nm G' = 0) {ρ : Int → Int} (R : f_re π G G') (R' : f_re ρ G' G) : (q_R G' wt).1 = (q_R G wt).1 := by
  rcases Int.lt_or_le (q_R G wt).1 0 with c | c
  · rcases Int.lt_or_le (q_R G' wt).1 0 with c' | c'
    · have a : q_R G wt = q_A0 := by
        rw [f_R hg] at c ⊢
        exact f_neg hg (by omega)
      have b : q_R G' wt = q_A0 := by
        rw [f_R hg'] at c' ⊢
        exact f_neg hg' (by omega)
      rw [a, b]
    · have := (re_R hg' hg hn R' c').1
      omega
  · have a := re_R hg hg' hn' R c
    have b := re_R hg' hg hn R' a.1
    omega
theorem mi_can (hg : g_ok G) (hg' : g_ok G') (hn : g_nm G = 0) (hn' : g_nm G' = 0) {ρ : Int → Int} (R : f_re π G G') (R' : f_re ρ G' G) : g_can G' = g_can G := funext fun s => propext ⟨re_can hg' hg hn R', re_can hg hg' hn' R⟩
theorem mi_qr (e : g_can G' = g_can G) : ∀ (n : Nat) (r s : Int), g_qr G' n r s = g_qr G n r s
  | 0, _, _ => rfl
  | n + 1, r, s => by
    unfold g_qr
    rw [e, mi_qr e n]
theorem mi_qu (hg : g_ok G) (hg' : g_ok G') (hn : g_nm G = 0) (hn' : g_nm G' = 0) {ρ : Int → Int} (R : f_re π G G') (R' : f_re ρ G' G) : f_qu G' = f_qu G := by
  have e := mi_can hg hg' hn hn' R R'
  have es : f_qs G' = f_qs G := by unfold f_qs; rw [R.1.2.1]
  unfold f_qu
  rw [es, R.1.2.1, e, mi_qr e]
theorem mi_bo (hg : g_ok G) (hg' : g_ok G') (hn : g_nm G = 0) (hn' : g_nm G' = 0) (R : f_re (fun p => g_pm G - 1 - p) G G') (R' : f_re (fun p => g_pm G' - 1 - p) G' G) : u_sum (g_bo G') 0 (g_pm G').toNat = u_sum (g_bo G) 0 (g_pm G).toNat := by
  have kp := hg.1
  have ep := R.1.2.2.2
  rw [ep, ← u_sum_rv (f := g_bo G')]
  refine u_sum_cg fun p p1 p2 => ?_
  rw [show (((g_pm G).toNat : Nat) : Int) - 1 - p = g_pm G - 1 - p by omega]
  have a := re_bo hg hg' hn' R (p := p) ⟨p1, by omega⟩
  have b := re_bo hg' hg hn R' (p := g_pm G - 1 - p) ⟨by omega, by omega⟩
  rw [ep, show g_pm G - 1 - (g_pm G - 1 - p) = p by omega] at b
  exact Int.le_antisymm a b
theorem mi_may (hg : g_ok G) (hn : g_nm G = 0) (hn' : g_nm G' = 0) (R : f_re π G G') (eti : ∀ r, 0 ≤ r → r < g_rm G → g_ti G' r = g_ti G r) (ecp : ∀ p, 0 ≤ p → p < g_pm G → g_cp G' (π p) = g_cp G p) (eun : ∀ p t n, 0 ≤ p → p < g_pm G → (g_un G' (π p) t n ↔ g_un G p t n)) {K w t : Int} (w1 : 0 ≤ w) (w2 : w < g_wm G) : g_may G' P K w t ↔ g_may G P K w t := by
  have kw := hg.2.2.1
  obtain ⟨⟨r1, r2, r3, r4⟩, rr, rw', rp, ri⟩ := R
  have kk := fun w w1 w2 => hg.2.2.2.2.2.2.2.2.1 w w1 w2
  have rg : ∀ w t, 0 ≤ w → w < g_wm G → (g_rg G' P w t ↔ g_rg G P w t) := fun w t w1 w2 => by
    unfold g_rg
    rw [(rw' w w1 w2).1.2.1]
  have has : ∀ r t, g_has G' P r t ↔ g_has G P r t := fun r t => by
    unfold g_has
    rw [r3]
    exact u_all_cg fun j j1 j2 => by
      obtain ⟨⟨b1, b2, b3⟩, b4⟩ := rw' j j1 (by omega)
      rw [b1, b2]
  have kep : ∀ w t, 0 ≤ w → w < g_wm G → (g_kep G' P w t ↔ g_kep G P w t) := fun w t w1 w2 => by
    obtain ⟨k1, -, -, -⟩ := kk w w1 w2
    unfold g_kep
    rw [(rw' w w1 w2).1.1, eti _ k1.1 k1.2, has]
  have does : ∀ r t b, g_does G' P r t b ↔ g_does G P r t b := fun r t b => by
    unfold g_does
    rw [r3]
    exact u_any_cg fun j j1 j2 => by rw [(rw' j j1 (by omega)).1.1, rg j t j1 (by omega)]
  obtain ⟨k1, k2, k3, k4⟩ := kk w w1 w2
  obtain ⟨⟨b1, b2, b3⟩, b4⟩ := rw' w w1 w2
  obtain ⟨c1, c2, c3⟩ := rr _ k1.1 k1.2
  obtain ⟨⟨d1, d2, d3⟩, d4⟩ := rp _ k2.1 k2.2
  have tk : g_tk G' P K (π (g_pt G w)) t = g_tk G P K (g_pt G w) t := by
    unfold g_tk
    rw [r3]
    refine u_sum_cg fun j j1 j2 => bi_cg ?_
    have jk := (kk j j1 (by omega)).2.1
    have e : g_pt G' j = π (g_pt G w) ↔ g_pt G j = g_pt G w := by
      rw [(rw' j j1 (by omega)).2]
      exact ⟨fun q => ri _ _ jk.1 jk.2 k2.1 k2.2 q, fun q => by rw [q]⟩
    rw [e, rg j t j1 (by omega), kep j t j1 (by omega)]
  have due : g_due G' P w t ↔ g_due G P w t := by
    unfold g_due
    rw [b1, c3]
    have : u_all (fun v => g_rd G' v = g_rd G w → P v ≠ -9 ∧ P v + g_mn G' v ≤ t) 0 w.toNat ↔ u_all (fun v => g_rd G v = g_rd G w → P v ≠ -9 ∧ P v + g_mn G v ≤ t) 0 w.toNat := u_all_cg fun j j1 j2 => by
      obtain ⟨⟨b1, b2, b3⟩, b4⟩ := rw' j j1 (by omega)
      rw [b1, b2]
    rw [this]
  have s1 : g_spo G' P w t ↔ g_spo G P w t := ⟨fun q => absurd q (spo_0 hn'), fun q => absurd q (spo_0 hn)⟩
  unfold g_may
  rw [does, due, s1, b1, b2, b4, c1, eti _ k1.1 k1.2, r1, d1, eun _ _ _ k2.1 k2.2, tk, ecp _ k2.1 k2.2]
theorem mi_run (hg : g_ok G) (r3 : g_wm G' = g_wm G) (r2 : g_rm G' = g_rm G) (r1 : g_la G' = g_la G) (er : ∀ w, 0 ≤ w → w < g_wm G → g_rd G' w = g_rd G w) (may : ∀ P K w t, 0 ≤ w → w < g_wm G → (g_may G' P K w t ↔ g_may G P K w t)) {cd : Int → Int} : g_run G' 1 cd = g_run G 1 cd := by
  have kw := hg.2.2.1
  have fst : ∀ P K r t, g_fst G' P K r t = g_fst G P K r t := fun P K r t => by
    unfold g_fst
    rw [r3]
    exact u_find_cg fun j j1 j2 => by rw [er j j1 (by omega), may P K j t j1 (by omega)]
  have cho : ∀ P t, g_cho G' P 1 cd t = g_cho G P 1 cd t := fun P t => by
    unfold g_cho
    rw [if_neg (by omega), if_neg (by omega), r2]
    refine u_fold_cg fun b i _ _ => ?_
    unfold g_c3
    rw [fst]
    generalize g_fst G P (if (1 : Int) = 2 then 1 else 0) (if (1 : Int) = 3 then i else cd i) t = u
    by_cases z : u = -9
    · rw [if_pos z, if_pos z]
    · rw [if_neg z, if_neg z]
      by_cases c : b = -9
      · rw [if_pos (Or.inl c), if_pos (Or.inl c)]
      · rw [if_neg (fun q => c (q.resolve_right (fun q => by omega))), if_neg (fun q => c (q.resolve_right (fun q => by omega)))]
  have inn : ∀ (n : Nat) (t : Int) (P : u_P), g_in G' 1 cd t n P = g_in G 1 cd t n P := by
    intro n
    induction n with
    | zero => intro t P; rfl
    | succ n ih =>
      intro t P
      unfold g_in
      rw [cho, ih]
  have out : ∀ (n : Nat) (t : Int) (P : u_P), g_out G' 1 cd n t P = g_out G 1 cd n t P := by
    intro n
    induction n with
    | zero => intro t P; rfl
    | succ n ih =>
      intro t P
      unfold g_out
      rw [inn, ih]
  unfold g_run
  rw [r1, out]
end MI
end FR
