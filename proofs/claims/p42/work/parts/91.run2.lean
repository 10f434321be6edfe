/-! THE PAPER GOES ROUND BY A RULE: a beginning more -/
section GR
variable {G : u_G} {P : u_P}
theorem thr_up {w t : Int} (hw : 0 ≤ w ∧ w < g_wm G) (ht : t ≠ -9) {r : Int} : g_thr G (u_up P w t) r ↔ ∀ v, 0 ≤ v → v < g_wm G → g_rd G v = r → v = w ∨ P v ≠ -9 := by
  unfold g_thr
  constructor
  · intro b v h1 h2 h3
    by_cases c : v = w
    · exact Or.inl c
    · have := b v h1 h2 h3
      rw [up_o h1 hw.1 c] at this
      exact Or.inr this
  · intro b v h1 h2 h3
    by_cases c : v = w
    · rw [c, up_e]; exact ht
    · rw [up_o h1 hw.1 c]
      rcases b v h1 h2 h3 with q | q
      · exact absurd q c
      · exact q
theorem thr_up_o {w t : Int} (hw : 0 ≤ w ∧ w < g_wm G) (ht : t ≠ -9) {r : Int} (hr : r ≠ g_rd G w) : g_thr G (u_up P w t) r ↔ g_thr G P r := by
  rw [thr_up hw ht]
  constructor
  · intro b v h1 h2 h3
    rcases b v h1 h2 h3 with q | q
    · subst q; exact absurd h3.symm hr
    · exact q
  · exact fun b v h1 h2 h3 => Or.inr (b v h1 h2 h3)
theorem he_w {K w t : Int} (hg : g_ok G) (hw : 0 ≤ w ∧ w < g_wm G) (e : P w = -9) (ht : 0 ≤ t) (hf : g_ws G P (g_rd G w) ≤ t) : g_he G (u_up P w t) K w = @ite _ (K = 1 ∧ ¬ g_thr G (u_up P w t) (g_rd G w)) (Classical.propDecidable _) (g_ti G (g_rd G w)) (t + g_mn G w) := by
  unfold g_he
  rw [up_e, ws_up hg hw e ht hf, if_pos rfl]
  by_cases k : K = 1
  · rw [if_pos k]
    by_cases c : g_thr G (u_up P w t) (g_rd G w)
    · rw [if_pos c, if_neg (fun q => q.2 c)]
    · rw [if_neg c, if_pos ⟨k, c⟩]
  · rw [if_neg k, if_neg (fun q => k q.1)]
theorem he_o {K w t v : Int} (hg : g_ok G) (hw : 0 ≤ w ∧ w < g_wm G) (e : P w = -9) (ht : 0 ≤ t) (hf : g_ws G P (g_rd G w) ≤ t) (hv : 0 ≤ v) (ev : v ≠ w) : g_he G (u_up P w t) K v = @ite _ (K = 1 ∧ g_rd G v = g_rd G w ∧ g_thr G (u_up P w t) (g_rd G w)) (Classical.propDecidable _) (t + g_mn G w) (g_he G P K v) := by
  unfold g_he
  rw [up_o hv hw.1 ev, ws_up hg hw e ht hf]
  by_cases k : K = 1
  · rw [if_pos k]
    by_cases c : g_rd G v = g_rd G w
    · rw [c, if_pos rfl]
      have n : ¬ g_thr G P (g_rd G w) := fun q => q w hw.1 hw.2 rfl e
      by_cases c2 : g_thr G (u_up P w t) (g_rd G w)
      · rw [if_pos c2, if_pos ⟨k, rfl, c2⟩]
      · rw [if_neg c2, if_neg (fun q => c2 q.2.2), if_pos k, if_neg n]
    · rw [if_neg c, if_neg (show ¬ (K = 1 ∧ g_rd G v = g_rd G w ∧ g_thr G (u_up P w t) (g_rd G w)) from fun q => c q.2.1), if_pos k, propext (thr_up_o (P := P) hw (show t ≠ -9 by omega) c)]
  · rw [if_neg k, if_neg (fun q => k q.1), if_neg k]
theorem KC_up {K : Int} {A B κ : Int → Int} {t w c0 : Int} (C : KC G P K A B κ t) (hg : g_ok G) (hw : 0 ≤ w ∧ w < g_wm G) (e : P w = -9) (ht : 0 ≤ t) (hf : g_ws G P (g_rd G w) ≤ t) (hti : t + g_mn G w ≤ g_ti G (g_rd G w)) (hc : 2 * g_pt G w ≤ c0 ∧ c0 < 2 * g_pt G w + g_cp G (g_pt G w)) (hA : A c0 ≤ t) {A' B' : Int → Int} (eB : ∀ c, 0 ≤ c → c < 12 → B' c = if c = c0 then g_rd G w else B c) (eA : ∀ c, 0 ≤ c → c < 12 → A' c = @ite _ ((K = 1 ∧ g_thr G (u_up P w t) (g_rd G w)) ∧ B' c = g_rd G w) (Classical.propDecidable _) (t + g_mn G w) (if c = c0 then (if K = 1 then g_ti G (g_rd G w) else t + g_mn G w) else A c)) : KC G (u_up P w t) K A' B' (fun c => if c = c0 then w else κ c) t := by
  obtain ⟨c1, c2, c3⟩ := C
  obtain ⟨kr, kp, km, -⟩ := hg.2.2.2.2.2.2.2.2.1 w hw.1 hw.2
  have cpk := (hg.2.2.2.2.2.2.1 _ kp.1 kp.2).1
  have kpm := hg.1
  have hew := he_w (K := K) hg hw e ht hf
  have heo := fun v hv ev => he_o (K := K) (v := v) hg hw e ht hf hv ev
  have c12 : 0 ≤ c0 ∧ c0 < 12 := by omega
  refine ⟨fun c h1 h2 => ?_, fun c c' h1 h2 h3 h4 q1 q2 => ?_, fun v h1 h2 q1 q2 => ?_⟩
  · show ((if c = c0 then w else κ c) = -9 ∧ _) ∨ ((0 ≤ (if c = c0 then w else κ c) ∧ (if c = c0 then w else κ c) < g_wm G) ∧ u_up P w t (if c = c0 then w else κ c) ≠ -9 ∧ (2 * g_pt G (if c = c0 then w else κ c) ≤ c ∧ c < 2 * g_pt G (if c = c0 then w else κ c) + g_cp G (g_pt G (if c = c0 then w else κ c))) ∧ A' c = g_he G (u_up P w t) K (if c = c0 then w else κ c) ∧ B' c = g_rd G (if c = c0 then w else κ c))
    have b := eB c h1 h2
    have a := eA c h1 h2
    by_cases c' : c = c0
    · rw [if_pos c'] at b a ⊢
      refine Or.inr ⟨hw, by rw [up_e]; omega, by omega, ?_, b⟩
      rw [a, hew]
      by_cases k : K = 1
      · by_cases th : g_thr G (u_up P w t) (g_rd G w)
        · rw [if_pos ⟨⟨k, th⟩, b⟩, if_neg (fun q => q.2 th)]
        · rw [if_neg (fun q => th q.1.2), if_pos k, if_pos ⟨k, th⟩]
      · rw [if_neg (fun q => k q.1.1), if_neg k, if_neg (fun q => k q.1)]
    · rw [if_neg c'] at b a ⊢
      rcases c1 c h1 h2 with q | q
      · refine Or.inl ⟨q.1, ?_, by rw [b]; exact q.2.2⟩
        rw [a, if_neg (fun z => by have := z.2; omega), q.2.1]
      · obtain ⟨q1, q2, q3, q4, q5⟩ := q
        have nw : κ c ≠ w := fun z => q2 (by rw [z]; exact e)
        refine Or.inr ⟨q1, by rw [up_o q1.1 hw.1 nw]; exact q2, q3, ?_, by rw [b]; exact q5⟩
        rw [a, heo _ q1.1 nw, b, q5, q4]
        by_cases z : K = 1 ∧ g_rd G (κ c) = g_rd G w ∧ g_thr G (u_up P w t) (g_rd G w)
        · rw [if_pos z, if_pos ⟨⟨z.1, z.2.2⟩, z.2.1⟩]
        · rw [if_neg z, if_neg (fun y => z ⟨y.1.1, y.2, y.1.2⟩)]
  · have q1 : (if c = c0 then w else κ c) = (if c' = c0 then w else κ c') := q1
    have q2 : (if c = c0 then w else κ c) ≠ -9 := q2
    have nw : ∀ c, 0 ≤ c → c < 12 → κ c ≠ w := fun c y1 y2 y3 => by
      rcases c1 c y1 y2 with q | q
      · omega
      · exact q.2.1 (by rw [y3]; exact e)
    by_cases z1 : c = c0
    · by_cases z2 : c' = c0
      · omega
      · rw [if_pos z1, if_neg z2] at q1
        exact absurd q1.symm (nw c' h3 h4)
    · rw [if_neg z1] at q1 q2
      by_cases z2 : c' = c0
      · rw [if_pos z2] at q1
        exact absurd q1 (nw c h1 h2)
      · rw [if_neg z2] at q1
        exact c2 c c' h1 h2 h3 h4 q1 q2
  · by_cases z : v = w
    · exact ⟨c0, c12, by show (if c0 = c0 then w else κ c0) = v; rw [if_pos rfl, z]⟩
    · rw [up_o h1 hw.1 z] at q1
      rw [heo v h1 z] at q2
      have q3 : t < g_he G P K v := by
        by_cases y : K = 1 ∧ g_rd G v = g_rd G w ∧ g_thr G (u_up P w t) (g_rd G w)
        · unfold g_he
          rw [if_pos y.1, y.2.1, if_neg (fun x : g_thr G P (g_rd G w) => x w hw.1 hw.2 rfl e)]
          omega
        · rw [if_neg y] at q2; exact q2
      obtain ⟨c, y1, y2⟩ := c3 v h1 h2 q1 q3
      have nc : c ≠ c0 := fun x => by
        rcases c1 c y1.1 y1.2 with q | q
        · omega
        · have := q.2.2.2.1
          rw [y2, x] at this
          omega
      exact ⟨c, y1, by show (if c = c0 then w else κ c) = v; rw [if_neg nc]; exact y2⟩
theorem KC_t {K : Int} {A B κ : Int → Int} {t u : Int} (C : KC G P K A B κ t) (h : t ≤ u) : KC G P K A B κ u := ⟨C.1, C.2.1, fun w h1 h2 h3 h4 => C.2.2 w h1 h2 h3 (by omega)⟩
theorem KC_0 {K : Int} {A B : Int → Int} {t : Int} (hA : ∀ c, 0 ≤ c → c < 12 → A c = 0) (hB : ∀ c, 0 ≤ c → c < 12 → B c = -9) : KC G (fun _ => -9) K A B (fun _ => -9) t := ⟨fun c h1 h2 => Or.inl ⟨rfl, hA c h1 h2, hB c h1 h2⟩, fun _ _ _ _ _ _ _ q => absurd rfl q, fun _ _ _ q => absurd rfl q⟩
theorem pi_t {t u : Int} (h : t ≤ u) (p : g_pi G P t) : g_pi G P u := fun w h1 h2 h3 => by
  have := p w h1 h2 h3
  exact ⟨this.1, by omega, this.2.2⟩
theorem pi_0 {t : Int} : g_pi G (fun _ => -9) t := fun _ _ _ q => absurd rfl q
theorem pi_up {t w : Int} (p : g_pi G P t) (hw : 0 ≤ w ∧ w < g_wm G) (ht : 0 ≤ t ∧ g_fr G (g_rd G w) ≤ t) (hti : t + g_mn G w ≤ g_ti G (g_rd G w)) : g_pi G (u_up P w t) t := fun v h1 h2 h3 => by
  by_cases c : v = w
  · subst c
    rw [up_e]
    exact ⟨ht, Int.le_refl _, hti⟩
  · rw [up_o h1 hw.1 c] at h3 ⊢
    exact p v h1 h2 h3
/-- not under a cushion all the while -/
theorem g_cf_un {w t : Int} (ht : 0 ≤ t) (h : t + g_mn G w ≤ 60) (hg : g_ok G) (hm : 0 < g_mn G w) : g_cf G w t = -9 ↔ ¬ g_un G (g_pt G w) t (g_mn G w) := by
  constructor
  · intro e q
    obtain ⟨k, h1, h2, h3, h4, h5⟩ := u_any_iff.mp q
    have ku := hg.2.2.2.2.1
    have kk := hg.2.2.2.2.2.2.2.2.2.2 k h1 (by omega)
    have c := g_cf_le (G := G) (w := w) (t := t) (m := max t (G 105 (Int.toNat (3 * k + 1)))) ht (by omega) (by omega) (by omega) (u_any_iff.mpr ⟨k, h1, h2, h3, by omega, by omega⟩)
    exact c.1 e
  · intro q
    refine Classical.byContradiction fun e => q ?_
    obtain ⟨c1, c2, c3, c4⟩ := g_cf_val ht e
    obtain ⟨k, h1, h2, h3, h4, h5⟩ := u_any_iff.mp c4
    exact u_any_iff.mpr ⟨k, h1, h2, h3, by omega, by omega⟩
end GR
