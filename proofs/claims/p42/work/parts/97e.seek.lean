/-! THE BEST OF ALL: rows of wants, looked at one after the other; what no longer row is below -/
def q_fc (G : u_G) (E : Int → Int) (p : Int) : Int := if g_cp G p = 2 ∧ E (2 * p + 1) < E (2 * p) then 2 * p + 1 else 2 * p
def q_lo (G : u_G) (b0 : Int) (P : u_P) (E : Int → Int) (w : Int) : Int := max (max b0 (E (q_fc G E (g_pt G w)))) (max (g_ws G P (g_rd G w)) (g_cm G (g_pt G w)))
def q_hi (G : u_G) (w : Int) : Int := min (g_ti G (g_rd G w)) (g_la G) - g_mn G w
def q_let (G : u_G) (P : u_P) (w t : Int) : Prop := ¬ g_spo G P w t ∧ ∀ v, 0 ≤ v → v < g_wm G → g_pt G v = g_pt G w → P v ≠ -9 → t < P v → ¬ g_na G (g_rd G v) (g_rd G w) (g_pt G w)
def q_ok (G : u_G) (P : u_P) (w t : Int) : Prop := ¬ g_un G (g_pt G w) t (g_mn G w) ∧ q_let G P w t
noncomputable def q_t (G : u_G) (b0 : Int) (P : u_P) (E : Int → Int) (w : Int) : Int := u_find (q_ok G P w) (q_lo G b0 P E w) (q_hi G w + 1 - q_lo G b0 P E w).toNat
def q_nx (G : u_G) (oc : Int) (P : u_P) (w : Int) : Prop := oc = 1 → g_or G (g_rd G w) = 1 → ∀ v, 0 ≤ v → v < w → g_rd G v = g_rd G w → P v ≠ -9
def q_ch (G : u_G) (L : Int → Prop) (b0 oc : Int) (P : u_P) (E : Int → Int) (w : Int) : Prop := (L w ∧ P w = -9) ∧ q_nx G oc P w ∧ q_t G b0 P E w ≠ -9
def q_up (G : u_G) (E : Int → Int) (w t : Int) : Int → Int := fun c => if c = q_fc G E (g_pt G w) then t + g_mn G w else E c
noncomputable def q_lk (G : u_G) (L : Int → Prop) (P : u_P) : Int := u_sum (fun w => @ite _ (L w) (Classical.propDecidable _) (g_ls G P w) 0) 0 (g_wm G).toNat
noncomputable def q_lr (G : u_G) (L : Int → Prop) (P : u_P) (r : Int) : Int := u_sum (fun w => @ite _ (L w ∧ g_rd G w = r) (Classical.propDecidable _) (g_ls G P w) 0) 0 (g_wm G).toNat
noncomputable def q_ov (G : u_G) (b0 : Int) (P : u_P) (E : Int → Int) (w : Int) : Int := if P w = -9 then g_wo G w - (if q_t G b0 P E w = -9 then 0 else g_wa G w (q_t G b0 P E w)) else g_ls G P w
noncomputable def q_hk (G : u_G) (L : Int → Prop) (b0 : Int) (P : u_P) (E : Int → Int) : Int := u_sum (fun w => @ite _ (L w) (Classical.propDecidable _) (q_ov G b0 P E w) 0) 0 (g_wm G).toNat
noncomputable def q_hr (G : u_G) (L : Int → Prop) (b0 : Int) (P : u_P) (E : Int → Int) (r : Int) : Int := u_sum (fun w => @ite _ (L w ∧ g_rd G w = r) (Classical.propDecidable _) (q_ov G b0 P E w) 0) 0 (g_wm G).toNat
def q_mx (f : Int → Int) (n : Nat) : Int := u_fold (fun s r => max s (f r)) 0 0 n
def q_re (G : u_G) (P : u_P) (r : Int) : Int := u_fold (g_wsf G P r) 0 0 (g_wm G).toNat
def q_end (G : u_G) (P : u_P) : Int := q_mx (q_re G P) 8
def q_all (G : u_G) (L : Int → Prop) (b0 : Int) (P : u_P) (E : Int → Int) : Prop := ∀ w, 0 ≤ w → w < g_wm G → L w → P w = -9 → q_t G b0 P E w ≠ -9
noncomputable def q_he (G : u_G) (L : Int → Prop) (b0 : Int) (P : u_P) (E : Int → Int) : Int := u_fold (fun s w => @ite _ (L w ∧ P w = -9) (Classical.propDecidable _) (max s (q_t G b0 P E w + g_mn G w)) s) (q_end G P) 0 (g_wm G).toNat
/-- a row's value -/
noncomputable def q_v (G : u_G) (L : Int → Prop) (wt : Int) (P : u_P) : Int := if wt = 0 then q_lk G L P else if wt = 1 then q_end G P else if wt = 2 then q_mx (q_lr G L P) 8 else 0
/-- below that no longer row's value is -/
noncomputable def q_h (G : u_G) (L : Int → Prop) (b0 wt : Int) (P : u_P) (E : Int → Int) : Int := if wt = 0 then q_hk G L b0 P E else if wt = 1 then @ite _ (q_all G L b0 P E) (Classical.propDecidable _) (q_he G L b0 P E) 1000000 else if wt = 2 then q_mx (q_hr G L b0 P E) 8 else @ite _ (q_all G L b0 P E) (Classical.propDecidable _) 0 1000000
abbrev q_A := Int × Int × u_P
noncomputable def q_vis (G : u_G) (L : Int → Prop) (wt : Int) (m : u_P → Int) (n : Nat) (P : u_P) (A : q_A) : q_A := if (wt = 1 ∨ wt = 3) ∧ n ≠ 0 then A else if A.1 < 0 ∨ q_v G L wt P < A.1 then (q_v G L wt P, m P, P) else A
noncomputable def q_tr (G : u_G) (L : Int → Prop) (b0 oc wt : Int) (m : u_P → Int) : Nat → u_P → (Int → Int) → q_A → q_A
  | 0, P, _, A => q_vis G L wt m 0 P A
  | n + 1, P, E, A => u_fold (fun A w => @ite _ (q_ch G L b0 oc P E w) (Classical.propDecidable _) (q_tr G L b0 oc wt m n (u_up P w (q_t G b0 P E w)) (q_up G E w (q_t G b0 P E w)) A) A) (q_vis G L wt m (n + 1) P A) 0 (g_wm G).toNat
def q_in (G : u_G) (P : u_P) (E : Int → Int) : Prop := (∀ w, 0 ≤ w → w < g_wm G → P w ≠ -9 → 0 ≤ P w ∧ P w + g_mn G w ≤ 60) ∧ ∀ c, 0 ≤ c → c < 12 → 0 ≤ E c ∧ E c ≤ 60
section QS
variable {G : u_G} {L : Int → Prop} {b0 oc wt : Int} {P : u_P} {E : Int → Int} {w t : Int}
theorem mx_le {f : Int → Int} : ∀ {n : Nat} {k s T : Int}, u_fold (fun s r => max s (f r)) s k n ≤ T ↔ (s ≤ T ∧ ∀ r, k ≤ r → r < k + n → f r ≤ T)
  | 0, k, s, T => ⟨fun h => ⟨h, fun r h1 h2 => by omega⟩, fun h => h.1⟩
  | n + 1, k, s, T => by
    rw [u_fold_s, mx_le]
    constructor
    · rintro ⟨a, b⟩
      refine ⟨by omega, fun r h1 h2 => ?_⟩
      by_cases e : r = k
      · subst e; omega
      · exact b r (by omega) (by omega)
    · rintro ⟨a, b⟩
      have := b k (by omega) (by omega)
      exact ⟨by omega, fun r h1 h2 => b r (by omega) (by omega)⟩
theorem q_mx_le {f : Int → Int} {n : Nat} {T : Int} : q_mx f n ≤ T ↔ (0 ≤ T ∧ ∀ r, 0 ≤ r → r < (n : Int) → f r ≤ T) := by
  unfold q_mx
  rw [mx_le]
  exact and_congr Iff.rfl ⟨fun b r h1 h2 => b r h1 (by omega), fun b r h1 h2 => b r h1 (by omega)⟩
theorem q_re_le {r T : Int} (hw : 0 ≤ g_wm G) : q_re G P r ≤ T ↔ (0 ≤ T ∧ ∀ w, 0 ≤ w → w < g_wm G → g_rd G w = r → P w ≠ -9 → P w + g_mn G w ≤ T) := by
  unfold q_re
  rw [wsf_le]
  exact and_congr Iff.rfl ⟨fun b w h1 h2 => b w h1 (by omega), fun b w h1 h2 => b w h1 (by omega)⟩
theorem q_re_ws {r : Int} (hg : g_ok G) (hr : 0 ≤ r ∧ r < g_rm G) : max (q_re G P r) (g_fr G r) = g_ws G P r := by
  have kw := hg.2.2.1
  have fr := (hg.2.2.2.2.2.2.2.1 r hr.1 hr.2).1.1
  have key : ∀ T, max (q_re G P r) (g_fr G r) ≤ T ↔ g_ws G P r ≤ T := fun T => by
    have a := q_re_le (P := P) (r := r) (T := T) kw.1
    have b := ws_le (P := P) (r := r) (T := T) kw.1
    constructor
    · intro q
      exact b.mpr ⟨by omega, (a.mp (by omega)).2⟩
    · intro q
      have c := b.mp q
      have := a.mpr ⟨by omega, c.2⟩
      omega
  exact Int.le_antisymm ((key _).mpr (Int.le_refl _)) ((key _).mp (Int.le_refl _))
theorem q_re_up (hg : g_ok G) (hw : 0 ≤ w ∧ w < g_wm G) (e : P w = -9) (ht : 0 ≤ t) (hf : g_ws G P (g_rd G w) ≤ t) {r : Int} : q_re G (u_up P w t) r = if r = g_rd G w then t + g_mn G w else q_re G P r := by
  have kw := hg.2.2.1
  have km := (hg.2.2.2.2.2.2.2.2.1 w hw.1 hw.2).2.2.1
  have key : ∀ T, q_re G (u_up P w t) r ≤ T ↔ (if r = g_rd G w then t + g_mn G w else q_re G P r) ≤ T := fun T => by
    rw [q_re_le kw.1]
    by_cases c : r = g_rd G w
    · rw [if_pos c]
      have f := (ws_le kw.1).mp hf
      rw [← c] at f
      constructor
      · rintro ⟨a, b⟩
        have := b w hw.1 hw.2 c.symm (by rw [up_e]; omega)
        rwa [up_e] at this
      · intro q
        refine ⟨by omega, fun v h1 h2 h3 h4 => ?_⟩
        by_cases c2 : v = w
        · rw [c2, up_e]; exact q
        · rw [up_o h1 hw.1 c2] at h4 ⊢
          have := f.2 v h1 h2 h3 h4
          omega
    · rw [if_neg c, q_re_le kw.1]
      refine and_congr Iff.rfl ⟨fun b v h1 h2 h3 h4 => ?_, fun b v h1 h2 h3 h4 => ?_⟩
      · have c2 : v ≠ w := fun q => c (by rw [← q]; exact h3.symm)
        have := b v h1 h2 h3 (by rw [up_o h1 hw.1 c2]; exact h4)
        rwa [up_o h1 hw.1 c2] at this
      · have c2 : v ≠ w := fun q => c (by rw [← q]; exact h3.symm)
        rw [up_o h1 hw.1 c2] at h4 ⊢
        exact b v h1 h2 h3 h4
  exact Int.le_antisymm ((key _).mpr (Int.le_refl _)) ((key _).mp (Int.le_refl _))
/-- where a want comes next -/
theorem q_t_in (hg : g_ok G) (hw : 0 ≤ w ∧ w < g_wm G) (h : q_t G b0 P E w ≠ -9) (hb : 0 ≤ b0) : (q_lo G b0 P E w ≤ q_t G b0 P E w ∧ q_t G b0 P E w ≤ q_hi G w) ∧ q_ok G P w (q_t G b0 P E w) := by
  have lb : 0 ≤ q_lo G b0 P E w := by unfold q_lo; omega
  obtain ⟨a, b, c, -⟩ := u_find_val (p := q_ok G P w) (k := q_lo G b0 P E w) (n := (q_hi G w + 1 - q_lo G b0 P E w).toNat) lb h
  have a' : q_lo G b0 P E w ≤ q_t G b0 P E w := a
  have b' : q_t G b0 P E w < q_lo G b0 P E w + ((q_hi G w + 1 - q_lo G b0 P E w).toNat : Int) := b
  exact ⟨⟨a', by omega⟩, c⟩
theorem q_t_le (hb : 0 ≤ b0) {s : Int} (h1 : q_lo G b0 P E w ≤ s) (h2 : s ≤ q_hi G w) (h3 : q_ok G P w s) : q_t G b0 P E w ≠ -9 ∧ q_t G b0 P E w ≤ s := by
  have lb : 0 ≤ q_lo G b0 P E w := by unfold q_lo; omega
  have ne : q_t G b0 P E w ≠ -9 := fun q => (u_find_none (p := q_ok G P w) (k := q_lo G b0 P E w) (n := (q_hi G w + 1 - q_lo G b0 P E w).toNat) lb).mp q s h1 (by omega) h3
  refine ⟨ne, ?_⟩
  obtain ⟨a, b, c, d⟩ := u_find_val (p := q_ok G P w) (k := q_lo G b0 P E w) (n := (q_hi G w + 1 - q_lo G b0 P E w).toNat) lb ne
  rcases Int.lt_or_le s (q_t G b0 P E w) with q | q
  · exact absurd h3 (d s h1 q)
  · exact q
/-- what a placed want makes of the others' copies -/
theorem q_fc_r (hg : g_ok G) {p : Int} (hp : 0 ≤ p ∧ p < g_pm G) : 2 * p ≤ q_fc G E p ∧ q_fc G E p < 2 * p + g_cp G p ∧ E (q_fc G E p) ≤ E (2 * p) ∧ (g_cp G p = 2 → E (q_fc G E p) ≤ E (2 * p + 1)) := by
  have c := (hg.2.2.2.2.2.2.1 p hp.1 hp.2).1
  unfold q_fc
  by_cases z : g_cp G p = 2 ∧ E (2 * p + 1) < E (2 * p)
  · rw [if_pos z]; exact ⟨by omega, by omega, by omega, fun _ => Int.le_refl _⟩
  · rw [if_neg z]; exact ⟨by omega, by omega, Int.le_refl _, fun q => by omega⟩
theorem q_fc_up (hg : g_ok G) (hw : 0 ≤ w ∧ w < g_wm G) (ht : E (q_fc G E (g_pt G w)) ≤ t + g_mn G w) {p : Int} (hp : 0 ≤ p ∧ p < g_pm G) : E (q_fc G E p) ≤ q_up G E w t (q_fc G (q_up G E w t) p) := by
  have c := (hg.2.2.2.2.2.2.1 p hp.1 hp.2).1
  have r1 := q_fc_r (E := E) hg hp
  have r2 := q_fc_r (E := q_up G E w t) hg hp
  have ge : ∀ c, E c ≤ q_up G E w t c := fun c => by
    unfold q_up
    by_cases z : c = q_fc G E (g_pt G w)
    · rw [if_pos z, z]; exact ht
    · rw [if_neg z]; exact Int.le_refl _
  have := ge (q_fc G (q_up G E w t) p)
  rcases (show q_fc G (q_up G E w t) p = 2 * p ∨ (g_cp G p = 2 ∧ q_fc G (q_up G E w t) p = 2 * p + 1) by omega) with z | z
  · rw [z] at this ⊢; omega
  · rw [z.2] at this ⊢
    have := r1.2.2.2 z.1
    omega
theorem spo_up (hw : 0 ≤ w ∧ w < g_wm G) (e : P w = -9) {v s : Int} (h : g_spo G P v s) : g_spo G (u_up P w t) v s := by
  obtain ⟨x, h1, h2, h3, h4, h5, h6⟩ := u_any_iff.mp h
  have nx : x ≠ w := fun q => h4 (by rw [q]; exact e)
  exact u_any_iff.mpr ⟨x, h1, h2, h3, by rw [up_o h1 hw.1 nx]; exact h4, by rw [up_o h1 hw.1 nx]; exact h5, h6⟩
/-- one placed: the others begin later, or never -/
theorem q_t_up (hg : g_ok G) (hb : 0 ≤ b0) (hw : 0 ≤ w ∧ w < g_wm G) (e : P w = -9) (hc : q_t G b0 P E w ≠ -9) {v : Int} (hv : 0 ≤ v ∧ v < g_wm G) : q_t G b0 (u_up P w (q_t G b0 P E w)) (q_up G E w (q_t G b0 P E w)) v = -9 ∨ (q_t G b0 P E v ≠ -9 ∧ q_t G b0 P E v ≤ q_t G b0 (u_up P w (q_t G b0 P E w)) (q_up G E w (q_t G b0 P E w)) v) := by
  have kw := hg.2.2.1
  obtain ⟨⟨i1, i2⟩, i3⟩ := q_t_in hg hw hc hb
  generalize q_t G b0 P E w = t at *
  have km := (hg.2.2.2.2.2.2.2.2.1 w hw.1 hw.2)
  have kv := (hg.2.2.2.2.2.2.2.2.1 v hv.1 hv.2)
  have t0 : 0 ≤ t ∧ g_ws G P (g_rd G w) ≤ t ∧ E (q_fc G E (g_pt G w)) ≤ t := by unfold q_lo at i1; omega
  by_cases z : q_t G b0 (u_up P w t) (q_up G E w t) v = -9
  · exact Or.inl z
  · obtain ⟨⟨j1, j2⟩, j3⟩ := q_t_in hg hv z hb
    refine Or.inr (q_t_le hb ?_ j2 ⟨j3.1, ⟨fun q => j3.2.1 (spo_up hw e q), fun x x1 x2 x3 x4 x5 => ?_⟩⟩)
    · have f := q_fc_up (E := E) hg hw (show E (q_fc G E (g_pt G w)) ≤ t + g_mn G w by omega) kv.2.1
      have wsu := ws_up (r := g_rd G v) hg hw e t0.1 t0.2.1
      have wl : g_ws G P (g_rd G v) ≤ g_ws G (u_up P w t) (g_rd G v) := by
        rw [wsu]
        by_cases c : g_rd G v = g_rd G w
        · rw [if_pos c, c]; omega
        · rw [if_neg c]; exact Int.le_refl _
      unfold q_lo at j1 ⊢
      omega
    · have nx : x ≠ w := fun q => x4 (by rw [q]; exact e)
      exact j3.2.2 x x1 x2 x3 (by rw [up_o x1 hw.1 nx]; exact x4) (by rw [up_o x1 hw.1 nx]; exact x5)
theorem g_wa_mono {u : Int} (hg : g_ok G) (hw : 0 ≤ w ∧ w < g_wm G) (ht : 0 ≤ t) (h : t ≤ u) : g_wa G w u ≤ g_wa G w t := by
  have km := (hg.2.2.2.2.2.2.2.2.1 w hw.1 hw.2)
  have sl := (hg.2.2.2.2.2.2.1 _ km.2.1.1 km.2.1.2).2.2
  have d : Int.tdiv t 10 ≤ Int.tdiv u 10 := by
    rw [Int.tdiv_eq_ediv_of_nonneg ht, Int.tdiv_eq_ediv_of_nonneg (show 0 ≤ u by omega)]
    omega
  have := Int.mul_le_mul_of_nonneg_left d sl.1
  unfold g_wa
  omega
theorem q_ov_up (hg : g_ok G) (hb : 0 ≤ b0) (hw : 0 ≤ w ∧ w < g_wm G) (e : P w = -9) (hc : q_t G b0 P E w ≠ -9) {v : Int} (hv : 0 ≤ v ∧ v < g_wm G) : q_ov G b0 P E v ≤ q_ov G b0 (u_up P w (q_t G b0 P E w)) (q_up G E w (q_t G b0 P E w)) v := by
  have mu := q_t_up hg hb hw e hc hv
  obtain ⟨⟨i1, i2⟩, i3⟩ := q_t_in hg hw hc hb
  have lb : ∀ {P : u_P} {E : Int → Int} {w : Int}, 0 ≤ q_lo G b0 P E w := by intros; unfold q_lo; omega
  have lbw := lb (P := P) (E := E) (w := w)
  by_cases c : v = w
  · subst c
    unfold q_ov g_ls
    rw [if_pos e, up_e, if_neg hc, if_neg hc]
    exact Int.le_refl _
  · unfold q_ov
    by_cases z : P v = -9
    · rw [up_o hv.1 hw.1 c, if_pos z, if_pos z]
      rcases mu with m | m
      · rw [if_pos m]
        by_cases y : q_t G b0 P E v = -9
        · rw [if_pos y]; exact Int.le_refl _
        · rw [if_neg y]
          have y2 := (q_t_in hg hv y hb).1.1
          have := g_wa_bd hg (w := v) (t := q_t G b0 P E v) hv (by have := lb (P := P) (E := E) (w := v); omega)
          omega
      · have y2 := (q_t_in hg hv m.1 hb).1.1
        have l0 := lb (P := P) (E := E) (w := v)
        have mm := g_wa_mono (w := v) hg hv (t := q_t G b0 P E v) (by omega) m.2
        rw [if_neg m.1, if_neg (by omega)]
        omega
    · unfold g_ls
      rw [up_o hv.1 hw.1 c, if_neg z, if_neg z, if_neg z]
      exact Int.le_refl _
theorem q_ov_ls (hg : g_ok G) (hb : 0 ≤ b0) (hv : 0 ≤ w ∧ w < g_wm G) : q_ov G b0 P E w ≤ g_ls G P w := by
  unfold q_ov g_ls
  by_cases z : P w = -9
  · rw [if_pos z, if_pos z]
    by_cases y : q_t G b0 P E w = -9
    · rw [if_pos y]; exact Int.le_refl _
    · rw [if_neg y]
      have y2 := (q_t_in hg hv y hb).1.1
      have lb : 0 ≤ q_lo G b0 P E w := by unfold q_lo; omega
      have := g_wa_bd hg (w := w) (t := q_t G b0 P E w) hv (by omega)
      omega
  · rw [if_neg z]; exact Int.le_refl _
end QS
