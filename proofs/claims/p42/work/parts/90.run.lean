/-! THE PAPER GOES ROUND BY A RULE: who is free, through, how long a copy is kept -/
def g_thr (G : u_G) (P : u_P) (r : Int) : Prop := ∀ w, 0 ≤ w → w < g_wm G → g_rd G w = r → P w ≠ -9
/-- what holds of a plan that comes by a rule, at minute t -/
def g_pi (G : u_G) (P : u_P) (t : Int) : Prop := ∀ w, 0 ≤ w → w < g_wm G → P w ≠ -9 → (0 ≤ P w ∧ g_fr G (g_rd G w) ≤ P w) ∧ P w ≤ t ∧ P w + g_mn G w ≤ g_ti G (g_rd G w)
noncomputable def g_he (G : u_G) (P : u_P) (K w : Int) : Int := if K = 1 then @ite _ (g_thr G P (g_rd G w)) (Classical.propDecidable _) (g_ws G P (g_rd G w)) (g_ti G (g_rd G w)) else P w + g_mn G w
section GR
variable {G : u_G} {P : u_P}
theorem wsf_le {r s : Int} : ∀ {n : Nat} {k : Int} {T : Int}, u_fold (g_wsf G P r) s k n ≤ T ↔ (s ≤ T ∧ ∀ w, k ≤ w → w < k + n → g_rd G w = r → P w ≠ -9 → P w + g_mn G w ≤ T)
  | 0, k, T => ⟨fun h => ⟨h, fun w h1 h2 => by omega⟩, fun h => h.1⟩
  | n + 1, k, T => by
    rw [u_fold_s, wsf_le]
    unfold g_wsf
    by_cases c : g_rd G k = r ∧ P k ≠ -9
    · rw [if_pos c]
      constructor
      · rintro ⟨a, b⟩
        refine ⟨by omega, fun w h1 h2 h3 h4 => ?_⟩
        by_cases e : w = k
        · subst e; omega
        · exact b w (by omega) (by omega) h3 h4
      · rintro ⟨a, b⟩
        have := b k (by omega) (by omega) c.1 c.2
        exact ⟨by omega, fun w h1 h2 h3 h4 => b w (by omega) (by omega) h3 h4⟩
    · rw [if_neg c]
      constructor
      · rintro ⟨a, b⟩
        refine ⟨a, fun w h1 h2 h3 h4 => ?_⟩
        by_cases e : w = k
        · subst e; exact absurd ⟨h3, h4⟩ c
        · exact b w (by omega) (by omega) h3 h4
      · rintro ⟨a, b⟩
        exact ⟨a, fun w h1 h2 h3 h4 => b w (by omega) (by omega) h3 h4⟩
theorem ws_le {r T : Int} (hw : 0 ≤ g_wm G) : g_ws G P r ≤ T ↔ (g_fr G r ≤ T ∧ ∀ w, 0 ≤ w → w < g_wm G → g_rd G w = r → P w ≠ -9 → P w + g_mn G w ≤ T) := by
  unfold g_ws
  rw [wsf_le]
  constructor
  · rintro ⟨a, b⟩
    exact ⟨a, fun w h1 h2 => b w h1 (by omega)⟩
  · rintro ⟨a, b⟩
    exact ⟨a, fun w h1 h2 => b w h1 (by omega)⟩
theorem ws_ge {r : Int} (hw : 0 ≤ g_wm G) : g_fr G r ≤ g_ws G P r ∧ ∀ w, 0 ≤ w → w < g_wm G → g_rd G w = r → P w ≠ -9 → P w + g_mn G w ≤ g_ws G P r := (ws_le hw).mp (Int.le_refl _)
/-- the reader is free -/
theorem ws_free {r t : Int} (hw : 0 ≤ g_wm G) (hp : g_pi G P t) : g_ws G P r ≤ t ↔ (g_fr G r ≤ t ∧ ¬ g_does G P r t (-9)) := by
  rw [ws_le hw]
  constructor
  · rintro ⟨a, b⟩
    refine ⟨a, fun q => ?_⟩
    obtain ⟨w, h1, h2, h3, h4, h5⟩ := u_any_iff.mp q
    have := b w h1 (by omega) h4 h5.1
    have := h5.2.2
    omega
  · rintro ⟨a, b⟩
    refine ⟨a, fun w h1 h2 h3 h4 => ?_⟩
    rcases Int.lt_or_le t (P w + g_mn G w) with q | q
    · exact absurd (u_any_iff.mpr ⟨w, h1, by omega, by omega, h3, h4, (hp w h1 h2 h4).2.1, q⟩) b
    · exact q
/-- another beginning -/
theorem ws_up {w t : Int} (hg : g_ok G) (hw : 0 ≤ w ∧ w < g_wm G) (e : P w = -9) (ht : 0 ≤ t) (hf : g_ws G P (g_rd G w) ≤ t) {r : Int} : g_ws G (u_up P w t) r = if r = g_rd G w then t + g_mn G w else g_ws G P r := by
  have kw := hg.2.2.1
  have km := (hg.2.2.2.2.2.2.2.2.1 w hw.1 hw.2).2.2.1
  have up : ∀ v, 0 ≤ v → u_up P w t v = if v = w then t else P v := fun v hv => by
    unfold u_up
    by_cases c : v = w
    · rw [if_pos c, if_pos (by omega)]
    · rw [if_neg c, if_neg (by omega)]
  have key : ∀ T, g_ws G (u_up P w t) r ≤ T ↔ (if r = g_rd G w then t + g_mn G w else g_ws G P r) ≤ T := fun T => by
    rw [ws_le kw.1]
    by_cases c : r = g_rd G w
    · rw [if_pos c]
      have f := (ws_le kw.1).mp hf
      rw [← c] at f
      constructor
      · rintro ⟨a, b⟩
        have := b w hw.1 hw.2 c.symm (by rw [up w hw.1, if_pos rfl]; omega)
        rw [up w hw.1, if_pos rfl] at this
        exact this
      · intro q
        refine ⟨by omega, fun v h1 h2 h3 h4 => ?_⟩
        rw [up v h1] at h4 ⊢
        by_cases c2 : v = w
        · rw [if_pos c2, c2]; exact q
        · rw [if_neg c2] at h4 ⊢
          have := f.2 v h1 h2 h3 h4
          omega
    · rw [if_neg c, ws_le kw.1]
      refine and_congr Iff.rfl ?_
      constructor
      · intro b v h1 h2 h3 h4
        have c2 : v ≠ w := fun q => c (by rw [← q]; exact h3.symm)
        have := b v h1 h2 h3 (by rw [up v h1, if_neg c2]; exact h4)
        rwa [up v h1, if_neg c2] at this
      · intro b v h1 h2 h3 h4
        have c2 : v ≠ w := fun q => c (by rw [← q]; exact h3.symm)
        rw [up v h1, if_neg c2] at h4 ⊢
        exact b v h1 h2 h3 h4
  exact Int.le_antisymm ((key _).mpr (Int.le_refl _)) ((key _).mp (Int.le_refl _))
theorem up_e {w t : Int} : u_up P w t w = t := if_pos rfl
theorem up_o {w t v : Int} (h1 : 0 ≤ v) (h2 : 0 ≤ w) (h3 : v ≠ w) : u_up P w t v = P v := if_neg (by omega)
theorem ws_ti {r t : Int} (hg : g_ok G) (hp : g_pi G P t) (hr : 0 ≤ r ∧ r < g_rm G) : g_ws G P r ≤ g_ti G r := by
  have kw := hg.2.2.1
  rw [ws_le kw.1]
  have := (hg.2.2.2.2.2.2.2.1 r hr.1 hr.2).1
  exact ⟨by omega, fun w h1 h2 h3 h4 => by rw [← h3]; exact (hp w h1 h2 h4).2.2⟩
theorem has_iff {w t : Int} (hg : g_ok G) (hp : g_pi G P t) (hw : 0 ≤ w ∧ w < g_wm G) (e : P w ≠ -9) : g_has G P (g_rd G w) t ↔ (g_thr G P (g_rd G w) ∧ g_ws G P (g_rd G w) ≤ t) := by
  have kw := hg.2.2.1
  have := hp w hw.1 hw.2 e
  unfold g_has
  rw [u_all_iff, ws_le kw.1]
  constructor
  · intro b
    exact ⟨fun v h1 h2 h3 => (b v h1 (by omega) h3).1, by omega, fun v h1 h2 h3 _ => (b v h1 (by omega) h3).2⟩
  · rintro ⟨a, b, c⟩ v h1 h2 h3
    exact ⟨a v h1 (by omega) h3, c v h1 (by omega) h3 (a v h1 (by omega) h3)⟩
/-- a copy is taken as long as that -/
theorem tk_he {K w t : Int} (hg : g_ok G) (hp : g_pi G P t) (hK : K = 0 ∨ K = 1) (hw : 0 ≤ w ∧ w < g_wm G) : (g_rg G P w t ∨ (K = 1 ∧ g_kep G P w t)) ↔ (P w ≠ -9 ∧ t < g_he G P K w) := by
  have kw := hg.2.2.1
  have km := (hg.2.2.2.2.2.2.2.2.1 w hw.1 hw.2)
  by_cases e : P w = -9
  · exact ⟨fun q => q.elim (fun q => absurd e q.1) (fun q => absurd e q.2.1), fun q => absurd e q.1⟩
  have pw := hp w hw.1 hw.2 e
  rcases hK with rfl | rfl
  · unfold g_he g_rg
    rw [if_neg (by omega)]
    constructor
    · rintro (q | q)
      · exact ⟨q.1, q.2.2⟩
      · exact absurd q.1 (by omega)
    · rintro ⟨a, b⟩
      exact Or.inl ⟨a, pw.2.1, b⟩
  · have wt := ws_ti hg hp km.1
    have wg := (ws_ge (P := P) (r := g_rd G w) kw.1).2 w hw.1 hw.2 rfl e
    have hi := has_iff hg hp hw e
    unfold g_he g_rg g_kep
    rw [if_pos rfl, hi]
    by_cases c : g_thr G P (g_rd G w)
    · rw [if_pos c]
      constructor
      · rintro (q | q)
        · exact ⟨e, by have := q.2.2; omega⟩
        · refine ⟨e, ?_⟩
          rcases Int.lt_or_le t (g_ws G P (g_rd G w)) with z | z
          · exact z
          · exact absurd ⟨c, z⟩ q.2.2.2.2
      · rintro ⟨a, b⟩
        exact Or.inr ⟨rfl, e, pw.2.1, by omega, fun z => by have := z.2; omega⟩
    · rw [if_neg c]
      constructor
      · rintro (q | q)
        · exact ⟨e, by have := q.2.2; omega⟩
        · exact ⟨e, q.2.2.2.1⟩
      · rintro ⟨a, b⟩
        exact Or.inr ⟨rfl, e, pw.2.1, b, fun z => c z.1⟩
end GR
/-- the copies: when free (A), who had them last (B); which want (κ) -/
def KC (G : u_G) (P : u_P) (K : Int) (A B : Int → Int) (κ : Int → Int) (t : Int) : Prop :=
  (∀ c, 0 ≤ c → c < 12 → (κ c = -9 ∧ A c = 0 ∧ B c = -9) ∨ ((0 ≤ κ c ∧ κ c < g_wm G) ∧ P (κ c) ≠ -9 ∧ (2 * g_pt G (κ c) ≤ c ∧ c < 2 * g_pt G (κ c) + g_cp G (g_pt G (κ c))) ∧ A c = g_he G P K (κ c) ∧ B c = g_rd G (κ c))) ∧
  (∀ c c', 0 ≤ c → c < 12 → 0 ≤ c' → c' < 12 → κ c = κ c' → κ c ≠ -9 → c = c') ∧
  (∀ w, 0 ≤ w → w < g_wm G → P w ≠ -9 → t < g_he G P K w → ∃ c, (0 ≤ c ∧ c < 12) ∧ κ c = w)
theorem KC_tk {G : u_G} {P : u_P} {K : Int} {A B κ : Int → Int} {t p : Int} (C : KC G P K A B κ t) (hg : g_ok G) (hp : g_pi G P t) (hK : K = 0 ∨ K = 1) (ht : 0 ≤ t) (pp : 0 ≤ p ∧ p < g_pm G) : g_tk G P K p t < g_cp G p ↔ (A (2 * p) ≤ t ∨ (g_cp G p = 2 ∧ A (2 * p + 1) ≤ t)) := by
  obtain ⟨c1, c2, c3⟩ := C
  have kp := hg.1
  have kw := hg.2.2.1
  have cpp := (hg.2.2.2.2.2.2.1 p pp.1 pp.2).1
  have X1 := c1 (2 * p) (by omega) (by omega)
  have X2 := c1 (2 * p + 1) (by omega) (by omega)
  have inj := c2 (2 * p) (2 * p + 1) (by omega) (by omega) (by omega) (by omega)
  generalize eA : (if t < A (2 * p) then κ (2 * p) else -9) = a
  generalize eB : (if g_cp G p = 2 ∧ t < A (2 * p + 1) then κ (2 * p + 1) else -9) = b
  have ha : (t < A (2 * p) ∧ a = κ (2 * p) ∧ (0 ≤ a ∧ a < g_wm G)) ∨ (A (2 * p) ≤ t ∧ a = -9) := by
    by_cases z : t < A (2 * p)
    · rw [if_pos z] at eA
      refine Or.inl ⟨z, eA.symm, ?_⟩
      rcases X1 with q | q
      · omega
      · rw [← eA]; exact q.1
    · rw [if_neg z] at eA
      exact Or.inr ⟨by omega, eA.symm⟩
  have hb : ((g_cp G p = 2 ∧ t < A (2 * p + 1)) ∧ b = κ (2 * p + 1) ∧ (0 ≤ b ∧ b < g_wm G)) ∨ (¬ (g_cp G p = 2 ∧ t < A (2 * p + 1)) ∧ b = -9) := by
    by_cases z : g_cp G p = 2 ∧ t < A (2 * p + 1)
    · rw [if_pos z] at eB
      refine Or.inl ⟨z, eB.symm, ?_⟩
      rcases X2 with q | q
      · omega
      · rw [← eB]; exact q.1
    · rw [if_neg z] at eB
      exact Or.inr ⟨z, eB.symm⟩
  have key : g_tk G P K p t = u_sum (fun w => (0 + if w = a then 1 else 0) + if w = b then 1 else 0) 0 (g_wm G).toNat := u_sum_cg fun w h1 h2 => by
    have th := tk_he (w := w) hg hp hK ⟨h1, by omega⟩
    by_cases ea : w = a
    · rcases ha with ⟨z1, z2, z3⟩ | ⟨z1, z2⟩
      · have nb : w ≠ b := fun q => by
          rcases hb with ⟨y1, y2, y3⟩ | ⟨y1, y2⟩
          · have := inj (by omega) (by omega); omega
          · omega
        rw [if_pos ea, if_neg nb]
        rcases X1 with q | q
        · omega
        · obtain ⟨q1, q2, q3, q4, q5⟩ := q
          rw [← z2, ← ea] at q2 q3 q4
          have pk := (hg.2.2.2.2.2.2.2.2.1 w h1 (by omega)).2.1
          have cpk := (hg.2.2.2.2.2.2.1 _ pk.1 pk.2).1
          have ept : g_pt G w = p := by omega
          exact bi_t ⟨ept, th.mpr ⟨q2, by omega⟩⟩
      · omega
    · by_cases eb : w = b
      · rcases hb with ⟨z1, z2, z3⟩ | ⟨z1, z2⟩
        · rw [if_neg ea, if_pos eb]
          rcases X2 with q | q
          · omega
          · obtain ⟨q1, q2, q3, q4, q5⟩ := q
            rw [← z2, ← eb] at q2 q3 q4
            have pk := (hg.2.2.2.2.2.2.2.2.1 w h1 (by omega)).2.1
            have cpk := (hg.2.2.2.2.2.2.1 _ pk.1 pk.2).1
            have ept : g_pt G w = p := by omega
            exact bi_t ⟨ept, th.mpr ⟨q2, by omega⟩⟩
        · omega
      · rw [if_neg ea, if_neg eb]
        refine bi_f fun q => ?_
        obtain ⟨q1, q2⟩ := q
        obtain ⟨q2, q3⟩ := th.mp q2
        obtain ⟨c, y1, y2⟩ := c3 w h1 (by omega) q2 q3
        rcases c1 c y1.1 y1.2 with z | z
        · omega
        · obtain ⟨z1, z2, z3, z4, z5⟩ := z
          rw [y2] at z3 z4
          rw [q1] at z3
          rcases (show c = 2 * p ∨ c = 2 * p + 1 by omega) with e | e
          · subst e
            rcases ha with ⟨x1, x2, x3⟩ | ⟨x1, x2⟩
            · omega
            · omega
          · subst e
            rcases hb with ⟨x1, x2, x3⟩ | ⟨x1, x2⟩
            · omega
            · omega
  rw [key, u_sum_ind (g := fun w => 0 + if w = a then 1 else 0), u_sum_ind (g := fun _ => 0), u_sum_z]
  rcases ha with ⟨z1, z2, z3⟩ | ⟨z1, z2⟩
  · rw [if_pos (by omega)]
    rcases hb with ⟨y1, y2, y3⟩ | ⟨y1, y2⟩
    · rw [if_pos (by omega)]; omega
    · rw [if_neg (by omega)]; omega
  · rw [if_neg (by omega)]
    rcases hb with ⟨y1, y2, y3⟩ | ⟨y1, y2⟩
    · rw [if_pos (by omega)]; omega
    · rw [if_neg (by omega)]; omega
