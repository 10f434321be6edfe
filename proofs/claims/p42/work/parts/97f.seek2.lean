/-! THE BEST OF ALL: what needn't be looked at -/
theorem u_fold_iv {α : Type} {F : α → Int → α} {I : α → Prop} : ∀ {n : Nat} {k : Int} {a : α}, I a → (∀ b j, k ≤ j → j < k + n → I b → I (F b j)) → I (u_fold F a k n)
  | 0, _, _, h, _ => h
  | n + 1, k, a, h, f => by
    rw [u_fold_s]
    exact u_fold_iv (f a k (by omega) (by omega) h) fun b j h1 h2 => f b j (by omega) (by omega)
theorem u_fold_same {α : Type} {F : α → Int → α} {a : α} {k : Int} {n : Nat} (h : ∀ j, k ≤ j → j < k + n → F a j = a) : u_fold F a k n = a := u_fold_iv (I := fun b => b = a) rfl fun b j h1 h2 e => by
  rw [e]; exact h j h1 h2
noncomputable def q_lf (G : u_G) (L : Int → Prop) (P : u_P) : Int := u_sum (fun w => y_bi (L w ∧ P w = -9)) 0 (g_wm G).toNat
def q_best (A : q_A) : Int := if A.1 < 0 then 1000000 else A.1
def q_good (G : u_G) (A : q_A) : Prop := A.1 = -9 ∨ ((0 ≤ A.1 ∧ A.1 ≤ 1000) ∧ p_ok G A.2.2)
section QP
variable {G : u_G} {L : Int → Prop} {b0 oc wt : Int} {P : u_P} {E : Int → Int} {w t : Int} {m : u_P → Int}
theorem q_in_ok (hg : g_ok G) (I : q_in G P E) : p_ok G P := fun w h1 h2 => by
  by_cases z : P w = -9
  · exact Or.inl z
  · have := I.1 w h1 h2 z
    have km := (hg.2.2.2.2.2.2.2.2.1 w h1 h2).2.2.1
    exact Or.inr (by omega)
theorem q_in_up (hg : g_ok G) (hb : 0 ≤ b0) (I : q_in G P E) (hw : 0 ≤ w ∧ w < g_wm G) (hc : q_t G b0 P E w ≠ -9) : q_in G (u_up P w (q_t G b0 P E w)) (q_up G E w (q_t G b0 P E w)) := by
  obtain ⟨⟨i1, i2⟩, i3⟩ := q_t_in hg hw hc hb
  have kl := hg.2.2.2.2.2.1
  have km := (hg.2.2.2.2.2.2.2.2.1 w hw.1 hw.2).2.2.1
  have lb : 0 ≤ q_lo G b0 P E w := by unfold q_lo; omega
  unfold q_hi at i2
  generalize q_t G b0 P E w = t at *
  refine ⟨fun v h1 h2 h3 => ?_, fun c h1 h2 => ?_⟩
  · by_cases z : v = w
    · subst z
      rw [up_e]
      omega
    · rw [up_o h1 hw.1 z] at h3 ⊢
      exact I.1 v h1 h2 h3
  · unfold q_up
    by_cases z : c = q_fc G E (g_pt G w)
    · rw [if_pos z]; omega
    · rw [if_neg z]; exact I.2 c h1 h2
theorem q_lf_up (hw : 0 ≤ w ∧ w < g_wm G) (hL : L w) (e : P w = -9) (ht : t ≠ -9) : q_lf G L (u_up P w t) = q_lf G L P - 1 := by
  have key : q_lf G L P = u_sum (fun j => y_bi (L j ∧ u_up P w t j = -9) + if j = w then 1 else 0) 0 (g_wm G).toNat := u_sum_cg fun j h1 h2 => by
    by_cases c : j = w
    · subst c
      rw [bi_t ⟨hL, e⟩, bi_f (show ¬ (L j ∧ u_up P j t j = -9) from fun q => ht (by have := q.2; rwa [up_e] at this)), if_pos rfl]
      rfl
    · rw [if_neg c, Int.add_zero]
      refine bi_cg ?_
      rw [up_o h1 hw.1 c]
  rw [key, u_sum_ind, if_pos (by omega)]
  unfold q_lf
  omega
theorem q_lf_0 (h : q_lf G L P ≤ 0) (hw : 0 ≤ w ∧ w < g_wm G) (hL : L w) : P w ≠ -9 := fun e => by
  have h1 := q_lf_up (G := G) (P := P) (t := 0) hw hL e (by omega)
  have h2 := (u_sum_bd (f := fun j => y_bi (L j ∧ u_up P w 0 j = -9)) (lo := 0) (hi := 1) (n := (g_wm G).toNat) (k := 0) fun j _ _ => bi_bd).1
  unfold q_lf at h1 h
  omega
theorem q_he_le {T : Int} (hw : 0 ≤ g_wm G) : q_he G L b0 P E ≤ T ↔ (q_end G P ≤ T ∧ ∀ w, 0 ≤ w → w < g_wm G → L w → P w = -9 → q_t G b0 P E w + g_mn G w ≤ T) := by
  have key : ∀ (n : Nat) (k s : Int), u_fold (fun s w => @ite _ (L w ∧ P w = -9) (Classical.propDecidable _) (max s (q_t G b0 P E w + g_mn G w)) s) s k n ≤ T ↔ (s ≤ T ∧ ∀ w, k ≤ w → w < k + n → L w → P w = -9 → q_t G b0 P E w + g_mn G w ≤ T) := by
    intro n
    induction n with
    | zero => intro k s; exact ⟨fun h => ⟨h, fun w h1 h2 => by omega⟩, fun h => h.1⟩
    | succ n ih =>
      intro k s
      rw [u_fold_s, ih]
      by_cases c : L k ∧ P k = -9
      · rw [if_pos c]
        constructor
        · rintro ⟨a, b⟩
          refine ⟨by omega, fun w h1 h2 h3 h4 => ?_⟩
          by_cases e : w = k
          · subst e; omega
          · exact b w (by omega) (by omega) h3 h4
        · rintro ⟨a, b⟩
          have := b k (by omega) (by omega) c.1 c.2
          exact ⟨by omega, fun w h1 h2 h3 h4 => b w (by omega) (by omega) h3 h4⟩
      · rw [if_neg c]
        constructor
        · rintro ⟨a, b⟩
          refine ⟨a, fun w h1 h2 h3 h4 => ?_⟩
          by_cases e : w = k
          · subst e; exact absurd ⟨h3, h4⟩ c
          · exact b w (by omega) (by omega) h3 h4
        · rintro ⟨a, b⟩
          exact ⟨a, fun w h1 h2 h3 h4 => b w (by omega) (by omega) h3 h4⟩
  unfold q_he
  rw [key]
  exact and_congr Iff.rfl ⟨fun b w h1 h2 => b w h1 (by omega), fun b w h1 h2 => b w h1 (by omega)⟩
theorem q_end_le {T : Int} (hg : g_ok G) : q_end G P ≤ T ↔ (0 ≤ T ∧ ∀ w, 0 ≤ w → w < g_wm G → P w ≠ -9 → P w + g_mn G w ≤ T) := by
  have kw := hg.2.2.1
  have kr := hg.2.1
  unfold q_end
  rw [q_mx_le]
  constructor
  · rintro ⟨a, b⟩
    refine ⟨a, fun w h1 h2 h3 => ?_⟩
    have k := (hg.2.2.2.2.2.2.2.2.1 w h1 h2).1
    exact ((q_re_le kw.1).mp (b (g_rd G w) k.1 (by omega))).2 w h1 h2 rfl h3
  · rintro ⟨a, b⟩
    exact ⟨a, fun r h1 h2 => (q_re_le kw.1).mpr ⟨a, fun w h3 h4 _ h6 => b w h3 h4 h6⟩⟩
theorem q_ls_bd (hg : g_ok G) (I : q_in G P E) : (0 ≤ q_lk G L P ∧ q_lk G L P ≤ 216) ∧ ∀ r, 0 ≤ q_lr G L P r ∧ q_lr G L P r ≤ 216 := by
  have kw := hg.2.2.1
  have one : ∀ (Q : Int → Prop) j, 0 ≤ j → j < 0 + (((g_wm G).toNat : Nat) : Int) → 0 ≤ @ite _ (Q j) (Classical.propDecidable _) (g_ls G P j) 0 ∧ @ite _ (Q j) (Classical.propDecidable _) (g_ls G P j) 0 ≤ 9 := fun Q j h1 h2 => by
    have := g_ls_bd hg (q_in_ok hg I) (w := j) ⟨h1, by omega⟩
    by_cases c : Q j
    · rw [if_pos c]; exact this
    · rw [if_neg c]; omega
  have a := u_sum_bd (n := (g_wm G).toNat) (k := 0) (one L)
  refine ⟨by unfold q_lk; omega, fun r => ?_⟩
  have b := u_sum_bd (n := (g_wm G).toNat) (k := 0) (one (fun w => L w ∧ g_rd G w = r))
  unfold q_lr
  omega
theorem q_v_bd (hg : g_ok G) (I : q_in G P E) : 0 ≤ q_v G L wt P ∧ q_v G L wt P ≤ 216 := by
  have a := q_ls_bd (L := L) hg I
  have z : ∀ {f : Int → Int}, 0 ≤ q_mx f 8 := fun {f} => (q_mx_le.mp (Int.le_refl (q_mx f 8))).1
  unfold q_v
  by_cases c0 : wt = 0
  · rw [if_pos c0]; exact a.1
  · rw [if_neg c0]
    by_cases c1 : wt = 1
    · rw [if_pos c1]
      exact ⟨z, (q_end_le hg).mpr ⟨by omega, fun w h1 h2 h3 => by have := I.1 w h1 h2 h3; omega⟩⟩
    · rw [if_neg c1]
      by_cases c2 : wt = 2
      · rw [if_pos c2]
        exact ⟨z, q_mx_le.mpr ⟨by omega, fun r _ _ => (a.2 r).2⟩⟩
      · rw [if_neg c2]; omega
theorem q_h_v (hg : g_ok G) (hb : 0 ≤ b0) (hwt : 0 ≤ wt ∧ wt ≤ 3) (h : (wt = 1 ∨ wt = 3) → ∀ w, 0 ≤ w → w < g_wm G → L w → P w ≠ -9) : q_h G L b0 wt P E ≤ q_v G L wt P := by
  have kw := hg.2.2.1
  unfold q_h q_v
  by_cases c0 : wt = 0
  · rw [if_pos c0, if_pos c0]
    refine u_sum_le fun j h1 h2 => ?_
    by_cases c : L j
    · rw [if_pos c, if_pos c]; exact q_ov_ls hg hb ⟨h1, by omega⟩
    · rw [if_neg c, if_neg c]; exact Int.le_refl _
  · rw [if_neg c0, if_neg c0]
    by_cases c1 : wt = 1
    · rw [if_pos c1, if_pos c1]
      have f := h (Or.inl c1)
      rw [if_pos (show q_all G L b0 P E from fun w h1 h2 h3 h4 => absurd h4 (f w h1 h2 h3)), q_he_le kw.1]
      exact ⟨Int.le_refl _, fun w h1 h2 h3 h4 => absurd h4 (f w h1 h2 h3)⟩
    · rw [if_neg c1, if_neg c1]
      by_cases c2 : wt = 2
      · rw [if_pos c2, if_pos c2, q_mx_le]
        have z := q_mx_le.mp (Int.le_refl (q_mx (q_lr G L P) 8))
        refine ⟨z.1, fun r h1 h2 => Int.le_trans (u_sum_le fun j h3 h4 => ?_) (z.2 r h1 h2)⟩
        by_cases c : L j ∧ g_rd G j = r
        · rw [if_pos c, if_pos c]; exact q_ov_ls hg hb ⟨h3, by omega⟩
        · rw [if_neg c, if_neg c]; exact Int.le_refl _
      · rw [if_neg c2, if_neg c2]
        by_cases c3 : q_all G L b0 P E
        · rw [if_pos c3]; exact Int.le_refl _
        · rw [if_neg c3]
          by_cases c4 : wt = 3
          · exact absurd (show q_all G L b0 P E from fun w h1 h2 h3 h4 => absurd h4 (h (Or.inr c4) w h1 h2 h3)) c3
          · omega
theorem q_h_up (hg : g_ok G) (hb : 0 ≤ b0) (I : q_in G P E) (hw : 0 ≤ w ∧ w < g_wm G) (e : P w = -9) (hc : q_t G b0 P E w ≠ -9) : q_h G L b0 wt P E ≤ q_h G L b0 wt (u_up P w (q_t G b0 P E w)) (q_up G E w (q_t G b0 P E w)) := by
  have kw := hg.2.2.1
  have I2 := q_in_up hg hb I hw hc
  have ov := fun v hv => q_ov_up (v := v) hg hb hw e hc hv
  have mu := fun v hv => q_t_up (v := v) hg hb hw e hc hv
  obtain ⟨⟨i1, i2⟩, i3⟩ := q_t_in hg hw hc hb
  have lb : 0 ≤ q_lo G b0 P E w := by unfold q_lo; omega
  have all : q_all G L b0 (u_up P w (q_t G b0 P E w)) (q_up G E w (q_t G b0 P E w)) → q_all G L b0 P E := fun q v h1 h2 h3 h4 => by
    by_cases z : v = w
    · rw [z]; exact hc
    · rcases mu v ⟨h1, h2⟩ with y | y
      · exact absurd y (q v h1 h2 h3 (by rw [up_o h1 hw.1 z]; exact h4))
      · exact y.1
  unfold q_h
  by_cases c0 : wt = 0
  · rw [if_pos c0, if_pos c0]
    refine u_sum_le fun j h1 h2 => ?_
    by_cases c : L j
    · rw [if_pos c, if_pos c]; exact ov j ⟨h1, by omega⟩
    · rw [if_neg c, if_neg c]; exact Int.le_refl _
  · rw [if_neg c0, if_neg c0]
    by_cases c1 : wt = 1
    · rw [if_pos c1, if_pos c1]
      by_cases a2 : q_all G L b0 (u_up P w (q_t G b0 P E w)) (q_up G E w (q_t G b0 P E w))
      · rw [if_pos a2, if_pos (all a2), q_he_le kw.1]
        have z := (q_he_le kw.1).mp (Int.le_refl (q_he G L b0 (u_up P w (q_t G b0 P E w)) (q_up G E w (q_t G b0 P E w))))
        have z1 := (q_end_le hg).mp z.1
        refine ⟨(q_end_le hg).mpr ⟨z1.1, fun v h1 h2 h3 => ?_⟩, fun v h1 h2 h3 h4 => ?_⟩
        · have nv : v ≠ w := fun q => h3 (by rw [q]; exact e)
          have := z1.2 v h1 h2 (by rw [up_o h1 hw.1 nv]; exact h3)
          rwa [up_o h1 hw.1 nv] at this
        · by_cases y : v = w
          · subst y
            have := z1.2 v h1 h2 (by rw [up_e]; omega)
            rwa [up_e] at this
          · have p' : u_up P w (q_t G b0 P E w) v = -9 := by rw [up_o h1 hw.1 y]; exact h4
            have := z.2 v h1 h2 h3 p'
            rcases mu v ⟨h1, h2⟩ with x | x
            · exact absurd x (a2 v h1 h2 h3 p')
            · omega
      · rw [if_neg a2]
        by_cases a1 : q_all G L b0 P E
        · rw [if_pos a1, q_he_le kw.1]
          refine ⟨(q_end_le hg).mpr ⟨by omega, fun v h1 h2 h3 => by have := I.1 v h1 h2 h3; omega⟩, fun v h1 h2 h3 h4 => ?_⟩
          have := (q_t_in hg ⟨h1, h2⟩ (a1 v h1 h2 h3 h4) hb).1.2
          unfold q_hi at this
          have kl := hg.2.2.2.2.2.1
          omega
        · rw [if_neg a1]; exact Int.le_refl _
    · rw [if_neg c1, if_neg c1]
      by_cases c2 : wt = 2
      · rw [if_pos c2, if_pos c2, q_mx_le]
        have z := q_mx_le.mp (Int.le_refl (q_mx (q_hr G L b0 (u_up P w (q_t G b0 P E w)) (q_up G E w (q_t G b0 P E w))) 8))
        refine ⟨z.1, fun r h1 h2 => Int.le_trans (u_sum_le fun j h3 h4 => ?_) (z.2 r h1 h2)⟩
        by_cases c : L j ∧ g_rd G j = r
        · rw [if_pos c, if_pos c]; exact ov j ⟨h3, by omega⟩
        · rw [if_neg c, if_neg c]; exact Int.le_refl _
      · rw [if_neg c2, if_neg c2]
        by_cases a2 : q_all G L b0 (u_up P w (q_t G b0 P E w)) (q_up G E w (q_t G b0 P E w))
        · rw [if_pos a2, if_pos (all a2)]; exact Int.le_refl _
        · rw [if_neg a2]
          by_cases a1 : q_all G L b0 P E
          · rw [if_pos a1]; omega
          · rw [if_neg a1]; exact Int.le_refl _
theorem q_vis_no {n : Nat} {A : q_A} (hg : g_ok G) (hb : 0 ≤ b0) (hwt : 0 ≤ wt ∧ wt ≤ 3) (I : q_in G P E) (hn : q_lf G L P = n) (h : q_best A ≤ q_h G L b0 wt P E) : q_vis G L wt m n P A = A := by
  unfold q_vis
  by_cases c : (wt = 1 ∨ wt = 3) ∧ n ≠ 0
  · rw [if_pos c]
  · rw [if_neg c]
    have hv := q_h_v (L := L) (P := P) (E := E) hg hb hwt (fun q w h1 h2 h3 => q_lf_0 (G := G) (L := L) (by
      have : n = 0 := Classical.byContradiction fun z => c ⟨q, z⟩
      omega) ⟨h1, h2⟩ h3)
    have bd := q_v_bd (L := L) (wt := wt) hg I
    unfold q_best at h
    by_cases z : A.1 < 0
    · rw [if_pos z] at h; omega
    · rw [if_neg z] at h
      rw [if_neg (by omega)]
/-- all that is behind needn't be looked at -/
theorem q_prune (hg : g_ok G) (hb : 0 ≤ b0) (hwt : 0 ≤ wt ∧ wt ≤ 3) : ∀ (n : Nat) (P : u_P) (E : Int → Int) (A : q_A), q_in G P E → q_lf G L P = n → q_best A ≤ q_h G L b0 wt P E → q_tr G L b0 oc wt m n P E A = A
  | 0, P, E, A, I, hn, h => q_vis_no hg hb hwt I hn h
  | n + 1, P, E, A, I, hn, h => by
    unfold q_tr
    rw [q_vis_no hg hb hwt I hn h]
    refine u_fold_same fun j h1 h2 => ?_
    by_cases c : q_ch G L b0 oc P E j
    · rw [if_pos c]
      have hw : 0 ≤ j ∧ j < g_wm G := ⟨h1, by have := hg.2.2.1; omega⟩
      refine q_prune hg hb hwt n _ _ A (q_in_up hg hb I hw c.2.2) ?_ (Int.le_trans h (q_h_up hg hb I hw c.1.2 c.2.2))
      rw [q_lf_up hw c.1.1 c.1.2 c.2.2]
      omega
    · rw [if_neg c]
theorem q_vis_good {n : Nat} {A : q_A} (hg : g_ok G) (I : q_in G P E) (h : q_good G A) : q_good G (q_vis G L wt m n P A) := by
  unfold q_vis
  by_cases c : (wt = 1 ∨ wt = 3) ∧ n ≠ 0
  · rw [if_pos c]; exact h
  · rw [if_neg c]
    by_cases z : A.1 < 0 ∨ q_v G L wt P < A.1
    · rw [if_pos z]
      have := q_v_bd (L := L) (wt := wt) hg I
      exact Or.inr ⟨by show 0 ≤ q_v G L wt P ∧ q_v G L wt P ≤ 1000; omega, q_in_ok hg I⟩
    · rw [if_neg z]; exact h
theorem q_tr_good (hg : g_ok G) (hb : 0 ≤ b0) : ∀ (n : Nat) (P : u_P) (E : Int → Int) (A : q_A), q_in G P E → q_good G A → q_good G (q_tr G L b0 oc wt m n P E A)
  | 0, P, E, A, I, h => q_vis_good hg I h
  | n + 1, P, E, A, I, h => by
    unfold q_tr
    refine u_fold_iv (I := fun A => q_good G A) (q_vis_good hg I h) fun A j h1 h2 hA => ?_
    by_cases c : q_ch G L b0 oc P E j
    · rw [if_pos c]
      exact q_tr_good hg hb n _ _ A (q_in_up hg hb I ⟨h1, by have := hg.2.2.1; omega⟩ c.2.2) hA
    · rw [if_neg c]; exact hA
end QP
