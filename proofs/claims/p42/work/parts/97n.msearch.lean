/-! THE BEST OF ALL, the model's: all rows, one after the other -/
noncomputable def q_lp (G : u_G) (L : Int → Prop) (b0 oc wt : Int) (m : u_P → Int) (n : Nat) (P : u_P) (E : Int → Int) (A : q_A) (w : Int) (k : Nat) : q_A := match n with
  | 0 => A
  | n' + 1 => u_fold (fun A w => @ite _ (q_ch G L b0 oc P E w) (Classical.propDecidable _) (q_tr G L b0 oc wt m n' (u_up P w (q_t G b0 P E w)) (q_up G E w (q_t G b0 P E w)) A) A) A w k
def FRM (b k : Nat) : Prop := ¬ ((b = 94 ∧ (k = 43 ∨ k = 44)) ∨ b = 111 ∨ b = 116 ∨ b = 117 ∨ b = 118)
/-- a node is through: one back -/
def m_bk (h : y_Hp) (dl : Nat) (v : Int) : y_Hp := if dl = 0 then y_sI h 118 dl v else y_sI (y_sI h 118 dl v) 111 (Int.toNat (y_I h 118 (dl - 1))) (-9)
section QL
variable {G : u_G} {L : Int → Prop} {b0 oc wt : Int} {P : u_P} {E : Int → Int} {A : q_A} {m : u_P → Int} {n : Nat} {w : Int} {k : Nat}
theorem q_tr_lp : q_tr G L b0 oc wt m n P E A = q_lp G L b0 oc wt m n P E (q_vis G L wt m n P A) 0 (g_wm G).toNat := by cases n <;> rfl
theorem q_lp_0 : q_lp G L b0 oc wt m n P E A w 0 = A := by cases n <;> rfl
theorem q_lp_no (h : ¬ q_ch G L b0 oc P E w) : q_lp G L b0 oc wt m n P E A w (k + 1) = q_lp G L b0 oc wt m n P E A (w + 1) k := by
  cases n with
  | zero => rfl
  | succ n =>
    show u_fold _ (@ite _ (q_ch G L b0 oc P E w) (Classical.propDecidable _) _ _) (w + 1) k = _
    rw [if_neg h]
    rfl
theorem q_lp_yes (h : q_ch G L b0 oc P E w) : q_lp G L b0 oc wt m (n + 1) P E A w (k + 1) = q_lp G L b0 oc wt m (n + 1) P E (q_tr G L b0 oc wt m n (u_up P w (q_t G b0 P E w)) (q_up G E w (q_t G b0 P E w)) A) (w + 1) k := by
  show u_fold _ (@ite _ (q_ch G L b0 oc P E w) (Classical.propDecidable _) _ _) (w + 1) k = _
  rw [if_pos h]
  rfl
theorem q3_vis (h3 : wt = 3) (h : A.1 = 0) : q_vis G L wt m n P A = A := by
  unfold q_vis
  by_cases c : (wt = 1 ∨ wt = 3) ∧ n ≠ 0
  · rw [if_pos c]
  · have v : q_v G L wt P = 0 := by
      unfold q_v
      rw [if_neg (by omega), if_neg (by omega), if_neg (by omega)]
    rw [if_neg c, v, if_neg (by omega)]
theorem q3_tr (h3 : wt = 3) : ∀ {n : Nat} {P : u_P} {E : Int → Int} {A : q_A}, A.1 = 0 → q_tr G L b0 oc wt m n P E A = A
  | 0, P, E, A, h => q3_vis h3 h
  | n + 1, P, E, A, h => by
    unfold q_tr
    rw [q3_vis h3 h]
    refine u_fold_same fun j _ _ => ?_
    by_cases c : q_ch G L b0 oc P E j
    · rw [if_pos c]; exact q3_tr h3 h
    · rw [if_neg c]
theorem q3_lp (h3 : wt = 3) (h : A.1 = 0) : q_lp G L b0 oc wt m n P E A w k = A := by
  cases n with
  | zero => rfl
  | succ n =>
    refine u_fold_same fun j _ _ => ?_
    by_cases c : q_ch G L b0 oc P E j
    · rw [if_pos c]; exact q3_tr h3 h
    · rw [if_neg c]
theorem q3_0 (h3 : wt = 3) (n : Nat) (P : u_P) (E : Int → Int) (A : q_A) (h : A.1 = -9 ∨ A.1 = 0) : (q_tr G L b0 oc wt m n P E A).1 = -9 ∨ (q_tr G L b0 oc wt m n P E A).1 = 0 := by
  have vis : ∀ (n : Nat) (P : u_P) (A : q_A), (A.1 = -9 ∨ A.1 = 0) → ((q_vis G L wt m n P A).1 = -9 ∨ (q_vis G L wt m n P A).1 = 0) := fun n P A h => by
    unfold q_vis
    have v : q_v G L wt P = 0 := by
      unfold q_v
      rw [if_neg (by omega), if_neg (by omega), if_neg (by omega)]
    by_cases c : (wt = 1 ∨ wt = 3) ∧ n ≠ 0
    · rw [if_pos c]; exact h
    · rw [if_neg c]
      by_cases z : A.1 < 0 ∨ q_v G L wt P < A.1
      · rw [if_pos z]; exact Or.inr v
      · rw [if_neg z]; exact h
  induction n generalizing P E A with
  | zero => exact vis 0 P A h
  | succ n ih =>
    unfold q_tr
    refine u_fold_iv (I := fun (A : q_A) => A.1 = -9 ∨ A.1 = 0) (vis _ P A h) fun A j _ _ hA => ?_
    by_cases c : q_ch G L b0 oc P E j
    · rw [if_pos c]; exact ih _ _ _ hA
    · rw [if_neg c]; exact hA
end QL
section MS
variable {sc : z_Sc} {h : y_Hp} {G : u_G} {L : Int → Prop} {b0 oc wt : Int} {P : u_P} {E : Int → Int} {A : q_A}
theorem m_ce_up {K J : Int → Int} (hg : g_ok G) {w t c : Int} (hw : 0 ≤ w ∧ w < g_wm G) (e : P w = -9) (ht : 0 ≤ t) (eJ : ∀ v, 0 ≤ v → J v = if v = w then c else K v) (hc : m_ce G P K (g_pt G w) c ≤ t) {p c' : Int} : m_ce G (u_up P w t) J p c' = if p = g_pt G w ∧ c' = c then t + g_mn G w else m_ce G P K p c' := by
  have kw := hg.2.2.1
  have km := (hg.2.2.2.2.2.2.2.2.1 w hw.1 hw.2).2.2.1
  have key : ∀ T, m_ce G (u_up P w t) J p c' ≤ T ↔ (if p = g_pt G w ∧ c' = c then t + g_mn G w else m_ce G P K p c') ≤ T := fun T => by
    rw [m_ce_le kw.1]
    by_cases z : p = g_pt G w ∧ c' = c
    · rw [if_pos z]
      have f := (m_ce_le kw.1).mp hc
      constructor
      · rintro ⟨a, b⟩
        have := b w hw.1 hw.2 (by rw [up_e]; omega) z.1.symm (by rw [eJ w hw.1, if_pos rfl, z.2])
        rwa [up_e] at this
      · intro q
        refine ⟨by omega, fun v h1 h2 h3 h4 h5 => ?_⟩
        by_cases y : v = w
        · rw [y, up_e]; exact q
        · rw [up_o h1 hw.1 y] at h3 ⊢
          rw [eJ v h1, if_neg y] at h5
          have := f.2 v h1 h2 h3 (by rw [h4]; exact z.1) (by rw [h5]; exact z.2)
          omega
    · rw [if_neg z, m_ce_le kw.1]
      refine and_congr Iff.rfl ⟨fun b v h1 h2 h3 h4 h5 => ?_, fun b v h1 h2 h3 h4 h5 => ?_⟩
      · have y : v ≠ w := fun q => h3 (by rw [q]; exact e)
        have := b v h1 h2 (by rw [up_o h1 hw.1 y]; exact h3) h4 (by rw [eJ v h1, if_neg y]; exact h5)
        rwa [up_o h1 hw.1 y] at this
      · by_cases y : v = w
        · subst y
          rw [eJ v h1, if_pos rfl] at h5
          exact absurd ⟨h4.symm, h5.symm⟩ z
        · rw [up_o h1 hw.1 y] at h3 ⊢
          rw [eJ v h1, if_neg y] at h5
          exact b v h1 h2 h3 h4 h5
  exact Int.le_antisymm ((key _).mpr (Int.le_refl _)) ((key _).mp (Int.le_refl _))
theorem MSQ_up (hg : g_ok G) (Q : MSQ h G L b0 oc P E) {w t : Int} (hw : 0 ≤ w ∧ w < g_wm G) (e : P w = -9) (ht : 0 ≤ t) (hE : E (q_fc G E (g_pt G w)) ≤ t) : MSQ (y_sI (y_sI h 111 (Int.toNat w) t) 117 (Int.toNat w) (q_fc G E (g_pt G w) - 2 * g_pt G w)) G L b0 oc (u_up P w t) (q_up G E w t) := by
  obtain ⟨⟨e0, e39⟩, ⟨e40, e41⟩, e111, ce⟩ := Q
  have kp := (hg.2.2.2.2.2.2.2.2.1 w hw.1 hw.2).2.1
  have cpp := (hg.2.2.2.2.2.2.1 _ kp.1 kp.2).1
  have fcr := q_fc_r (E := E) hg kp
  have eJ : ∀ v, 0 ≤ v → pl (y_sI (y_sI h 111 (Int.toNat w) t) 117 (Int.toNat w) (q_fc G E (g_pt G w) - 2 * g_pt G w)) 117 v = if v = w then q_fc G E (g_pt G w) - 2 * g_pt G w else pl h 117 v := fun v h1 => by
    unfold pl
    rw [yI_sI]
    by_cases c : v = w
    · rw [if_pos ⟨rfl, by omega⟩, if_pos c]
    · rw [if_neg (fun q => by omega), if_neg c, yI_sI_o (by omega)]
  have hc : m_ce G P (pl h 117) (g_pt G w) (q_fc G E (g_pt G w) - 2 * g_pt G w) ≤ t := by
    have c2 := ce _ kp.1 kp.2
    rcases (show q_fc G E (g_pt G w) = 2 * g_pt G w ∨ q_fc G E (g_pt G w) = 2 * g_pt G w + 1 by omega) with z | z
    · rw [show q_fc G E (g_pt G w) - 2 * g_pt G w = 0 by omega, c2.1, ← z]; exact hE
    · rw [show q_fc G E (g_pt G w) - 2 * g_pt G w = 1 by omega, c2.2, ← z]; exact hE
  refine ⟨⟨(hv_cg fun b k q => by rw [yI_sI_o (by unfold RG at q; omega), yI_sI_o (by unfold RG at q; omega)]).trans e0, fun v w1 w2 => ?_⟩, ⟨?_, ?_⟩, fun v w1 w2 => ?_, fun p p1 p2 => ?_⟩
  · rw [yI_sI_o (by omega), yI_sI_o (by omega)]; exact e39 v w1 w2
  · rw [yI_sI_o (by omega), yI_sI_o (by omega)]; exact e40
  · rw [yI_sI_o (by omega), yI_sI_o (by omega)]; exact e41
  · show y_I (y_sI (y_sI h 111 (Int.toNat w) t) 117 (Int.toNat w) _) 111 (Int.toNat v) = _
    rw [yI_sI_o (by omega), yI_sI]
    by_cases c : v = w
    · rw [if_pos ⟨rfl, by omega⟩, c, up_e]
    · rw [if_neg (fun q => by omega), up_o w1 hw.1 c]
      exact e111 v w1 w2
  · have c2 := ce p p1 p2
    rw [m_ce_up hg hw e ht eJ hc, m_ce_up hg hw e ht eJ hc]
    unfold q_up
    constructor
    · by_cases z : p = g_pt G w ∧ 0 = q_fc G E (g_pt G w) - 2 * g_pt G w
      · rw [if_pos z, if_pos (by omega)]
      · rw [if_neg z, if_neg (by omega)]; exact c2.1
    · by_cases z : p = g_pt G w ∧ 1 = q_fc G E (g_pt G w) - 2 * g_pt G w
      · rw [if_pos z, if_pos (by omega)]
      · rw [if_neg z, if_neg (by omega)]; exact c2.2
theorem MSQ_re {h' : y_Hp} (Q : MSQ h G L b0 oc P E) (e : ∀ b k, FRM b k → y_I h' b k = y_I h b k) (e1 : p_eq G (pl h' 111) P) (e2 : ∀ v, 0 ≤ v → v < g_wm G → P v ≠ -9 → pl h' 117 v = pl h 117 v) : MSQ h' G L b0 oc P E := by
  obtain ⟨⟨e0, e39⟩, ⟨e40, e41⟩, e111, ce⟩ := Q
  refine ⟨⟨(hv_cg fun b k q => e b k (by unfold RG at q; unfold FRM; omega)).trans e0, fun v w1 w2 => ?_⟩, ⟨?_, ?_⟩, e1, fun p p1 p2 => ?_⟩
  · rw [e _ _ (by unfold FRM; omega)]; exact e39 v w1 w2
  · rw [e _ _ (by unfold FRM; omega)]; exact e40
  · rw [e _ _ (by unfold FRM; omega)]; exact e41
  · have := ce p p1 p2
    rw [m_ce_cg (Q := P) (J := pl h 117) fun w w1 w2 => ⟨rfl, fun z => e2 w w1 w2 z⟩, m_ce_cg (Q := P) (J := pl h 117) fun w w1 w2 => ⟨rfl, fun z => e2 w w1 w2 z⟩]
    exact this
def DNP (sc : z_Sc) (G : u_G) (L : Int → Prop) (b0 oc wt : Int) (n : Nat) : Prop := ∀ (P : u_P) (E : Int → Int) (dl : Nat), q_in G P E → dl + n ≤ 8 → q_lf G L P = n → ∀ (k : Nat) (w : Int) (A : q_A) (h : y_Hp), 0 ≤ w → w + k = g_wm G → MSQ h G L b0 oc P E → MSA h G A → q_good G A → y_I h 94 42 = wt → y_I h 94 45 = (dl : Int) + n → ¬ (wt = 3 ∧ 0 ≤ A.1) → (0 < dl → 0 ≤ y_I h 118 (dl - 1) ∧ y_I h 118 (dl - 1) < 24) → ∃ h', MSA h' G (q_lp G L b0 oc wt (m_mu G) n P E A w k) ∧ (∀ b j, FRM b j → y_I h' b j = y_I h b j) ∧ h'.2 = h.2 ∧ ((wt = 3 ∧ 0 ≤ (q_lp G L b0 oc wt (m_mu G) n P E A w k).1 ∧ ∀ d v1, 10 ≤ d → y_ev z_pg sc d pgX8_search 107 [some (y_vr 94), some (y_vi v1), some (y_vi (dl : Int)), some (y_vi w)] [] h = some (none, h')) ∨ (¬ (wt = 3 ∧ 0 ≤ (q_lp G L b0 oc wt (m_mu G) n P E A w k).1) ∧ p_eq G (pl h' 111) P ∧ (∀ v, 0 ≤ v → v < g_wm G → P v ≠ -9 → pl h' 117 v = pl h 117 v) ∧ (∀ j, j < dl → y_I h' 118 j = y_I h 118 j) ∧ ∀ d v1, 10 ≤ d → y_ev z_pg sc d pgX8_search 107 [some (y_vr 94), some (y_vi v1), some (y_vi (dl : Int)), some (y_vi w)] [] h = y_ev z_pg sc d pgX8_search 79 [some (y_vr 94), some (y_vi v1), some (y_vi ((dl : Int) - 1)), some (y_vi (g_wm G))] [] (m_bk h' dl (g_wm G))))
/-- one want more in the row -/
theorem DN_c (hg : g_ok G) (hb : 0 ≤ b0 ∧ b0 ≤ 60) (hwt : 0 ≤ wt ∧ wt ≤ 3) (hoc : oc = 0 ∨ oc = 1) (hL : wt = 2 → ∀ w, 0 ≤ w → w < g_wm G → L w) (n : Nat) (IH : DNP sc G L b0 oc wt n) (dl : Nat) (I : q_in G P E) (hd : dl + (n + 1) ≤ 8) (ef : q_lf G L P = (n + 1 : Nat)) (w : Int) (hw : 0 ≤ w ∧ w < g_wm G) (A : q_A) (h : y_Hp) (Q : MSQ h G L b0 oc P E) (M : MSA h G A) (gd : q_good G A) (e42 : y_I h 94 42 = wt) (e45 : y_I h 94 45 = (dl : Int) + (n + 1 : Nat)) (nA : ¬ (wt = 3 ∧ 0 ≤ A.1)) (c : q_ch G L b0 oc P E w) : ∃ h', MSA h' G (q_tr G L b0 oc wt (m_mu G) n (u_up P w (q_t G b0 P E w)) (q_up G E w (q_t G b0 P E w)) A) ∧ (∀ b j, FRM b j → y_I h' b j = y_I h b j) ∧ h'.2 = h.2 ∧ ((wt = 3 ∧ 0 ≤ (q_tr G L b0 oc wt (m_mu G) n (u_up P w (q_t G b0 P E w)) (q_up G E w (q_t G b0 P E w)) A).1 ∧ ∀ d v1, 10 ≤ d → y_ev z_pg sc d pgX8_search 107 [some (y_vr 94), some (y_vi v1), some (y_vi (dl : Int)), some (y_vi w)] [] h = some (none, h')) ∨ (¬ (wt = 3 ∧ 0 ≤ (q_tr G L b0 oc wt (m_mu G) n (u_up P w (q_t G b0 P E w)) (q_up G E w (q_t G b0 P E w)) A).1) ∧ p_eq G (pl h' 111) P ∧ (∀ v, 0 ≤ v → v < g_wm G → P v ≠ -9 → pl h' 117 v = pl h 117 v) ∧ (∀ j, j < dl → y_I h' 118 j = y_I h 118 j) ∧ ∀ d v1, 10 ≤ d → y_ev z_pg sc d pgX8_search 107 [some (y_vr 94), some (y_vi v1), some (y_vi (dl : Int)), some (y_vi w)] [] h = y_ev z_pg sc d pgX8_search 107 [some (y_vr 94), some (y_vi v1), some (y_vi (dl : Int)), some (y_vi (w + 1))] [] h')) := by
  obtain ⟨⟨cL, cP⟩, cn, ct⟩ := c
  have kw := hg.2.2.1
  have kl := hg.2.2.2.2.2.1
  obtain ⟨⟨i1, i2⟩, i3⟩ := q_t_in hg hw ct hb.1
  have I2 := q_in_up hg hb.1 I hw ct
  have ef2 := q_lf_up (t := q_t G b0 P E w) hw cL cP ct
  have tb : 0 ≤ q_t G b0 P E w ∧ E (q_fc G E (g_pt G w)) ≤ q_t G b0 P E w := by
    unfold q_lo at i1
    omega
  have Q1 := MSQ_up hg Q hw cP tb.1 tb.2
  have s229' := fun d hd => s229 (sc := sc) d hd hg I Q hb hoc w hw
  have e39 := (Q.1.2 w hw.1 hw.2).mpr cL
  have eh := Q.1.1
  have pw : pl h 111 w = -9 := (Q.2.2.1 w hw.1 hw.2).trans cP
  generalize q_t G b0 P E w = t at *
  generalize eh1 : y_sI (y_sI h 111 (Int.toNat w) t) 117 (Int.toNat w) (q_fc G E (g_pt G w) - 2 * g_pt G w) = h1 at Q1 s229'
  have F1 : ∀ b j, ¬ (b = 111 ∨ (b = 117 ∧ j = Int.toNat w)) → y_I h1 b j = y_I h b j := fun b j q => by rw [← eh1, yI_sI_o (by omega), yI_sI_o (by omega)]
  have S1 : h1.2 = h.2 := by rw [← eh1]; rfl
  generalize eh2 : y_sI (y_sI h1 118 dl w) 118 (dl + 1) (-1) = h2
  have F2 : ∀ b j, ¬ (b = 118 ∧ (j = dl ∨ j = dl + 1)) → y_I h2 b j = y_I h1 b j := fun b j q => by rw [← eh2, yI_sI_o (by omega), yI_sI_o (by omega)]
  have S2 : h2.2 = h.2 := by rw [← eh2]; exact S1
  have Q2 : MSQ h2 G L b0 oc (u_up P w t) (q_up G E w t) := MSQ_cg Q1 fun b k q => F2 b k (by unfold RG at q; omega)
  have M2 : MSA h2 G A := ⟨by rw [F2 _ _ (by omega), F1 _ _ (by omega)]; exact M.1, fun q => ⟨by rw [F2 _ _ (by omega), F1 _ _ (by omega)]; exact (M.2 q).1, fun v v1 v2 => ((F2 116 _ (by omega)).trans (F1 116 _ (by omega))).trans ((M.2 q).2 v v1 v2)⟩⟩
  obtain ⟨h3, v1', M3, F3, S3⟩ := s233 (sc := sc) hg I2 Q2 M2 gd hwt hL (by rw [F2 _ _ (by omega), F1 _ _ (by omega)]; exact e42) ((dl : Int) + 1) n (by rw [F2 _ _ (by omega), F1 _ _ (by omega), e45]; omega)
  have gd3 := q_vis_good (L := L) (wt := wt) (m := m_mu G) (n := n) hg I2 gd
  have T3 : y_I h3 118 (dl + 1) = -1 := by rw [F3 _ _ (by omega), ← eh2, yI_sI_e ⟨rfl, rfl⟩]
  have T3d : y_I h3 118 dl = w := by rw [F3 _ _ (by omega), ← eh2, yI_sI_o (by omega), yI_sI_e ⟨rfl, rfl⟩]
  have e42' : y_I h3 94 42 = wt := by rw [F3 _ _ (by omega), F2 _ _ (by omega), F1 _ _ (by omega)]; exact e42
  have fr3 : ∀ b j, FRM b j → y_I h3 b j = y_I h b j := fun b j q => by
    unfold FRM at q
    rw [F3 b j (by omega), F2 b j (by omega), F1 b j (by omega)]
  have k117 : ∀ v, 0 ≤ v → v ≠ w → pl h3 117 v = pl h 117 v := fun v v1 v2 => by
    show y_I h3 117 _ = y_I h 117 _
    rw [F3 _ _ (by omega), F2 _ _ (by omega), F1 _ _ (by omega)]
  have run1 : ∀ d v1, 10 ≤ d → y_ev z_pg sc d pgX8_search 107 [some (y_vr 94), some (y_vi v1), some (y_vi (dl : Int)), some (y_vi w)] [] h = y_ev z_pg sc d pgX8_search 79 [some (y_vr 94), some (y_vi v1), some (y_vi ((dl : Int) + 1)), some (y_vi w)] [] h3 := fun d v1 hd => by
    have w11 : y_I h 94 11 = g_wm G := by rw [← eh]; rfl
    have w11' : y_I (y_sI h1 118 (Int.toNat (dl : Int)) w) 94 11 = g_wm G := by rw [yI_sI_o (by omega), F1 _ _ (by omega)]; exact w11
    have v1'' := v1' d (by omega)
    rw [← eh2] at v1''
    rw [b234_107, w11, if_pos hw.2, s137 d (by omega) _ _ (by omega), yci_s, if_neg (by rw [bi_t e39]; omega), s191 d (by omega) w (by omega), yci_s, if_pos (bi_f (fun q => q pw)), s229' d (by omega), if_pos ⟨cn, ct⟩, yci_s, if_neg (by omega), yi_t (by omega), w11', if_pos hw.2, yr_t (by omega), if_pos (by omega), yi_t (by omega), Int.toNat_natCast, show Int.toNat ((dl : Int) + 1) = dl + 1 by omega, v1'', ycv_s]
  rw [q_tr_lp]
  generalize eA : q_vis G L wt (m_mu G) n (u_up P w t) A = A1 at M3 gd3
  have a79 : ∀ d v1 o, y_ev z_pg sc d pgX8_search 79 [some (y_vr 94), some (y_vi v1), some (y_vi ((dl : Int) + 1)), o] [] h3 = if wt = 3 ∧ 0 ≤ A1.1 then some (none, h3) else y_ev z_pg sc d pgX8_search 107 [some (y_vr 94), some (y_vi v1), some (y_vi ((dl : Int) + 1)), some (y_vi 0)] [] h3 := fun d v1 o => by
    rw [b234_79, if_neg (by omega), e42', M3.1]
    have go : (y_in ((dl : Int) + 1) 9 (y_rg ((y_I h3 118 (Int.toNat ((dl : Int) + 1))) + 1) (y_ev z_pg sc d pgX8_search 107 [some (y_vr 94), some (y_vi v1), some (y_vi ((dl : Int) + 1)), some (y_vi ((y_I h3 118 (Int.toNat ((dl : Int) + 1))) + 1))] [] h3))) = y_ev z_pg sc d pgX8_search 107 [some (y_vr 94), some (y_vi v1), some (y_vi ((dl : Int) + 1)), some (y_vi 0)] [] h3 := by
      rw [show Int.toNat ((dl : Int) + 1) = dl + 1 by omega, T3, yi_t (by omega), yr_t (by omega)]
      rfl
    by_cases z : wt = 3
    · rw [if_pos z]
      by_cases y : A1.1 < 0
      · rw [if_pos y, if_neg (fun q => by omega), go]
      · rw [if_neg y, if_pos ⟨z, by omega⟩]
    · rw [if_neg z, if_neg (fun q => z q.1), go]
  by_cases fin : wt = 3 ∧ 0 ≤ A1.1
  · have z3 : A1.1 = 0 := by
      have := q3_0 (G := G) (L := L) (b0 := b0) (oc := oc) (m := m_mu G) fin.1 0 (u_up P w t) E A (by
        rcases gd with g | g
        · exact Or.inl g
        · exact absurd ⟨fin.1, g.1.1⟩ nA)
      have e0 : (q_vis G L wt (m_mu G) 0 (u_up P w t) A).1 = -9 ∨ (q_vis G L wt (m_mu G) 0 (u_up P w t) A).1 = 0 := this
      by_cases n0 : n = 0
      · subst n0
        rw [eA] at e0
        omega
      · have : A1 = A := by
          rw [← eA]
          unfold q_vis
          rw [if_pos ⟨Or.inr fin.1, n0⟩]
        rw [this] at fin
        exact absurd fin nA
    have lp := q3_lp (G := G) (L := L) (b0 := b0) (oc := oc) (m := m_mu G) (n := n) (P := u_up P w t) (E := q_up G E w t) (w := 0) (k := (g_wm G).toNat) fin.1 z3
    rw [lp]
    refine ⟨h3, M3, fr3, S3.trans S2, Or.inl ⟨fin.1, fin.2, fun d v1 hd => ?_⟩⟩
    rw [run1 d v1 hd, a79, if_pos fin]
  · obtain ⟨h4, M4, F4, S4, out⟩ := IH (u_up P w t) (q_up G E w t) (dl + 1) I2 (by omega) (by rw [ef2, ef]; omega) (g_wm G).toNat 0 A1 h3 (by omega) (by omega) (MSQ_cg Q2 fun b k q => F3 b k (by unfold RG at q; omega)) M3 gd3 e42' (by rw [F3 _ _ (by omega), F2 _ _ (by omega), F1 _ _ (by omega), e45]; omega) fin (fun _ => by
      rw [show dl + 1 - 1 = dl by omega, T3d]; omega)
    have fr4 : ∀ b j, FRM b j → y_I h4 b j = y_I h b j := fun b j q => (F4 b j q).trans (fr3 b j q)
    rcases out with ⟨o1, o2, o3⟩ | ⟨o1, o2, o3, o4, o5⟩
    · refine ⟨h4, M4, fr4, S4.trans (S3.trans S2), Or.inl ⟨o1, o2, fun d v1 hd => ?_⟩⟩
      rw [run1 d v1 hd, a79, if_neg fin]
      exact o3 d v1 hd
    · have T4d : y_I h4 118 dl = w := (o4 dl (by omega)).trans T3d
      have bk : m_bk h4 (dl + 1) (g_wm G) = y_sI (y_sI h4 118 (dl + 1) (g_wm G)) 111 (Int.toNat w) (-9) := by
        unfold m_bk
        rw [if_neg (by omega), show dl + 1 - 1 = dl by omega, T4d]
      generalize eh5 : y_sI (y_sI h4 118 (dl + 1) (g_wm G)) 111 (Int.toNat w) (-9) = h5 at bk
      have F5 : ∀ b j, ¬ (b = 111 ∨ (b = 118 ∧ j = dl + 1)) → y_I h5 b j = y_I h4 b j := fun b j q => by rw [← eh5, yI_sI_o (by omega), yI_sI_o (by omega)]
      have M5 : MSA h5 G (q_lp G L b0 oc wt (m_mu G) n (u_up P w t) (q_up G E w t) A1 0 (g_wm G).toNat) := ⟨by rw [F5 _ _ (by omega)]; exact M4.1, fun q => ⟨by rw [F5 _ _ (by omega)]; exact (M4.2 q).1, fun v v1 v2 => (F5 116 _ (by omega)).trans ((M4.2 q).2 v v1 v2)⟩⟩
      refine ⟨h5, M5, fun b j q => by rw [F5 b j (by unfold FRM at q; omega)]; exact fr4 b j q, by rw [← eh5]; exact S4.trans (S3.trans S2), Or.inr ⟨o1, fun v v1 v2 => ?_, fun v v1 v2 v3 => ?_, fun j j1 => ?_, fun d v1 hd => ?_⟩⟩
      · show y_I h5 111 (Int.toNat v) = _
        rw [← eh5, yI_sI]
        by_cases z : v = w
        · rw [if_pos ⟨rfl, by omega⟩, z, cP]
        · rw [if_neg (fun q => by omega), yI_sI_o (by omega)]
          exact (o2 v v1 v2).trans (up_o v1 hw.1 z)
      · have vw : v ≠ w := fun q => v3 (by rw [q]; exact cP)
        have a : pl h5 117 v = pl h4 117 v := F5 117 _ (by omega)
        rw [a, o3 v v1 v2 (by rw [up_o v1 hw.1 vw]; exact v3), k117 v v1 vw]
      · rw [F5 _ _ (by omega), o4 j (by omega), F3 _ _ (by omega), F2 _ _ (by omega), F1 _ _ (by omega)]
      · have o5' := o5 d v1 hd
        rw [bk] at o5'
        rw [run1 d v1 hd, a79, if_neg fin]
        refine Eq.trans o5' ?_
        have e42'' : y_I h5 94 42 = wt := by rw [F5 _ _ (by omega), F4 _ _ (by unfold FRM; omega)]; exact e42'
        rw [b234_79, show ((dl + 1 : Nat) : Int) - 1 = (dl : Int) by omega, if_neg (by omega), e42'', M5.1, Int.toNat_natCast, F5 118 _ (by omega), T4d]
        by_cases z : wt = 3
        · have y : (q_lp G L b0 oc wt (m_mu G) n (u_up P w t) (q_up G E w t) A1 0 (g_wm G).toNat).1 < 0 := by
            rcases Int.lt_or_le (q_lp G L b0 oc wt (m_mu G) n (u_up P w t) (q_up G E w t) A1 0 (g_wm G).toNat).1 0 with y | y
            · exact y
            · exact absurd ⟨z, y⟩ o1
          rw [if_pos z, if_pos y, yi_t (by omega), yr_t (by omega)]
        · rw [if_neg z, yi_t (by omega), yr_t (by omega)]
theorem DN (hg : g_ok G) (hb : 0 ≤ b0 ∧ b0 ≤ 60) (hwt : 0 ≤ wt ∧ wt ≤ 3) (hoc : oc = 0 ∨ oc = 1) (hL : wt = 2 → ∀ w, 0 ≤ w → w < g_wm G → L w) : ∀ n, DNP sc G L b0 oc wt n := by
  have step : ∀ n, (∀ n', n = n' + 1 → DNP sc G L b0 oc wt n') → DNP sc G L b0 oc wt n := by
    intro n IHc P E dl I hd ef k
    induction k with
    | zero =>
      intro w A h h1 h2 Q M gd e42 e45 nA tr
      have kw := hg.2.2.1
      have w11 : y_I h 94 11 = g_wm G := by rw [← Q.1.1]; rfl
      refine ⟨h, by rw [q_lp_0]; exact M, fun _ _ _ => rfl, rfl, Or.inr ⟨by rw [q_lp_0]; exact nA, Q.2.2.1, fun _ _ _ _ => rfl, fun _ _ => rfl, fun d v1 hd' => ?_⟩⟩
      have ew : w = g_wm G := by omega
      have w11' : y_I (y_sI h 118 (Int.toNat (dl : Int)) w) 94 11 = g_wm G := by rw [yI_sI_o (by omega)]; exact w11
      rw [b234_107, w11, if_neg (by omega), yi_t (by omega), w11', if_neg (by omega), yr_t (by omega), Int.toNat_natCast, show (dl : Int) + -1 = (dl : Int) - 1 by omega, ew]
      unfold m_bk
      by_cases z : dl = 0
      · rw [if_pos (by omega), if_pos z]
      · have t := tr (by omega)
        have e118 : y_I (y_sI h 118 dl (g_wm G)) 118 (Int.toNat ((dl : Int) - 1)) = y_I h 118 (dl - 1) := by
          rw [yI_sI_o (by omega), show Int.toNat ((dl : Int) - 1) = dl - 1 by omega]
        rw [if_neg (by omega), if_neg z, yi_t (by omega), e118, yi_t (by omega), yhb_s]
    | succ k ih =>
      intro w A h h1 h2 Q M gd e42 e45 nA tr
      have kw := hg.2.2.1
      have hw : 0 ≤ w ∧ w < g_wm G := ⟨h1, by omega⟩
      have w11 : y_I h 94 11 = g_wm G := by rw [← Q.1.1]; rfl
      have e39 := Q.1.2 w hw.1 hw.2
      have pw : pl h 111 w = P w := Q.2.2.1 w hw.1 hw.2
      by_cases ch : q_ch G L b0 oc P E w
      · have cL := ch.1.1
        have cP := ch.1.2
        rcases n with _ | n
        · exact absurd cP (q_lf_0 (by omega) hw cL)
        · obtain ⟨h1', M1, F1, S1, out⟩ := DN_c (sc := sc) hg hb hwt hoc hL n (IHc n rfl) dl I hd ef w hw A h Q M gd e42 e45 nA ch
          rw [q_lp_yes ch]
          have gd1 := q_tr_good (L := L) (oc := oc) (wt := wt) (m := m_mu G) hg hb.1 n _ _ A (q_in_up hg hb.1 I hw ch.2.2) gd
          have z9 : wt = 3 → A.1 = -9 := fun z => by
            rcases gd with g | g
            · exact g
            · exact absurd ⟨z, g.1.1⟩ nA
          have z0 : wt = 3 → (q_tr G L b0 oc wt (m_mu G) n (u_up P w (q_t G b0 P E w)) (q_up G E w (q_t G b0 P E w)) A).1 = -9 ∨ (q_tr G L b0 oc wt (m_mu G) n (u_up P w (q_t G b0 P E w)) (q_up G E w (q_t G b0 P E w)) A).1 = 0 := fun z => q3_0 z n _ _ A (Or.inl (z9 z))
          generalize q_tr G L b0 oc wt (m_mu G) n (u_up P w (q_t G b0 P E w)) (q_up G E w (q_t G b0 P E w)) A = A2 at M1 out gd1 z0
          rcases out with ⟨b1, b2, b3⟩ | ⟨b1, b2, b3, b4, b5⟩
          · have z2 : A2.1 = 0 := by
              have := z0 b1
              omega
            rw [q3_lp b1 z2]
            exact ⟨h1', M1, F1, S1, Or.inl ⟨b1, b2, b3⟩⟩
          · have Q1 := MSQ_re Q F1 b2 b3
            obtain ⟨h', a1, a2, a3, a4⟩ := ih (w + 1) A2 h1' (by omega) (by omega) Q1 M1 gd1 (by rw [F1 _ _ (by unfold FRM; omega)]; exact e42) (by rw [F1 _ _ (by unfold FRM; omega)]; exact e45) b1 (fun q => by rw [b4 _ (by omega)]; exact tr q)
            refine ⟨h', a1, fun b j q => (a2 b j q).trans (F1 b j q), a3.trans S1, ?_⟩
            rcases a4 with ⟨c1, c2, c3⟩ | ⟨c1, c2, c3, c4, c5⟩
            · exact Or.inl ⟨c1, c2, fun d v1 hd => (b5 d v1 hd).trans (c3 d v1 hd)⟩
            · exact Or.inr ⟨c1, c2, fun v v1 v2 v3 => (c3 v v1 v2 v3).trans (b3 v v1 v2 v3), fun j j1 => (c4 j (by omega)).trans (b4 j j1), fun d v1 hd => (b5 d v1 hd).trans (c5 d v1 hd)⟩
      · have run : ∀ d v1, 10 ≤ d → y_ev z_pg sc d pgX8_search 107 [some (y_vr 94), some (y_vi v1), some (y_vi (dl : Int)), some (y_vi w)] [] h = y_ev z_pg sc d pgX8_search 107 [some (y_vr 94), some (y_vi v1), some (y_vi (dl : Int)), some (y_vi (w + 1))] [] h := fun d v1 hd => by
          by_cases cL : L w
          · by_cases cP : P w = -9
            · have c : ¬ (q_nx G oc P w ∧ q_t G b0 P E w ≠ -9) := fun q => ch ⟨⟨cL, cP⟩, q.1, q.2⟩
              have s := s229 (sc := sc) d (by omega) hg I Q hb hoc w hw
              rw [b234_107, w11, if_pos hw.2, s137 d (by omega) _ _ (by omega), yci_s, if_neg (by rw [bi_t (e39.mpr cL)]; omega), s191 d (by omega) w (by omega), yci_s, if_pos (bi_f (fun q => q (pw.trans cP))), s, if_neg c, yci_s, if_pos rfl, yr_t (by omega)]
            · rw [b234_107, w11, if_pos hw.2, s137 d (by omega) _ _ (by omega), yci_s, if_neg (by rw [bi_t (e39.mpr cL)]; omega), s191 d (by omega) w (by omega), yci_s, if_neg (by rw [bi_t (by rw [pw]; exact cP)]; omega), yr_t (by omega)]
          · rw [b234_107, w11, if_pos hw.2, s137 d (by omega) _ _ (by omega), yci_s, if_pos (bi_f (fun q => cL (e39.mp q))), yr_t (by omega)]
        obtain ⟨h', a1, a2, a3, a4⟩ := ih (w + 1) A h (by omega) (by omega) Q M gd e42 e45 nA tr
        rw [← q_lp_no ch] at a1 a4
        refine ⟨h', a1, a2, a3, ?_⟩
        rcases a4 with ⟨b1, b2, b3⟩ | ⟨b1, b2, b3, b4, b5⟩
        · exact Or.inl ⟨b1, b2, fun d v1 hd => (run d v1 hd).trans (b3 d v1 hd)⟩
        · exact Or.inr ⟨b1, b2, b3, b4, fun d v1 hd => (run d v1 hd).trans (b5 d v1 hd)⟩
  intro n
  induction n with
  | zero => exact step 0 fun n' e => by omega
  | succ n ih =>
    refine step (n + 1) fun n' e => ?_
    have : n' = n := by omega
    subst this
    exact ih
end MS
