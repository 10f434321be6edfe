/-! CALL: mend -/
section ME
variable {sc : z_Sc} {h : y_Hp} {a : Nat} {G : u_G} {P : u_P} {N : Nat} {L : Int → Prop} {b0 oc : Int} {E : Int → Int}
/-- one more that is looked at, its loss told -/
theorem XQ_ms (hg : g_ok G) {Q0 : u_P} (I : q_in G Q0 E) (Q : XQ h a G L b0 oc Q0 E) (w : Int) (hw : 0 ≤ w ∧ w < g_wm G) (nL : ¬ L w) (e : Q0 w = -9) : (∀ d, 1 ≤ d → y_se z_pg sc d 77 [y_vr 43, y_vi w, y_vi (g_wo G w)] h = some (none, x_ms h (g_rd G w) (g_wo G w))) ∧ XQ (x_ms h (g_rd G w) (g_wo G w)) a G (fun j => L j ∨ j = w) b0 oc Q0 E := by
  obtain ⟨⟨f2, X⟩, ⟨e4, e5⟩, e7, e8, e56, e58, e59, e60⟩ := Q
  have kr := hg.2.1
  have kw := hg.2.2.1
  obtain ⟨k1, k2, k3, k4⟩ := hg.2.2.2.2.2.2.2.2.1 w hw.1 hw.2
  have lbd := q_ls_bd (L := L) hg I
  have lrb := lbd.2 (g_rd G w)
  have ls : g_ls G Q0 w = g_wo G w := by
    unfold g_ls
    rw [if_pos e]; omega
  have r56 := e56 (g_rd G w) k1.1 (by omega)
  have lk' : q_lk G (fun j => L j ∨ j = w) Q0 = q_lk G L Q0 + g_wo G w := by
    unfold q_lk
    rw [u_sum_cg (g := fun j => (@ite _ (L j) (Classical.propDecidable _) (g_ls G Q0 j) 0) + if j = w then g_wo G w else 0) fun j h1 h2 => ?_, u_sum_at, if_pos (by omega)]
    by_cases c : j = w
    · rw [if_pos c, if_pos (Or.inr c), c, if_neg nL, ls]; omega
    · rw [if_neg c, Int.add_zero]
      by_cases c2 : L j
      · rw [if_pos c2, if_pos (Or.inl c2)]
      · rw [if_neg c2, if_neg (fun q => q.elim c2 c)]
  have lr' : ∀ r, q_lr G (fun j => L j ∨ j = w) Q0 r = if r = g_rd G w then q_lr G L Q0 r + g_wo G w else q_lr G L Q0 r := fun r => by
    unfold q_lr
    by_cases z : r = g_rd G w
    · rw [if_pos z, u_sum_cg (f := fun j => @ite _ ((L j ∨ j = w) ∧ g_rd G j = r) (Classical.propDecidable _) (g_ls G Q0 j) 0) (g := fun j => (@ite _ (L j ∧ g_rd G j = r) (Classical.propDecidable _) (g_ls G Q0 j) 0) + if j = w then g_wo G w else 0) fun j h1 h2 => ?_, u_sum_at, if_pos (by omega)]
      by_cases c : j = w
      · rw [if_pos c, if_pos ⟨Or.inr c, by rw [c, z]⟩, c, if_neg (fun q => nL q.1), ls]; omega
      · rw [if_neg c, Int.add_zero]
        by_cases c2 : L j ∧ g_rd G j = r
        · rw [if_pos c2, if_pos ⟨Or.inl c2.1, c2.2⟩]
        · rw [if_neg c2, if_neg (fun q => q.1.elim (fun y => c2 ⟨y, q.2⟩) c)]
    · rw [if_neg z]
      refine u_sum_cg fun j h1 h2 => ?_
      by_cases c2 : L j ∧ g_rd G j = r
      · rw [if_pos c2, if_pos ⟨Or.inl c2.1, c2.2⟩]
      · rw [if_neg c2, if_neg (fun q => q.1.elim (fun y => c2 ⟨y, q.2⟩) (fun y => z (by rw [← q.2, y])))]
  refine ⟨fun d hd => s77 d hd f2 X hg w _ hw (by rw [e7]; omega) (by rw [r56]; omega), ⟨f2, xmg_w X (fun b k q => by unfold x_ms; rw [yI_sI_o (by omega), yI_sI_o (by omega)]) rfl⟩, ⟨?_, ?_⟩, ?_, ⟨?_, fun v q1 q2 => ?_⟩, fun r q1 q2 => ?_, fun v q1 q2 => ?_, fun r q1 q2 => ?_, fun c q1 q2 => ?_⟩
  · unfold x_ms
    rw [yI_sI_o (by omega), yI_sI_o (by omega)]; exact e4
  · unfold x_ms
    rw [yI_sI_o (by omega), yI_sI_o (by omega)]; exact e5
  · unfold x_ms
    rw [yI_sI_o (by omega), yI_sI_e ⟨rfl, rfl⟩, e7, lk']
  · unfold x_ms
    rw [yI_sI_o (by omega), yI_sI_o (by omega)]; exact e8.1
  · unfold x_ms
    rw [yI_sI_o (by omega), yI_sI_o (by omega)]; exact e8.2 v q1 q2
  · unfold x_ms
    rw [lr', yI_sI]
    by_cases c : r = g_rd G w
    · rw [if_pos (by omega), if_pos c, c, r56]
    · rw [if_neg (by omega), if_neg c, yI_sI_o (by omega), e56 r q1 q2]
  · show y_I (x_ms h (g_rd G w) (g_wo G w)) 58 (Int.toNat v) = _
    unfold x_ms
    rw [yI_sI_o (by omega), yI_sI_o (by omega)]
    exact e58 v q1 q2
  · unfold x_ms
    rw [yI_sI_o (by omega), yI_sI_o (by omega), e59 r q1 q2]
  · unfold x_ms
    rw [yI_sI_o (by omega), yI_sI_o (by omega), e60 c q1 q2]
theorem s65 (hg : g_ok G) {Q0 : u_P} (I : q_in G Q0 E) (Q : XQ h a G L b0 oc Q0 E) (w t : Int) (hw : 0 ≤ w ∧ w < g_wm G) (nL : ¬ L w) (e : Q0 w = -9) (ht : 0 ≤ t ∧ t ≤ 60) (hf : g_ws G Q0 (g_rd G w) ≤ t) : ∃ h', (∀ d, 3 ≤ d → y_se z_pg sc d 65 [y_vr 43, y_vi w, y_vi t] h = some (none, h')) ∧ XQ h' a G (fun j => L j ∨ j = w) b0 oc (u_up Q0 w t) (q_up G E w t) ∧ (∀ b k, ¬ (b = 58 ∨ b = 59 ∨ b = 60 ∨ b = 56 ∨ (b = 43 ∧ (k = 7 ∨ k = 8))) → y_I h' b k = y_I h b k) ∧ h'.2 = h.2 := by
  obtain ⟨a1, a2⟩ := XQ_ms (sc := sc) hg I Q w hw nL e
  have k2 := (hg.2.2.2.2.2.2.2.2.1 w hw.1 hw.2).2.1
  have kw := hg.2.2.1
  obtain ⟨h', b1, b2, b3, b4⟩ := s75 (sc := sc) a2 hg I w t hw (Or.inr rfl) e ht hf
  have ha := Q.1.2.1
  have f2 := Q.1.1
  have x12 : y_I h (a + 12) (Int.toNat w) = g_wo G w := Q.1.2.2.2.2.2.2.2.2.2.2.2.2.2.2.2.2.2.1 w hw.1 hw.2
  have x10 : y_I (x_ms h (g_rd G w) (g_wo G w)) (a + 10) (Int.toNat w) = g_pt G w := a2.1.2.2.2.2.2.2.2.2.2.2.2.2.2.2.2.1 w hw.1 hw.2
  refine ⟨h', fun d hd => ?_, b2, fun b k q => ?_, b4⟩
  · obtain ⟨d, rfl⟩ : ∃ e, d = e + 1 := ⟨d - 1, by omega⟩
    have f2' := a2.1.1
    rw [e65, b65_0, f2, yH0 ha, yH12 ha, lH12 ha, yi_t (by omega), x12, a1 d (by omega), ycv_s, f2', yH0 ha, yH10 ha, lH10 ha, yi_t (by omega), x10, s74 d (by omega) a2 hg _ k2, yci_s, b1 d (by omega), ycv_s]
  · rw [b3 b k q]
    unfold x_ms
    rw [yI_sI_o (by omega), yI_sI_o (by omega)]
/-- kept by x -/
def LK (s : k_A) : Int → Prop := fun j => s.1 j ≠ -9
theorem l133b (hg : g_ok G) (hp : p_ok G P) (hbad : g_bad G P = -9) (t : Int) (m : Int) (hm : 0 ≤ m) : ∀ (n : Nat) (w : Int) (s : k_A) (h : y_Hp), 0 ≤ w → w + n = g_wm G → KI2 G P s m w → XQ h a G (LK s) t 1 s.1 s.2 → p_eq G (pl h 21) P → y_F h 2 10 = a → ∃ h', (∀ d, 4 ≤ d → ∃ o', y_ev z_pg sc d pgX7_keepAhead 9 [some (y_vr 2), some (y_vi t), some (y_vi m), some (y_vi w)] [] h = y_rg (m + 1) (y_ev z_pg sc d pgX7_keepAhead 2 [some (y_vr 2), some (y_vi t), some (y_vi (m + 1)), o'] [] h')) ∧ KI2 G P (u_fold (k_st G P m) s w n) m (g_wm G) ∧ XQ h' a G (LK (u_fold (k_st G P m) s w n)) t 1 (u_fold (k_st G P m) s w n).1 (u_fold (k_st G P m) s w n).2 ∧ (∀ b k, ¬ ((b = 43 ∧ (k = 7 ∨ k = 8)) ∨ (56 ≤ b ∧ b ≤ 60)) → y_I h' b k = y_I h b k) ∧ h'.2 = h.2
  | 0, w, s, h, h1, h2, K, Q, pe, hF => by
    have ha := Q.1.2.1
    have x3 : y_I h a 3 = g_wm G := Q.1.2.2.2.2.2.1
    have ew : w = g_wm G := by omega
    rw [u_fold_0]
    rw [ew] at K
    refine ⟨h, fun d hd => ⟨some (y_vi w), ?_⟩, K, Q, fun _ _ _ => rfl, rfl⟩
    rw [b133_9, hF, yH0 ha, x3, if_neg (by omega)]
  | n + 1, w, s, h, h1, h2, K, Q, pe, hF => by
    have kw := hg.2.2.1
    have ha := Q.1.2.1
    have x3 : y_I h a 3 = g_wm G := Q.1.2.2.2.2.2.1
    have hw : 0 ≤ w ∧ w < g_wm G := ⟨h1, by omega⟩
    have p21 : y_I h 21 (Int.toNat w) = P w := pe w hw.1 hw.2
    have K' := KI2_st hg hp hbad K hw hm
    rw [u_fold_s]
    by_cases c : P w = m
    · obtain ⟨i1, i2, i3, i4, i5⟩ := KI2_at hg hp hbad K hw hm c
      obtain ⟨g, a1, a2, a3, a4⟩ := s65 (sc := sc) hg K.2.2 Q w m hw (fun q => q i1) i1 ⟨hm, by omega⟩ i2
      have es : k_st G P m s w = (u_up s.1 w m, q_up G s.2 w m) := if_pos c
      have Q' : XQ g a G (LK (k_st G P m s w)) t 1 (k_st G P m s w).1 (k_st G P m s w).2 := by
        rw [es]
        refine XQ_L hg a2 fun j j1 j2 => ?_
        show (s.1 j ≠ -9 ∨ j = w) ↔ u_up s.1 w m j ≠ -9
        by_cases z : j = w
        · rw [z, up_e]
          exact ⟨fun _ => by omega, fun _ => Or.inr rfl⟩
        · rw [up_o j1 hw.1 z]
          exact ⟨fun q => q.elim id (fun q => absurd q z), Or.inl⟩
      obtain ⟨h', b1, b2, b3, b4, b5⟩ := l133b hg hp hbad t m hm n (w + 1) (k_st G P m s w) g (by omega) (by omega) K' Q' (fun v v1 v2 => (a3 21 _ (by omega)).trans (pe v v1 v2)) (by unfold y_F; rw [a4]; exact hF)
      refine ⟨h', fun d hd => ?_, b2, b3, fun b k q => (b4 b k q).trans (a3 b k (by omega)), b5.trans a4⟩
      obtain ⟨o', e⟩ := b1 d hd
      refine ⟨o', ?_⟩
      rw [b133_9, hF, yH0 ha, x3, if_pos (by omega), yi_t (by omega), p21, if_pos c, a1 d (by omega), ycv_s, yr_t (by omega), e]
    · have es : k_st G P m s w = s := if_neg c
      rw [es] at K' ⊢
      obtain ⟨h', b1, b2, b3, b4, b5⟩ := l133b hg hp hbad t m hm n (w + 1) s h (by omega) (by omega) K' Q pe hF
      refine ⟨h', fun d hd => ?_, b2, b3, b4, b5⟩
      obtain ⟨o', e⟩ := b1 d hd
      refine ⟨o', ?_⟩
      rw [b133_9, hF, yH0 ha, x3, if_pos (by omega), yi_t (by omega), p21, if_neg c, yr_t (by omega), e]
theorem l133 (hg : g_ok G) (hp : p_ok G P) (hbad : g_bad G P = -9) (t : Int) (ht : t ≤ 60) : ∀ (n : Nat) (m : Int) (s : k_A) (h : y_Hp), 0 ≤ m → m + n = t → KI2 G P s m 0 → XQ h a G (LK s) t 1 s.1 s.2 → p_eq G (pl h 21) P → y_F h 2 10 = a → ∃ h', (∀ d o, 4 ≤ d → y_ev z_pg sc d pgX7_keepAhead 2 [some (y_vr 2), some (y_vi t), some (y_vi m), o] [] h = some (none, h')) ∧ KI2 G P (u_fold (k_in G P) s m n) t 0 ∧ XQ h' a G (LK (u_fold (k_in G P) s m n)) t 1 (u_fold (k_in G P) s m n).1 (u_fold (k_in G P) s m n).2 ∧ (∀ b k, ¬ ((b = 43 ∧ (k = 7 ∨ k = 8)) ∨ (56 ≤ b ∧ b ≤ 60)) → y_I h' b k = y_I h b k) ∧ h'.2 = h.2
  | 0, m, s, h, h1, h2, K, Q, pe, hF => by
    have em : m = t := by omega
    rw [u_fold_0]
    rw [em] at K
    refine ⟨h, fun d o hd => ?_, K, Q, fun _ _ _ => rfl, rfl⟩
    rw [b133_2, if_neg (by omega)]
  | n + 1, m, s, h, h1, h2, K, Q, pe, hF => by
    have kw := hg.2.2.1
    obtain ⟨g, a1, a2, a3, a4, a5⟩ := l133b (sc := sc) hg hp hbad t m h1 (g_wm G).toNat 0 s h (by omega) (by omega) K Q pe hF
    obtain ⟨h', b1, b2, b3, b4, b5⟩ := l133 hg hp hbad t ht n (m + 1) (k_in G P s m) g (by omega) (by omega) (KI2_nx a2) a3 (fun v v1 v2 => (a4 21 _ (by omega)).trans (pe v v1 v2)) (by unfold y_F; rw [a5]; exact hF)
    rw [u_fold_s]
    refine ⟨h', fun d o hd => ?_, b2, b3, fun b k q => (b4 b k q).trans (a4 b k q), b5.trans a5⟩
    obtain ⟨o', e⟩ := a1 d hd
    rw [b133_2, if_pos (by omega), e, yr_t (by omega), b1 d _ hd]
/-- wants that are not begun ahead -/
def LO (P : u_P) (t : Int) : Int → Prop := fun w => ¬ (P w ≠ -9 ∧ P w < t)
noncomputable def q_M (G : u_G) (P : u_P) (t : Int) : q_A := q_tr G LT t 1 0 (m_mu G) (q_ct (LO P t) (g_wm G)).toNat (k_all G P t).1 (k_all G P t).2 q_A0
theorem k_LO {s : k_A} {t : Int} (K : KI2 G P s t 0) {w : Int} (hw : 0 ≤ w ∧ w < g_wm G) : s.1 w = -9 ↔ LO P t w := by
  rw [K.1 w hw.1 hw.2]
  unfold LO
  by_cases c : P w ≠ -9 ∧ (P w < t ∨ (P w = t ∧ w < 0))
  · rw [if_pos c]
    exact ⟨fun q => absurd q c.1, fun q => absurd ⟨c.1, by omega⟩ q⟩
  · rw [if_neg c]
    exact ⟨fun _ q => c ⟨q.1, Or.inl q.2⟩, fun _ => rfl⟩
theorem k_lf {s : k_A} {t : Int} (hg : g_ok G) (K : KI2 G P s t 0) : q_lf G LT s.1 = q_ct (LO P t) (g_wm G) := by
  have kw := hg.2.2.1
  refine u_sum_cg fun j j1 j2 => bi_cg ⟨fun q => (k_LO K ⟨j1, by omega⟩).mp q.2, fun q => ⟨trivial, (k_LO K ⟨j1, by omega⟩).mpr q⟩⟩
theorem l115 (hg : g_ok G) (t : Int) (ht : 0 ≤ t ∧ t ≤ 60) (s : k_A) (es : s = k_all G P t) (K : KI2 G P s t 0) (h8 : q_ct (LO P t) (g_wm G) ≤ 8) : ∀ (n : Nat) (k : Int) (h : y_Hp), 0 ≤ k → k + n = g_wm G → XS0 h a G (LK s) (LO P t) t 1 s.1 s.2 k → p_eq G (pl h 21) P → y_F h 2 10 = a → ∃ h', (∀ d, 21 ≤ d → y_ev z_pg sc d pgX7_mend 79 [some (y_vr 2), some (y_vi t), some (y_vi k)] [] h = y_cv (y_se z_pg sc d 33 [y_vr 20, y_vr 44, y_vi (g_wm G)] h') (fun g3 => some (some (y_vi (q_best (q_M G P t))), g3))) ∧ XA h' G (q_M G P t) ∧ (∀ b k, ¬ (43 ≤ b ∧ b ≤ 60) → y_I h' b k = y_I h b k) ∧ h'.2 = h.2
  | 0, k, h, h1, h2, S, pe, hF => by
    have kw := hg.2.2.1
    have ha := S.1.1.2.1
    have x3 : y_I h a 3 = g_wm G := S.1.1.2.2.2.2.2.1
    have cb := q_ct_bd (TD := LO P t) (w := g_wm G)
    have ek : k = g_wm G := by omega
    rw [ek] at S
    obtain ⟨Q, T1, T2⟩ := S
    have Q' : XQ h a G LT t 1 s.1 s.2 := XQ_L hg Q fun j j1 j2 => ⟨fun _ => trivial, fun _ => by
      by_cases z : s.1 j = -9
      · exact Or.inr ⟨(k_LO K ⟨j1, j2⟩).mp z, j2⟩
      · exact Or.inl z⟩
    obtain ⟨h', a1, a2, a3, a4⟩ := s67 (sc := sc) (a := a) (L := LT) (TD := LO P t) (wt := 0) hg ht (by omega) (Or.inr rfl) h8 K.2.2 Q' ⟨T1, T2⟩ (q_ct (LO P t) (g_wm G)).toNat (by omega) (by rw [k_lf hg K]; omega) (fun j j1 j2 j3 => ⟨fun _ => trivial, fun _ => (k_LO K ⟨j1, j2⟩).mp j3⟩)
    rw [q_lk_all, es] at a1 a2
    have a1' : ∀ d, 20 ≤ d → y_se z_pg sc d 67 [y_vr 43, y_vi 0] h = some (some (y_vi (q_best (q_M G P t))), h') := a1
    have F' : y_F h' 2 10 = a := by unfold y_F; rw [a4]; exact hF
    refine ⟨h', fun d hd => ?_, a2, fun b k q => a3 b k (by omega), a4⟩
    rw [b115_79, hF, yH0 ha, x3, if_neg (by omega), a1' d (by omega), yci_s, F', yH0 ha, a3 _ _ (by omega), x3]
  | n + 1, k, h, h1, h2, S, pe, hF => by
    have kw := hg.2.2.1
    have ha := S.1.1.2.1
    have x3 : y_I h a 3 = g_wm G := S.1.1.2.2.2.2.2.1
    have s34' := fun d hd => s34 (sc := sc) (h := h) (b := 20) d hd (Or.inl rfl) k t (by omega)
    have pk : pl h (20 + 1) k = P k := pe k h1 (by omega)
    rw [pk] at s34'
    by_cases c : LO P t k
    · obtain ⟨g, a1, a2, a3, a4⟩ := XS0_add (sc := sc) hg K.2.2 ⟨h1, by omega⟩ S c h8 (fun q => q ((k_LO K ⟨h1, by omega⟩).mpr c)) ((k_LO K ⟨h1, by omega⟩).mpr c)
      obtain ⟨h', b1, b2, b3, b4⟩ := l115 hg t ht s es K h8 n (k + 1) g (by omega) (by omega) a2 (fun v v1 v2 => (a3 21 _ (by omega)).trans (pe v v1 v2)) (by unfold y_F; rw [a4]; exact hF)
      refine ⟨h', fun d hd => ?_, b2, fun b j q => (b3 b j q).trans (a3 b j q), b4.trans a4⟩
      rw [b115_79, hF, yH0 ha, x3, if_pos (by omega), s34' d (by omega), yci_s, if_pos (bi_f c), a1 d (by omega), ycv_s, yr_t (by omega), b1 d hd]
    · obtain ⟨h', b1, b2, b3, b4⟩ := l115 hg t ht s es K h8 n (k + 1) h (by omega) (by omega) (XS0_no hg h1 S c) pe hF
      refine ⟨h', fun d hd => ?_, b2, b3, b4⟩
      rw [b115_79, hF, yH0 ha, x3, if_pos (by omega), s34' d (by omega), yci_s, if_neg (by rw [bi_t (Classical.not_not.mp c)]; omega), yr_t (by omega), b1 d hd]
theorem l238a (d : Nat) (hd : 1 ≤ d) (t : Int) (hg : g_ok (hv h)) : ∀ (n : Nat) (k s : Int), 0 ≤ k → k + n = g_wm (hv h) → (0 ≤ s ∧ s ≤ k) → y_ev z_pg sc d pgX8_mend 28 [some (y_vr 94), some (y_vi t), some (y_vi s), some (y_vi k), none] [] h = y_ev z_pg sc d pgX8_mend 28 [some (y_vr 94), some (y_vi t), some (y_vi (s + u_sum (fun j => y_bi (LO (pl h 111) t j)) k n)), some (y_vi (g_wm (hv h))), none] [] h
  | 0, k, s, h1, h2, h3 => by
    rw [u_sum_0, Int.add_zero, show k = g_wm (hv h) by omega]
  | n + 1, k, s, h1, h2, h3 => by
    have kw := hg.2.2.1
    have ih := fun s hs => l238a d hd t hg n (k + 1) s (by omega) (by omega) hs
    have pk : y_I h 111 (Int.toNat k) = pl h 111 k := rfl
    rw [b238_28, hvwm, if_pos (by omega), s191 d hd k (by omega), yci_s, u_sum_s]
    by_cases c : pl h 111 k = -9
    · have l : LO (pl h 111) t k := fun q => q.1 c
      rw [if_pos (bi_f (fun q => q c)), yr_t (by omega), yr_t (by omega), ih _ (by omega), bi_t l, Int.add_assoc]
    · rw [if_neg (by rw [bi_t c]; omega), yi_t (by omega), pk]
      by_cases c2 : pl h 111 k < t
      · have l : ¬ LO (pl h 111) t k := fun q => q ⟨c, c2⟩
        rw [if_pos c2, yr_t (by omega), yr_t (by omega), ih _ (by omega), bi_f l, Int.add_assoc]
      · have l : LO (pl h 111) t k := fun q => c2 q.2
        rw [if_neg c2, yr_t (by omega), yr_t (by omega), ih _ (by omega), bi_t l, Int.add_assoc]
theorem l238c (hg : g_ok G) (hp : p_ok G P) (hbad : g_bad G P = -9) (v1 v2 : Int) (m : Int) (hm : 0 ≤ m) : ∀ (n : Nat) (w : Int) (s : k_A) (h : y_Hp), 0 ≤ w → w + n = g_wm G → KI2 G P s m w → MSQ h G LT 0 1 s.1 s.2 → p_eq G (pl h 115) P → ∃ h', (∀ d, 5 ≤ d → y_ev z_pg sc d pgX8_mend 104 [some (y_vr 94), some (y_vi v1), some (y_vi v2), some (y_vi m), some (y_vi w)] [] h = y_rg (m + 1) (y_ev z_pg sc d pgX8_mend 96 [some (y_vr 94), some (y_vi v1), some (y_vi v2), some (y_vi (m + 1)), some (y_vi (g_wm G))] [] h')) ∧ KI2 G P (u_fold (k_st G P m) s w n) m (g_wm G) ∧ MSQ h' G LT 0 1 (u_fold (k_st G P m) s w n).1 (u_fold (k_st G P m) s w n).2 ∧ (∀ b k, b ≠ 111 → b ≠ 117 → y_I h' b k = y_I h b k) ∧ h'.2 = h.2
  | 0, w, s, h, h1, h2, K, Q, pe => by
    have ew : w = g_wm G := by omega
    have w11 : y_I h 94 11 = g_wm G := by rw [← Q.1.1]; rfl
    rw [u_fold_0]
    rw [ew] at K
    refine ⟨h, fun d hd => ?_, K, Q, fun _ _ _ _ => rfl, rfl⟩
    rw [b238_104, w11, if_neg (by omega), ew]
  | n + 1, w, s, h, h1, h2, K, Q, pe => by
    have kw := hg.2.2.1
    have w11 : y_I h 94 11 = g_wm G := by rw [← Q.1.1]; rfl
    have hw : 0 ≤ w ∧ w < g_wm G := ⟨h1, by omega⟩
    have p115 : y_I h 115 (Int.toNat w) = P w := pe w hw.1 hw.2
    have K' := KI2_st hg hp hbad K hw hm
    have k2 := (hg.2.2.2.2.2.2.2.2.1 w hw.1 hw.2).2.1
    have s226' := fun d hd => s226 (sc := sc) d hd hg K.2.2 Q (g_pt G w) k2
    have s174' := fun d (hd : 1 ≤ d) => s174 (sc := sc) (h := h) d hd w (by omega)
    rw [Q.1.1] at s174'
    rw [u_fold_s]
    by_cases c : P w = m
    · obtain ⟨i1, i2, i3, i4, i5⟩ := KI2_at hg hp hbad K hw hm c
      have es : k_st G P m s w = (u_up s.1 w m, q_up G s.2 w m) := if_pos c
      have Q1 := MSQ_up hg Q hw i1 hm i3
      have ec : y_sI (y_sI h 117 (Int.toNat w) (q_fc G s.2 (g_pt G w) - 2 * g_pt G w)) 111 (Int.toNat w) m = y_sI (y_sI h 111 (Int.toNat w) m) 117 (Int.toNat w) (q_fc G s.2 (g_pt G w) - 2 * g_pt G w) := y_ext (fun b k => by
        rw [yI_sI, yI_sI, yI_sI, yI_sI]
        by_cases z1 : b = 111 ∧ k = Int.toNat w
        · rw [if_pos z1, if_neg (by omega), if_pos z1]
        · rw [if_neg z1, if_neg z1]) rfl
      rw [← ec] at Q1
      generalize eg : y_sI (y_sI h 117 (Int.toNat w) (q_fc G s.2 (g_pt G w) - 2 * g_pt G w)) 111 (Int.toNat w) m = g at Q1
      have I1 : ∀ b k, b ≠ 111 → b ≠ 117 → y_I g b k = y_I h b k := fun b k q1 q2 => by rw [← eg, yI_sI_o (by omega), yI_sI_o (by omega)]
      obtain ⟨h', b1, b2, b3, b4, b5⟩ := l238c hg hp hbad v1 v2 m hm n (w + 1) (k_st G P m s w) g (by omega) (by omega) K' (by rw [es]; exact Q1) (fun v a1 a2 => (I1 115 _ (by omega) (by omega)).trans (pe v a1 a2))
      refine ⟨h', fun d hd => ?_, b2, b3, fun b k q1 q2 => (b4 b k q1 q2).trans (I1 b k q1 q2), b5.trans (by rw [← eg]; rfl)⟩
      rw [b238_104, w11, if_pos hw.2, yi_t (by omega), p115, if_pos c, s174' d (by omega), yci_s, s226' d (by omega), yci_s, yi_t (by omega), yi_t (by omega), yr_t (by omega), eg, b1 d hd]
    · have es : k_st G P m s w = s := if_neg c
      rw [es] at K' ⊢
      obtain ⟨h', b1, b2, b3, b4, b5⟩ := l238c hg hp hbad v1 v2 m hm n (w + 1) s h (by omega) (by omega) K' Q pe
      refine ⟨h', fun d hd => ?_, b2, b3, b4, b5⟩
      rw [b238_104, w11, if_pos hw.2, yi_t (by omega), p115, if_neg c, yr_t (by omega), b1 d hd]
theorem l238d (hg : g_ok G) (hp : p_ok G P) (hbad : g_bad G P = -9) (t v2 : Int) (ht : t ≤ 60) : ∀ (n : Nat) (m : Int) (s : k_A) (h : y_Hp), 0 ≤ m → m + n = t → KI2 G P s m 0 → MSQ h G LT 0 1 s.1 s.2 → p_eq G (pl h 115) P → ∃ h', (∀ d o, 5 ≤ d → ∃ o', y_ev z_pg sc d pgX8_mend 96 [some (y_vr 94), some (y_vi t), some (y_vi v2), some (y_vi m), o] [] h = y_ev z_pg sc d pgX8_mend 96 [some (y_vr 94), some (y_vi t), some (y_vi v2), some (y_vi t), o'] [] h') ∧ KI2 G P (u_fold (k_in G P) s m n) t 0 ∧ MSQ h' G LT 0 1 (u_fold (k_in G P) s m n).1 (u_fold (k_in G P) s m n).2 ∧ (∀ b k, b ≠ 111 → b ≠ 117 → y_I h' b k = y_I h b k) ∧ h'.2 = h.2
  | 0, m, s, h, h1, h2, K, Q, pe => by
    have em : m = t := by omega
    rw [u_fold_0]
    rw [em] at K ⊢
    exact ⟨h, fun d o hd => ⟨o, rfl⟩, K, Q, fun _ _ _ _ => rfl, rfl⟩
  | n + 1, m, s, h, h1, h2, K, Q, pe => by
    have kw := hg.2.2.1
    obtain ⟨g, a1, a2, a3, a4, a5⟩ := l238c (sc := sc) hg hp hbad t v2 m h1 (g_wm G).toNat 0 s h (by omega) (by omega) K Q pe
    obtain ⟨h', b1, b2, b3, b4, b5⟩ := l238d hg hp hbad t v2 ht n (m + 1) (k_in G P s m) g (by omega) (by omega) (KI2_nx a2) a3 (fun v v1 v2 => (a4 115 _ (by omega) (by omega)).trans (pe v v1 v2))
    rw [u_fold_s]
    refine ⟨h', fun d o hd => ?_, b2, b3, fun b k q1 q2 => (b4 b k q1 q2).trans (a4 b k q1 q2), b5.trans a5⟩
    obtain ⟨o', e⟩ := b1 d (some (y_vi (g_wm G))) hd
    exact ⟨o', by rw [b238_96, if_pos (by omega), a1 d hd, yr_t (by omega), e]⟩
end ME
