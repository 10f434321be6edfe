/-! THE BEST OF ALL, x's: rows grow -/
def FRX (len : Int) (b k : Nat) : Prop := ¬ ((b = 43 ∧ (k = 0 ∨ k = 6 ∨ k = 7 ∨ k = 8)) ∨ b = 44 ∨ (47 + Int.toNat len ≤ b ∧ b ≤ 60))
theorem yS5 {x : y_O} : y_kt 43 5 x = x := rfl
section XS
variable {sc : z_Sc} {a : Nat} {G : u_G} {L TD : Int → Prop} {b0 oc wt : Int}
theorem XA_cg {h h' : y_Hp} {A : q_A} (X : XA h G A) (e : ∀ b k, (b = 43 ∧ (k = 0 ∨ k = 6)) ∨ b = 44 → y_I h' b k = y_I h b k) : XA h' G A := ⟨by rw [e _ _ (by omega)]; exact X.1, fun q => ⟨by rw [e _ _ (by omega)]; exact (X.2 q).1, fun w w1 w2 => (e 44 _ (by omega)).trans ((X.2 q).2 w w1 w2)⟩⟩
theorem XT_cg {h h' : y_Hp} (X : XT h G TD) (e : ∀ b k, (b = 43 ∧ k = 9) ∨ b = 45 → y_I h' b k = y_I h b k) : XT h' G TD := ⟨by rw [e _ _ (by omega)]; exact X.1, fun w w1 w2 w3 => by rw [e _ _ (by omega)]; exact X.2 w w1 w2 w3⟩
/-- what a call of grow does -/
def GRW (sc : z_Sc) (a : Nat) (G : u_G) (L TD : Int → Prop) (b0 oc wt : Int) (n : Nat) : Prop := ∀ (P : u_P) (E : Int → Int) (A : q_A) (h : y_Hp) (len : Int), 0 ≤ len → q_in G P E → XQ h a G L b0 oc P E → XA h G A → XT h G TD → q_good G A → y_I h 43 3 = q_gl wt → len + n = q_ct TD (g_wm G) → q_lf G L P = n → (∀ j, 0 ≤ j → j < g_wm G → P j = -9 → (TD j ↔ L j)) → ∃ h', (∀ d, n + 6 ≤ d → y_se z_pg sc d 68 [y_vr 43, y_vi len] h = some (none, h')) ∧ XQ h' a G L b0 oc P E ∧ XA h' G (q_tr G L b0 oc wt (q_lk G L) n P E A) ∧ (∀ b k, FRX len b k → y_I h' b k = y_I h b k) ∧ h'.2 = h.2
/-- one want more in the row, all longer ones looked at, taken back -/
theorem l68c {P : u_P} {E : Int → Int} {A : q_A} {h : y_Hp} (hg : g_ok G) (hb : 0 ≤ b0 ∧ b0 ≤ 60) (n : Nat) (IH : GRW sc a G L TD b0 oc wt n) (len : Int) (hl : 0 ≤ len) (hct : q_ct TD (g_wm G) ≤ 8) (I : q_in G P E) (en : len + (n + 1 : Nat) = q_ct TD (g_wm G)) (ef : q_lf G L P = (n + 1 : Nat)) (hTD : ∀ j, 0 ≤ j → j < g_wm G → P j = -9 → (TD j ↔ L j)) (w : Int) (hw : 0 ≤ w ∧ w < g_wm G) (Q : XQ h a G L b0 oc P E) (XAh : XA h G A) (T : XT h G TD) (gd : q_good G A) (eg : y_I h 43 3 = q_gl wt) (td : TD w) (hoc : oc = 0 ∨ oc = 1) (nx : y_I h (47 + Int.toNat len) (Int.toNat (q_ct TD w)) = q_t G b0 P E w) (c : q_ch G L b0 oc P E w) : ∃ h', (∀ d o3 o4 o5 o6 o7 o8, n + 6 ≤ d → ∃ o3' o4' o5' o6' o7' o8', y_ev z_pg sc d pgX5_grow 34 [some (y_vr 43), some (y_vi len), some (y_vi (q_ct TD w)), o3, o4, o5, o6, o7, o8] [] h = y_ev z_pg sc d pgX5_grow 34 [some (y_vr 43), some (y_vi len), some (y_vi (q_ct TD (w + 1))), o3', o4', o5', o6', o7', o8'] [] h') ∧ XQ h' a G L b0 oc P E ∧ XA h' G (q_tr G L b0 oc wt (q_lk G L) n (u_up P w (q_t G b0 P E w)) (q_up G E w (q_t G b0 P E w)) A) ∧ (∀ b k, FRX (len + 1) b k → y_I h' b k = y_I h b k) ∧ h'.2 = h.2 := by
  obtain ⟨⟨cL, cP⟩, cn, ct⟩ := c
  have kw := hg.2.2.1
  have kr := hg.2.1
  have kp := hg.1
  have kl := hg.2.2.2.2.2.1
  obtain ⟨k1, k2, k3, k4⟩ := hg.2.2.2.2.2.2.2.2.1 w hw.1 hw.2
  obtain ⟨⟨i1, i2⟩, i3⟩ := q_t_in hg hw ct hb.1
  have fcr := q_fc_r (E := E) hg k2
  have cpp := (hg.2.2.2.2.2.2.1 _ k2.1 k2.2).1
  have cb := q_ct_bd (TD := TD) (w := w)
  have cs := q_ct_s (TD := TD) hw.1
  have cl := q_ct_lt (TD := TD) (w := w) (v := g_wm G) hw.1 (by omega) td
  rw [bi_t td] at cs
  have t45 := T.2 w hw.1 hw.2 td
  have I2 := q_in_up hg hb.1 I hw ct
  have ef2 := q_lf_up (t := q_t G b0 P E w) hw cL cP ct
  have tb : 0 ≤ q_t G b0 P E w ∧ q_t G b0 P E w ≤ 60 ∧ g_ws G P (g_rd G w) ≤ q_t G b0 P E w := by
    unfold q_lo at i1
    unfold q_hi at i2
    omega
  obtain ⟨h1, p1, Q1, p3, p4⟩ := s75 (sc := sc) Q hg I w (q_t G b0 P E w) hw cL cP (by omega) tb.2.2
  obtain ⟨h2, g1, Q2, g3, g4, g5⟩ := IH _ _ A h1 (len + 1) (by omega) I2 Q1 (XA_cg XAh fun b k q => p3 b k (by omega)) (XT_cg T fun b k q => p3 b k (by omega)) gd (by rw [p3 _ _ (by omega)]; exact eg) (by omega) (by rw [ef2, ef]; omega) (fun j j1 j2 j3 => by
    by_cases z : j = w
    · rw [z, up_e] at j3; omega
    · rw [up_o j1 hw.1 z] at j3
      exact hTD j j1 j2 j3)
  obtain ⟨h3, r1, Q3, r3, r4⟩ := s76 (sc := sc) w (q_t G b0 P E w) hg I2 Q2 hw cL cP (by omega) tb.2.2
  have v9 : y_I h (a + 9) (Int.toNat w) = g_rd G w := Q.1.2.2.2.2.2.2.2.2.2.2.2.2.2.2.1 w hw.1 hw.2
  have v10 : y_I h (a + 10) (Int.toNat w) = g_pt G w := Q.1.2.2.2.2.2.2.2.2.2.2.2.2.2.2.2.1 w hw.1 hw.2
  have f2 := Q.1.1
  have ha := Q.1.2.1
  have v59 := Q.2.2.2.2.2.2.1 (g_rd G w) k1.1 (by omega)
  have v60 := Q.2.2.2.2.2.2.2 (q_fc G E (g_pt G w)) (by omega) (by omega)
  have s74' := fun d hd => s74 (sc := sc) d hd Q hg (g_pt G w) k2
  have s72' := fun d hd => s72 (sc := sc) d hd Q hg hoc w hw
  refine ⟨y_sI (y_sI h3 59 (Int.toNat (g_rd G w)) (q_re G P (g_rd G w))) 60 (Int.toNat (q_fc G E (g_pt G w))) (E (q_fc G E (g_pt G w))), fun d o3 o4 o5 o6 o7 o8 hd => ⟨some (y_vi w), some (y_vi (q_t G b0 P E w)), some (y_vi (g_rd G w)), some (y_vi (q_fc G E (g_pt G w))), some (y_vi (q_re G P (g_rd G w))), some (y_vi (E (q_fc G E (g_pt G w)))), ?_⟩, Q3, XA_cg g3 (fun b k q => by rw [yI_sI_o (by omega), yI_sI_o (by omega), r3 b k (by omega)]), fun b k q => ?_, r4.trans (g5.trans p4)⟩
  · rw [b68_34, yS5, T.1, if_pos (by omega), yS5, yi_t (by omega), yS5, yi_t (by omega), yNx (by omega), lNx (by omega), yi_t (by omega), t45, nx, if_neg ct, yS5, s72' d (by omega), yci_s, if_neg (by rw [bi_t ⟨cn, cP⟩]; omega), yS5, f2, yH0 ha, yH9 ha, lH9 ha, yi_t (by omega), yS5, yH0 ha, yH10 ha, lH10 ha, yi_t (by omega), yS5, v9, v10, s74' d (by omega), yci_s, yS5, yi_t (by omega), yS5, yi_t (by omega), yS5, p1 d (by omega), ycv_s, yr_t (by omega), g1 d hd, ycv_s, yS5, r1 d (by omega), ycv_s, yS5, yi_t (by omega), yhb_s, yS5, yi_t (by omega), yr_t (by omega), v59, v60, ← cs]
  · unfold FRX at q
    rw [yI_sI_o (by omega), yI_sI_o (by omega), r3 b k (by omega), g4 b k (by unfold FRX; exact q), p3 b k (by omega)]
theorem l68 {P : u_P} {E : Int → Int} (hg : g_ok G) (hb : 0 ≤ b0 ∧ b0 ≤ 60) (n : Nat) (IH : GRW sc a G L TD b0 oc wt n) (len : Int) (hl : 0 ≤ len) (hct : q_ct TD (g_wm G) ≤ 8) (I : q_in G P E) (en : len + (n + 1 : Nat) = q_ct TD (g_wm G)) (ef : q_lf G L P = (n + 1 : Nat)) (hTD : ∀ j, 0 ≤ j → j < g_wm G → P j = -9 → (TD j ↔ L j)) (hoc : oc = 0 ∨ oc = 1) : ∀ (m : Nat) (w : Int) (A : q_A) (h : y_Hp), 0 ≤ w → w + m = g_wm G → XQ h a G L b0 oc P E → XA h G A → XT h G TD → q_good G A → y_I h 43 3 = q_gl wt → (∀ j, 0 ≤ j → j < g_wm G → TD j → P j = -9 → y_I h (47 + Int.toNat len) (Int.toNat (q_ct TD j)) = q_t G b0 P E j) → ∃ h', (∀ d o3 o4 o5 o6 o7 o8, n + 6 ≤ d → y_ev z_pg sc d pgX5_grow 34 [some (y_vr 43), some (y_vi len), some (y_vi (q_ct TD w)), o3, o4, o5, o6, o7, o8] [] h = some (none, h')) ∧ XQ h' a G L b0 oc P E ∧ XA h' G (u_fold (fun A w => @ite _ (q_ch G L b0 oc P E w) (Classical.propDecidable _) (q_tr G L b0 oc wt (q_lk G L) n (u_up P w (q_t G b0 P E w)) (q_up G E w (q_t G b0 P E w)) A) A) A w m) ∧ (∀ b k, FRX (len + 1) b k → y_I h' b k = y_I h b k) ∧ h'.2 = h.2 := by
  intro m
  induction m with
  | zero =>
    intro w A h h1 h2 Q XAh T gd eg nx
    refine ⟨h, fun d o3 o4 o5 o6 o7 o8 hd => ?_, Q, XAh, fun _ _ _ => rfl, rfl⟩
    rw [b68_34, yS5, T.1, show w = g_wm G by omega, if_neg (by omega)]
  | succ m ih =>
    intro w A h h1 h2 Q XAh T gd eg nx
    have kw := hg.2.2.1
    have hw : 0 ≤ w ∧ w < g_wm G := ⟨h1, by omega⟩
    have cb := q_ct_bd (TD := TD) (w := w)
    have cs := q_ct_s (TD := TD) h1
    rw [u_fold_s]
    by_cases c : q_ch G L b0 oc P E w
    · have td : TD w := (hTD w hw.1 hw.2 c.1.2).mpr c.1.1
      obtain ⟨h', i1, i2, i3, i4, i5⟩ := l68c hg hb n IH len hl hct I en ef hTD w hw Q XAh T gd eg td hoc (nx w hw.1 hw.2 td c.1.2) c
      have gd' := q_tr_good (L := L) (oc := oc) (wt := wt) (m := q_lk G L) hg hb.1 n _ _ A (q_in_up hg hb.1 I hw c.2.2) gd
      rw [if_pos c]
      obtain ⟨h'', j1, j2, j3, j4, j5⟩ := ih (w + 1) _ h' (by omega) (by omega) i2 i3 (XT_cg T fun b k q => i4 b k (by unfold FRX; omega)) gd' (by rw [i4 _ _ (by unfold FRX; omega)]; exact eg) (fun j y1 y2 y3 y4 => by rw [i4 _ _ (by unfold FRX; omega)]; exact nx j y1 y2 y3 y4)
      refine ⟨h'', fun d o3 o4 o5 o6 o7 o8 hd => ?_, j2, j3, fun b k q => (j4 b k q).trans (i4 b k q), j5.trans i5⟩
      obtain ⟨o3', o4', o5', o6', o7', o8', e⟩ := i1 d o3 o4 o5 o6 o7 o8 hd
      rw [e, j1 d _ _ _ _ _ _ hd]
    · rw [if_neg c]
      obtain ⟨h'', j1, j2, j3, j4, j5⟩ := ih (w + 1) A h (by omega) (by omega) Q XAh T gd eg nx
      refine ⟨h'', fun d o3 o4 o5 o6 o7 o8 hd => ?_, j2, j3, j4, j5⟩
      by_cases td : TD w
      · have cl := q_ct_lt (TD := TD) (w := w) (v := g_wm G) h1 (by omega) td
        rw [bi_t td] at cs
        have t45 := T.2 w hw.1 hw.2 td
        rw [b68_34, yS5, T.1, if_pos (by omega), yS5, yi_t (by omega), yS5, yi_t (by omega), yNx (by omega), lNx (by omega), yi_t (by omega), t45]
        by_cases z : y_I h (47 + Int.toNat len) (Int.toNat (q_ct TD w)) = -9
        · rw [if_pos z, yr_t (by omega), ← cs, j1 d _ _ _ _ _ _ hd]
        · have nn : ¬ (q_nx G oc P w ∧ P w = -9) := fun q => c ⟨⟨(hTD w hw.1 hw.2 q.2).mp td, q.2⟩, q.1, by rw [← nx w hw.1 hw.2 td q.2]; exact z⟩
          rw [if_neg z, yS5, s72 d (by omega) Q hg hoc w hw, yci_s, if_pos (bi_f nn), yr_t (by omega), ← cs, j1 d _ _ _ _ _ _ hd]
      · rw [bi_f td, Int.add_zero] at cs
        rw [← cs, j1 d _ _ _ _ _ _ hd]
theorem s68 (hg : g_ok G) (hb : 0 ≤ b0 ∧ b0 ≤ 60) (hwt : 0 ≤ wt ∧ wt ≤ 3) (hoc : oc = 0 ∨ oc = 1) (hct : q_ct TD (g_wm G) ≤ 8) : ∀ n, GRW sc a G L TD b0 oc wt n := by
  intro n
  induction n with
  | zero =>
    intro P E A h len hl I Q XAh T gd eg en ef hTD
    obtain ⟨h1, a1, a2, a3, a4⟩ := s69 (sc := sc) Q XAh gd hg I hwt eg len 0 (by rw [T.1]; omega)
    refine ⟨h1, fun d hd => ?_, XQ_cg Q (fun b k q => a3 b k (by omega)) a4, a2, fun b k q => a3 b k (by unfold FRX at q; omega), a4⟩
    obtain ⟨d, rfl⟩ : ∃ e, d = e + 1 := ⟨d - 1, by omega⟩
    rw [e68, b68_0, yS5, a1 d (by omega), ycv_s, yS5, a3 _ _ (by omega), T.1, if_neg (by omega)]
  | succ n IH =>
    intro P E A h len hl I Q XAh T gd eg en ef hTD
    have cb := q_ct_bd (TD := TD) (w := g_wm G)
    have kw := hg.2.2.1
    obtain ⟨h1, a1, a2, a3, a4⟩ := s69 (sc := sc) Q XAh gd hg I hwt eg len (n + 1) (by rw [T.1]; omega)
    have Q1 : XQ h1 a G L b0 oc P E := XQ_cg Q (fun b k q => a3 b k (by omega)) a4
    have T1 : XT h1 G TD := XT_cg T fun b k q => a3 b k (by omega)
    have eg1 : y_I h1 43 3 = q_gl wt := by rw [a3 _ _ (by omega)]; exact eg
    have gd1 := q_vis_good (L := L) (wt := wt) (m := q_lk G L) (n := n + 1) hg I gd
    obtain ⟨h2, b1, b2, b3, b4⟩ := s70 (sc := sc) hg I hb hwt len ⟨hl, by omega⟩ hct Q1 T1 eg1 hTD
    have bq : ∀ b k, b ≠ 57 → ¬ (47 + Int.toNat len ≤ b ∧ b ≤ 55) → y_I h2 b k = y_I h1 b k := fun b k q1 q2 => b3 b k q1 (by omega)
    have Q2 : XQ h2 a G L b0 oc P E := XQ_cg Q1 (fun b k q => b3 b k (by omega) (by omega)) b4
    have T2 : XT h2 G TD := XT_cg T1 fun b k q => b3 b k (by omega) (by omega)
    have A2 : XA h2 G (q_vis G L wt (q_lk G L) (n + 1) P A) := XA_cg a2 fun b k q => b3 b k (by omega) (by omega)
    have start : ∀ d, 4 ≤ d → y_se z_pg sc (d + 1) 68 [y_vr 43, y_vi len] h = if q_h G L b0 wt P E < q_best (q_vis G L wt (q_lk G L) (n + 1) P A) then y_ev z_pg sc d pgX5_grow 34 [some (y_vr 43), some (y_vi len), some (y_vi 0), none, none, none, none, none, none] [] h2 else some (none, h2) := fun d hd => by
      rw [e68, b68_0, yS5, a1 d (by omega), ycv_s, yS5, T1.1, if_pos (by omega), if_pos (by omega), yS5, b1 d hd, yci_s, yS5, A2.1]
    by_cases c : q_h G L b0 wt P E < q_best (q_vis G L wt (q_lk G L) (n + 1) P A)
    · obtain ⟨h3, c1, c2, c3, c4, c5⟩ := l68 (sc := sc) hg hb n IH len hl hct I en ef hTD hoc (g_wm G).toNat 0 _ h2 (by omega) (by omega) Q2 A2 T2 gd1 (by rw [b3 _ _ (by omega) (by omega)]; exact eg1) b2
      refine ⟨h3, fun d hd => ?_, c2, c3, fun b k q => ?_, c5.trans (b4.trans a4)⟩
      · obtain ⟨d, rfl⟩ : ∃ e, d = e + 1 := ⟨d - 1, by omega⟩
        rw [start d (by omega), if_pos c]
        exact c1 d _ _ _ _ _ _ (by omega)
      · unfold FRX at q
        rw [c4 b k (by unfold FRX; omega), bq b k (by omega) (by omega), a3 b k (by omega)]
    · have pr := q_prune (L := L) (oc := oc) (m := q_lk G L) hg hb.1 hwt (n + 1) P E (q_vis G L wt (q_lk G L) (n + 1) P A) I ef (by omega)
      have vn := q_vis_no (m := q_lk G L) (n := n + 1) (L := L) (A := q_vis G L wt (q_lk G L) (n + 1) P A) hg hb.1 hwt I ef (by omega)
      have et : q_tr G L b0 oc wt (q_lk G L) (n + 1) P E A = q_vis G L wt (q_lk G L) (n + 1) P A := by
        rw [← pr]
        unfold q_tr
        rw [vn]
      refine ⟨h2, fun d hd => ?_, Q2, by rw [et]; exact A2, fun b k q => ?_, b4.trans a4⟩
      · obtain ⟨d, rfl⟩ : ∃ e, d = e + 1 := ⟨d - 1, by omega⟩
        rw [start d (by omega), if_neg c]
      · unfold FRX at q
        rw [bq b k (by omega) (by omega), a3 b k (by omega)]
/-- all rows -/
def q_A0 : q_A := (-9, 0, fun _ => -9)
theorem s67 {P : u_P} {E : Int → Int} {h : y_Hp} (hg : g_ok G) (hb : 0 ≤ b0 ∧ b0 ≤ 60) (hwt : 0 ≤ wt ∧ wt ≤ 3) (hoc : oc = 0 ∨ oc = 1) (hct : q_ct TD (g_wm G) ≤ 8) (I : q_in G P E) (Q : XQ h a G L b0 oc P E) (T : XT h G TD) (n : Nat) (en : (n : Int) = q_ct TD (g_wm G)) (ef : q_lf G L P = n) (hTD : ∀ j, 0 ≤ j → j < g_wm G → P j = -9 → (TD j ↔ L j)) : ∃ h', (∀ d, 20 ≤ d → y_se z_pg sc d 67 [y_vr 43, y_vi (q_gl wt)] h = some (some (y_vi (q_best (q_tr G L b0 oc wt (q_lk G L) n P E q_A0))), h')) ∧ XA h' G (q_tr G L b0 oc wt (q_lk G L) n P E q_A0) ∧ (∀ b k, ¬ ((b = 43 ∧ (k = 0 ∨ k = 3 ∨ k = 6 ∨ k = 7 ∨ k = 8)) ∨ b = 44 ∨ (47 ≤ b ∧ b ≤ 60)) → y_I h' b k = y_I h b k) ∧ h'.2 = h.2 := by
  generalize e1 : y_sI (y_sI (y_sI h 43 3 (q_gl wt)) 43 6 1000000) 43 0 1000000 = h1
  have I1 : ∀ b k, ¬ (b = 43 ∧ (k = 0 ∨ k = 3 ∨ k = 6)) → y_I h1 b k = y_I h b k := fun b k q => by rw [← e1, yI_sI_o (by omega), yI_sI_o (by omega), yI_sI_o (by omega)]
  have S1 : h1.2 = h.2 := by rw [← e1]; rfl
  obtain ⟨h2, b1, b2, b3, b4, b5⟩ := s68 (sc := sc) (a := a) (L := L) (TD := TD) hg hb hwt hoc hct n P E q_A0 h1 0 (by omega) I (XQ_cg Q (fun b k q => I1 b k (by omega)) S1) ⟨by rw [← e1, yI_sI_o (by omega), yI_sI_e ⟨rfl, rfl⟩]; rfl, fun q => absurd q (by show ¬ (0 : Int) ≤ -9; omega)⟩ (XT_cg T fun b k q => I1 b k (by omega)) (Or.inl rfl) (by rw [← e1, yI_sI_o (by omega), yI_sI_o (by omega), yI_sI_e ⟨rfl, rfl⟩]) (by omega) ef hTD
  refine ⟨h2, fun d hd => ?_, b3, fun b k q => ?_, b5.trans S1⟩
  · obtain ⟨d, rfl⟩ : ∃ e, d = e + 1 := ⟨d - 1, by omega⟩
    rw [e67, b67_0, e1, b1 d (by omega), ycv_s, b3.1]
  · rw [b4 b k (by unfold FRX; omega), I1 b k (by omega)]
end XS
