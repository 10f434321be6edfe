/-! CALLS: least, soon, even -/
def LT : Int → Prop := fun _ => True
theorem u_sum_1 {f : Int → Int} {n : Nat} {k : Int} (h : ∀ j, f j = 1) : u_sum f k n = n := by
  have := u_sum_bd (f := f) (lo := 1) (hi := 1) (n := n) (k := k) fun j _ _ => by rw [h j]; omega
  omega
theorem q_ct_LT {w : Int} (hw : 0 ≤ w) : q_ct LT w = w := by
  unfold q_ct
  rw [u_sum_1 (f := fun j => y_bi (LT j)) fun j => bi_t (show LT j from trivial)]
  omega
theorem q_lf_LT {G : u_G} (hw : 0 ≤ g_wm G) : q_lf G LT (fun _ => -9) = (((g_wm G).toNat : Nat) : Int) := by
  unfold q_lf
  exact u_sum_1 fun j => bi_t ⟨trivial, rfl⟩
theorem q_lk_all {G : u_G} : q_lk G LT = m_mu G := funext fun P => u_sum_cg fun j _ _ => by
  rw [if_pos (show LT j from trivial), if_pos (Or.inl rfl)]
/-- all rows of all wants -/
noncomputable def q_R (G : u_G) (wt : Int) : q_A := q_tr G LT 0 1 wt (m_mu G) (g_wm G).toNat (fun _ => -9) (fun _ => 0) q_A0
theorem q_R_good {G : u_G} {wt : Int} (hg : g_ok G) : q_good G (q_R G wt) := q_tr_good hg (by omega) _ _ _ _ q_in_0 (Or.inl rfl)
theorem q_R_ge {G : u_G} {wt : Int} (hg : g_ok G) (h : wt ≠ 1 ∧ wt ≠ 3) : 0 ≤ (q_R G wt).1 := q_tr_ge _ _ _ _ hg (by omega) q_in_0 (Or.inr ⟨by show (-9 : Int) < 0; omega, h⟩)
section LE
variable {sc : z_Sc} {h : y_Hp} {a : Nat} {G : u_G} {N : Nat}
theorem l131 (wt : Int) (hwt : 0 ≤ wt ∧ wt ≤ 3) (hg : g_ok G) (h8 : g_wm G ≤ 8) : ∀ (m : Nat) (k : Int) (h : y_Hp), 0 ≤ k → k + m = g_wm G → XS0 h a G (fun _ => False) LT 0 1 (fun _ => -9) (fun _ => 0) k → y_F h 2 10 = a → ∃ h', (∀ d, 20 ≤ d → y_ev z_pg sc d pgX7_searchAll 15 [some (y_vr 2), some (y_vi (q_gl wt)), some (y_vi k)] [] h = some (some (y_vi (q_best (q_R G wt))), h')) ∧ XA h' G (q_R G wt) ∧ (∀ b k, ¬ (43 ≤ b ∧ b ≤ 60) → y_I h' b k = y_I h b k) ∧ h'.2 = h.2
  | 0, k, h, h1, h2, S, hF => by
    have kw := hg.2.2.1
    have ha := S.1.1.2.1
    have x3 : y_I h a 3 = g_wm G := S.1.1.2.2.2.2.2.1
    have ek : k = g_wm G := by omega
    rw [ek] at S
    obtain ⟨Q, T1, T2⟩ := S
    have ct := q_ct_LT (w := g_wm G) kw.1
    obtain ⟨h', a1, a2, a3, a4⟩ := s67 (sc := sc) (a := a) (L := LT) (TD := LT) (wt := wt) hg (by omega) hwt (Or.inr rfl) (by omega) q_in_0 (XQ_L hg Q fun j j1 j2 => ⟨fun _ => trivial, fun _ => Or.inr ⟨trivial, j2⟩⟩) ⟨T1, T2⟩ (g_wm G).toNat (by rw [ct]; omega) (q_lf_LT kw.1) (fun _ _ _ _ => Iff.rfl)
    rw [q_lk_all] at a1 a2
    refine ⟨h', fun d hd => ?_, a2, fun b k q => a3 b k (by omega), a4⟩
    have a1' := a1 d hd
    rw [b131_15, hF, yH0 ha, x3, if_neg (by omega), a1', yci_s]
    rfl
  | m + 1, k, h, h1, h2, S, hF => by
    have kw := hg.2.2.1
    have ha := S.1.1.2.1
    have x3 : y_I h a 3 = g_wm G := S.1.1.2.2.2.2.2.1
    have ct := q_ct_LT (w := g_wm G) kw.1
    obtain ⟨h1', a1, a2, a3, a4⟩ := XS0_add (sc := sc) hg q_in_0 ⟨h1, by omega⟩ S trivial (by omega) id rfl
    obtain ⟨h', b1, b2, b3, b4⟩ := l131 wt hwt hg h8 m (k + 1) h1' (by omega) (by omega) a2 (by unfold y_F; rw [a4]; exact hF)
    refine ⟨h', fun d hd => ?_, b2, fun b j q => (b3 b j q).trans (a3 b j q), b4.trans a4⟩
    rw [b131_15, hF, yH0 ha, x3, if_pos (by omega), a1 d (by omega), ycv_s, yr_t (by omega), b1 d hd]
theorem XS0_0 {L0 TD : Int → Prop} {b0 oc : Int} {P : u_P} {E : Int → Int} (hg : g_ok G) (Q : XQ h a G L0 b0 oc P E) (t : y_I h 43 9 = 0) : XS0 h a G L0 TD b0 oc P E 0 := ⟨XQ_L hg Q fun j j1 _ => ⟨Or.inl, fun q => q.elim id (fun q => by omega)⟩, t, fun w w1 w2 => by omega⟩
/-- x looks at all rows of all wants -/
theorem s131 (wt : Int) (hwt : 0 ≤ wt ∧ wt ≤ 3) (hg : g_ok G) (X : xmg h a G) (hF : y_F h 2 10 = a) (h8 : g_wm G ≤ 8) : ∃ h', (∀ d, 21 ≤ d → y_se z_pg sc d 131 [y_vr 2, y_vi (q_gl wt)] h = some (some (y_vi (q_best (q_R G wt))), h')) ∧ XA h' G (q_R G wt) ∧ (∀ b k, ¬ (43 ≤ b ∧ b ≤ 60) → y_I h' b k = y_I h b k) ∧ (∀ b k, b ≠ 43 → y_F h' b k = y_F h b k) ∧ y_J h' = y_J h := by
  obtain ⟨g1, a1, a2, a3, a4, a5, a6⟩ := s64 (sc := sc) (b0 := 0) (oc := 1) X hg (Or.inr rfl)
  have kw := hg.2.2.1
  obtain ⟨h', b1, b2, b3, b4⟩ := l131 (sc := sc) wt hwt hg h8 (g_wm G).toNat 0 g1 (by omega) (by omega) (XS0_0 hg a2 a3) ((a5 _ _ (by omega)).trans hF)
  refine ⟨h', fun d hd => ?_, b2, fun b k q => (b3 b k q).trans (a4 b k q), fun b k q => ?_, ?_⟩
  · obtain ⟨d, rfl⟩ : ∃ e, d = e + 1 := ⟨d - 1, by omega⟩
    rw [e131, b131_0, hF, a1 d (by omega), ycv_s, b1 d (by omega)]
  · have : y_F h' b k = y_F g1 b k := by unfold y_F; rw [b4]
    rw [this, a5 b k q]
  · have : y_J h' = y_J g1 := by unfold y_J; rw [b4]
    rw [this, a6]
/-- the model looks at all rows of all wants -/
theorem m_all (wt : Int) (hwt : 0 ≤ wt ∧ wt ≤ 3) (hg : g_ok (hv h)) (h8 : g_wm (hv h) ≤ 8) : ∃ h' h'' u, (∀ d, 2 ≤ d → y_se z_pg sc d 235 [y_vr 94, y_vi (y_shl 1 (g_wm (hv h)) - 1)] h = some (some (y_vi u), h')) ∧ (∀ d, 12 ≤ d → y_se z_pg sc d 234 [y_vr 94, y_vi wt] h' = some (none, h'')) ∧ MSA h'' (hv h) (q_R (hv h) wt) ∧ (∀ b k, ¬ ((b = 94 ∧ 39 ≤ k ∧ k ≤ 45) ∨ b = 111 ∨ (116 ≤ b ∧ b ≤ 118)) → y_I h'' b k = y_I h b k) ∧ h''.2 = h.2 := by
  have kw := hg.2.2.1
  have sb := shl_bd kw
  obtain ⟨h', u, a1, a2, a3, a4⟩ := s235 (sc := sc) (L := LT) hg (y_shl 1 (g_wm (hv h)) - 1) (by omega) (fun w w1 w2 => ⟨fun _ => trivial, fun _ => (ub_all kw (by omega)).mpr w2⟩)
  obtain ⟨h'', b1, b2, b3, b4⟩ := s234 (sc := sc) (wt := wt) hg (by omega) hwt (Or.inr rfl) (fun _ _ _ _ => trivial) q_in_0 a2 (g_wm (hv h)).toNat (by omega) (q_lf_LT kw.1)
  exact ⟨h', h'', u, a1, b1, b2, fun b k q => by rw [b3 b k (by omega), a3 b k (by omega)], b4.trans a4⟩
theorem INV_sk {h2 : y_Hp} (I : INV N h) (fr : ∀ b k, ¬ ((43 ≤ b ∧ b ≤ 60) ∨ b = 21 ∨ (b = 94 ∧ (k = 2 ∨ (39 ≤ k ∧ k ≤ 45))) ∨ (b = 2 ∧ k = 13) ∨ b = 111 ∨ (115 ≤ b ∧ b ≤ 118)) → y_I h2 b k = y_I h b k) (fF : ∀ b k, b ≠ 43 → y_F h2 b k = y_F h b k) (fJ : y_J h2 = y_J h) (hp : I_pln h2) (ht : y_I h2 2 13 = y_I h2 94 2) : INV (N + 1) h2 := by
  obtain ⟨a, ⟨hF, hD, X, hg⟩, i2, i3, i4, i5, ⟨t1, t2, t3⟩⟩ := I
  have ha := X.1
  have eg : hv h2 = hv h := hv_cg fun b k q => fr b k (by unfold RG at q; omega)
  refine ⟨a, ⟨by rw [fF _ _ (by omega)]; exact hF, by rw [fF _ _ (by omega)]; exact hD, xm_cg (h := h) (fun b k q => fr b k (by unfold RX RG at q; omega)) (fun p => by rw [fJ]) X, by rw [eg]; exact hg⟩, I_row_cg (h := h) (fun b k q => fr b k (by unfold RR at q; omega)) i2, I_txt_cg (h := h) (fun b k q => fr b k (by unfold RT at q; omega)) i3, hp, I_rul_cg (h := h) (fun b k q => fr b k (by unfold RV RG at q; omega)) i5, ht, ?_, fun f f1 f2 => ?_⟩
  · rw [fr _ _ (by omega), fr _ _ (by omega)]; exact t2
  · have := t3 f f1 f2
    rw [fr _ _ (by omega), fr _ _ (by omega)]
    exact ⟨this.1, this.2.1, by omega⟩
theorem I_pln_sk {h2 : y_Hp} (I : I_pln h) (hg : g_ok (hv h)) (eg : hv h2 = hv h) (e1 : ∀ j, j < 24 → y_I h2 111 j = y_I h 111 j) (e2 : ∀ j, y_I h2 21 j = y_I h 21 j) : I_pln h2 := by
  have kw := hg.2.2.1
  unfold I_pln
  rw [eg]
  refine ⟨p_ok.cg (P := pl h 111) (fun w w1 w2 => (e1 _ (by omega)).symm) I.1, fun w w1 w2 => ?_⟩
  have := I.2 w w1 w2
  show y_I h2 111 _ = y_I h2 21 _
  rw [e1 _ (by omega), e2]
  exact this
theorem l33b (d : Nat) (n : Int) (g : y_Hp) (hn : n ≤ 24) : ∀ (m : Nat) (k : Int), 0 ≤ k → k + m = max k n → y_ev z_pg sc d pgX2_become 2 [some (y_vr 20), some (y_vr 44), some (y_vi n), some (y_vi k)] [] (y_fill g 21 0 (Int.toNat k) (fun q => y_I g 44 q)) = some (none, y_fill g 21 0 (Int.toNat (k + m)) (fun q => y_I g 44 q))
  | 0, k, hk, hm => by
    rw [b33_2, if_neg (by omega), show k + ((0 : Nat) : Int) = k by omega]
  | m + 1, k, hk, hm => by
    have e1 : ∀ x : y_O, y_kt 44 10 x = x := fun x => rfl
    have e2 : (z_kd 44).2 = 24 := rfl
    have := l33b d n g hn m (k + 1) (by omega) (by omega)
    rw [show Int.toNat (k + 1) = Int.toNat k + 1 by omega] at this
    rw [b33_2, if_pos (by omega), if_pos (by omega), e1, e2, if_pos (by omega), yP0 (Or.inl rfl), e1, yi_t (by omega), yP1 (Or.inl rfl), lP1 (Or.inl rfl), yi_t (by omega), yr_t (by omega), yI_fill_o (by omega), y_fill_s (Nat.zero_le _) rfl, this, show k + 1 + (m : Int) = k + ((m + 1 : Nat) : Int) by omega]
theorem s33b (d : Nat) (hd : 1 ≤ d) (n : Int) (hn : 0 ≤ n ∧ n ≤ 24) : y_se z_pg sc d 33 [y_vr 20, y_vr 44, y_vi n] h = some (none, y_fill h 21 0 (Int.toNat n) (fun q => y_I h 44 q)) := by
  rcases d with _ | d
  · omega
  have := l33b (sc := sc) d n h hn.2 n.toNat 0 (by omega) (by omega)
  rw [show Int.toNat 0 = 0 from rfl, y_fill_0, show (0 : Int) + (n.toNat : Int) = n by omega] at this
  rw [e33, b33_0, this]
theorem o_soon (I : INV N h) (hN : N ≤ 1000) : OP sc 116 239 [y_vr 2] [y_vr 94] N h := by
  have II := I
  obtain ⟨a, ⟨hF, hD, X, hg⟩, i2, i3, i4, i5, i6⟩ := I
  have ha := X.1
  have kw := hg.2.2.1
  have x3 : y_I h a 3 = g_wm (hv h) := X.2.2.2.2.1
  by_cases c : 8 < g_wm (hv h)
  · refine OP_same II (-6) (fun d hd => ?_) (fun d hd => ?_)
    · rw [e116, b116_0, hF, yH0 ha, x3, if_pos c]
    · rw [e239, b239_0, hvwm, if_pos c]
  · obtain ⟨h1, a1, a2, a3, a4, a5⟩ := s131 (sc := sc) 1 (by omega) hg (xmg_xm.mpr X) hF (by omega)
    have gd := q_R_good (wt := 1) hg
    generalize e2 : y_fill h1 115 0 24 (fun j => y_I h1 111 j) = g2
    have I2 : ∀ b k, b ≠ 115 → y_I g2 b k = y_I h1 b k := fun b k q => by rw [← e2, yI_fill_o (by omega)]
    have v2 : hv g2 = hv h := hv_cg fun b k q => by rw [I2 b k (by unfold RG at q; omega), a3 b k (by unfold RG at q; omega)]
    obtain ⟨g3, g4, u, b1, b2, b3, b4, b5⟩ := m_all (sc := sc) (h := g2) 1 (by omega) (by rw [v2]; exact hg) (by rw [v2]; omega)
    rw [v2] at b1 b3
    generalize e5 : y_fill g4 111 0 24 (fun j => y_I g4 115 j) = g5
    have I5 : ∀ b k, b ≠ 111 → y_I g5 b k = y_I g4 b k := fun b k q => by rw [← e5, yI_fill_o (by omega)]
    have fr : ∀ b k, ¬ ((43 ≤ b ∧ b ≤ 60) ∨ (b = 94 ∧ 39 ≤ k ∧ k ≤ 45) ∨ b = 111 ∨ (115 ≤ b ∧ b ≤ 118)) → y_I g5 b k = y_I h b k := fun b k q => by
      rw [I5 b k (by omega), b4 b k (by omega), I2 b k (by omega), a3 b k (by omega)]
    have p111 : ∀ j, j < 24 → y_I g5 111 j = y_I h 111 j := fun j q => by
      rw [← e5, yI_fill_e ⟨rfl, by omega, q⟩, b4 _ _ (by omega), ← e2, yI_fill_e ⟨rfl, by omega, q⟩, a3 _ _ (by omega)]
    have S5 : g5.2 = h1.2 := by rw [← e5]; exact b5.trans (by rw [← e2]; rfl)
    have fF : ∀ b k, b ≠ 43 → y_F g5 b k = y_F h b k := fun b k q => by
      have : y_F g5 b k = y_F h1 b k := by unfold y_F; rw [S5]
      rw [this, a4 b k q]
    have fJ : y_J g5 = y_J h := by
      have : y_J g5 = y_J h1 := by unfold y_J; rw [S5]
      rw [this, a5]
    have eg : hv g5 = hv h := hv_cg fun b k q => fr b k (by unfold RG at q; omega)
    have v43 : y_I g5 94 43 = (q_R (hv h) 1).1 := by rw [I5 _ _ (by omega)]; exact b3.1
    refine OP_do (if (q_R (hv h) 1).1 < 0 then -9 else (q_R (hv h) 1).1) h1 g5 (fun d hd => ?_) (fun d hd => ?_) (INV_sk II (fun b k q => fr b k (by omega)) fF fJ (I_pln_sk i4 hg eg p111 (fun j => fr _ _ (by omega))) ?_)
    · have a1' := a1 d (by omega)
      have a1'' : y_se z_pg sc d 131 [y_vr 2, y_vi 2] h = some (some (y_vi (q_best (q_R (hv h) 1))), h1) := a1'
      rw [e116, b116_0, hF, yH0 ha, x3, if_neg c, a1'', yci_s]
      unfold q_best
      rcases gd with g | g
      · rw [if_pos (show (q_R (hv h) 1).1 < 0 by omega), if_pos rfl, if_pos (show (q_R (hv h) 1).1 < 0 by omega)]
      · rw [if_neg (show ¬ (q_R (hv h) 1).1 < 0 by omega), if_neg (by omega), if_neg (show ¬ (q_R (hv h) 1).1 < 0 by omega)]
    · have s221' := s221 (sc := sc) (h := h1) d (by omega) 115 (Or.inl rfl)
      rw [e2] at s221'
      have s222' := s222 (sc := sc) (h := g4) d (by omega) 115 (Or.inl rfl)
      rw [e5] at s222'
      have s236' := s236 (sc := sc) (h := g2) d (by omega) (by rw [v2]; exact hg)
      rw [v2] at s236'
      rw [e239, b239_0, a3 _ _ (by omega), hvwm, if_neg c, s221', ycv_s, s236', yci_s, b1 d (by omega), yci_s, b2 d (by omega), ycv_s, s222', ycv_s, v43]
      by_cases z : (q_R (hv h) 1).1 < 0
      · rw [if_pos z, if_pos z]
      · rw [if_neg z, if_neg z]
    · rw [fr _ _ (by omega), fr _ _ (by omega)]; exact i6.1
theorem o_even (I : INV N h) (hN : N ≤ 1000) : OP sc 117 240 [y_vr 2] [y_vr 94] N h := by
  have II := I
  obtain ⟨a, ⟨hF, hD, X, hg⟩, i2, i3, i4, i5, i6⟩ := I
  have ha := X.1
  have kw := hg.2.2.1
  have x3 : y_I h a 3 = g_wm (hv h) := X.2.2.2.2.1
  by_cases c : 8 < g_wm (hv h)
  · refine OP_same II (-6) (fun d hd => ?_) (fun d hd => ?_)
    · rw [e117, b117_0, hF, yH0 ha, x3, if_pos c]
    · rw [e240, b240_0, hvwm, if_pos c]
  · obtain ⟨h0, a1, a2, a3, a4, a5⟩ := s131 (sc := sc) 2 (by omega) hg (xmg_xm.mpr X) hF (by omega)
    have ge := q_R_ge (wt := 2) hg (by omega)
    have e0 := (a2.2 ge).1
    generalize e1 : y_sI h0 2 13 (y_I h0 43 0) = h1
    have I1 : ∀ b k, ¬ (b = 2 ∧ k = 13) → y_I h1 b k = y_I h0 b k := fun b k q => by rw [← e1, yI_sI_o q]
    generalize e2 : y_fill h1 115 0 24 (fun j => y_I h1 111 j) = g2
    have I2 : ∀ b k, b ≠ 115 → y_I g2 b k = y_I h1 b k := fun b k q => by rw [← e2, yI_fill_o (by omega)]
    have v2 : hv g2 = hv h := hv_cg fun b k q => by rw [I2 b k (by unfold RG at q; omega), I1 b k (by unfold RG at q; omega), a3 b k (by unfold RG at q; omega)]
    obtain ⟨g3, g4, u, b1, b2, b3, b4, b5⟩ := m_all (sc := sc) (h := g2) 2 (by omega) (by rw [v2]; exact hg) (by rw [v2]; omega)
    rw [v2] at b1 b3
    generalize e5 : y_fill g4 111 0 24 (fun j => y_I g4 115 j) = g5
    have I5 : ∀ b k, b ≠ 111 → y_I g5 b k = y_I g4 b k := fun b k q => by rw [← e5, yI_fill_o (by omega)]
    generalize e6 : y_sI g5 94 2 (y_I g5 94 44) = g6
    have I6 : ∀ b k, ¬ (b = 94 ∧ k = 2) → y_I g6 b k = y_I g5 b k := fun b k q => by rw [← e6, yI_sI_o q]
    have fr : ∀ b k, ¬ ((43 ≤ b ∧ b ≤ 60) ∨ (b = 94 ∧ (k = 2 ∨ (39 ≤ k ∧ k ≤ 45))) ∨ (b = 2 ∧ k = 13) ∨ b = 111 ∨ (115 ≤ b ∧ b ≤ 118)) → y_I g6 b k = y_I h b k := fun b k q => by
      rw [I6 b k (by omega), I5 b k (by omega), b4 b k (by omega), I2 b k (by omega), I1 b k (by omega), a3 b k (by omega)]
    have p111 : ∀ j, j < 24 → y_I g6 111 j = y_I h 111 j := fun j q => by
      rw [I6 _ _ (by omega), ← e5, yI_fill_e ⟨rfl, by omega, q⟩, b4 _ _ (by omega), ← e2, yI_fill_e ⟨rfl, by omega, q⟩, I1 _ _ (by omega), a3 _ _ (by omega)]
    have S5 : g6.2 = h0.2 := by rw [← e6, ← e5]; exact b5.trans (by rw [← e2, ← e1]; rfl)
    have fF : ∀ b k, b ≠ 43 → y_F g6 b k = y_F h b k := fun b k q => by
      have : y_F g6 b k = y_F h0 b k := by unfold y_F; rw [S5]
      rw [this, a4 b k q]
    have fJ : y_J g6 = y_J h := by
      have : y_J g6 = y_J h0 := by unfold y_J; rw [S5]
      rw [this, a5]
    have eg : hv g6 = hv h := hv_cg fun b k q => fr b k (by unfold RG at q; omega)
    have v43 : y_I g5 94 43 = (q_R (hv h) 2).1 := by rw [I5 _ _ (by omega)]; exact b3.1
    have v44 : y_I g5 94 44 = (q_R (hv h) 2).2.1 := by rw [I5 _ _ (by omega)]; exact (b3.2 ge).1
    refine OP_do ((q_R (hv h) 2).1) h1 g6 (fun d hd => ?_) (fun d hd => ?_) (INV_sk II (fun b k q => fr b k (by omega)) fF fJ (I_pln_sk i4 hg eg p111 (fun j => fr _ _ (by omega))) ?_)
    · have a1'' : y_se z_pg sc d 131 [y_vr 2, y_vi 1] h = some (some (y_vi (q_best (q_R (hv h) 2))), h0) := a1 d (by omega)
      have qb : q_best (q_R (hv h) 2) = (q_R (hv h) 2).1 := if_neg (by omega)
      rw [e117, b117_0, hF, yH0 ha, x3, if_neg c, a1'', yci_s, e1, qb]
    · have s221' := s221 (sc := sc) (h := h1) d (by omega) 115 (Or.inl rfl)
      rw [e2] at s221'
      have s222' := s222 (sc := sc) (h := g4) d (by omega) 115 (Or.inl rfl)
      rw [e5] at s222'
      have s236' := s236 (sc := sc) (h := g2) d (by omega) (by rw [v2]; exact hg)
      rw [v2] at s236'
      have s143' := s143 (sc := sc) (h := g5) d (by omega) (y_I g5 94 44) (y_I g5 94 43)
      rw [e6] at s143'
      rw [e240, b240_0, I1 _ _ (by omega), a3 _ _ (by omega), hvwm, if_neg c, s221', ycv_s, s236', yci_s, b1 d (by omega), yci_s, b2 d (by omega), ycv_s, s222', ycv_s, s143', yci_s, v43]
    · rw [I6 _ _ (by omega), I5 _ _ (by omega), b4 _ _ (by omega), I2 _ _ (by omega), ← e1, yI_sI_e ⟨rfl, rfl⟩, ← e6, yI_sI_e ⟨rfl, rfl⟩, v44, e0]
theorem o_least (I : INV N h) (hN : N ≤ 1000) : OP sc 114 237 [y_vr 2] [y_vr 94] N h := by
  have II := I
  obtain ⟨a, ⟨hF, hD, X, hg⟩, i2, i3, i4, i5, i6⟩ := I
  have ha := X.1
  have kw := hg.2.2.1
  have x3 : y_I h a 3 = g_wm (hv h) := X.2.2.2.2.1
  by_cases c : 8 < g_wm (hv h)
  · refine OP_same II (-6) (fun d hd => ?_) (fun d hd => ?_)
    · rw [e114, b114_0, hF, yH0 ha, x3, if_pos c]
    · rw [e237, b237_0, hvwm, if_pos c]
  · obtain ⟨h0, a1, a2, a3, a4, a5⟩ := s131 (sc := sc) 0 (by omega) hg (xmg_xm.mpr X) hF (by omega)
    have ge := q_R_ge (wt := 0) hg (by omega)
    have gd := (q_R_good (wt := 0) hg).resolve_left (by omega)
    have e0 := (a2.2 ge).2
    generalize e1 : y_fill h0 21 0 (Int.toNat (g_wm (hv h))) (fun q => y_I h0 44 q) = h1
    have I1 : ∀ b k, b ≠ 21 → y_I h1 b k = y_I h0 b k := fun b k q => by rw [← e1, yI_fill_o (by omega)]
    have v2 : hv h1 = hv h := hv_cg fun b k q => by rw [I1 b k (by unfold RG at q; omega), a3 b k (by unfold RG at q; omega)]
    obtain ⟨g3, g4, u, b1, b2, b3, b4, b5⟩ := m_all (sc := sc) (h := h1) 0 (by omega) (by rw [v2]; exact hg) (by rw [v2]; omega)
    rw [v2] at b1 b3
    generalize e5 : y_fill g4 111 0 24 (fun j => y_I g4 116 j) = g5
    have I5 : ∀ b k, b ≠ 111 → y_I g5 b k = y_I g4 b k := fun b k q => by rw [← e5, yI_fill_o (by omega)]
    have fr : ∀ b k, ¬ ((43 ≤ b ∧ b ≤ 60) ∨ b = 21 ∨ (b = 94 ∧ 39 ≤ k ∧ k ≤ 45) ∨ b = 111 ∨ (115 ≤ b ∧ b ≤ 118)) → y_I g5 b k = y_I h b k := fun b k q => by
      rw [I5 b k (by omega), b4 b k (by omega), I1 b k (by omega), a3 b k (by omega)]
    have S5 : g5.2 = h0.2 := by rw [← e5]; exact b5.trans (by rw [← e1]; rfl)
    have fF : ∀ b k, b ≠ 43 → y_F g5 b k = y_F h b k := fun b k q => by
      have : y_F g5 b k = y_F h0 b k := by unfold y_F; rw [S5]
      rw [this, a4 b k q]
    have fJ : y_J g5 = y_J h := by
      have : y_J g5 = y_J h0 := by unfold y_J; rw [S5]
      rw [this, a5]
    have eg : hv g5 = hv h := hv_cg fun b k q => fr b k (by unfold RG at q; omega)
    have v43 : y_I g5 94 43 = (q_R (hv h) 0).1 := by rw [I5 _ _ (by omega)]; exact b3.1
    have p111 : p_eq (hv h) (pl g5 111) (q_R (hv h) 0).2.2 := fun w w1 w2 => by
      have : pl g5 111 w = y_I g4 116 (Int.toNat w) := by
        show y_I g5 111 _ = _
        rw [← e5, yI_fill_e ⟨rfl, by omega, by omega⟩]
      rw [this]
      exact (b3.2 ge).2 w w1 w2
    have p21 : p_eq (hv h) (pl g5 21) (q_R (hv h) 0).2.2 := fun w w1 w2 => by
      have : pl g5 21 w = y_I h0 44 (Int.toNat w) := by
        show y_I g5 21 _ = _
        rw [I5 _ _ (by omega), b4 _ _ (by omega), ← e1, yI_fill_e ⟨rfl, by omega, by omega⟩]
      rw [this]
      exact e0 w w1 w2
    have hp : I_pln g5 := by
      unfold I_pln
      rw [eg]
      exact ⟨p_ok.cg (p_eq.symm p111) gd.2, p111.trans (p_eq.symm p21)⟩
    refine OP_do ((q_R (hv h) 0).1) h1 g5 (fun d hd => ?_) (fun d hd => ?_) (INV_sk II (fun b k q => fr b k (by omega)) fF fJ hp ?_)
    · have a1'' : y_se z_pg sc d 131 [y_vr 2, y_vi 0] h = some (some (y_vi (q_best (q_R (hv h) 0))), h0) := a1 d (by omega)
      have qb : q_best (q_R (hv h) 0) = (q_R (hv h) 0).1 := if_neg (by omega)
      have F0 : y_F h0 2 10 = a := (a4 _ _ (by omega)).trans hF
      have s33' := s33b (sc := sc) (h := h0) d (by omega) (g_wm (hv h)) (by omega)
      rw [e1] at s33'
      rw [e114, b114_0, hF, yH0 ha, x3, if_neg c, a1'', yci_s, F0, yH0 ha, a3 _ _ (by omega), x3, s33', ycv_s, qb]
    · have s222' := s222 (sc := sc) (h := g4) d (by omega) 116 (Or.inr rfl)
      rw [e5] at s222'
      have s236' := s236 (sc := sc) (h := h1) d (by omega) (by rw [v2]; exact hg)
      rw [v2] at s236'
      rw [e237, b237_0, I1 _ _ (by omega), a3 _ _ (by omega), hvwm, if_neg c, s236', yci_s, b1 d (by omega), yci_s, b2 d (by omega), ycv_s, s222', ycv_s, v43]
    · rw [fr _ _ (by omega), fr _ _ (by omega)]; exact i6.1
end LE
