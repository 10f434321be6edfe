/-! THE BEST OF ALL, x's: the start; wants added -/
def XTp (h : y_Hp) (TD : Int → Prop) (k : Int) : Prop := y_I h 43 9 = q_ct TD k ∧ ∀ w, 0 ≤ w → w < k → TD w → y_I h 45 (Int.toNat (q_ct TD w)) = w
/-- wants below k are added -/
def XS0 (h : y_Hp) (a : Nat) (G : u_G) (L0 TD : Int → Prop) (b0 oc : Int) (P : u_P) (E : Int → Int) (k : Int) : Prop := XQ h a G (fun j => L0 j ∨ (TD j ∧ j < k)) b0 oc P E ∧ XTp h TD k
section XS
variable {sc : z_Sc} {h : y_Hp} {a : Nat} {G : u_G} {L L' L0 TD : Int → Prop} {b0 oc : Int} {P : u_P} {E : Int → Int}
theorem q_lk_L (hw : 0 ≤ g_wm G) (e : ∀ j, 0 ≤ j → j < g_wm G → (L j ↔ L' j)) : q_lk G L P = q_lk G L' P := u_sum_cg fun j h1 h2 => by rw [propext (e j h1 (by omega))]
theorem q_lr_L (hw : 0 ≤ g_wm G) {r : Int} (e : ∀ j, 0 ≤ j → j < g_wm G → (L j ↔ L' j)) : q_lr G L P r = q_lr G L' P r := u_sum_cg fun j h1 h2 => by rw [propext (e j h1 (by omega))]
theorem XQ_L (hg : g_ok G) (Q : XQ h a G L b0 oc P E) (e : ∀ j, 0 ≤ j → j < g_wm G → (L j ↔ L' j)) : XQ h a G L' b0 oc P E := by
  obtain ⟨q1, q2, q3, q4, q5, q6, q7, q8⟩ := Q
  exact ⟨q1, q2, q3.trans (q_lk_L hg.2.2.1.1 e), q4, fun r h1 h2 => (q5 r h1 h2).trans (q_lr_L hg.2.2.1.1 e), q6, q7, q8⟩
theorem l64a (d : Nat) (p : Nat) (v2 v3 : Int) (g : y_Hp) : ∀ (m : Nat) (k : Int), 0 ≤ k → k + m = 24 → y_ev z_pg sc d pgX5_start 33 [some (y_vr 43), some (y_vr p), some (y_vi v2), some (y_vi v3), some (y_vi k)] [] (y_fill g 58 0 (Int.toNat k) (fun _ => -9)) = y_ev z_pg sc d pgX5_start 58 [some (y_vr 43), some (y_vr p), some (y_vi v2), some (y_vi v3), some (y_vi 0)] [] (y_fill g 58 0 24 (fun _ => -9))
  | 0, k, hk, hm => by
    have e : k = 24 := by omega
    subst e
    rw [b64_33, if_neg (by omega)]
    rfl
  | m + 1, k, hk, hm => by
    have := l64a d p v2 v3 g m (k + 1) (by omega) (by omega)
    rw [show Int.toNat (k + 1) = Int.toNat k + 1 by omega] at this
    rw [b64_33, if_pos (by omega), yi_t (by omega), yr_t (by omega), y_fill_s (Nat.zero_le _) rfl, this]
theorem l64b (p : Nat) (v2 v3 : Int) : ∀ (m : Nat) (k : Int) (g : y_Hp), 0 ≤ k → k + m = 8 → ∃ g', (∀ d, y_ev z_pg sc d pgX5_start 58 [some (y_vr 43), some (y_vr p), some (y_vi v2), some (y_vi v3), some (y_vi k)] [] g = y_ev z_pg sc d pgX5_start 90 [some (y_vr 43), some (y_vr p), some (y_vi v2), some (y_vi v3), some (y_vi 0)] [] g') ∧ (∀ c, Int.toNat k ≤ c → c < 8 → y_I g' 59 c = 0 ∧ y_I g' 56 c = 0) ∧ (∀ b j, ¬ ((b = 59 ∨ b = 56) ∧ Int.toNat k ≤ j) → y_I g' b j = y_I g b j) ∧ g'.2 = g.2
  | 0, k, g, hk, hm => by
    refine ⟨g, fun d => ?_, fun c q1 q2 => by omega, fun _ _ _ => rfl, rfl⟩
    rw [b64_58, if_neg (by omega)]
  | m + 1, k, g, hk, hm => by
    obtain ⟨g', i1, i2, i3, i4⟩ := l64b p v2 v3 m (k + 1) (y_sI (y_sI g 59 (Int.toNat k) 0) 56 (Int.toNat k) 0) (by omega) (by omega)
    refine ⟨g', fun d => ?_, fun c q1 q2 => ?_, fun b j q => ?_, i4⟩
    · rw [b64_58, if_pos (by omega), yi_t (by omega), yi_t (by omega), yr_t (by omega), i1]
    · by_cases e : c = Int.toNat k
      · subst e
        rw [i3 _ _ (by omega), i3 _ _ (by omega), yI_sI_o (by omega), yI_sI_e ⟨rfl, rfl⟩, yI_sI_e ⟨rfl, rfl⟩]
        exact ⟨rfl, rfl⟩
      · exact i2 c (by omega) q2
    · rw [i3 b j (by omega), yI_sI_o (by omega), yI_sI_o (by omega)]
theorem l64c (d : Nat) (p : Nat) (v2 v3 : Int) (g : y_Hp) : ∀ (m : Nat) (k : Int), 0 ≤ k → k + m = 12 → y_ev z_pg sc d pgX5_start 90 [some (y_vr 43), some (y_vr p), some (y_vi v2), some (y_vi v3), some (y_vi k)] [] (y_fill g 60 0 (Int.toNat k) (fun _ => 0)) = some (none, y_fill g 60 0 12 (fun _ => 0))
  | 0, k, hk, hm => by
    have e : k = 12 := by omega
    subst e
    rw [b64_90, if_neg (by omega)]
    rfl
  | m + 1, k, hk, hm => by
    have := l64c d p v2 v3 g m (k + 1) (by omega) (by omega)
    rw [show Int.toNat (k + 1) = Int.toNat k + 1 by omega] at this
    rw [b64_90, if_pos (by omega), yi_t (by omega), yr_t (by omega), y_fill_s (Nat.zero_le _) rfl, this]
theorem s64 (X : xmg h a G) (hg : g_ok G) (hoc : oc = 0 ∨ oc = 1) : ∃ h', (∀ d, 1 ≤ d → y_se z_pg sc d 64 [y_vr 43, y_vr a, y_vi b0, y_vi oc] h = some (none, h')) ∧ XQ h' a G (fun _ => False) b0 oc (fun _ => -9) (fun _ => 0) ∧ y_I h' 43 9 = 0 ∧ (∀ b k, ¬ (43 ≤ b ∧ b ≤ 60) → y_I h' b k = y_I h b k) ∧ (∀ b k, b ≠ 43 → y_F h' b k = y_F h b k) ∧ y_J h' = y_J h := by
  have ha := X.1
  have kw := hg.2.2.1
  generalize e1 : y_sI (y_sI (y_sI (y_sI (y_sI (y_sF h 43 2 a) 43 4 b0) 43 5 oc) 43 7 0) 43 8 0) 43 9 0 = g1
  have I1 : ∀ b k, b ≠ 43 → y_I g1 b k = y_I h b k := fun b k q => by
    rw [← e1, yI_sI_o (by omega), yI_sI_o (by omega), yI_sI_o (by omega), yI_sI_o (by omega), yI_sI_o (by omega)]
    rfl
  have v4 : y_I g1 43 4 = b0 ∧ y_I g1 43 5 = oc ∧ y_I g1 43 7 = 0 ∧ y_I g1 43 8 = 0 ∧ y_I g1 43 9 = 0 := by
    rw [← e1]
    refine ⟨?_, ?_, ?_, ?_, ?_⟩ <;> simp (disch := omega) only [yI_sI_o, yI_sI_e]
  have F1 : y_F g1 43 2 = a := by
    rw [← e1]
    show y_F (y_sF h 43 2 a) 43 2 = a
    rw [yF_sF, if_pos ⟨rfl, rfl⟩]
  have F1o : ∀ b k, b ≠ 43 → y_F g1 b k = y_F h b k := fun b k q => by
    rw [← e1]
    show y_F (y_sF h 43 2 a) b k = _
    rw [yF_sF, if_neg (by omega)]
  have J1 : y_J g1 = y_J h := by rw [← e1]; rfl
  have la := fun d => l64a (sc := sc) d a b0 oc g1 24 0 (by omega) (by omega)
  rw [show Int.toNat 0 = 0 from rfl, y_fill_0] at la
  obtain ⟨g3, i1, i2, i3, i4⟩ := l64b (sc := sc) a b0 oc 8 0 (y_fill g1 58 0 24 (fun _ => -9)) (by omega) (by omega)
  have lc := fun d => l64c (sc := sc) d a b0 oc g3 12 0 (by omega) (by omega)
  rw [show Int.toNat 0 = 0 from rfl, y_fill_0] at lc
  have fr : ∀ b k, ¬ (b = 58 ∨ b = 59 ∨ b = 56 ∨ b = 60) → y_I (y_fill g3 60 0 12 (fun _ => 0)) b k = y_I g1 b k := fun b k q => by
    rw [yI_fill_o (by omega), i3 b k (by omega), yI_fill_o (by omega)]
  have S3 : (y_fill g3 60 0 12 (fun _ => 0)).2 = g1.2 := i4
  have re0 : ∀ r, q_re G (fun _ => -9) r = 0 := fun r => by
    have a1 := (q_re_le (G := G) (P := fun _ => -9) (r := r) (T := 0) kw.1).mpr ⟨Int.le_refl _, fun _ _ _ _ q => absurd rfl q⟩
    have a2 := ((q_re_le (G := G) (P := fun _ => -9) (r := r) kw.1).mp (Int.le_refl _)).1
    omega
  have F3 : ∀ b k, y_F (y_fill g3 60 0 12 (fun _ => 0)) b k = y_F g1 b k := fun b k => by unfold y_F; rw [S3]
  have J3 : y_J (y_fill g3 60 0 12 (fun _ => 0)) = y_J g1 := by unfold y_J; rw [S3]
  refine ⟨y_fill g3 60 0 12 (fun _ => 0), fun d hd => ?_, ⟨⟨(F3 _ _).trans F1, xmg_cg (h := h) (fun b k q => ?_) (fun p => by rw [J3, J1]) X⟩, ⟨?_, ?_⟩, ?_, ⟨?_, fun w q1 q2 => ?_⟩, fun r q1 q2 => ?_, fun w q1 q2 => ?_, fun r q1 q2 => ?_, fun c q1 q2 => ?_⟩, ?_, fun b k q => ?_, fun b k q => (F3 b k).trans (F1o b k q), J3.trans J1⟩
  · obtain ⟨d, rfl⟩ : ∃ e, d = e + 1 := ⟨d - 1, by omega⟩
    rw [e64, b64_0, yb_t hoc, e1, la, i1, lc]
  · rw [fr b k (by omega), I1 b k (by omega)]
  · rw [fr _ _ (by omega)]; exact v4.1
  · rw [fr _ _ (by omega)]; exact v4.2.1
  · rw [fr _ _ (by omega), v4.2.2.1]
    unfold q_lk
    refine Eq.symm ((u_sum_cg (g := fun _ => 0) fun j _ _ => ?_).trans u_sum_z)
    exact if_neg id
  · rw [fr _ _ (by omega), v4.2.2.2.1]; unfold y_inr; omega
  · rw [fr _ _ (by omega), v4.2.2.2.1]
    exact ⟨fun q => absurd q ub_0, fun q => absurd rfl q.2⟩
  · rw [yI_fill_o (by omega), (i2 _ (by omega) (by omega)).2]
    unfold q_lr
    refine Eq.symm ((u_sum_cg (g := fun _ => 0) fun j _ _ => ?_).trans u_sum_z)
    exact if_neg (fun q => q.1)
  · show y_I (y_fill g3 60 0 12 (fun _ => 0)) 58 (Int.toNat w) = -9
    rw [yI_fill_o (by omega), i3 _ _ (by omega), yI_fill_e ⟨rfl, by omega, by omega⟩]
  · rw [yI_fill_o (by omega), (i2 _ (by omega) (by omega)).1, re0]
  · rw [yI_fill_e ⟨rfl, by omega, by omega⟩]
  · rw [fr _ _ (by omega)]; exact v4.2.2.2.2
  · rw [fr b k (by omega), I1 b k (by omega)]
/-- one more that is to be placed -/
theorem s66 (hg : g_ok G) (I : q_in G P E) (Q : XQ h a G L b0 oc P E) (w n : Int) (hw : 0 ≤ w ∧ w < g_wm G) (en : y_I h 43 9 = n) (hn : 0 ≤ n ∧ n < 8) (nL : ¬ L w) (e : P w = -9) : ∃ h', (∀ d, 2 ≤ d → y_se z_pg sc d 66 [y_vr 43, y_vi w] h = some (none, h')) ∧ XQ h' a G (fun j => L j ∨ j = w) b0 oc P E ∧ y_I h' 43 9 = n + 1 ∧ y_I h' 45 (Int.toNat n) = w ∧ (∀ b k, ¬ ((b = 43 ∧ (k = 7 ∨ k = 9)) ∨ (b = 45 ∧ k = Int.toNat n) ∨ b = 56) → y_I h' b k = y_I h b k) ∧ h'.2 = h.2 := by
  obtain ⟨⟨f2, X⟩, ⟨e4, e5⟩, e7, e8, e56, e58, e59, e60⟩ := Q
  have XX := X
  obtain ⟨ha, x0, x1, x2, x3, x4, x5, x6, x7, x8, x9, x10, x11, x12, x13, x14, x15, x16, x17, x18⟩ := X
  have kr := hg.2.1
  have kw := hg.2.2.1
  obtain ⟨k1, k2, k3, k4⟩ := hg.2.2.2.2.2.2.2.2.1 w hw.1 hw.2
  have lbd := q_ls_bd (L := L) hg I
  have lrb := lbd.2 (g_rd G w)
  have ls : g_ls G P w = g_wo G w := by
    unfold g_ls
    rw [if_pos e]; omega
  generalize e1 : y_sI (y_sI h 45 (Int.toNat n) w) 43 9 (n + 1) = h1
  have I1 : ∀ b k, ¬ ((b = 43 ∧ k = 9) ∨ (b = 45 ∧ k = Int.toNat n)) → y_I h1 b k = y_I h b k := fun b k q => by rw [← e1, yI_sI_o (by omega), yI_sI_o (by omega)]
  have S1 : h1.2 = h.2 := by rw [← e1]; rfl
  have Fh : ∀ {g : y_Hp}, g.2 = h.2 → ∀ b k, y_F g b k = y_F h b k := fun q b k => by unfold y_F; rw [q]
  have X1 : xmg h1 a G := xmg_w XX (fun b k q => I1 b k (by omega)) S1
  have v12 : y_I h1 (a + 12) (Int.toNat w) = g_wo G w := by rw [I1 _ _ (by omega)]; exact x15 w hw.1 hw.2
  have v7 : y_I h1 43 7 = q_lk G L P := by rw [I1 _ _ (by omega)]; exact e7
  have v56 : ∀ k, y_I h1 56 k = y_I h 56 k := fun k => I1 _ _ (by omega)
  have r56 := e56 (g_rd G w) k1.1 (by omega)
  have lk' : q_lk G (fun j => L j ∨ j = w) P = q_lk G L P + g_wo G w := by
    unfold q_lk
    rw [u_sum_cg (g := fun j => (@ite _ (L j) (Classical.propDecidable _) (g_ls G P j) 0) + if j = w then g_wo G w else 0) fun j h1 h2 => ?_, u_sum_at, if_pos (by omega)]
    by_cases c : j = w
    · rw [if_pos c, if_pos (Or.inr c), c, if_neg nL, ls]; omega
    · rw [if_neg c, Int.add_zero]
      by_cases c2 : L j
      · rw [if_pos c2, if_pos (Or.inl c2)]
      · rw [if_neg c2, if_neg (fun q => q.elim c2 c)]
  have lr' : ∀ r, q_lr G (fun j => L j ∨ j = w) P r = if r = g_rd G w then q_lr G L P r + g_wo G w else q_lr G L P r := fun r => by
    unfold q_lr
    by_cases z : r = g_rd G w
    · rw [if_pos z, u_sum_cg (f := fun j => @ite _ ((L j ∨ j = w) ∧ g_rd G j = r) (Classical.propDecidable _) (g_ls G P j) 0) (g := fun j => (@ite _ (L j ∧ g_rd G j = r) (Classical.propDecidable _) (g_ls G P j) 0) + if j = w then g_wo G w else 0) fun j h1 h2 => ?_, u_sum_at, if_pos (by omega)]
      by_cases c : j = w
      · rw [if_pos c, if_pos ⟨Or.inr c, by rw [c, z]⟩, c, if_neg (fun q => nL q.1), ls]; omega
      · rw [if_neg c, Int.add_zero]
        by_cases c2 : L j ∧ g_rd G j = r
        · rw [if_pos c2, if_pos ⟨Or.inl c2.1, c2.2⟩]
        · rw [if_neg c2, if_neg (fun q => q.1.elim (fun y => c2 ⟨y, q.2⟩) c)]
    · rw [if_neg z]
      refine u_sum_cg fun j h1 h2 => ?_
      by_cases c2 : L j ∧ g_rd G j = r
      · rw [if_pos c2, if_pos ⟨Or.inl c2.1, c2.2⟩]
      · rw [if_neg c2, if_neg (fun q => q.1.elim (fun y => c2 ⟨y, q.2⟩) (fun y => z (by rw [← q.2, y])))]
  refine ⟨x_ms h1 (g_rd G w) (g_wo G w), fun d hd => ?_, ⟨⟨?_, ?_⟩, ⟨?_, ?_⟩, ?_, ⟨?_, fun v q1 q2 => ?_⟩, fun r q1 q2 => ?_, fun v q1 q2 => ?_, fun r q1 q2 => ?_, fun c q1 q2 => ?_⟩, ?_, ?_, fun b k q => ?_, S1⟩
  · obtain ⟨d, rfl⟩ : ∃ e, d = e + 1 := ⟨d - 1, by omega⟩
    have v9 : y_I (y_sI h 45 (Int.toNat n) w) 43 9 = n := by rw [yI_sI_o (by omega)]; exact en
    rw [e66, b66_0, en, if_pos (by omega), yi_t (by omega), v9, yr_t (by omega), e1, yhb_s, Fh S1, f2, yH0 ha, yH12 ha, lH12 ha, yi_t (by omega), v12, s77 d (by omega) ((Fh S1 _ _).trans f2) X1 hg w _ hw (by rw [v7]; omega) (by rw [v56, r56]; omega), ycv_s]
  · rw [Fh (show (x_ms h1 (g_rd G w) (g_wo G w)).2 = h.2 from S1)]; exact f2
  · exact xmg_w X1 (fun b k q => by unfold x_ms; rw [yI_sI_o (by omega), yI_sI_o (by omega)]) rfl
  · unfold x_ms
    rw [yI_sI_o (by omega), yI_sI_o (by omega), I1 _ _ (by omega)]; exact e4
  · unfold x_ms
    rw [yI_sI_o (by omega), yI_sI_o (by omega), I1 _ _ (by omega)]; exact e5
  · unfold x_ms
    rw [yI_sI_o (by omega), yI_sI_e ⟨rfl, rfl⟩, v7, lk']
  · unfold x_ms
    rw [yI_sI_o (by omega), yI_sI_o (by omega), I1 _ _ (by omega)]; exact e8.1
  · unfold x_ms
    rw [yI_sI_o (by omega), yI_sI_o (by omega), I1 _ _ (by omega)]; exact e8.2 v q1 q2
  · unfold x_ms
    rw [lr', yI_sI]
    by_cases c : r = g_rd G w
    · rw [if_pos (by omega), if_pos c, c, v56, r56]
    · rw [if_neg (by omega), if_neg c, yI_sI_o (by omega), v56, e56 r q1 q2]
  · show y_I (x_ms h1 (g_rd G w) (g_wo G w)) 58 (Int.toNat v) = _
    unfold x_ms
    rw [yI_sI_o (by omega), yI_sI_o (by omega), I1 _ _ (by omega)]
    exact e58 v q1 q2
  · unfold x_ms
    rw [yI_sI_o (by omega), yI_sI_o (by omega), I1 _ _ (by omega), e59 r q1 q2]
  · unfold x_ms
    rw [yI_sI_o (by omega), yI_sI_o (by omega), I1 _ _ (by omega), e60 c q1 q2]
  · unfold x_ms
    rw [yI_sI_o (by omega), yI_sI_o (by omega), ← e1, yI_sI_e ⟨rfl, rfl⟩]
  · unfold x_ms
    rw [yI_sI_o (by omega), yI_sI_o (by omega), ← e1, yI_sI_o (by omega), yI_sI_e ⟨rfl, rfl⟩]
  · unfold x_ms
    rw [yI_sI_o (by omega), yI_sI_o (by omega), I1 b k (by omega)]
theorem XS0_no {k : Int} (hg : g_ok G) (hk : 0 ≤ k) (S : XS0 h a G L0 TD b0 oc P E k) (n : ¬ TD k) : XS0 h a G L0 TD b0 oc P E (k + 1) := by
  obtain ⟨Q, T1, T2⟩ := S
  have cs := q_ct_s (TD := TD) hk
  rw [bi_f n, Int.add_zero] at cs
  refine ⟨XQ_L hg Q fun j j1 j2 => or_congr Iff.rfl ⟨fun q => ⟨q.1, by omega⟩, fun q => ⟨q.1, ?_⟩⟩, by rw [cs]; exact T1, fun w w1 w2 w3 => ?_⟩
  · have : j ≠ k := fun z => n (by rw [← z]; exact q.1)
    omega
  · have : w ≠ k := fun z => n (by rw [← z]; exact w3)
    exact T2 w w1 (by omega) w3
theorem XS0_add {k : Int} (hg : g_ok G) (I : q_in G P E) (hk : 0 ≤ k ∧ k < g_wm G) (S : XS0 h a G L0 TD b0 oc P E k) (t : TD k) (hct : q_ct TD (g_wm G) ≤ 8) (n0 : ¬ L0 k) (e : P k = -9) : ∃ h', (∀ d, 2 ≤ d → y_se z_pg sc d 66 [y_vr 43, y_vi k] h = some (none, h')) ∧ XS0 h' a G L0 TD b0 oc P E (k + 1) ∧ (∀ b j, ¬ (43 ≤ b ∧ b ≤ 60) → y_I h' b j = y_I h b j) ∧ h'.2 = h.2 := by
  obtain ⟨Q, T1, T2⟩ := S
  have cs := q_ct_s (TD := TD) hk.1
  rw [bi_t t] at cs
  have cl := q_ct_lt (TD := TD) hk.1 hk.2 t
  have cb := q_ct_bd (TD := TD) (w := k)
  obtain ⟨h', a1, a2, a3, a4, a5, a6⟩ := s66 (sc := sc) hg I Q k (q_ct TD k) hk T1 ⟨cb, by omega⟩ (fun q => q.elim n0 (fun q => by omega)) e
  refine ⟨h', a1, ⟨XQ_L hg a2 fun j j1 j2 => ⟨fun q => ?_, fun q => ?_⟩, by rw [cs]; exact a3, fun w w1 w2 w3 => ?_⟩, fun b j q => a5 b j (by omega), a6⟩
  · rcases q with (q | q) | q
    · exact Or.inl q
    · exact Or.inr ⟨q.1, by omega⟩
    · exact Or.inr ⟨by rw [q]; exact t, by omega⟩
  · rcases q with q | q
    · exact Or.inl (Or.inl q)
    · by_cases z : j = k
      · exact Or.inr z
      · exact Or.inl (Or.inr ⟨q.1, by omega⟩)
  · by_cases z : w = k
    · rw [z]; exact a4
    · have := q_ct_lt (TD := TD) (w := w) (v := k) w1 (by omega) w3
      have := q_ct_bd (TD := TD) (w := w)
      rw [a5 _ _ (by omega)]
      exact T2 w w1 (by omega) w3
end XS
