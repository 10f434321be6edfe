/-! THE BEST OF ALL, the model's: the start, the end -/
theorem yand_le {a b : Nat} (ha : a < 2147483648) (hb : b < 2147483648) : 0 ≤ y_and (a : Int) (b : Int) ∧ y_and (a : Int) (b : Int) ≤ (b : Int) := by
  have e1 : ((Int32.ofInt (a : Int)) &&& (Int32.ofInt (b : Int))).toBitVec.toNat = a &&& b := by
    rw [Int32.toBitVec_and, BitVec.toNat_and, Int32.toBitVec_ofInt, Int32.toBitVec_ofInt, BitVec.toNat_ofInt, BitVec.toNat_ofInt]
    congr 1 <;> omega
  have e2 : a &&& b ≤ b := Nat.and_le_right
  have e3 : y_and (a : Int) (b : Int) = ((a &&& b : Nat) : Int) := by
    show ((Int32.ofInt (a : Int)) &&& (Int32.ofInt (b : Int))).toBitVec.toInt = _
    rw [BitVec.toInt_eq_toNat_cond, e1, if_pos (by omega)]
  rw [e3]
  omega
theorem u_fold_rel {α β : Type} {F : α → Int → α} {H : β → Int → β} {R : α → β → Prop} : ∀ {n : Nat} {k : Int} {a : α} {b : β}, R a b → (∀ x y j, k ≤ j → j < k + n → R x y → R (F x j) (H y j)) → R (u_fold F a k n) (u_fold H b k n)
  | 0, _, _, _, r, _ => r
  | n + 1, k, a, b, r, f => by
    rw [u_fold_s, u_fold_s]
    exact u_fold_rel (f a b k (by omega) (by omega) r) fun x y j h1 h2 => f x y j (by omega) (by omega)
section QM
variable {G : u_G} {L : Int → Prop} {b0 oc wt : Int} {m m' : u_P → Int}
theorem q_tr_mu : ∀ (n : Nat) (P : u_P) (E : Int → Int) (A B : q_A), (A.1 = B.1 ∧ A.2.2 = B.2.2) → ((q_tr G L b0 oc wt m n P E A).1 = (q_tr G L b0 oc wt m' n P E B).1 ∧ (q_tr G L b0 oc wt m n P E A).2.2 = (q_tr G L b0 oc wt m' n P E B).2.2) := by
  have vis : ∀ (n : Nat) (P : u_P) (A B : q_A), (A.1 = B.1 ∧ A.2.2 = B.2.2) → ((q_vis G L wt m n P A).1 = (q_vis G L wt m' n P B).1 ∧ (q_vis G L wt m n P A).2.2 = (q_vis G L wt m' n P B).2.2) := fun n P A B e => by
    unfold q_vis
    by_cases c : (wt = 1 ∨ wt = 3) ∧ n ≠ 0
    · rw [if_pos c, if_pos c]; exact e
    · rw [if_neg c, if_neg c, e.1]
      by_cases z : B.1 < 0 ∨ q_v G L wt P < B.1
      · rw [if_pos z, if_pos z]; exact ⟨rfl, rfl⟩
      · rw [if_neg z, if_neg z]; exact e
  intro n
  induction n with
  | zero => exact fun P E A B e => vis 0 P A B e
  | succ n ih =>
    intro P E A B e
    unfold q_tr
    refine u_fold_rel (R := fun (A B : q_A) => A.1 = B.1 ∧ A.2.2 = B.2.2) (vis _ P A B e) fun x y j _ _ r => ?_
    by_cases c : q_ch G L b0 oc P E j
    · rw [if_pos c, if_pos c]; exact ih _ _ _ _ r
    · rw [if_neg c, if_neg c]; exact r
theorem q_tr_ge : ∀ (n : Nat) (P : u_P) (E : Int → Int) (A : q_A), g_ok G → 0 ≤ b0 → q_in G P E → (0 ≤ A.1 ∨ (A.1 < 0 ∧ wt ≠ 1 ∧ wt ≠ 3)) → 0 ≤ (q_tr G L b0 oc wt m n P E A).1 := by
  have vis : ∀ (n : Nat) (P : u_P) (E : Int → Int) (A : q_A), g_ok G → q_in G P E → (0 ≤ A.1 ∨ (A.1 < 0 ∧ wt ≠ 1 ∧ wt ≠ 3)) → 0 ≤ (q_vis G L wt m n P A).1 := fun n P E A hg I h => by
    unfold q_vis
    have vb := q_v_bd (L := L) (wt := wt) hg I
    by_cases c : (wt = 1 ∨ wt = 3) ∧ n ≠ 0
    · rw [if_pos c]
      rcases h with h | h
      · exact h
      · exact absurd c.1 (fun q => q.elim h.2.1 h.2.2)
    · rw [if_neg c]
      by_cases z : A.1 < 0 ∨ q_v G L wt P < A.1
      · rw [if_pos z]; exact vb.1
      · rw [if_neg z]; omega
  intro n
  induction n with
  | zero => exact fun P E A hg _ I h => vis 0 P E A hg I h
  | succ n ih =>
    intro P E A hg hb I h
    unfold q_tr
    refine u_fold_iv (I := fun (A : q_A) => 0 ≤ A.1) (vis _ P E A hg I h) fun A j j1 j2 hA => ?_
    by_cases c : q_ch G L b0 oc P E j
    · rw [if_pos c]
      exact ih _ _ _ hg hb (q_in_up hg hb I ⟨j1, by have := hg.2.2.1; omega⟩ c.2.2) (Or.inl hA)
    · rw [if_neg c]; exact hA
theorem q_in_0 : q_in G (fun _ => -9) (fun _ => 0) := ⟨fun _ _ _ q => absurd rfl q, fun _ _ _ => ⟨Int.le_refl _, by show (0 : Int) ≤ 60; omega⟩⟩
end QM
section MS
variable {sc : z_Sc} {h : y_Hp} {G : u_G} {L : Int → Prop} {b0 oc wt : Int} {P : u_P} {E : Int → Int}
theorem l138 (v0 : Int) : ∀ (n : Nat) (v1 v2 : Int), v2 ≤ n → 0 ≤ v2 → 0 ≤ v1 → v1 + v2 ≤ 16777216 → ∃ u, ∀ d, y_ev z_pg sc d pgX8_bits 4 [some (y_vi v0), some (y_vi v1), some (y_vi v2)] [] h = some (some (y_vi u), h)
  | 0, v1, v2, h1, h2, h3, h4 => ⟨v1, fun d => by rw [b138_4, if_pos (by omega)]⟩
  | n + 1, v1, v2, h1, h2, h3, h4 => by
    by_cases z : v2 = 0
    · exact ⟨v1, fun d => by rw [b138_4, if_pos z]⟩
    · have ya := yand_le (a := v2.toNat) (b := (v2 - 1).toNat) (by omega) (by omega)
      rw [show (v2.toNat : Int) = v2 by omega, show ((v2 - 1).toNat : Int) = v2 - 1 by omega] at ya
      obtain ⟨u, e⟩ := l138 v0 n (v1 + 1) (y_and v2 (v2 - 1)) (by omega) ya.1 (by omega) (by omega)
      exact ⟨u, fun d => by rw [b138_4, if_neg z, yr_t (by omega), yr_t (by omega), e]⟩
theorem m_ce_0 {K : Int → Int} {p c : Int} (hw : 0 ≤ g_wm G) : m_ce G (fun _ => -9) K p c = 0 := by
  have a1 := (m_ce_le (G := G) (P := fun _ => -9) (K := K) (p := p) (c := c) (T := 0) hw).mpr ⟨Int.le_refl _, fun _ _ _ q => absurd rfl q⟩
  have a2 := ((m_ce_le (G := G) (P := fun _ => -9) (K := K) (p := p) (c := c) hw).mp (Int.le_refl _)).1
  omega
theorem l235 (d : Nat) (s : Int) (g : y_Hp) : ∀ (m : Nat) (k : Int), 0 ≤ k → k + m = 24 → y_ev z_pg sc d pgX8_begins 17 [some (y_vr 94), some (y_vi s), some (y_vi k)] [] (y_fill g 111 0 (Int.toNat k) (fun _ => -9)) = y_ev z_pg sc d pgX8_begins 17 [some (y_vr 94), some (y_vi s), some (y_vi 24)] [] (y_fill g 111 0 24 (fun _ => -9))
  | 0, k, hk, hm => by
    have e : k = 24 := by omega
    subst e
    rfl
  | m + 1, k, hk, hm => by
    have := l235 d s g m (k + 1) (by omega) (by omega)
    rw [show Int.toNat (k + 1) = Int.toNat k + 1 by omega] at this
    rw [b235_17, if_pos (by omega), yi_t (by omega), yr_t (by omega), y_fill_s (Nat.zero_le _) rfl, this]
/-- nothing stands; a set is looked at -/
theorem s235 (hg : g_ok (hv h)) (s : Int) (hs : 0 ≤ s ∧ s ≤ 16777216) (hL : ∀ w, 0 ≤ w → w < g_wm (hv h) → (u_bs s w ↔ L w)) : ∃ h' u, (∀ d, 2 ≤ d → y_se z_pg sc d 235 [y_vr 94, y_vi s] h = some (some (y_vi u), h')) ∧ MSQ h' (hv h) L 0 1 (fun _ => -9) (fun _ => 0) ∧ (∀ b k, ¬ ((b = 94 ∧ 39 ≤ k ∧ k ≤ 41) ∨ b = 111) → y_I h' b k = y_I h b k) ∧ h'.2 = h.2 := by
  have kw := hg.2.2.1
  generalize e1 : y_sI (y_sI (y_sI h 94 39 s) 94 40 0) 94 41 1 = h1
  have I1 : ∀ b k, ¬ (b = 94 ∧ 39 ≤ k ∧ k ≤ 41) → y_I h1 b k = y_I h b k := fun b k q => by rw [← e1, yI_sI_o (by omega), yI_sI_o (by omega), yI_sI_o (by omega)]
  have la := fun d => l235 (sc := sc) d s h1 24 0 (by omega) (by omega)
  rw [show Int.toNat 0 = 0 from rfl, y_fill_0] at la
  obtain ⟨u, lb⟩ := l138 (sc := sc) (h := y_fill h1 111 0 24 (fun _ => -9)) s s.toNat 0 s (by omega) hs.1 (by omega) (by omega)
  have fr : ∀ b k, ¬ ((b = 94 ∧ 39 ≤ k ∧ k ≤ 41) ∨ b = 111) → y_I (y_fill h1 111 0 24 (fun _ => -9)) b k = y_I h b k := fun b k q => by rw [yI_fill_o (by omega), I1 b k (by omega)]
  refine ⟨y_fill h1 111 0 24 (fun _ => -9), if 8 < u then 0 else 1, fun d hd => ?_, ⟨⟨hv_cg fun b k q => fr b k (by unfold RG at q; omega), fun w w1 w2 => ?_⟩, ⟨?_, ?_⟩, fun w w1 w2 => ?_, fun p _ _ => ⟨m_ce_0 kw.1, m_ce_0 kw.1⟩⟩, fr, by rw [← e1]; rfl⟩
  · obtain ⟨d, rfl⟩ : ∃ e, d = e + 2 := ⟨d - 2, by omega⟩
    rw [e235, b235_0, e1, la, b235_17, if_neg (by omega), e138, b138_0, lb, yci_s]
    by_cases c : 8 < u
    · rw [if_pos c, if_pos c]
    · rw [if_neg c, if_neg c]
  · rw [yI_fill_o (by omega), ← e1, yI_sI_o (by omega), yI_sI_o (by omega), yI_sI_e ⟨rfl, rfl⟩]
    exact hL w w1 w2
  · rw [yI_fill_o (by omega), ← e1, yI_sI_o (by omega), yI_sI_e ⟨rfl, rfl⟩]
  · rw [yI_fill_o (by omega), ← e1, yI_sI_e ⟨rfl, rfl⟩]
  · exact yI_fill_e (by omega)
theorem s236 (d : Nat) (hd : 1 ≤ d) (hg : g_ok (hv h)) : y_se z_pg sc d 236 [y_vr 94] h = some (some (y_vi (y_shl 1 (g_wm (hv h)) - 1)), h) := by
  rcases d with _ | d
  · omega
  have sb := shl_bd hg.2.2.1
  rw [e236, b236_0, hvwm, yr_t (by omega)]
theorem l234a (d : Nat) (hd : 1 ≤ d) (v1 : Int) (hg : g_ok G) : ∀ (m : Nat) (k : Int) (g : y_Hp), 0 ≤ k → k + m = g_wm G → MSQ g G L b0 oc P E → (0 ≤ y_I g 94 45 ∧ y_I g 94 45 ≤ k) → y_ev z_pg sc d pgX8_search 18 [some (y_vr 94), some (y_vi v1), some (y_vi k), none] [] g = y_ev z_pg sc d pgX8_search 18 [some (y_vr 94), some (y_vi v1), some (y_vi (g_wm G)), none] [] (y_sI g 94 45 (y_I g 94 45 + u_sum (fun w => y_bi (L w ∧ P w = -9)) k m))
  | 0, k, g, hk, hm, Q, hs => by
    rw [show k = g_wm G by omega, u_sum_0, Int.add_zero, y_sI_id rfl]
  | m + 1, k, g, hk, hm, Q, hs => by
    have kw := hg.2.2.1
    have w11 : y_I g 94 11 = g_wm G := by rw [← Q.1.1]; rfl
    have e39 := Q.1.2 k hk (by omega)
    have pk : pl g 111 k = P k := Q.2.2.1 k hk (by omega)
    have ih := fun s (b : 0 ≤ s ∧ s ≤ k + 1) => l234a d hd v1 hg m (k + 1) (y_sI g 94 45 s) (by omega) (by omega) (MSQ_cg Q fun b j q => yI_sI_o (by unfold RG at q; omega)) (by rw [yI_sI_e ⟨rfl, rfl⟩]; omega)
    rw [b234_18, w11, if_pos (by omega), s137 d hd _ _ (by omega), yci_s, u_sum_s]
    have fin : ∀ s, s = y_I g 94 45 + y_bi (L k ∧ P k = -9) → y_ev z_pg sc d pgX8_search 18 [some (y_vr 94), some (y_vi v1), some (y_vi (k + 1)), none] [] (y_sI g 94 45 s) = y_ev z_pg sc d pgX8_search 18 [some (y_vr 94), some (y_vi v1), some (y_vi (g_wm G)), none] [] (y_sI g 94 45 (y_I g 94 45 + (y_bi (L k ∧ P k = -9) + u_sum (fun w => y_bi (L w ∧ P w = -9)) (k + 1) m))) := fun s es => by
      have br := bi_rng (p := L k ∧ P k = -9)
      rw [ih s (by omega), yI_sI_e ⟨rfl, rfl⟩, y_sI_sI, es, Int.add_assoc]
    by_cases c : L k
    · rw [if_neg (by rw [bi_t (e39.mpr c)]; omega), s191 d hd k (by omega), yci_s, pk]
      by_cases c2 : P k = -9
      · rw [if_pos (bi_f (fun q => q c2)), yr_t (by omega), yr_t (by omega)]
        exact fin _ (by rw [bi_t ⟨c, c2⟩])
      · rw [if_neg (by rw [bi_t c2]; omega), yr_t (by omega), yr_t (by omega)]
        exact fin _ (by rw [bi_f (fun q => c2 q.2)])
    · rw [if_pos (bi_f (fun q => c (e39.mp q))), yr_t (by omega), yr_t (by omega)]
      exact fin _ (by rw [bi_f (fun q => c q.1)])
theorem s234 (hg : g_ok G) (hb : 0 ≤ b0 ∧ b0 ≤ 60) (hwt : 0 ≤ wt ∧ wt ≤ 3) (hoc : oc = 0 ∨ oc = 1) (hL : wt = 2 → ∀ w, 0 ≤ w → w < g_wm G → L w) (I : q_in G P E) (Q : MSQ h G L b0 oc P E) (n : Nat) (hn : n ≤ 8) (ef : q_lf G L P = n) : ∃ h', (∀ d, 12 ≤ d → y_se z_pg sc d 234 [y_vr 94, y_vi wt] h = some (none, h')) ∧ MSA h' G (q_tr G L b0 oc wt (m_mu G) n P E q_A0) ∧ (∀ b k, ¬ ((b = 94 ∧ 42 ≤ k ∧ k ≤ 45) ∨ b = 111 ∨ b = 116 ∨ b = 117 ∨ b = 118) → y_I h' b k = y_I h b k) ∧ h'.2 = h.2 := by
  have kw := hg.2.2.1
  generalize e1 : y_sI (y_sI (y_sI h 94 42 wt) 94 43 (-9)) 94 45 0 = h1
  have I1 : ∀ b k, ¬ (b = 94 ∧ 42 ≤ k ∧ k ≤ 45) → y_I h1 b k = y_I h b k := fun b k q => by rw [← e1, yI_sI_o (by omega), yI_sI_o (by omega), yI_sI_o (by omega)]
  have v45 : y_I h1 94 45 = 0 := by rw [← e1, yI_sI_e ⟨rfl, rfl⟩]
  have v43 : y_I h1 94 43 = -9 := by rw [← e1, yI_sI_o (by omega), yI_sI_e ⟨rfl, rfl⟩]
  have v42 : y_I h1 94 42 = wt := by rw [← e1, yI_sI_o (by omega), yI_sI_o (by omega), yI_sI_e ⟨rfl, rfl⟩]
  have Q1 : MSQ h1 G L b0 oc P E := MSQ_cg Q fun b k q => I1 b k (by unfold RG at q; omega)
  have la := fun d hd => l234a (sc := sc) d hd wt hg (g_wm G).toNat 0 h1 (by omega) (by omega) Q1 (by rw [v45]; omega)
  have elf : u_sum (fun w => y_bi (L w ∧ P w = -9)) 0 (g_wm G).toNat = (n : Int) := ef
  rw [v45, elf, Int.zero_add] at la
  generalize e2 : y_sI (y_sI h1 94 45 (n : Int)) 118 (Int.toNat 0) (-1) = h2
  have I2 : ∀ b k, ¬ ((b = 94 ∧ k = 45) ∨ (b = 118 ∧ k = 0)) → y_I h2 b k = y_I h1 b k := fun b k q => by rw [← e2, yI_sI_o (by omega), yI_sI_o (by omega)]
  have t45 : y_I h2 94 45 = (n : Int) := by rw [← e2, yI_sI_o (by omega), yI_sI_e ⟨rfl, rfl⟩]
  have t118 : y_I h2 118 0 = -1 := by rw [← e2]; exact yI_sI_e ⟨rfl, rfl⟩
  have Q2 : MSQ h2 G L b0 oc P E := MSQ_cg Q1 fun b k q => I2 b k (by unfold RG at q; omega)
  have M2 : MSA h2 G q_A0 := ⟨(I2 _ _ (by omega)).trans v43, fun q => absurd q (by show ¬ (0 : Int) ≤ -9; omega)⟩
  obtain ⟨h3, r3, M3, F3, S3⟩ := s233 (sc := sc) hg I Q2 M2 (Or.inl rfl) hwt hL (by rw [I2 _ _ (by omega)]; exact v42) 0 n (by rw [t45]; omega)
  have gd3 := q_vis_good (L := L) (wt := wt) (m := m_mu G) (n := n) (A := q_A0) hg I (Or.inl rfl)
  have e42 : y_I h3 94 42 = wt := by rw [F3 _ _ (by omega), I2 _ _ (by omega)]; exact v42
  have t3 : y_I h3 118 0 = -1 := by rw [F3 _ _ (by omega)]; exact t118
  have fr3 : ∀ b k, ¬ ((b = 94 ∧ 42 ≤ k ∧ k ≤ 45) ∨ b = 111 ∨ b = 116 ∨ b = 117 ∨ b = 118) → y_I h3 b k = y_I h b k := fun b k q => by rw [F3 b k (by omega), I2 b k (by omega), I1 b k (by omega)]
  have S30 : h3.2 = h.2 := by rw [S3, ← e2, ← e1]; rfl
  have run1 : ∀ d, 11 ≤ d → y_se z_pg sc (d + 1) 234 [y_vr 94, y_vi wt] h = y_ev z_pg sc d pgX8_search 79 [some (y_vr 94), some (y_vi wt), some (y_vi 0), none] [] h3 := fun d hd => by
    have w11 : y_I (y_sI h1 94 45 (n : Int)) 94 11 = g_wm G := by
      rw [yI_sI_o (by omega), I1 _ _ (by omega), ← Q.1.1]; rfl
    rw [e234, b234_0, e1, la d (by omega), b234_18, w11, if_neg (by omega), yi_t (by omega), e2, r3 d (by omega), ycv_s]
  rw [q_tr_lp]
  generalize eA : q_vis G L wt (m_mu G) n P q_A0 = A1 at M3 gd3
  have a79 : ∀ d, y_ev z_pg sc d pgX8_search 79 [some (y_vr 94), some (y_vi wt), some (y_vi 0), none] [] h3 = if wt = 3 ∧ 0 ≤ A1.1 then some (none, h3) else y_ev z_pg sc d pgX8_search 107 [some (y_vr 94), some (y_vi wt), some (y_vi ((0 : Nat) : Int)), some (y_vi 0)] [] h3 := fun d => by
    have go : (y_in (0 : Int) 9 (y_rg ((y_I h3 118 (Int.toNat 0)) + 1) (y_ev z_pg sc d pgX8_search 107 [some (y_vr 94), some (y_vi wt), some (y_vi 0), some (y_vi ((y_I h3 118 (Int.toNat 0)) + 1))] [] h3))) = y_ev z_pg sc d pgX8_search 107 [some (y_vr 94), some (y_vi wt), some (y_vi ((0 : Nat) : Int)), some (y_vi 0)] [] h3 := by
      rw [show Int.toNat 0 = 0 from rfl, t3, yi_t (by omega), yr_t (by omega)]
      rfl
    rw [b234_79, if_neg (by omega), e42, M3.1]
    by_cases z : wt = 3
    · rw [if_pos z]
      by_cases y : A1.1 < 0
      · rw [if_pos y, if_neg (show ¬ (wt = 3 ∧ 0 ≤ A1.1) by omega), go]
      · rw [if_neg y, if_pos (show wt = 3 ∧ 0 ≤ A1.1 from ⟨z, by omega⟩)]
    · rw [if_neg z, if_neg (show ¬ (wt = 3 ∧ 0 ≤ A1.1) from fun q => z q.1), go]
  by_cases fin : wt = 3 ∧ 0 ≤ A1.1
  · have z3 : A1.1 = 0 := by
      have e0 := q3_0 (G := G) (L := L) (b0 := b0) (oc := oc) (m := m_mu G) fin.1 0 P E q_A0 (Or.inl rfl)
      have e0 : (q_vis G L wt (m_mu G) 0 P q_A0).1 = -9 ∨ (q_vis G L wt (m_mu G) 0 P q_A0).1 = 0 := e0
      by_cases n0 : n = 0
      · subst n0
        rw [eA] at e0
        omega
      · have : A1 = q_A0 := by
          rw [← eA]
          unfold q_vis
          rw [if_pos ⟨Or.inr fin.1, n0⟩]
        rw [this] at fin
        exact absurd fin.2 (by show ¬ (0 : Int) ≤ -9; omega)
    rw [q3_lp fin.1 z3]
    refine ⟨h3, fun d hd => ?_, M3, fr3, S30⟩
    obtain ⟨d, rfl⟩ : ∃ e, d = e + 1 := ⟨d - 1, by omega⟩
    rw [run1 d (by omega), a79, if_pos fin]
  · obtain ⟨h4, M4, F4, S4, out⟩ := DN (sc := sc) hg hb hwt hoc hL n P E 0 I (by omega) ef (g_wm G).toNat 0 A1 h3 (by omega) (by omega) (MSQ_cg Q2 fun b k q => F3 b k (by unfold RG at q; omega)) M3 gd3 e42 (by rw [F3 _ _ (by omega), t45]; omega) fin (fun q => by omega)
    have fr4 : ∀ b k, ¬ ((b = 94 ∧ 42 ≤ k ∧ k ≤ 45) ∨ b = 111 ∨ b = 116 ∨ b = 117 ∨ b = 118) → y_I h4 b k = y_I h b k := fun b k q => by rw [F4 b k (by unfold FRM; omega), fr3 b k q]
    rcases out with ⟨o1, o2, o3⟩ | ⟨o1, o2, o3, o4, o5⟩
    · refine ⟨h4, fun d hd => ?_, M4, fr4, S4.trans S30⟩
      obtain ⟨d, rfl⟩ : ∃ e, d = e + 1 := ⟨d - 1, by omega⟩
      rw [run1 d (by omega), a79, if_neg fin, o3 d wt (by omega)]
    · have bk : m_bk h4 0 (g_wm G) = y_sI h4 118 0 (g_wm G) := if_pos rfl
      refine ⟨y_sI h4 118 0 (g_wm G), fun d hd => ?_, ⟨by rw [yI_sI_o (by omega)]; exact M4.1, fun q => ⟨by rw [yI_sI_o (by omega)]; exact (M4.2 q).1, fun v v1 v2 => (yI_sI_o (by omega)).trans ((M4.2 q).2 v v1 v2)⟩⟩, fun b k q => by rw [yI_sI_o (by omega)]; exact fr4 b k q, S4.trans S30⟩
      obtain ⟨d, rfl⟩ : ∃ e, d = e + 1 := ⟨d - 1, by omega⟩
      rw [run1 d (by omega), a79, if_neg fin, o5 d wt (by omega), bk, b234_79, if_pos (by omega)]
end MS
