/-! THE CALL best -/
section BE
variable {sc : z_Sc} {h : y_Hp} {a : Nat}
theorem CR_cg {c c' n : Nat} {f g : Nat → Nat} {h' : y_Hp} (C : CR h c n f) (e : ∀ k, k < n → y_I h' c' k = y_I h c k) (ef : ∀ k, k < n → f k = g k) : CR h' c' n g := fun k hk => by rw [e k hk, C k hk, ef k hk]
theorem l113a (r : Int) (hr : 0 ≤ r ∧ r < 6) {n : Nat} (hn : n < 7) (k : Nat) (hk : k < pfa n) (h : y_Hp) (X : xm h a) (hg : g_ok (hv h)) (hrm : g_rm (hv h) = (n : Int)) (hF : y_F h 2 10 = a) (h37 : y_I h 37 0 = 1) (C : CR h 38 n (crd n k)) (B : 0 < k → CR h (5 + Int.toNat r) n (crd n (pbs (g_cf2 (hv h) n) k))) (pos : 0 < pls (g_cf2 (hv h) n) k) : ∃ g2, (∀ d o5, 9 ≤ d → y_ev z_pg sc d pgX7_best 60 [some (y_vr 2), some (y_vi r), some (y_vi (n : Int)), some (y_vi (pls (g_cf2 (hv h) n) k)), some (y_vi (k : Int)), o5] [] h = y_ci (y_se z_pg sc d 61 [y_vr 37, y_vi (n : Int)] g2) (fun u7 g6 => (if u7 = 0 then some (some (y_vi (pls (g_cf2 (hv h) n) (k + 1))), g6) else y_rg ((k : Int) + 1) (y_ev z_pg sc d pgX7_best 60 [some (y_vr 2), some (y_vi r), some (y_vi (n : Int)), some (y_vi (pls (g_cf2 (hv h) n) (k + 1))), some (y_vi ((k : Int) + 1)), some (y_vi (g_cf2 (hv h) n k))] [] g6)))) ∧ CR g2 38 n (crd n k) ∧ CR g2 (5 + Int.toNat r) n (crd n (pbs (g_cf2 (hv h) n) (k + 1))) ∧ (∀ b j, ¬ (b = 23 ∨ (b = 39 ∧ j = 3) ∨ b = 40 ∨ b = 41 ∨ b = 42 ∨ b = 5 + Int.toNat r) → y_I g2 b j = y_I h b j) ∧ (∀ b j, b ≠ 39 → y_F g2 b j = y_F h b j) ∧ y_J g2 = y_J h := by
  have pb := pfa_bd hn
  have bd := g_cf2_bd hg (n := n) (code := k)
  obtain ⟨g1, j1, j2, j3, j4, j5⟩ := s45 (sc := sc) (kd := 1) X hg (rl := 37) (by unfold y_rl; omega) 22 (Or.inr rfl) h37 (by omega)
  have v1 : hv g1 = hv h := hv_cg fun b j q => j3 b j (by unfold RG at q; omega)
  have X1 : xm g1 a := xm_cg (h := h) (fun b j q => j3 b j (by have := X.1; unfold RX RG at q; omega)) (fun p => by rw [j5]) X
  have F1 : y_F g1 2 10 = a := (j4 _ _ (by omega)).trans hF
  have ecd : g_run (hv h) 1 (pl h (37 + 1)) = g_run (hv h) 1 (fun i => ((crd n k (Int.toNat i) : Nat) : Int)) := g_run_cd fun i q1 q2 q3 => C (Int.toNat i) (by omega)
  rw [ecd] at j1
  have ok1 : p_ok (hv g1) (pl g1 (22 + 1)) := by rw [v1]; exact p_ok.cg (p_eq.symm j1) (g_run_ok hg)
  have e38 : g_ms (hv g1) (pl g1 (22 + 1)) (-9) = g_cf2 (hv h) n k := by
    rw [v1, g_ms_cg j1]
    rfl
  have eb : pbs (g_cf2 (hv h) n) (k + 1) = if g_cf2 (hv h) n k < pls (g_cf2 (hv h) n) k then k else pbs (g_cf2 (hv h) n) k := rfl
  have el : pls (g_cf2 (hv h) n) (k + 1) = if g_cf2 (hv h) n k < pls (g_cf2 (hv h) n) k then g_cf2 (hv h) n k else pls (g_cf2 (hv h) n) k := rfl
  have C1 : CR g1 38 n (crd n k) := CR_cg C (fun j hj => j3 _ _ (by omega)) (fun _ _ => rfl)
  have s38' := fun d (hd : 3 ≤ d) => s38 (sc := sc) (h := g1) (b := 22) d hd (Or.inr rfl) X1 (by rw [v1]; exact hg) ok1
  by_cases z : g_cf2 (hv h) n k < pls (g_cf2 (hv h) n) k
  · rw [eb, el, if_pos z, if_pos z]
    refine ⟨y_cpI g1 38 (Int.toNat 0) (5 + Int.toNat r) (Int.toNat 0) (Int.toNat (n : Int)), fun d o5 hd => ?_, CR_cg C1 (fun j hj => ?_) (fun _ _ => rfl), CR_cg C1 (fun j hj => ?_) (fun _ _ => rfl), fun b j q => ?_, fun b j q => j4 b j q, j5⟩
    · rw [b113_60, if_pos (by omega), if_pos pos, hF, j2 d (by omega), ycv_s, F1, s38' d (by omega), yci_s, e38, if_pos z, yi_t (by omega), yR hr, lR hr, ycg_t (by omega)]
    · rw [yI_cpI, if_neg (by omega)]
    · rw [yI_cpI, if_pos ⟨rfl, by omega, by omega⟩, show Int.toNat 0 + (j - Int.toNat 0) = j by omega]
    · rw [yI_cpI, if_neg (by omega), j3 _ _ (by omega)]
  · have kp : 0 < k := by
      rcases k with _ | k
      · exact absurd (show g_cf2 (hv h) n 0 < (1000000 : Int) by omega) z
      · omega
    rw [eb, el, if_neg z, if_neg z]
    refine ⟨g1, fun d o5 hd => ?_, C1, CR_cg (B kp) (fun j hj => j3 _ _ (by omega)) (fun _ _ => rfl), fun b j q => j3 b j (by omega), fun b j q => j4 b j q, j5⟩
    rw [b113_60, if_pos (by omega), if_pos pos, hF, j2 d (by omega), ycv_s, F1, s38' d (by omega), yci_s, e38, if_neg z]
theorem l113 (r : Int) (hr : 0 ≤ r ∧ r < 6) {n : Nat} (hn : n < 7) : ∀ (m k : Nat) (h : y_Hp), k + (m + 1) = pfa n → xm h a → g_ok (hv h) → g_rm (hv h) = (n : Int) → y_F h 2 10 = a → y_I h 37 0 = 1 → CR h 38 n (crd n k) → (0 < k → CR h (5 + Int.toNat r) n (crd n (pbs (g_cf2 (hv h) n) k))) → ∃ h', (∀ d o5, 9 ≤ d → y_ev z_pg sc d pgX7_best 60 [some (y_vr 2), some (y_vi r), some (y_vi (n : Int)), some (y_vi (pls (g_cf2 (hv h) n) k)), some (y_vi (k : Int)), o5] [] h = some (some (y_vi (pls (g_cf2 (hv h) n) (pfa n))), h')) ∧ CR h' (5 + Int.toNat r) n (crd n (pbs (g_cf2 (hv h) n) (pfa n))) ∧ (∀ b j, ¬ (b = 23 ∨ (b = 39 ∧ j = 3) ∨ b = 40 ∨ b = 41 ∨ b = 42 ∨ b = 5 + Int.toNat r ∨ b = 38) → y_I h' b j = y_I h b j) ∧ (∀ b j, b ≠ 39 → y_F h' b j = y_F h b j) ∧ y_J h' = y_J h := by
  intro m
  induction m with
  | zero =>
    intro k h e X hg hrm hF h37 C B
    have pb := pfa_bd hn
    by_cases pos : 0 < pls (g_cf2 (hv h) n) k
    · obtain ⟨g2, i1, i2, i3, i4, i5, i6⟩ := l113a (sc := sc) r hr hn k (by omega) h X hg hrm hF h37 C B pos
      obtain ⟨n1, n2⟩ := s61 (sc := sc) (h := g2) (rl := 37) (by unfold y_rl; omega) hn i2
      rcases crd_nx hn (show k < pfa n by omega) with ⟨q1, q2⟩ | ⟨g, q1, q2, q3⟩
      · refine ⟨g2, fun d o5 hd => ?_, by rw [← q2]; exact i3, fun b j q => i4 b j (by omega), i5, i6⟩
        rw [i1 d o5 hd, n1 q1 d (by omega), yci_s, if_pos rfl, q2]
      · omega
    · have kp : 0 < k := by
        rcases k with _ | k
        · exact absurd (show (0 : Int) < 1000000 by omega) pos
        · omega
      obtain ⟨p1, p2⟩ := pls_0 (F := g_cf2 (hv h) n) (fun k => (g_cf2_bd hg).1) (m := 1) (k := k) (by omega)
      rw [e] at p1 p2
      refine ⟨h, fun d o5 hd => ?_, by rw [p2]; exact B kp, fun _ _ _ => rfl, fun _ _ _ => rfl, rfl⟩
      rw [b113_60, if_pos (by omega), if_neg pos, p1]
  | succ m ih =>
    intro k h e X hg hrm hF h37 C B
    have pb := pfa_bd hn
    by_cases pos : 0 < pls (g_cf2 (hv h) n) k
    · obtain ⟨g2, i1, i2, i3, i4, i5, i6⟩ := l113a (sc := sc) r hr hn k (by omega) h X hg hrm hF h37 C B pos
      obtain ⟨n1, n2⟩ := s61 (sc := sc) (h := g2) (rl := 37) (by unfold y_rl; omega) hn i2
      rcases crd_nx hn (show k < pfa n by omega) with ⟨q1, q2⟩ | ⟨g, q1, q2, q3⟩
      · omega
      · obtain ⟨g3, m1, m2, m3, m4⟩ := n2 g q1
        have v3 : hv g3 = hv h := hv_cg fun b j q => by
          unfold RG at q
          rw [m3 b j (by omega), i4 b j (by omega)]
        have J3 : y_J g3 = y_J h := by
          have : y_J g3 = y_J g2 := by unfold y_J; rw [m4]
          rw [this, i6]
        have F3 : ∀ b j, b ≠ 39 → y_F g3 b j = y_F h b j := fun b j q => by
          have : y_F g3 b j = y_F g2 b j := by unfold y_F; rw [m4]
          rw [this, i5 b j q]
        obtain ⟨h', c1, c2, c3, c4, c5⟩ := ih (k + 1) g3 (by omega) (xm_cg (h := h) (fun b j q => by
          have := X.1
          unfold RX RG at q
          rw [m3 b j (by omega), i4 b j (by omega)]) (fun p => by rw [J3]) X) (by rw [v3]; exact hg) (by rw [v3]; exact hrm) ((F3 _ _ (by omega)).trans hF) (by rw [m3 _ _ (by omega), i4 _ _ (by omega)]; exact h37) (CR_cg m2 (fun _ _ => rfl) q3) (fun _ => by
          rw [v3]
          exact CR_cg i3 (fun j hj => m3 _ _ (by omega)) (fun _ _ => rfl))
        rw [v3] at c1 c2
        refine ⟨h', fun d o5 hd => ?_, c2, fun b j q => by rw [c3 b j q, m3 b j (by omega), i4 b j (by omega)], fun b j q => (c4 b j q).trans (F3 b j q), c5.trans J3⟩
        rw [i1 d o5 hd, m1 d (by omega), yci_s, if_neg (by omega), yr_t (by omega)]
        exact c1 d _ hd
    · have kp : 0 < k := by
        rcases k with _ | k
        · exact absurd (show (0 : Int) < 1000000 by omega) pos
        · omega
      obtain ⟨p1, p2⟩ := pls_0 (F := g_cf2 (hv h) n) (fun k => (g_cf2_bd hg).1) (m := m + 1 + 1) (k := k) (by omega)
      rw [e] at p1 p2
      refine ⟨h, fun d o5 hd => ?_, by rw [p2]; exact B kp, fun _ _ _ => rfl, fun _ _ _ => rfl, rfl⟩
      rw [b113_60, if_pos (by omega), if_neg pos, p1]
theorem o_best {N : Nat} (I : INV N h) (hN : N ≤ 1000) (r : Int) : OP sc 113 224 [y_vr 2, y_vi r] [y_vr 94, y_vi r] N h := by
  have II := I
  obtain ⟨a, ⟨hF, hD, X, hg⟩, i2, i3, ⟨hp, pe⟩, i5, i6⟩ := I
  have ha := X.1
  have kw := hg.2.2.1
  have kr := hg.2.1
  have x2 : y_I h a 2 = g_rm (hv h) := X.2.2.2.1
  by_cases c0 : 0 ≤ r ∧ r ≤ 5
  · by_cases c1 : 6 < g_rm (hv h)
    · refine OP_same II (-6) (fun d hd => ?_) (fun d hd => ?_)
      · rw [e113, b113_0, s79a d (by omega), yci_s, if_neg (by rw [bi_t c0]; omega), hF, yH0 ha, x2, if_pos c1]
      · rw [e224, b224_0, s145 d (by omega), yci_s, if_neg (by rw [bi_t c0]; omega), hvrm, if_pos c1]
    · obtain ⟨n, en⟩ : ∃ n : Nat, g_rm (hv h) = (n : Int) := ⟨(g_rm (hv h)).toNat, by omega⟩
      have hn : n < 7 := by omega
      have pb := pfa_bd hn
      have rl : y_rl 37 := by unfold y_rl; omega
      generalize e1 : y_fill (y_sI h 37 0 1) 38 0 n (fun j => (j : Int)) = g1
      have I1 : ∀ b j, b ≠ 37 → b ≠ 38 → y_I g1 b j = y_I h b j := fun b j q1 q2 => by rw [← e1, yI_fill_o (by omega), yI_sI_o (by omega)]
      generalize e2 : y_fill (y_sI g1 11 (Int.toNat r) (n : Int)) (5 + Int.toNat r) 0 (Int.toNat (n : Int)) (fun _ => 0) = g2
      have I2 : ∀ b j, ¬ (b = 11 ∧ j = Int.toNat r) → b ≠ 5 + Int.toNat r → y_I g2 b j = y_I g1 b j := fun b j q1 q2 => by rw [← e2, yI_fill_o (by omega), yI_sI_o (by omega)]
      have S2 : g2.2 = h.2 := by rw [← e2, ← e1]; rfl
      have v2 : hv g2 = hv h := hv_cg fun b j q => by
        unfold RG at q
        rw [I2 b j (by omega) (by omega), I1 b j (by omega) (by omega)]
      have X2 : xm g2 a := xm_cg (h := h) (fun b j q => by
        unfold RX RG at q
        rw [I2 b j (by omega) (by omega), I1 b j (by omega) (by omega)]) (fun p => by unfold y_J; rw [S2]) X
      have F2 : ∀ b j, y_F g2 b j = y_F h b j := fun b j => by unfold y_F; rw [S2]
      obtain ⟨g3, j1, j2, j3, j4, j5⟩ := l113 (sc := sc) r (by omega) hn (pfa n - 1) 0 g2 (by omega) X2 (by rw [v2]; exact hg) (by rw [v2]; exact en) ((F2 _ _).trans hF) (by rw [I2 _ _ (by omega) (by omega), ← e1, yI_fill_o (by omega), yI_sI_e ⟨rfl, rfl⟩]) (fun k hk => by
        rw [I2 _ _ (by omega) (by omega), ← e1, yI_fill_e ⟨rfl, by omega, hk⟩, crd_0 hn hk]) (fun q => by omega)
      rw [v2] at j1 j2
      generalize eF : g_cf2 (hv h) n = F at j1 j2
      have fr3 : ∀ b j, ¬ (b = 23 ∨ (b = 39 ∧ j = 3) ∨ b = 40 ∨ b = 41 ∨ b = 42 ∨ b = 5 + Int.toNat r ∨ b = 38 ∨ b = 37 ∨ (b = 11 ∧ j = Int.toNat r)) → y_I g3 b j = y_I h b j := fun b j q => by
        rw [j3 b j (by omega), I2 b j (by omega) (by omega), I1 b j (by omega) (by omega)]
      have sz3 : y_I g3 11 (Int.toNat r) = (n : Int) := by rw [j3 _ _ (by omega), ← e2, yI_fill_o (by omega), yI_sI_e ⟨rfl, rfl⟩]
      have v3 : hv g3 = hv h := hv_cg fun b j q => fr3 b j (by unfold RG at q; omega)
      -- the model
      generalize e4 : y_fill g3 115 0 24 (fun j => y_I g3 111 j) = g4
      have I4 : ∀ b j, b ≠ 115 → y_I g4 b j = y_I g3 b j := fun b j q => by rw [← e4, yI_fill_o (by omega)]
      have v4 : hv g4 = hv h := (hv_cg fun b j q => I4 b j (by unfold RG at q; omega)).trans v3
      obtain ⟨g5, k1, k2, k3⟩ := l224b (sc := sc) r hn (pfa n) 0 g4 (by omega) (by rw [v4]; exact hg) (by rw [v4]; exact en)
      rw [v4, eF] at k1
      generalize e6 : y_fill g5 111 0 24 (fun j => y_I g5 115 j) = g6
      have I6 : ∀ b j, b ≠ 111 → y_I g6 b j = y_I g5 b j := fun b j q => by rw [← e6, yI_fill_o (by omega)]
      have r6 : y_I g6 94 10 = (n : Int) := by
        rw [I6 _ _ (by omega), k2 _ _ (by omega) (by omega), I4 _ _ (by omega), fr3 _ _ (by omega)]; exact en
      have bl : pbs F (pfa n) < pfa n := pbs_lt (by omega)
      obtain ⟨g7, l1, l2, l3, l4⟩ := s223 (sc := sc) (h := g6) hn r6 (show pbs F (pfa n) ≤ 1000 by omega) (crd_lay hn bl)
      have r7 : y_I g7 94 10 = (n : Int) := (l3 _ _ (by omega)).trans r6
      generalize e8 : y_sI g7 96 (Int.toNat r) (y_I g7 94 10) = g8
      have I8 : ∀ b j, ¬ (b = 96 ∧ j = Int.toNat r) → y_I g8 b j = y_I g7 b j := fun b j q => by rw [← e8, yI_sI_o q]
      have r8 : y_I g8 94 10 = (n : Int) := (I8 _ _ (by omega)).trans r7
      have lc := fun d v3' v4' o6 => l224c (sc := sc) d r (pfa n : Int) v3' v4' o6 (by omega) g8 (by omega) 48 0 (by omega) (by omega)
      rw [show Int.toNat (48 * r + 0) = Int.toNat (48 * r) by omega, y_fill_0, r8] at lc
      generalize e9 : y_fill g8 97 (Int.toNat (48 * r)) (Int.toNat (48 * r + 48)) (fun j => if j < Int.toNat (48 * r) + Int.toNat (n : Int) then y_I g8 114 (j - Int.toNat (48 * r)) else 0) = g9 at lc
      have I9 : ∀ b j, ¬ (b = 97 ∧ Int.toNat (48 * r) ≤ j ∧ j < Int.toNat (48 * r + 48)) → y_I g9 b j = y_I g8 b j := fun b j q => by rw [← e9, yI_fill_o q]
      have S9 : g9.2 = g3.2 := by
        have s8 : g9.2 = g7.2 := by rw [← e9, ← e8]; rfl
        have s6 : g6.2 = g5.2 := by rw [← e6]; rfl
        have s4 : g4.2 = g3.2 := by rw [← e4]; rfl
        exact s8.trans (l4.trans (s6.trans (k3.trans s4)))
      have fr9 : ∀ b j, ¬ (b = 97 ∧ Int.toNat (48 * r) ≤ j ∧ j < Int.toNat (48 * r + 48)) → ¬ (b = 96 ∧ j = Int.toNat r) → b ≠ 111 → b ≠ 114 → b ≠ 115 → y_I g9 b j = y_I g3 b j := fun b j q1 q2 q3 q4 q5 => by
        rw [I9 b j q1, I8 b j q2, l3 b j q4, I6 b j q3, k2 b j q3 q4, I4 b j q5]
      have sz9 : y_I g9 96 (Int.toNat r) = (n : Int) := by rw [I9 _ _ (by omega), ← e8, yI_sI_e ⟨rfl, rfl⟩, r7]
      have pl9 : ∀ j, j < 24 → y_I g9 111 j = y_I h 111 j := fun j q => by
        rw [I9 _ _ (by omega), I8 _ _ (by omega), l3 _ _ (by omega), ← e6, yI_fill_e ⟨rfl, by omega, q⟩, k2 _ _ (by omega) (by omega), ← e4, yI_fill_e ⟨rfl, by omega, q⟩, fr3 _ _ (by omega)]
      have v9 : hv g9 = hv h := (hv_cg fun b j q => fr9 b j (by unfold RG at q; omega) (by unfold RG at q; omega) (by unfold RG at q; omega) (by unfold RG at q; omega) (by unfold RG at q; omega)).trans v3
      have fr : ∀ b j, ¬ (b = 97 ∧ Int.toNat (48 * r) ≤ j ∧ j < Int.toNat (48 * r + 48)) → ¬ (b = 96 ∧ j = Int.toNat r) → b ≠ 111 → b ≠ 114 → b ≠ 115 → ¬ (b = 23 ∨ (b = 39 ∧ j = 3) ∨ b = 40 ∨ b = 41 ∨ b = 42 ∨ b = 5 + Int.toNat r ∨ b = 38 ∨ b = 37 ∨ (b = 11 ∧ j = Int.toNat r)) → y_I g9 b j = y_I h b j := fun b j q1 q2 q3 q4 q5 q6 => (fr9 b j q1 q2 q3 q4 q5).trans (fr3 b j q6)
      have fF : ∀ b j, b ≠ 39 → y_F g9 b j = y_F h b j := fun b j q => by
        have : y_F g9 b j = y_F g3 b j := by unfold y_F; rw [S9]
        rw [this, j4 b j q, F2]
      have fJ : y_J g9 = y_J h := by
        have q1 : y_J g9 = y_J g3 := by unfold y_J; rw [S9]
        have q2 : y_J g2 = y_J h := by unfold y_J; rw [S2]
        rw [q1, j5, q2]
      refine OP_do (pls F (pfa n)) g3 g9 (fun d hd => ?_) (fun d hd => ?_) ⟨a, ⟨?_, ?_, xm_cg (h := h) (fun b j q => ?_) (fun p => by rw [fJ]) X, by rw [v9]; exact hg⟩, fun q q1 q2 => ?_, I_txt_cg (h := h) (fun b j q => ?_) i3, ⟨?_, ?_⟩, I_rul_cg (h := h) (fun b j q => ?_) i5, I_tel_up (Nat.le_succ N) (I_tel_cg (h := h) (fun b j q => ?_) i6)⟩
      · have s60' := s60 (sc := sc) (h := h) d (by omega) rl hn
        rw [e1] at s60'
        have s83' := s83a (sc := sc) (h := g1) d (by omega) r (n : Int) 0 (by omega) (by omega)
        rw [e2] at s83'
        rw [e113, b113_0, s79a d (by omega), yci_s, if_neg (by rw [bi_t c0]; omega), hF, yH0 ha, x2, if_neg c1, yH0 ha, en, s60', ycv_s, s83', ycv_s]
        exact j1 d none (by omega)
      · have s221' := s221 (sc := sc) (h := g3) d (by omega) 115 (Or.inl rfl)
        rw [e4] at s221'
        have s222' := s222 (sc := sc) (h := g5) d (by omega) 115 (Or.inl rfl)
        rw [e6] at s222'
        have r4 : y_I g4 94 10 = (n : Int) := by
          rw [I4 _ _ (by omega), fr3 _ _ (by omega)]; exact en
        have or : y_ev z_pg sc d pgX8_best 33 [some (y_vr 94), some (y_vi r), some (y_vi 1), some (y_vi 2), none, none, none] [] g4 = y_ev z_pg sc d pgX8_best 60 [some (y_vr 94), some (y_vi r), some (y_vi (pfa n : Int)), some (y_vi (-9)), some (y_vi 0), some (y_vi 0), none] [] g4 := by
          rcases n with _ | n
          · rw [b224_33, r4, if_pos (by omega)]
            rfl
          · exact l224a d r hn r4 n 1 (by omega)
        obtain ⟨o6', k4⟩ := k1 d none (by omega)
        rw [if_neg (show ¬ pfa n = 0 by omega), if_neg (show ¬ pfa n = 0 by omega), if_pos rfl, if_pos rfl] at k4
        rw [e224, b224_0, s145 d (by omega), yci_s, if_neg (by rw [bi_t c0]; omega), fr3 _ _ (by omega), hvrm, if_neg c1, s221', ycv_s, or]
        refine Eq.trans k4 ?_
        rw [b224_60, if_neg (by omega), s222', ycv_s, l1 d (by omega), ycv_s, yi_t (by omega), e8, lc]
      · rw [fF _ _ (by omega)]; exact hF
      · rw [fF _ _ (by omega)]; exact hD
      · unfold RX RG at q; exact fr b j (by omega) (by omega) (by omega) (by omega) (by omega) (by omega)
      · by_cases z : q = r
        · subst z
          rw [sz9, fr9 _ _ (by omega) (by omega) (by omega) (by omega) (by omega), sz3]
          refine ⟨rfl, by omega, fun i y1 y2 => ?_⟩
          rw [fr9 _ _ (by omega) (by omega) (by omega) (by omega) (by omega), j2 _ (by omega), ← e9, yI_fill_e ⟨rfl, by omega, by omega⟩, if_pos (by omega), I8 _ _ (by omega), show Int.toNat (48 * q + i) - Int.toNat (48 * q) = Int.toNat i by omega, l2 _ (by omega)]
          rfl
        · obtain ⟨y1, y2, y3⟩ := i2 q q1 q2
          have e96 : y_I g9 96 (Int.toNat q) = y_I h 96 (Int.toNat q) := fr _ _ (by omega) (by omega) (by omega) (by omega) (by omega) (by omega)
          rw [e96, fr 11 _ (by omega) (by omega) (by omega) (by omega) (by omega) (by omega)]
          refine ⟨y1, y2, fun i z1 z2 => ?_⟩
          rw [fr (5 + Int.toNat q) _ (by omega) (by omega) (by omega) (by omega) (by omega) (by omega), fr 97 _ (by omega) (by omega) (by omega) (by omega) (by omega) (by omega)]
          exact y3 i z1 z2
      · unfold RT at q; exact fr b j (by omega) (by omega) (by omega) (by omega) (by omega) (by omega)
      · rw [v9]
        refine p_ok.cg (P := pl h 111) (fun w w1 w2 => ?_) hp
        exact (pl9 _ (by omega)).symm
      · rw [v9]
        refine fun w w1 w2 => ?_
        have q := pe w w1 w2
        show y_I g9 111 _ = y_I g9 21 _
        rw [pl9 _ (by omega), fr 21 _ (by omega) (by omega) (by omega) (by omega) (by omega) (by omega)]
        exact q
      · unfold RV RG at q; exact fr b j (by omega) (by omega) (by omega) (by omega) (by omega) (by omega)
      · unfold RE at q; exact fr b j (by omega) (by omega) (by omega) (by omega) (by omega) (by omega)
  · refine OP_same II (-1) (fun d hd => ?_) (fun d hd => ?_)
    · rw [e113, b113_0, s79a d (by omega), yci_s, if_pos (bi_f c0)]
    · rw [e224, b224_0, s145 d (by omega), yci_s, if_pos (bi_f c0)]
end BE
