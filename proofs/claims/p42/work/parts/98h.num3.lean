/-! THE NUMBERS TOLD: what holds of the two rows -/
def nC (h : y_Hp) (j v2 : Int) : Prop := ∀ k, 0 ≤ k → k < j → (0 ≤ y_I h 236 (Int.toNat (40 + 3 * k)) ∧ y_I h 236 (Int.toNat (40 + 3 * k)) < v2) ∧ (0 ≤ y_I h 236 (Int.toNat (41 + 3 * k)) ∧ y_I h 236 (Int.toNat (41 + 3 * k)) ≤ 11) ∧ (y_I h 236 (Int.toNat (41 + 3 * k)) ≤ y_I h 236 (Int.toNat (42 + 3 * k)) ∧ y_I h 236 (Int.toNat (42 + 3 * k)) ≤ y_I h 236 (Int.toNat (41 + 3 * k)) + 5)
/-- a house by numbers: H its numbers, W its wants -/
def NW (H W : Nat → Int) : Prop :=
  ((2 ≤ H 0 ∧ H 0 ≤ 4) ∧ (1 ≤ H 1 ∧ H 1 ≤ 4) ∧ (1 ≤ H 2 ∧ H 2 ≤ 6) ∧ (8 ≤ H 3 ∧ H 3 ≤ 37) ∧ H 4 = 0 ∧ (0 ≤ H 5 ∧ H 5 ≤ 2)) ∧
  (∀ p : Int, 0 ≤ p → p < H 0 → (1 ≤ H (Int.toNat (8 + 3 * p)) ∧ H (Int.toNat (8 + 3 * p)) ≤ 2) ∧ (0 ≤ H (Int.toNat (9 + 3 * p)) ∧ H (Int.toNat (9 + 3 * p)) ≤ 8) ∧ (0 ≤ H (Int.toNat (10 + 3 * p)) ∧ H (Int.toNat (10 + 3 * p)) ≤ 3)) ∧
  (∀ r : Int, 0 ≤ r → r < H 1 → (0 ≤ H (Int.toNat (20 + 3 * r)) ∧ H (Int.toNat (20 + 3 * r)) ≤ 6) ∧ (H (Int.toNat (20 + 3 * r)) + 3 ≤ H (Int.toNat (21 + 3 * r)) ∧ H (Int.toNat (21 + 3 * r)) ≤ H (Int.toNat (20 + 3 * r)) + 32) ∧ (H (Int.toNat (22 + 3 * r)) = 0 ∨ H (Int.toNat (22 + 3 * r)) = 1)) ∧
  (∀ w : Int, 0 ≤ w → w < H 2 → (0 ≤ W (Int.toNat (4 * w)) ∧ W (Int.toNat (4 * w)) < H 1) ∧ (0 ≤ W (Int.toNat (4 * w + 1)) ∧ W (Int.toNat (4 * w + 1)) < H 0) ∧ (1 ≤ W (Int.toNat (4 * w + 2)) ∧ W (Int.toNat (4 * w + 2)) ≤ 6) ∧ (1 ≤ W (Int.toNat (4 * w + 3)) ∧ W (Int.toNat (4 * w + 3)) ≤ 9)) ∧
  (W (Int.toNat (4 * 0)) = 0 ∧ (∀ w : Int, 0 ≤ w → w + 1 < H 2 → W (Int.toNat (4 * w)) ≤ W (Int.toNat (4 * (w + 1))) ∧ W (Int.toNat (4 * (w + 1))) ≤ W (Int.toNat (4 * w)) + 1) ∧ W (Int.toNat (4 * (H 2 - 1))) = H 1 - 1) ∧
  (∀ v w : Int, 0 ≤ v → v < H 2 → 0 ≤ w → w < H 2 → W (Int.toNat (4 * v)) = W (Int.toNat (4 * w)) → W (Int.toNat (4 * v + 1)) = W (Int.toNat (4 * w + 1)) → v = w) ∧
  (∀ k : Int, 0 ≤ k → k < H 5 → (0 ≤ H (Int.toNat (40 + 3 * k)) ∧ H (Int.toNat (40 + 3 * k)) < H 0) ∧ (0 ≤ H (Int.toNat (41 + 3 * k)) ∧ H (Int.toNat (41 + 3 * k)) ≤ 11) ∧ (H (Int.toNat (41 + 3 * k)) ≤ H (Int.toNat (42 + 3 * k)) ∧ H (Int.toNat (42 + 3 * k)) ≤ H (Int.toNat (41 + 3 * k)) + 5))
section NUM
variable {sc : z_Sc}
theorem nP_cg {h g : y_Hp} {j : Int} (hj : j ≤ 4) (e : ∀ q : Int, 8 ≤ q → q < 20 → y_I g 236 (Int.toNat q) = y_I h 236 (Int.toNat q)) (I : nP h j) : nP g j := fun p p1 p2 => by
  rw [e _ (by omega) (by omega), e _ (by omega) (by omega), e _ (by omega) (by omega)]
  exact I p p1 p2
theorem nR_cg {h g : y_Hp} {j : Int} (hj : j ≤ 4) (e : ∀ q : Int, 20 ≤ q → q < 20 + 3 * j → y_I g 236 (Int.toNat q) = y_I h 236 (Int.toNat q)) (I : nR h j) : nR g j := fun p p1 p2 => by
  rw [e _ (by omega) (by omega), e _ (by omega) (by omega), e _ (by omega) (by omega)]
  exact I p p1 p2
theorem l254r (hs : sc.1 ≤ 260) (v2 v3 : Int) (h2 : 2 ≤ v2 ∧ v2 ≤ 4) (h3 : 1 ≤ v3 ∧ v3 ≤ 4) : ∀ (m : Nat) (r n f : Int) (h : y_Hp), 0 ≤ r → r + m = v3 → 0 ≤ n → n + v3 - r ≤ 6 → nR h r → n_I h v2 n r f 0 → ∃ h' n', (∀ d o10 o11 o12, 1 ≤ d → ∃ o1 o2 o3, y_ev z_pg sc d pgL_numbers 137 (nL v2 v3 n [some (y_vi r), o10, o11, o12]) [] h = y_ev z_pg sc d pgL_numbers 428 (nL v2 v3 n' [some (y_vi 0), o1, o2, o3]) [] (y_sI (y_sI h' 236 (Int.toNat 2) n') 236 (Int.toNat 4) 0)) ∧ nR h' v3 ∧ n_I h' v2 n' v3 0 0 ∧ (0 ≤ n' ∧ n' ≤ 6) ∧ nF h h' ∧ ∀ j : Int, (0 ≤ j ∧ j < 20) → y_I h' 236 (Int.toNat j) = y_I h 236 (Int.toNat j)
  | 0, r, n, f, h, hr, hm, hn, hc, R, I => by
    have er : r = v3 := by omega
    refine ⟨h, n, fun d o10 o11 o12 hd => ⟨o10, o11, o12, ?_⟩, er ▸ R, ?_, by omega, nF_rf, fun _ _ => rfl⟩
    · rw [b254_137, if_neg (by omega), yi_t (by omega), yi_t (by omega)]
    · subst er
      obtain ⟨iW, iO, iU, iL, i0, i1, iJ⟩ := I
      exact ⟨iW, iO, iU, iL, i0, i1, fun w w1 w2 e => by have := (i0 rfl).1 w w1 w2; omega⟩
  | m + 1, r, n, f, h, hr, hm, hn, hc, R, I => by
    have b1 := cw_bd (sc := sc) (k := (10 + 13) + r) (by omega)
    have b2 := cw_bd (sc := sc) (k := (10 + 17) + r) (by omega)
    have b3 := cw_bd (sc := sc) (k := (10 + 21) + r) (by omega)
    have b4 := cw_bd (sc := sc) (k := (10 + 25) + r) (by omega)
    have r1 := rm_bd (u := cw sc ((10 + 13) + r)) (m := 7) b1.1 (by omega)
    have r2 := rm_bd (u := cw sc ((10 + 17) + r)) (m := 30) b2.1 (by omega)
    have r3 := rm_bd (u := cw sc ((10 + 21) + r)) (m := 3) b3.1 (by omega)
    generalize ea : cw sc ((10 + 13) + r) - Int.tdiv (cw sc ((10 + 13) + r)) 7 * 7 = a at r1
    generalize eb : cw sc ((10 + 17) + r) - Int.tdiv (cw sc ((10 + 17) + r)) 30 * 30 = b at r2
    have rd : y_I (y_sI h 236 (Int.toNat (20 + (3 * r))) a) 236 (Int.toNat (20 + (3 * r))) = a := yI_sI_e ⟨rfl, rfl⟩
    have body : ∀ x : Int, (x = 0 ∨ x = 1) → ∃ h' n', (∀ d o, 1 ≤ d → ∃ o1 o2 o3, y_ev z_pg sc d pgL_numbers 251 (nL v2 v3 n [some (y_vi r), some (y_vi (cw sc ((10 + 25) + r))), some (y_vi 0), o]) [] (y_sI (y_sI (y_sI h 236 (Int.toNat (20 + (3 * r))) a) 236 (Int.toNat (21 + (3 * r))) (a + 3 + b)) 236 (Int.toNat (22 + (3 * r))) x) = y_ev z_pg sc d pgL_numbers 428 (nL v2 v3 n' [some (y_vi 0), o1, o2, o3]) [] (y_sI (y_sI h' 236 (Int.toNat 2) n') 236 (Int.toNat 4) 0)) ∧ nR h' v3 ∧ n_I h' v2 n' v3 0 0 ∧ (0 ≤ n' ∧ n' ≤ 6) ∧ nF h h' ∧ ∀ j : Int, (0 ≤ j ∧ j < 20) → y_I h' 236 (Int.toNat j) = y_I h 236 (Int.toNat j) := by
      intro x hx
      generalize eg : y_sI (y_sI (y_sI h 236 (Int.toNat (20 + (3 * r))) a) 236 (Int.toNat (21 + (3 * r))) (a + 3 + b)) 236 (Int.toNat (22 + (3 * r))) x = g
      have fr : nF h g := by
        rw [← eg]
        exact nF_tr (nF_s (Or.inl rfl)) (nF_tr (nF_s (Or.inl rfl)) (nF_s (Or.inl rfl)))
      have g7 : ∀ j, y_I g 237 j = y_I h 237 j := fun j => by
        rw [← eg]
        simp (disch := omega) only [yI_sI_ne]
      have go : ∀ j : Int, (0 ≤ j ∧ j < 20 + 3 * r) → y_I g 236 (Int.toNat j) = y_I h 236 (Int.toNat j) := fun j hj => by
        rw [← eg]
        simp (disch := omega) only [yI_sI_o]
      have R1 : nR g (r + 1) := by
        intro p p1 p2
        by_cases e : p = r
        · subst e
          rw [← eg]
          simp (disch := omega) only [yI_sI_o, yI_sI_e]
          omega
        · rw [go _ (by omega), go _ (by omega), go _ (by omega)]
          exact R p p1 (by omega)
      have I0 : n_I g v2 n r (cw sc ((10 + 25) + r)) 0 := n_I_cg g7 (by
        obtain ⟨iW, iO, iU, iL, i0, i1, iJ⟩ := I
        exact ⟨iW, iO, iU, iL, i0, i1, fun w w1 w2 e => by have := (i0 rfl).1 w w1 w2; omega⟩)
      obtain ⟨h1, n1, q1, q2, q3, q4, q5⟩ := l254w hs v2 v3 r (cw sc ((10 + 25) + r)) h2 h3 ⟨hr, by omega⟩ b4 v2.toNat 0 n g (by omega) (by omega) hn (fun _ => hc) (fun q => by omega) I0
      obtain ⟨h', n', p1, p2, p3, p4, p5, p6⟩ := l254r hs v2 v3 h2 h3 m (r + 1) n1 0 h1 (by omega) (by omega) q3.1 (by omega) (nR_cg (by omega) (fun q _ _ => q5 _) R1) (n_I_next (by omega) q2)
      refine ⟨h', n', fun d o hd => ?_, p2, p3, p4, nF_tr fr (nF_tr q4 p5), fun j hj => (p6 j hj).trans ((q5 _).trans (go j ⟨hj.1, by omega⟩))⟩
      obtain ⟨o2, e1⟩ := q1 d o hd
      obtain ⟨u1, u2, u3, e2⟩ := p1 d (some (y_vi (cw sc ((10 + 25) + r)))) (some (y_vi v2)) o2 hd
      exact ⟨u1, u2, u3, e1.trans e2⟩
    by_cases c3 : cw sc ((10 + 21) + r) - Int.tdiv (cw sc ((10 + 21) + r)) 3 * 3 = 0
    · obtain ⟨h', n', p1, p2⟩ := body 1 (Or.inr rfl)
      refine ⟨h', n', fun d o10 o11 o12 hd => ?_, p2⟩
      obtain ⟨u1, u2, u3, e⟩ := p1 d o12 hd
      refine ⟨u1, u2, u3, ?_⟩
      rw [← e, b254_137, if_pos (by omega), yr_t (by omega), yr_t (by omega), yr_t (by omega), yr_t (by omega), s251 d hd _ (by omega) hs, yci_s, ym_t (by omega) (by omega), ea, yi_t (by omega), yr_t (by omega), yr_t (by omega), yr_t (by omega), yr_t (by omega), yi_t (by omega), rd, yr_t (by omega), yr_t (by omega), yr_t (by omega), s251 d hd _ (by omega) hs, yci_s, ym_t (by omega) (by omega), eb, yr_t (by omega), yi_t (by omega), yhb_s, yr_t (by omega), yr_t (by omega), yr_t (by omega), yr_t (by omega), s251 d hd _ (by omega) hs, yci_s, ym_t (by omega) (by omega), if_pos c3, yi_t (by omega), yr_t (by omega), yr_t (by omega), s251 d hd _ (by omega) hs, yci_s]
    · obtain ⟨h', n', p1, p2⟩ := body 0 (Or.inl rfl)
      refine ⟨h', n', fun d o10 o11 o12 hd => ?_, p2⟩
      obtain ⟨u1, u2, u3, e⟩ := p1 d o12 hd
      refine ⟨u1, u2, u3, ?_⟩
      rw [← e, b254_137, if_pos (by omega), yr_t (by omega), yr_t (by omega), yr_t (by omega), yr_t (by omega), s251 d hd _ (by omega) hs, yci_s, ym_t (by omega) (by omega), ea, yi_t (by omega), yr_t (by omega), yr_t (by omega), yr_t (by omega), yr_t (by omega), yi_t (by omega), rd, yr_t (by omega), yr_t (by omega), yr_t (by omega), s251 d hd _ (by omega) hs, yci_s, ym_t (by omega) (by omega), eb, yr_t (by omega), yi_t (by omega), yhb_s, yr_t (by omega), yr_t (by omega), yr_t (by omega), yr_t (by omega), s251 d hd _ (by omega) hs, yci_s, ym_t (by omega) (by omega), if_neg c3, yi_t (by omega), yr_t (by omega), yr_t (by omega), s251 d hd _ (by omega) hs, yci_s]
/-- the cushions -/
theorem l254c (hs : sc.1 ≤ 260) (v2 v3 v8 c : Int) (h2 : 2 ≤ v2 ∧ v2 ≤ 4) (hc : 0 ≤ c ∧ c ≤ 2) : ∀ (m : Nat) (k : Int) (h : y_Hp), 0 ≤ k → k + m = c → y_I h 236 (Int.toNat 5) = c → nC h k v2 → ∃ h', (∀ d o1 o2 o3, 1 ≤ d → y_ev z_pg sc d pgL_numbers 546 (nL v2 v3 v8 [some (y_vi k), o1, o2, o3]) [] h = some (none, h')) ∧ nC h' c v2 ∧ nF h h' ∧ (∀ j : Int, (0 ≤ j ∧ j < 40) → y_I h' 236 (Int.toNat j) = y_I h 236 (Int.toNat j)) ∧ ∀ j, y_I h' 237 j = y_I h 237 j
  | 0, k, h, hk, hm, e5, I => ⟨h, fun d o1 o2 o3 hd => by rw [b254_546, yi_t (by omega), e5, if_neg (by omega)], (show k = c by omega) ▸ I, nF_rf, fun _ _ => rfl, fun _ => rfl⟩
  | m + 1, k, h, hk, hm, e5, I => by
    have b1 := cw_bd (sc := sc) (k := (10 + 60) + k) (by omega)
    have b2 := cw_bd (sc := sc) (k := (10 + 62) + k) (by omega)
    have b3 := cw_bd (sc := sc) (k := (10 + 64) + k) (by omega)
    have r1 := rm_bd (u := cw sc ((10 + 60) + k)) (m := v2) b1.1 (by omega)
    have r2 := rm_bd (u := cw sc ((10 + 62) + k)) (m := 12) b2.1 (by omega)
    have r3 := rm_bd (u := cw sc ((10 + 64) + k)) (m := 6) b3.1 (by omega)
    generalize ea : cw sc ((10 + 60) + k) - Int.tdiv (cw sc ((10 + 60) + k)) v2 * v2 = a at r1
    generalize eb : cw sc ((10 + 62) + k) - Int.tdiv (cw sc ((10 + 62) + k)) 12 * 12 = b at r2
    generalize ec : cw sc ((10 + 64) + k) - Int.tdiv (cw sc ((10 + 64) + k)) 6 * 6 = x at r3
    have rd : y_I (y_sI (y_sI h 236 (Int.toNat (40 + (3 * k))) a) 236 (Int.toNat (41 + (3 * k))) b) 236 (Int.toNat (41 + (3 * k))) = b := yI_sI_e ⟨rfl, rfl⟩
    generalize eg : y_sI (y_sI (y_sI h 236 (Int.toNat (40 + (3 * k))) a) 236 (Int.toNat (41 + (3 * k))) b) 236 (Int.toNat (42 + (3 * k))) (b + x) = g
    have fr : nF h g := by
      rw [← eg]
      exact nF_tr (nF_s (Or.inl rfl)) (nF_tr (nF_s (Or.inl rfl)) (nF_s (Or.inl rfl)))
    have go : ∀ j : Int, (0 ≤ j ∧ j < 40 + 3 * k) → y_I g 236 (Int.toNat j) = y_I h 236 (Int.toNat j) := fun j hj => by
      rw [← eg]
      simp (disch := omega) only [yI_sI_o]
    have g7 : ∀ j, y_I g 237 j = y_I h 237 j := fun j => by
      rw [← eg]
      simp (disch := omega) only [yI_sI_ne]
    have I1 : nC g (k + 1) v2 := by
      intro p p1 p2
      by_cases e : p = k
      · subst e
        rw [← eg]
        simp (disch := omega) only [yI_sI_o, yI_sI_e]
        omega
      · rw [go _ (by omega), go _ (by omega), go _ (by omega)]
        exact I p p1 (by omega)
    obtain ⟨h', q1, q2, q3, q4, q5⟩ := l254c hs v2 v3 v8 c h2 hc m (k + 1) g (by omega) (by omega) ((go 5 (by omega)).trans e5) I1
    refine ⟨h', fun d o1 o2 o3 hd => ?_, q2, nF_tr fr q3, fun j hj => (q4 j hj).trans (go j ⟨hj.1, by omega⟩), fun j => (q5 j).trans (g7 j)⟩
    rw [← q1 d o1 o2 o3 hd, b254_546, yi_t (by omega), e5, if_pos (by omega), yr_t (by omega), yr_t (by omega), yr_t (by omega), yr_t (by omega), s251 d hd _ (by omega) hs, yci_s, ym_t (by omega) (by omega), ea, yi_t (by omega), yr_t (by omega), yr_t (by omega), yr_t (by omega), yr_t (by omega), s251 d hd _ (by omega) hs, yci_s, ym_t (by omega) (by omega), eb, yi_t (by omega), yr_t (by omega), yr_t (by omega), yr_t (by omega), yr_t (by omega), yi_t (by omega), yr_t (by omega), yr_t (by omega), s251 d hd _ (by omega) hs, yci_s, ym_t (by omega) (by omega), ec, rd, yr_t (by omega), yi_t (by omega), eg, yhb_s, yr_t (by omega)]
/-- THE NUMBERS -/
theorem s254 (hs : sc.1 ≤ 260) (v2 v3 : Int) (h2 : 2 ≤ v2 ∧ v2 ≤ 4) (h3 : 1 ≤ v3 ∧ v3 ≤ 4) (h : y_Hp) : ∃ h', (∀ d, 2 ≤ d → y_se z_pg sc d 254 [y_vr 1, y_vi 10, y_vi v2, y_vi v3, y_vi 6, y_vi 0, y_vr 236, y_vr 237] h = some (none, h')) ∧ NW (y_I h' 236) (y_I h' 237) ∧ (y_I h' 236 0 = v2 ∧ y_I h' 236 1 = v3) ∧ nF h h' := by
  have b1 := cw_bd (sc := sc) (k := 10) (by omega)
  have b2 := cw_bd (sc := sc) (k := 10 + 59) (by omega)
  have r1 := rm_bd (u := cw sc 10) (m := 30) b1.1 (by omega)
  have r2 := rm_bd (u := cw sc (10 + 59)) (m := 3) b2.1 (by omega)
  generalize ea : cw sc 10 - Int.tdiv (cw sc 10) 30 * 30 = a at r1
  generalize eb : cw sc (10 + 59) - Int.tdiv (cw sc (10 + 59)) 3 * 3 = b at r2
  generalize eg : y_sI (y_sI (y_sI h 236 (Int.toNat 0) v2) 236 (Int.toNat 1) v3) 236 (Int.toNat 3) (8 + a) = g
  have g0 : y_I g 236 (Int.toNat 0) = v2 := by
    rw [← eg]
    simp (disch := decide) only [yI_sI_o, yI_sI_e]
  have g1 : y_I g 236 (Int.toNat 1) = v3 := by
    rw [← eg]
    simp (disch := decide) only [yI_sI_o, yI_sI_e]
  have g3 : y_I g 236 (Int.toNat 3) = 8 + a := by
    rw [← eg]
    simp (disch := decide) only [yI_sI_o, yI_sI_e]
  have fr : nF h g := by
    rw [← eg]
    exact nF_tr (nF_s (Or.inl rfl)) (nF_tr (nF_s (Or.inl rfl)) (nF_s (Or.inl rfl)))
  obtain ⟨h1, p1, p2, p3, p4⟩ := l254p hs v2 v3 h2 v2.toNat 0 g (by omega) (by omega) (fun p _ _ => by omega)
  obtain ⟨h2', n, q1, q2, q3, q4, q5, q6⟩ := l254r hs v2 v3 h2 h3 v3.toNat 0 0 0 h1 (by omega) (by omega) (by omega) (by omega) (fun p _ _ => by omega) ⟨fun w _ _ => by omega, ⟨fun _ => by omega, fun w _ _ => by omega⟩, fun v w _ _ => by omega, fun w _ _ => by omega, fun _ => ⟨fun w _ _ => by omega, Or.inl ⟨rfl, rfl⟩⟩, fun q => by omega, fun w _ _ => by omega⟩
  obtain ⟨iW, iO, iU, iL, i0, i1, iJ⟩ := q3
  have i0 := i0 rfl
  have npos : 0 < n ∧ y_I h2' 237 (Int.toNat (4 * (n - 1))) = v3 - 1 := by
    rcases i0.2 with z | z
    · omega
    · exact z
  generalize ek : y_sI (y_sI (y_sI h2' 236 (Int.toNat 2) n) 236 (Int.toNat 4) 0) 236 (Int.toNat 5) b = k
  have k2 : y_I k 236 (Int.toNat 2) = n := by
    rw [← ek]
    simp (disch := decide) only [yI_sI_o, yI_sI_e]
  have k4 : y_I k 236 (Int.toNat 4) = 0 := by
    rw [← ek]
    simp (disch := decide) only [yI_sI_o, yI_sI_e]
  have k5 : y_I k 236 (Int.toNat 5) = b := by
    rw [← ek]
    simp (disch := decide) only [yI_sI_o, yI_sI_e]
  have ko : ∀ j : Int, 0 ≤ j → j ≠ 2 → j ≠ 4 → j ≠ 5 → y_I k 236 (Int.toNat j) = y_I h2' 236 (Int.toNat j) := fun j j0 j2 j4 j5 => by
    rw [← ek]
    simp (disch := omega) only [yI_sI_o]
  have k7 : ∀ j, y_I k 237 j = y_I h2' 237 j := fun j => by
    rw [← ek]
    simp (disch := omega) only [yI_sI_ne]
  have frk : nF h2' k := by
    rw [← ek]
    exact nF_tr (nF_s (Or.inl rfl)) (nF_tr (nF_s (Or.inl rfl)) (nF_s (Or.inl rfl)))
  obtain ⟨h', c1, c2, c3, c4, c5⟩ := l254c hs v2 v3 n b h2 (by omega) b.toNat 0 k (by omega) (by omega) k5 (fun p _ _ => by omega)
  have a0 : y_I h' 236 0 = v2 := by
    have := (c4 0 (by omega)).trans ((ko 0 (by omega) (by omega) (by omega) (by omega)).trans ((q6 0 (by omega)).trans ((p4 0 (by omega)).trans g0)))
    exact this
  have a1 : y_I h' 236 1 = v3 := by
    have := (c4 1 (by omega)).trans ((ko 1 (by omega) (by omega) (by omega) (by omega)).trans ((q6 1 (by omega)).trans ((p4 1 (by omega)).trans g1)))
    exact this
  have a2 : y_I h' 236 2 = n := (c4 2 (by omega)).trans k2
  have a3 : y_I h' 236 3 = 8 + a := by
    have := (c4 3 (by omega)).trans ((ko 3 (by omega) (by omega) (by omega) (by omega)).trans ((q6 3 (by omega)).trans ((p4 3 (by omega)).trans g3)))
    exact this
  have a4 : y_I h' 236 4 = 0 := (c4 4 (by omega)).trans k4
  have a5 : y_I h' 236 5 = b := (c4 5 (by omega)).trans k5
  have P' : nP h' v2 := nP_cg (h := h1) (by omega) (fun q x1 x2 => (c4 q (by omega)).trans ((ko q (by omega) (by omega) (by omega) (by omega)).trans (q6 q (by omega)))) p2
  have R' : nR h' v3 := nR_cg (h := h2') (by omega) (fun q x1 x2 => (c4 q (by omega)).trans (ko q (by omega) (by omega) (by omega) (by omega))) q2
  have w7 : ∀ j, y_I h' 237 j = y_I h2' 237 j := fun j => (c5 j).trans (k7 j)
  refine ⟨h', fun d hd => ?_, ⟨⟨by rw [a0]; omega, by rw [a1]; omega, by rw [a2]; omega, by rw [a3]; omega, a4, by rw [a5]; omega⟩, by rw [a0]; exact P', by rw [a1]; exact R', ?_, ⟨?_, ?_, ?_⟩, ?_, ?_⟩, ⟨a0, a1⟩, nF_tr fr (nF_tr p3 (nF_tr q5 (nF_tr frk c3)))⟩
  · rcases d with _ | d
    · omega
    have hd1 : 1 ≤ d := by omega
    obtain ⟨u1, u2, u3, e⟩ := q1 d none none none hd1
    rw [e254, b254_0, yi_t (by decide), yi_t (by decide), s251 d hd1 _ (by omega) hs, yci_s, ym_t (by omega) (by omega), ea, yr_t (by omega), yi_t (by decide), eg, p1 d hd1, e, b254_428, yi_t (by decide), yI_sI_e ⟨rfl, rfl⟩, if_neg (by omega), yr_t (by omega), s251 d hd1 _ (by omega) hs, yci_s, ym_t (by omega) (by omega), eb, yi_t (by decide), ek, c1 d u1 u2 u3 hd1]
  · intro w w1 w2
    rw [a2] at w2
    rw [w7, w7, w7, w7, a0, a1]
    have x := iW w w1 w2
    exact ⟨⟨x.1, i0.1 w w1 w2⟩, x.2.1, x.2.2.1, x.2.2.2⟩
  · rw [w7]
    exact iO.1 npos.1
  · intro w w1 w2
    rw [a2] at w2
    rw [w7, w7]
    exact iO.2 w w1 w2
  · rw [a2, a1, w7]
    exact npos.2
  · intro v w x1 x2 x3 x4 e1 e2
    rw [a2] at x2 x4
    rw [w7, w7] at e1 e2
    exact iU v w x1 x2 x3 x4 e1 e2
  · rw [a5, a0]
    exact c2
end NUM
