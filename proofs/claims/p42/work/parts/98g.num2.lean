/-! the readers and their wants by numbers -/
def nR (h : y_Hp) (j : Int) : Prop := ∀ r, 0 ≤ r → r < j → (0 ≤ y_I h 236 (Int.toNat (20 + 3 * r)) ∧ y_I h 236 (Int.toNat (20 + 3 * r)) ≤ 6) ∧ (y_I h 236 (Int.toNat (20 + 3 * r)) + 3 ≤ y_I h 236 (Int.toNat (21 + 3 * r)) ∧ y_I h 236 (Int.toNat (21 + 3 * r)) ≤ y_I h 236 (Int.toNat (20 + 3 * r)) + 32) ∧ (y_I h 236 (Int.toNat (22 + 3 * r)) = 0 ∨ y_I h 236 (Int.toNat (22 + 3 * r)) = 1)
def nW (h : y_Hp) (n v2 : Int) : Prop := ∀ w, 0 ≤ w → w < n → 0 ≤ y_I h 237 (Int.toNat (4 * w)) ∧ (0 ≤ y_I h 237 (Int.toNat (4 * w + 1)) ∧ y_I h 237 (Int.toNat (4 * w + 1)) < v2) ∧ (1 ≤ y_I h 237 (Int.toNat (4 * w + 2)) ∧ y_I h 237 (Int.toNat (4 * w + 2)) ≤ 6) ∧ (1 ≤ y_I h 237 (Int.toNat (4 * w + 3)) ∧ y_I h 237 (Int.toNat (4 * w + 3)) ≤ 9)
def nO (h : y_Hp) (n : Int) : Prop := (0 < n → y_I h 237 (Int.toNat (4 * 0)) = 0) ∧ ∀ w, 0 ≤ w → w + 1 < n → y_I h 237 (Int.toNat (4 * w)) ≤ y_I h 237 (Int.toNat (4 * (w + 1))) ∧ y_I h 237 (Int.toNat (4 * (w + 1))) ≤ y_I h 237 (Int.toNat (4 * w)) + 1
def nU (h : y_Hp) (n : Int) : Prop := ∀ v w, 0 ≤ v → v < n → 0 ≤ w → w < n → y_I h 237 (Int.toNat (4 * v)) = y_I h 237 (Int.toNat (4 * w)) → y_I h 237 (Int.toNat (4 * v + 1)) = y_I h 237 (Int.toNat (4 * w + 1)) → v = w
def n_I (h : y_Hp) (v2 n r f k : Int) : Prop := nW h n v2 ∧ nO h n ∧ nU h n ∧ (∀ w, 0 ≤ w → w < n → y_I h 237 (Int.toNat (4 * w)) ≤ r) ∧ (k = 0 → (∀ w, 0 ≤ w → w < n → y_I h 237 (Int.toNat (4 * w)) < r) ∧ ((n = 0 ∧ r = 0) ∨ (0 < n ∧ y_I h 237 (Int.toNat (4 * (n - 1))) = r - 1))) ∧ (0 < k → 0 < n ∧ y_I h 237 (Int.toNat (4 * (n - 1))) = r) ∧ ∀ w, 0 ≤ w → w < n → y_I h 237 (Int.toNat (4 * w)) = r → ∃ j, 0 ≤ j ∧ j < k ∧ y_I h 237 (Int.toNat (4 * w + 1)) = (f + j) % v2
/-- a want more -/
theorem n_I_add {h : y_Hp} {v2 n r f k : Int} (h2 : 2 ≤ v2 ∧ v2 ≤ 4) (hn : 0 ≤ n) (hr : 0 ≤ r) (hf : 0 ≤ f) (hk : 0 ≤ k ∧ k < v2) (I : n_I h v2 n r f k) {m x : Int} (hm : 1 ≤ m ∧ m ≤ 6) (hx : 1 ≤ x ∧ x ≤ 9) : n_I (y_sI (y_sI (y_sI (y_sI h 237 (Int.toNat (4 * n)) r) 237 (Int.toNat (4 * n + 1)) ((f + k) % v2)) 237 (Int.toNat (4 * n + 2)) m) 237 (Int.toNat (4 * n + 3)) x) v2 (n + 1) r f (k + 1) := by
  obtain ⟨iW, iO, iU, iL, i0, i1, iJ⟩ := I
  generalize eh : (y_sI (y_sI (y_sI (y_sI h 237 (Int.toNat (4 * n)) r) 237 (Int.toNat (4 * n + 1)) ((f + k) % v2)) 237 (Int.toNat (4 * n + 2)) m) 237 (Int.toNat (4 * n + 3)) x) = g
  have o : ∀ j : Int, (j < 4 * n ∧ 0 ≤ j) → y_I g 237 (Int.toNat j) = y_I h 237 (Int.toNat j) := by
    intro j hj
    rw [← eh]
    simp (disch := omega) only [yI_sI_o]
  have a0 : y_I g 237 (Int.toNat (4 * n)) = r := by
    rw [← eh]
    simp (disch := omega) only [yI_sI_o, yI_sI_e]
  have a1 : y_I g 237 (Int.toNat (4 * n + 1)) = (f + k) % v2 := by
    rw [← eh]
    simp (disch := omega) only [yI_sI_o, yI_sI_e]
  have a2 : y_I g 237 (Int.toNat (4 * n + 2)) = m := by
    rw [← eh]
    simp (disch := omega) only [yI_sI_o, yI_sI_e]
  have a3 : y_I g 237 (Int.toNat (4 * n + 3)) = x := by
    rw [← eh]
    simp (disch := omega) only [yI_sI_o, yI_sI_e]
  have pb : 0 ≤ (f + k) % v2 ∧ (f + k) % v2 < v2 := ⟨Int.emod_nonneg _ (by omega), Int.emod_lt_of_pos _ (by omega)⟩
  have un : ∀ v, 0 ≤ v → v < n → y_I g 237 (Int.toNat (4 * v)) = r → y_I g 237 (Int.toNat (4 * v + 1)) = (f + k) % v2 → False := by
    intro v v1 v2' e1 e2
    rw [o _ (by omega)] at e1 e2
    obtain ⟨j, j1, j2, j3⟩ := iJ v v1 v2' e1
    rw [j3] at e2
    rcases (show v2 = 2 ∨ v2 = 3 ∨ v2 = 4 by omega) with rfl | rfl | rfl <;> omega
  refine ⟨?_, ⟨?_, ?_⟩, ?_, ?_, fun q => by omega, fun _ => ⟨by omega, by rw [show n + 1 - 1 = n by omega]; exact a0⟩, ?_⟩
  · intro w w1 w2
    by_cases e : w = n
    · subst e
      rw [a0, a1, a2, a3]
      exact ⟨hr, pb, hm, hx⟩
    · rw [o _ (by omega), o _ (by omega), o _ (by omega), o _ (by omega)]
      exact iW w w1 (by omega)
  · intro _
    by_cases e : n = 0
    · subst e
      rw [a0]
      rcases Int.lt_or_le 0 k with c | c
      · have := (i1 c).1; omega
      · rcases (i0 (by omega)).2 with q | q <;> omega
    · rw [o _ (by omega)]
      exact iO.1 (by omega)
  · intro w w1 w2
    by_cases e : w + 1 = n
    · subst e
      rw [a0, o _ (by omega)]
      rcases Int.lt_or_le 0 k with c | c
      · have := (i1 c).2
        rw [show w + 1 - 1 = w by omega] at this
        omega
      · rcases (i0 (by omega)).2 with q | q
        · omega
        · have := q.2
          rw [show w + 1 - 1 = w by omega] at this
          omega
    · rw [o _ (by omega), o _ (by omega)]
      exact iO.2 w w1 (by omega)
  · intro v w v1 v2' w1 w2 e1 e2
    by_cases ev : v = n
    · by_cases ew : w = n
      · omega
      · exfalso
        subst ev
        rw [a0] at e1
        rw [a1] at e2
        exact un w w1 (by omega) e1.symm e2.symm
    · by_cases ew : w = n
      · exfalso
        subst ew
        rw [a0] at e1
        rw [a1] at e2
        exact un v v1 (by omega) e1 e2
      · rw [o _ (by omega), o _ (by omega)] at e1 e2
        exact iU v w v1 (by omega) w1 (by omega) e1 e2
  · intro w w1 w2
    by_cases e : w = n
    · subst e
      rw [a0]; exact Int.le_refl _
    · rw [o _ (by omega)]
      exact iL w w1 (by omega)
  · intro w w1 w2 e1
    by_cases e : w = n
    · subst e
      exact ⟨k, hk.1, by omega, a1⟩
    · rw [o _ (by omega)] at e1 ⊢
      obtain ⟨j, j1, j2, j3⟩ := iJ w w1 (by omega) e1
      exact ⟨j, j1, by omega, j3⟩
theorem n_I_skip {h : y_Hp} {v2 n r f k : Int} (hk : 0 < k) (I : n_I h v2 n r f k) : n_I h v2 n r f (k + 1) := by
  obtain ⟨iW, iO, iU, iL, i0, i1, iJ⟩ := I
  refine ⟨iW, iO, iU, iL, fun q => by omega, fun _ => i1 hk, fun w w1 w2 e => ?_⟩
  obtain ⟨j, j1, j2, j3⟩ := iJ w w1 w2 e
  exact ⟨j, j1, by omega, j3⟩
theorem n_I_next {h : y_Hp} {v2 n r f f' k : Int} (hk : 0 < k) (I : n_I h v2 n r f k) : n_I h v2 n (r + 1) f' 0 := by
  obtain ⟨iW, iO, iU, iL, i0, i1, iJ⟩ := I
  refine ⟨iW, iO, iU, fun w w1 w2 => by have := iL w w1 w2; omega, fun _ => ⟨fun w w1 w2 => by have := iL w w1 w2; omega, Or.inr ⟨(i1 hk).1, by rw [(i1 hk).2]; omega⟩⟩, fun q => by omega, fun w w1 w2 e => ?_⟩
  have := iL w w1 w2
  omega
theorem n_I_cg {h g : y_Hp} {v2 n r f k : Int} (e : ∀ j, y_I g 237 j = y_I h 237 j) (I : n_I h v2 n r f k) : n_I g v2 n r f k := by
  unfold n_I nW nO nU at I ⊢
  simp only [e]
  exact I
theorem sh_bd {x : Int} (hx : y_inr x) {X : y_O} : y_nz 2 (y_rg (Int.tdiv x 2) (y_rg (x - Int.tdiv x 2 * 2) X)) = X := by
  unfold y_inr at hx
  rcases Int.lt_or_le x 0 with c | c
  · obtain ⟨y, rfl⟩ : ∃ y, x = -y := ⟨-x, by omega⟩
    have e : Int.tdiv (-y) 2 = -(Int.tdiv y 2) := Int.neg_tdiv y 2
    have a := rm_bd (u := y) (m := 2) (by omega) (by omega)
    have b := dv_bd (u := y) (m := 2) (by omega) (by omega)
    rw [yz_t (by omega), e, yr_t (by omega), yr_t (by omega)]
  · have a := rm_bd (u := x) (m := 2) (by omega) (by omega)
    have b := dv_bd (u := x) (m := 2) (by omega) (by omega)
    rw [yz_t (by omega), yr_t (by omega), yr_t (by omega)]
section NUM
variable {sc : z_Sc}
theorem l254w (hs : sc.1 ≤ 260) (v2 v3 r f : Int) (h2 : 2 ≤ v2 ∧ v2 ≤ 4) (h3 : 1 ≤ v3 ∧ v3 ≤ 4) (hr : 0 ≤ r ∧ r < v3) (hf : 0 ≤ f ∧ f ≤ 300000000) : ∀ (m : Nat) (k n : Int) (h : y_Hp), 0 ≤ k → k + m = v2 → 0 ≤ n → (k = 0 → n + v3 - r ≤ 6) → (0 < k → n + v3 - 1 - r ≤ 6) → n_I h v2 n r f k → ∃ h' n', (∀ d o, 1 ≤ d → ∃ o2, y_ev z_pg sc d pgL_numbers 251 (nL v2 v3 n [some (y_vi r), some (y_vi f), some (y_vi k), o]) [] h = y_ev z_pg sc d pgL_numbers 137 (nL v2 v3 n' [some (y_vi (r + 1)), some (y_vi f), some (y_vi v2), o2]) [] h') ∧ n_I h' v2 n' r f v2 ∧ (0 ≤ n' ∧ n' + v3 - 1 - r ≤ 6) ∧ nF h h' ∧ ∀ j, y_I h' 236 j = y_I h 236 j
  | 0, k, n, h, hk, hm, hn, c0, c1, I => by
    have ek : k = v2 := by omega
    refine ⟨h, n, fun d o hd => ⟨o, ?_⟩, ek ▸ I, ⟨hn, c1 (by omega)⟩, nF_rf, fun _ => rfl⟩
    rw [b254_251, if_neg (by omega), yr_t (by omega), ek]
  | m + 1, k, n, h, hk, hm, hn, c0, c1, I => by
    have hn6 : n ≤ 6 := by
      rcases Int.lt_or_le 0 k with c | c
      · have := c1 c; omega
      · have := c0 (by omega); omega
    have b1 := cw_bd (sc := sc) (k := (10 + 29) + n) (by omega)
    have b2 := cw_bd (sc := sc) (k := (10 + 40) + n) (by omega)
    have r1 := rm_bd (u := cw sc ((10 + 29) + n)) (m := 6) b1.1 (by omega)
    have r2 := rm_bd (u := cw sc ((10 + 40) + n)) (m := 9) b2.1 (by omega)
    have e1 : (f + k) - Int.tdiv (f + k) v2 * v2 = (f + k) % v2 := rm_e (by omega)
    have addn : (n + 1 + v3 - 1 - r ≤ 6) → ∃ h' n', (∀ d, 1 ≤ d → ∃ o2, y_ev z_pg sc d pgL_numbers 251 (nL v2 v3 (n + 1) [some (y_vi r), some (y_vi f), some (y_vi (k + 1)), some (y_vi 1)]) [] (y_sI (y_sI (y_sI (y_sI h 237 (Int.toNat (4 * n)) r) 237 (Int.toNat (4 * n + 1)) ((f + k) - Int.tdiv (f + k) v2 * v2)) 237 (Int.toNat (4 * n + 2)) (1 + (cw sc ((10 + 29) + n) - Int.tdiv (cw sc ((10 + 29) + n)) 6 * 6))) 237 (Int.toNat (4 * n + 3)) (1 + (cw sc ((10 + 40) + n) - Int.tdiv (cw sc ((10 + 40) + n)) 9 * 9))) = y_ev z_pg sc d pgL_numbers 137 (nL v2 v3 n' [some (y_vi (r + 1)), some (y_vi f), some (y_vi v2), o2]) [] h') ∧ n_I h' v2 n' r f v2 ∧ (0 ≤ n' ∧ n' + v3 - 1 - r ≤ 6) ∧ nF h h' ∧ ∀ j, y_I h' 236 j = y_I h 236 j := by
      intro hc
      have J := n_I_add h2 hn hr.1 hf.1 ⟨hk, by omega⟩ I (m := 1 + (cw sc ((10 + 29) + n) - Int.tdiv (cw sc ((10 + 29) + n)) 6 * 6)) (x := 1 + (cw sc ((10 + 40) + n) - Int.tdiv (cw sc ((10 + 40) + n)) 9 * 9)) (by omega) (by omega)
      rw [← e1] at J
      obtain ⟨h', n', q1, q2, q3, q4, q5⟩ := l254w hs v2 v3 r f h2 h3 hr hf m (k + 1) (n + 1) _ (by omega) (by omega) (by omega) (fun q => by omega) (fun _ => hc) J
      refine ⟨h', n', fun d hd => q1 d _ hd, q2, q3, nF_tr (nF_tr (nF_s (Or.inr rfl)) (nF_tr (nF_s (Or.inr rfl)) (nF_tr (nF_s (Or.inr rfl)) (nF_s (Or.inr rfl))))) q4, fun j => ?_⟩
      rw [q5]
      simp (disch := omega) only [yI_sI_ne]
    have skip : 0 < k → ∃ h' n', (∀ d, 1 ≤ d → ∃ o2, y_ev z_pg sc d pgL_numbers 251 (nL v2 v3 n [some (y_vi r), some (y_vi f), some (y_vi (k + 1)), some (y_vi 0)]) [] h = y_ev z_pg sc d pgL_numbers 137 (nL v2 v3 n' [some (y_vi (r + 1)), some (y_vi f), some (y_vi v2), o2]) [] h') ∧ n_I h' v2 n' r f v2 ∧ (0 ≤ n' ∧ n' + v3 - 1 - r ≤ 6) ∧ nF h h' ∧ ∀ j, y_I h' 236 j = y_I h 236 j := fun hk0 =>
by
      obtain ⟨h', n', q1, q⟩ := l254w hs v2 v3 r f h2 h3 hr hf m (k + 1) n h (by omega) (by omega) hn (fun q => by omega) (fun _ => c1 hk0) (n_I_skip hk0 I)
      exact ⟨h', n', fun d hd => q1 d _ hd, q⟩
    by_cases k0 : k = 0
    · obtain ⟨h', n', q1, q2, q3, q4, q5⟩ := addn (by have := c0 k0; omega)
      refine ⟨h', n', fun d o hd => ?_, q2, q3, q4, q5⟩
      obtain ⟨o2, q⟩ := q1 d hd
      refine ⟨o2, ?_⟩
      rw [← q, b254_251, if_pos (by omega), if_pos k0, yr_t (by omega), yi_t (by omega), yr_t (by omega), yr_t (by omega), yr_t (by omega), ym_t (by omega) (by omega), yi_t (by omega), yhb_s, yr_t (by omega), yr_t (by omega), yr_t (by omega), yr_t (by omega), s251 d hd _ (by omega) hs, yci_s, ym_t (by omega) (by omega), yr_t (by omega), yi_t (by omega), yr_t (by omega), yr_t (by omega), yr_t (by omega), yr_t (by omega), s251 d hd _ (by omega) hs, yci_s, ym_t (by omega) (by omega), yr_t (by omega), yi_t (by omega), yr_t (by omega), yr_t (by omega)]
    · have kp : 0 < k := by omega
      by_cases c6 : ((n + v3) - 1) - r < 6
      · by_cases cb : y_shr f (4 + k) - Int.tdiv (y_shr f (4 + k)) 2 * 2 = 1
        · obtain ⟨h', n', q1, q2, q3, q4, q5⟩ := addn (by omega)
          refine ⟨h', n', fun d o hd => ?_, q2, q3, q4, q5⟩
          obtain ⟨o2, q⟩ := q1 d hd
          refine ⟨o2, ?_⟩
          rw [← q, b254_251, if_pos (by omega), if_neg k0, yr_t (by omega), yr_t (by omega), yr_t (by omega), if_pos c6, yr_t (by omega), sh_bd y_shr_r, if_pos cb, yr_t (by omega), yi_t (by omega), yr_t (by omega), yr_t (by omega), yr_t (by omega), ym_t (by omega) (by omega), yi_t (by omega), yhb_s, yr_t (by omega), yr_t (by omega), yr_t (by omega), yr_t (by omega), s251 d hd _ (by omega) hs, yci_s, ym_t (by omega) (by omega), yr_t (by omega), yi_t (by omega), yr_t (by omega), yr_t (by omega), yr_t (by omega), yr_t (by omega), s251 d hd _ (by omega) hs, yci_s, ym_t (by omega) (by omega), yr_t (by omega), yi_t (by omega), yr_t (by omega), yr_t (by omega)]
        · obtain ⟨h', n', q1, q2, q3, q4, q5⟩ := skip kp
          refine ⟨h', n', fun d o hd => ?_, q2, q3, q4, q5⟩
          obtain ⟨o2, q⟩ := q1 d hd
          refine ⟨o2, ?_⟩
          rw [← q, b254_251, if_pos (by omega), if_neg k0, yr_t (by omega), yr_t (by omega), yr_t (by omega), if_pos c6, yr_t (by omega), sh_bd y_shr_r, if_neg cb, yr_t (by omega)]
      · obtain ⟨h', n', q1, q2, q3, q4, q5⟩ := skip kp
        refine ⟨h', n', fun d o hd => ?_, q2, q3, q4, q5⟩
        obtain ⟨o2, q⟩ := q1 d hd
        refine ⟨o2, ?_⟩
        rw [← q, b254_251, if_pos (by omega), if_neg k0, yr_t (by omega), yr_t (by omega), yr_t (by omega), if_neg c6, yr_t (by omega)]
end NUM
