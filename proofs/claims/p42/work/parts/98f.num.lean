/-! THE LAW'S NUMBERS: a cell of the script; what they are within -/
theorem y_m28 (v : Int) : 0 ≤ y_and v 268435455 ∧ y_and v 268435455 ≤ 268435455 := by
  have e : (Int32.ofInt 268435455).toBitVec = 268435455#32 := by decide
  have h1 : ((Int32.ofInt v &&& Int32.ofInt 268435455).toBitVec).toNat ≤ 268435455 := by
    rw [Int32.toBitVec_and, e, BitVec.toNat_and]
    exact Nat.and_le_right
  have h2 : (Int32.ofInt v &&& Int32.ofInt 268435455).toInt = (((Int32.ofInt v &&& Int32.ofInt 268435455).toBitVec).toNat : Int) := BitVec.toInt_eq_toNat_of_lt (by omega)
  unfold y_and
  rw [h2]
  omega
/-- a cell of the script, or beyond it -/
noncomputable def cw (sc : z_Sc) (k : Int) : Int := if k < (sc.1 : Int) then y_and (sc.2 k.toNat).toInt 268435455 else (61 * k + 7) * (k + 3)
theorem cw_bd {sc : z_Sc} {k : Int} (hk : 0 ≤ k ∧ k ≤ 100) : 0 ≤ cw sc k ∧ cw sc k ≤ 300000000 := by
  unfold cw
  by_cases c : k < (sc.1 : Int)
  · rw [if_pos c]
    have := y_m28 (sc.2 k.toNat).toInt
    omega
  · rw [if_neg c]
    have h1 : 0 ≤ (61 * k + 7) * (k + 3) := Int.mul_nonneg (by omega) (by omega)
    have h2 : (61 * k + 7) * (k + 3) ≤ 6107 * 103 := Int.mul_le_mul (by omega) (by omega) (by omega) (by omega)
    omega
set_option maxRecDepth 20000 in
theorem t251_0 (sc : z_Sc) (d : Nat) (v1 : Int) (h : y_Hp) : y_ev z_pg sc d pgL_cell 0 [some (y_vr 1), some (y_vi v1)] [] h = y_ev z_pg sc d pgL_cell 2 [some (y_vr 1), some (y_vi v1)] [y_vr 1, y_vi v1] h := (y_un_eq z_pg sc d pgL_cell [2] 5 _ _ _ _).trans rfl
set_option maxRecDepth 20000 in
theorem t251_2 (sc : z_Sc) (d : Nat) (v1 : Int) (h : y_Hp) : y_ev z_pg sc d pgL_cell 2 [some (y_vr 1), some (y_vi v1)] [y_vr 1, y_vi v1] h = y_rg (sc.1 : Int) (y_ev z_pg sc d pgL_cell 3 [some (y_vr 1), some (y_vi v1)] [y_vi (sc.1 : Int), y_vi v1] h) := by
  have e0 : z_gt pgL_cell 2 = some (3, .arraylength, 1, 0, 0, 99, 0) := rfl
  have e1 : ∀ (C : y_C) (K : y_K) (ls : y_Ls) (st : List y_V) (h : y_Hp), y_st sc C K (some (3, .arraylength, 1, 0, 0, 99, 0)) 2 ls st h = y_pr st (fun a r => y_sg (Nat.beq a 1) (y_rg (sc.1 : Int) (K (2 + 1) ls (y_vi (sc.1 : Int) :: r) h))) := fun _ _ _ _ _ => rfl
  have e2 : ∀ (f : Nat → List y_V → y_O) (a : Nat) (r : List y_V), y_pr (y_vr a :: r) f = f a r := fun _ _ _ => rfl
  have e3 : ∀ X : y_O, y_sg (Nat.beq 1 1) X = X := fun _ => rfl
  rw [y_ev_eq, e0, e1, e2, e3]
set_option maxRecDepth 20000 in
theorem t251_3 (sc : z_Sc) (d : Nat) (v1 v : Int) (h : y_Hp) : y_ev z_pg sc d pgL_cell 3 [some (y_vr 1), some (y_vi v1)] [y_vi v, y_vi v1] h = (if v1 < v then y_in v1 sc.1 (some (some (y_vi (y_and (sc.2 (Int.toNat v1)).toInt 268435455)), h)) else y_rg (61 * v1) (y_rg (61 * v1 + 7) (y_rg (v1 + 3) (y_rg ((61 * v1 + 7) * (v1 + 3)) (some (some (y_vi ((61 * v1 + 7) * (v1 + 3))), h)))))) := (y_un_eq z_pg sc d pgL_cell [] 30 _ _ _ _).trans rfl
theorem s251 {sc : z_Sc} {h : y_Hp} (d : Nat) (hd : 1 ≤ d) (k : Int) (hk : 0 ≤ k ∧ k ≤ 100) (hs : sc.1 ≤ 260) : y_se z_pg sc d 251 [y_vr 1, y_vi k] h = some (some (y_vi (cw sc k)), h) := by
  rcases d with _ | d
  · omega
  have e : y_se z_pg sc (d + 1) 251 [y_vr 1, y_vi k] h = y_ev z_pg sc d pgL_cell 0 [some (y_vr 1), some (y_vi k)] [] h := (y_se_eq z_pg sc d 251 _ h rfl).trans (by rw [pe251]; rfl)
  rw [e, t251_0, t251_2, yr_t (by omega), t251_3]
  have b := cw_bd (sc := sc) hk
  unfold cw at b ⊢
  by_cases c : k < (sc.1 : Int)
  · rw [if_pos c, if_pos c, yi_t (by omega)]
  · rw [if_neg c] at b
    rw [if_neg c, if_neg c, yr_t (by omega), yr_t (by omega), yr_t (by omega), yr_t (by omega)]
/-- what is left over -/
theorem rm_e {u m : Int} (hu : 0 ≤ u) : u - Int.tdiv u m * m = u % m := by
  rw [Int.tdiv_eq_ediv_of_nonneg hu, Int.emod_def, Int.mul_comm]
theorem rm_bd {u m : Int} (hu : 0 ≤ u) (hm : 1 ≤ m) : 0 ≤ u - Int.tdiv u m * m ∧ u - Int.tdiv u m * m < m := by
  rw [rm_e hu]
  exact ⟨Int.emod_nonneg _ (by omega), Int.emod_lt_of_pos _ (by omega)⟩
theorem dv_bd {u m : Int} (hu : 0 ≤ u) (hm : 1 ≤ m) : 0 ≤ Int.tdiv u m ∧ Int.tdiv u m ≤ u := by
  rw [Int.tdiv_eq_ediv_of_nonneg hu]
  exact ⟨Int.ediv_nonneg hu (by omega), Int.ediv_le_self _ hu⟩
theorem ym_t {u m : Int} {X : y_O} (hu : 0 ≤ u ∧ u ≤ 400000000) (hm : 1 ≤ m ∧ m ≤ 100) : y_nz m (y_rg (Int.tdiv u m) (y_rg (u - Int.tdiv u m * m) X)) = X := by
  have a := rm_bd (m := m) hu.1 hm.1
  have b := dv_bd (m := m) hu.1 hm.1
  rw [yz_t (by omega), yr_t (by omega), yr_t (by omega)]
def nP (h : y_Hp) (j : Int) : Prop := ∀ p, 0 ≤ p → p < j → (1 ≤ y_I h 236 (Int.toNat (8 + 3 * p)) ∧ y_I h 236 (Int.toNat (8 + 3 * p)) ≤ 2) ∧ (0 ≤ y_I h 236 (Int.toNat (9 + 3 * p)) ∧ y_I h 236 (Int.toNat (9 + 3 * p)) ≤ 8) ∧ (0 ≤ y_I h 236 (Int.toNat (10 + 3 * p)) ∧ y_I h 236 (Int.toNat (10 + 3 * p)) ≤ 3)
/-- what numbers leaves alone -/
def nF (h h' : y_Hp) : Prop := (∀ b k, b ≠ 236 → b ≠ 237 → y_I h' b k = y_I h b k) ∧ h'.2 = h.2
theorem nF_rf {h : y_Hp} : nF h h := ⟨fun _ _ _ _ => rfl, rfl⟩
theorem nF_tr {h h1 h2 : y_Hp} (a : nF h h1) (b : nF h1 h2) : nF h h2 := ⟨fun c k p q => (b.1 c k p q).trans (a.1 c k p q), b.2.trans a.2⟩
theorem nF_s {h : y_Hp} {a k : Nat} {v : Int} (ha : a = 236 ∨ a = 237) : nF h (y_sI h a k v) := ⟨fun b j p q => yI_sI_ne (by omega), rfl⟩
abbrev nL (v2 v3 v8 : Int) (r : y_Ls) : y_Ls := some (y_vr 1) :: some (y_vi 10) :: some (y_vi v2) :: some (y_vi v3) :: some (y_vi 6) :: some (y_vi 0) :: some (y_vr 236) :: some (y_vr 237) :: some (y_vi v8) :: r
section NUM
variable {sc : z_Sc}

theorem l254p (hs : sc.1 ≤ 260) (v2 v3 : Int) (h2 : 2 ≤ v2 ∧ v2 ≤ 4) : ∀ (n : Nat) (k : Int) (h : y_Hp), 0 ≤ k → k + n = v2 → nP h k → ∃ h', (∀ d, 1 ≤ d → y_ev z_pg sc d pgL_numbers 28 (nL v2 v3 k [none, none, none, none]) [] h = y_ev z_pg sc d pgL_numbers 137 (nL v2 v3 0 [some (y_vi 0), none, none, none]) [] h') ∧ nP h' v2 ∧ nF h h' ∧ ∀ j : Int, (0 ≤ j ∧ j < 8) → y_I h' 236 (Int.toNat j) = y_I h 236 (Int.toNat j)
  | 0, k, h, hk, hn, I => ⟨h, fun d hd => by rw [b254_28, if_neg (by omega)], by rw [show v2 = k by omega]; exact I, nF_rf, fun _ _ => rfl⟩
  | n + 1, k, h, hk, hn, I => by
    have c1 := cw_bd (sc := sc) (k := (10 + 1) + k) (by omega)
    have c2 := cw_bd (sc := sc) (k := (10 + 5) + k) (by omega)
    have c3 := cw_bd (sc := sc) (k := (10 + 9) + k) (by omega)
    have r1 := rm_bd (u := cw sc ((10 + 1) + k)) (m := 2) c1.1 (by omega)
    have r2 := rm_bd (u := cw sc ((10 + 5) + k)) (m := 3) c2.1 (by omega)
    have d2 := dv_bd (u := cw sc ((10 + 5) + k)) (m := 3) c2.1 (by omega)
    have r3 := rm_bd (u := Int.tdiv (cw sc ((10 + 5) + k)) 3) (m := 9) d2.1 (by omega)
    have e3 := dv_bd (u := Int.tdiv (cw sc ((10 + 5) + k)) 3) (m := 9) d2.1 (by omega)
    have r4 := rm_bd (u := cw sc ((10 + 9) + k)) (m := 4) c3.1 (by omega)
    have step : ∀ (b : Int), 0 ≤ b ∧ b ≤ 8 → nP (y_sI (y_sI (y_sI h 236 (Int.toNat (8 + (3 * k))) (1 + (cw sc ((10 + 1) + k) - Int.tdiv (cw sc ((10 + 1) + k)) 2 * 2))) 236 (Int.toNat (9 + (3 * k))) b) 236 (Int.toNat (10 + (3 * k))) (cw sc ((10 + 9) + k) - Int.tdiv (cw sc ((10 + 9) + k)) 4 * 4)) (k + 1) := by
      intro b hb p p1 p2
      by_cases e : p = k
      · subst e
        simp (disch := omega) only [yI_sI_o, yI_sI_e]
        omega
      · simp (disch := omega) only [yI_sI_o]
        exact I p p1 (by omega)
    have keep : ∀ (b x y : Int) (j : Int), (0 ≤ j ∧ j < 8) → y_I (y_sI (y_sI (y_sI h 236 (Int.toNat (8 + (3 * k))) x) 236 (Int.toNat (9 + (3 * k))) b) 236 (Int.toNat (10 + (3 * k))) y) 236 (Int.toNat j) = y_I h 236 (Int.toNat j) := by
      intro b x y j hj
      simp (disch := omega) only [yI_sI_o]
    by_cases c : cw sc ((10 + 5) + k) - Int.tdiv (cw sc ((10 + 5) + k)) 3 * 3 = 0
    · obtain ⟨h', a1, a2, a3, a4⟩ := l254p hs v2 v3 h2 n (k + 1) _ (by omega) (by omega) (step _ ⟨r3.1, by omega⟩)
      refine ⟨h', fun d hd => ?_, a2, nF_tr (nF_tr (nF_s (Or.inl rfl)) (nF_tr (nF_s (Or.inl rfl)) (nF_s (Or.inl rfl)))) a3, fun j hj => (a4 j hj).trans (keep _ _ _ j hj)⟩
      rw [← a1 d hd, b254_28, if_pos (by omega), yr_t (by omega), yr_t (by omega), yr_t (by omega), yr_t (by omega), s251 d hd _ (by omega) hs, yci_s, ym_t (by omega) (by omega), yr_t (by omega), yi_t (by omega), yr_t (by omega), yr_t (by omega), yr_t (by omega), yr_t (by omega), s251 d hd _ (by omega) hs, yci_s, ym_t (by omega) (by omega), if_pos c, yr_t (by omega), yr_t (by omega), s251 d hd _ (by omega) hs, yci_s, yz_t (by omega), yr_t (by omega), ym_t (by omega) (by omega), yi_t (by omega), yhb_s, yr_t (by omega), yr_t (by omega), yr_t (by omega), yr_t (by omega), s251 d hd _ (by omega) hs, yci_s, ym_t (by omega) (by omega), yi_t (by omega), yr_t (by omega)]
    · obtain ⟨h', a1, a2, a3, a4⟩ := l254p hs v2 v3 h2 n (k + 1) _ (by omega) (by omega) (step 0 (by omega))
      refine ⟨h', fun d hd => ?_, a2, nF_tr (nF_tr (nF_s (Or.inl rfl)) (nF_tr (nF_s (Or.inl rfl)) (nF_s (Or.inl rfl)))) a3, fun j hj => (a4 j hj).trans (keep _ _ _ j hj)⟩
      rw [← a1 d hd, b254_28, if_pos (by omega), yr_t (by omega), yr_t (by omega), yr_t (by omega), yr_t (by omega), s251 d hd _ (by omega) hs, yci_s, ym_t (by omega) (by omega), yr_t (by omega), yi_t (by omega), yr_t (by omega), yr_t (by omega), yr_t (by omega), yr_t (by omega), s251 d hd _ (by omega) hs, yci_s, ym_t (by omega) (by omega), if_neg c, yi_t (by omega), yr_t (by omega), yr_t (by omega), yr_t (by omega), yr_t (by omega), s251 d hd _ (by omega) hs, yci_s, ym_t (by omega) (by omega), yi_t (by omega), yr_t (by omega)]
end NUM
