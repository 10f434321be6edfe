/-! THE CALL best: plans kept, the first of the least -/
theorem g_ms_bd {G : u_G} {P : u_P} (hg : g_ok G) (hp : p_ok G P) {r : Int} : 0 ≤ g_ms G P r ∧ g_ms G P r ≤ 216 := by
  have kw := hg.2.2.1
  have := u_sum_bd (f := fun w => if r = -9 ∨ g_rd G w = r then g_ls G P w else 0) (lo := 0) (hi := 9) (n := (g_wm G).toNat) (k := 0) fun j h1 h2 => by
    have := g_ls_bd hg hp (w := j) ⟨h1, by omega⟩
    by_cases c : r = -9 ∨ g_rd G j = r
    · rw [if_pos c]; exact this
    · rw [if_neg c]; omega
  unfold g_ms
  omega
def pls (F : Nat → Int) : Nat → Int
  | 0 => 1000000
  | k + 1 => if F k < pls F k then F k else pls F k
def pbs (F : Nat → Int) : Nat → Nat
  | 0 => 0
  | k + 1 => if F k < pls F k then k else pbs F k
theorem pls_0 {F : Nat → Int} (h : ∀ k, 0 ≤ F k) : ∀ {m k : Nat}, pls F k ≤ 0 → pls F (k + m) = pls F k ∧ pbs F (k + m) = pbs F k
  | 0, k, e => ⟨rfl, rfl⟩
  | m + 1, k, e => by
    have ⟨i1, i2⟩ := pls_0 h (m := m) e
    have := h (k + m)
    have c : ¬ F (k + m) < pls F (k + m) := by omega
    constructor
    · show (if F (k + m) < pls F (k + m) then F (k + m) else pls F (k + m)) = _
      rw [if_neg c, i1]
    · show (if F (k + m) < pls F (k + m) then k + m else pbs F (k + m)) = _
      rw [if_neg c, i2]
theorem pbs_lts {F : Nat → Int} : ∀ (k : Nat), pbs F (k + 1) < k + 1
  | 0 => by
    show (if F 0 < pls F 0 then 0 else pbs F 0) < 1
    by_cases c : F 0 < pls F 0
    · rw [if_pos c]; omega
    · rw [if_neg c]
      show 0 < 1; omega
  | k + 1 => by
    have := pbs_lts (F := F) k
    show (if F (k + 1) < pls F (k + 1) then k + 1 else pbs F (k + 1)) < k + 1 + 1
    by_cases c : F (k + 1) < pls F (k + 1)
    · rw [if_pos c]; omega
    · rw [if_neg c]; omega
theorem pbs_lt {F : Nat → Int} {k : Nat} (h : 0 < k) : pbs F k < k := by
  rcases k with _ | k
  · omega
  · exact pbs_lts k
theorem pls_le {F : Nat → Int} (h : ∀ k, F k ≤ 216) : ∀ {k : Nat}, 0 < k → pls F k ≤ 216
  | k + 1, _ => by
    show (if F k < pls F k then F k else pls F k) ≤ 216
    have := h k
    by_cases c : F k < pls F k
    · rw [if_pos c]; exact this
    · rw [if_neg c]; omega
theorem pfa_bd {n : Nat} (hn : n < 7) : 1 ≤ pfa n ∧ pfa n ≤ 720 := by
  have : ∀ n, n < 7 → 1 ≤ pfa n ∧ pfa n ≤ 720 := by decide
  exact this n hn
def crd (n code : Nat) : Nat → Nat := fun k => ((plc n code).getD []).getD k 0
theorem crd_lay {n code : Nat} (hn : n < 7) (hc : code < pfa n) : plc n code = some ((plc n code).getD []) := by
  have := pchk_all n hn code hc
  unfold pchk at this
  rcases e : plc n code with _ | L
  · rw [e] at this; cases this
  · rfl
theorem crd_nx {n code : Nat} (hn : n < 7) (hc : code < pfa n) : (pnx n (crd n code) = none ∧ code + 1 = pfa n) ∨ ∃ g, pnx n (crd n code) = some g ∧ code + 1 < pfa n ∧ ∀ k, k < n → g k = crd n (code + 1) k := by
  have := pchk_all n hn code hc
  unfold pchk at this
  unfold crd
  rcases e : plc n code with _ | L
  · rw [e] at this; cases this
  · rw [e] at this
    simp only [Bool.and_eq_true] at this
    show (pnx n (fun k => L.getD k 0) = none ∧ _) ∨ ∃ g, pnx n (fun k => L.getD k 0) = some g ∧ _ ∧ _
    rcases e2 : pnx n (fun k => L.getD k 0) with _ | g
    · rw [e2] at this
      exact Or.inl ⟨rfl, beq_iff_eq.mp this.2⟩
    · rw [e2] at this
      simp only [Bool.and_eq_true, Nat.blt_eq, beq_iff_eq] at this
      refine Or.inr ⟨g, rfl, this.2.1, fun k hk => ?_⟩
      rw [this.2.2]
      show g k = ((List.range n).map g).getD k 0
      rw [List.getD_eq_getElem?_getD, List.getElem?_map, List.getElem?_range hk]
      rfl
theorem crd_0 {n : Nat} (hn : n < 7) {k : Nat} (hk : k < n) : crd n 0 k = k := by
  unfold crd
  rw [plc_0 n hn]
  show (List.range n).getD k 0 = k
  rw [List.getD_eq_getElem?_getD, List.getElem?_range hk]
  rfl
/-- what is missed by a card -/
noncomputable def g_cf2 (G : u_G) (n : Nat) (code : Nat) : Int := g_ms G (g_run G 1 (fun i => ((crd n code (Int.toNat i) : Nat) : Int))) (-9)
theorem g_cf2_bd {G : u_G} (hg : g_ok G) {n code : Nat} : 0 ≤ g_cf2 G n code ∧ g_cf2 G n code ≤ 216 := g_ms_bd hg (g_run_ok hg)
section BE
variable {sc : z_Sc} {h : y_Hp}
theorem yP9 {p : Nat} {x : y_O} (hp : p = 115 ∨ p = 116) : y_kt p 10 x = x := by rcases hp with rfl | rfl <;> rfl
theorem lP9 {p : Nat} (hp : p = 115 ∨ p = 116) : (z_kd p).2 = 24 := by rcases hp with rfl | rfl <;> rfl
theorem l221 (d : Nat) (p : Nat) (hp : p = 115 ∨ p = 116) (g : y_Hp) : ∀ (m : Nat) (k : Int), 0 ≤ k → k + m = 24 → y_ev z_pg sc d pgX8_keep 2 [some (y_vr 94), some (y_vr p), some (y_vi k)] [] (y_fill g p 0 (Int.toNat k) (fun j => y_I g 111 j)) = some (none, y_fill g p 0 24 (fun j => y_I g 111 j))
  | 0, k, hk, hm => by
    have e : k = 24 := by omega
    subst e
    rw [b221_2, if_neg (by omega)]
    rfl
  | m + 1, k, hk, hm => by
    have := l221 d p hp g m (k + 1) (by omega) (by omega)
    rw [show Int.toNat (k + 1) = Int.toNat k + 1 by omega] at this
    rw [b221_2, if_pos (by omega), yi_t (by omega), yP9 hp, lP9 hp, yi_t (by omega), yr_t (by omega), yI_fill_o (by omega), y_fill_s (Nat.zero_le _) rfl, this]
theorem s221 (d : Nat) (hd : 1 ≤ d) (p : Nat) (hp : p = 115 ∨ p = 116) : y_se z_pg sc d 221 [y_vr 94, y_vr p] h = some (none, y_fill h p 0 24 (fun j => y_I h 111 j)) := by
  rcases d with _ | d
  · omega
  have := l221 (sc := sc) d p hp h 24 0 (by omega) (by omega)
  rw [show Int.toNat 0 = 0 from rfl, y_fill_0] at this
  rw [e221, b221_0, this]
theorem l222 (d : Nat) (p : Nat) (hp : p = 115 ∨ p = 116) (g : y_Hp) : ∀ (m : Nat) (k : Int), 0 ≤ k → k + m = 24 → y_ev z_pg sc d pgX8_back 2 [some (y_vr 94), some (y_vr p), some (y_vi k)] [] (y_fill g 111 0 (Int.toNat k) (fun j => y_I g p j)) = some (none, y_fill g 111 0 24 (fun j => y_I g p j))
  | 0, k, hk, hm => by
    have e : k = 24 := by omega
    subst e
    rw [b222_2, if_neg (by omega)]
    rfl
  | m + 1, k, hk, hm => by
    have := l222 d p hp g m (k + 1) (by omega) (by omega)
    rw [show Int.toNat (k + 1) = Int.toNat k + 1 by omega] at this
    rw [b222_2, if_pos (by omega), yP9 hp, lP9 hp, yi_t (by omega), yi_t (by omega), yr_t (by omega), yI_fill_o (by omega), y_fill_s (Nat.zero_le _) rfl, this]
theorem s222 (d : Nat) (hd : 1 ≤ d) (p : Nat) (hp : p = 115 ∨ p = 116) : y_se z_pg sc d 222 [y_vr 94, y_vr p] h = some (none, y_fill h 111 0 24 (fun j => y_I h p j)) := by
  rcases d with _ | d
  · omega
  have := l222 (sc := sc) d p hp h 24 0 (by omega) (by omega)
  rw [show Int.toNat 0 = 0 from rfl, y_fill_0] at this
  rw [e222, b222_0, this]
theorem l224a (d : Nat) (r : Int) {n : Nat} (hn : n < 7) (hr : y_I h 94 10 = (n : Int)) : ∀ (m k : Nat), k + m = n → y_ev z_pg sc d pgX8_best 33 [some (y_vr 94), some (y_vi r), some (y_vi (pfa k : Int)), some (y_vi ((k + 1 : Nat) : Int)), none, none, none] [] h = y_ev z_pg sc d pgX8_best 60 [some (y_vr 94), some (y_vi r), some (y_vi (pfa n : Int)), some (y_vi (-9)), some (y_vi 0), some (y_vi 0), none] [] h
  | 0, k, e => by
    rw [b224_33, hr, if_pos (by omega), show k = n by omega]
  | m + 1, k, e => by
    have p1 : pfa (k + 1) = pfa k * (k + 1) := Nat.mul_comm _ _
    have pb := pfa_bd (n := k + 1) (by omega)
    rw [b224_33, hr, if_neg (by omega), ← Int.natCast_mul, ← p1, yr_t (by omega), yr_t (by omega), show ((k + 1 : Nat) : Int) + 1 = ((k + 1 + 1 : Nat) : Int) by omega, l224a d r hn hr m (k + 1) (by omega)]
/-- the model looks at all cards -/
theorem l224b (r : Int) {n : Nat} (hn : n < 7) : ∀ (m k : Nat) (h : y_Hp), k + m = pfa n → g_ok (hv h) → g_rm (hv h) = (n : Int) → ∃ h', (∀ d o6, 9 ≤ d → ∃ o6', y_ev z_pg sc d pgX8_best 60 [some (y_vr 94), some (y_vi r), some (y_vi (pfa n : Int)), some (y_vi (if k = 0 then -9 else (pbs (g_cf2 (hv h) n) k : Int))), some (y_vi (if k = 0 then 0 else pls (g_cf2 (hv h) n) k)), some (y_vi (k : Int)), o6] [] h = y_ev z_pg sc d pgX8_best 60 [some (y_vr 94), some (y_vi r), some (y_vi (pfa n : Int)), some (y_vi (if pfa n = 0 then -9 else (pbs (g_cf2 (hv h) n) (pfa n) : Int))), some (y_vi (if pfa n = 0 then 0 else pls (g_cf2 (hv h) n) (pfa n))), some (y_vi (pfa n : Int)), o6'] [] h') ∧ (∀ b j, b ≠ 111 → b ≠ 114 → y_I h' b j = y_I h b j) ∧ h'.2 = h.2
  | 0, k, h, e, hg, hr => by
    refine ⟨h, fun d o6 hd => ⟨o6, ?_⟩, fun _ _ _ _ => rfl, rfl⟩
    rw [show k = pfa n by omega]
  | m + 1, k, h, e, hg, hr => by
    have pb := pfa_bd hn
    obtain ⟨g1, a1, a2, a3, a4⟩ := s223 (sc := sc) (h := h) hn hr (show k ≤ 1000 by omega) (crd_lay hn (show k < pfa n by omega))
    have v1 : hv g1 = hv h := hv_cg fun b j q => a3 b j (by unfold RG at q; omega)
    obtain ⟨g2, b1, b2, b3, b4⟩ := s219 (sc := sc) (h := g1) 1 (by omega) (by rw [v1]; exact hg)
    have v2 : hv g2 = hv h := (hv_cg fun b j q => b2 b j (by unfold RG at q; omega)).trans v1
    have ecd : g_run (hv h) 1 (pl g1 114) = g_run (hv h) 1 (fun i => ((crd n k (Int.toNat i) : Nat) : Int)) := g_run_cd fun i q1 q2 q3 => a2 (Int.toNat i) (by omega)
    rw [v1, ecd] at b1
    have ok2 : p_ok (hv g2) (pl g2 111) := by rw [v2]; exact p_ok.cg (p_eq.symm b1) (g_run_ok hg)
    have e203 : g_ms (hv g2) (pl g2 111) (-9) = g_cf2 (hv h) n k := by
      rw [v2, g_ms_cg b1]
      rfl
    obtain ⟨h', c1, c2, c3⟩ := l224b r hn m (k + 1) g2 (by omega) (by rw [v2]; exact hg) (by rw [v2]; exact hr)
    rw [v2] at c1
    refine ⟨h', fun d o6 hd => ?_, fun b j q1 q2 => by rw [c2 b j q1 q2, b2 b j q1, a3 b j q2], c3.trans (b3.trans a4)⟩
    have s203' := s203 (sc := sc) (h := g2) d (by omega) (-9) (by rw [v2]; exact hg) ok2
    rw [e203] at s203'
    have st : ∀ o, y_ev z_pg sc d pgX8_best 60 [some (y_vr 94), some (y_vi r), some (y_vi (pfa n : Int)), some (y_vi (if k = 0 then -9 else (pbs (g_cf2 (hv h) n) k : Int))), some (y_vi (if k = 0 then 0 else pls (g_cf2 (hv h) n) k)), some (y_vi (k : Int)), o] [] h = y_ev z_pg sc d pgX8_best 60 [some (y_vr 94), some (y_vi r), some (y_vi (pfa n : Int)), some (y_vi (if k + 1 = 0 then -9 else (pbs (g_cf2 (hv h) n) (k + 1) : Int))), some (y_vi (if k + 1 = 0 then 0 else pls (g_cf2 (hv h) n) (k + 1))), some (y_vi ((k + 1 : Nat) : Int)), some (y_vi (g_cf2 (hv h) n k))] [] g2 := fun o => by
      have bd := g_cf2_bd hg (n := n) (code := k)
      have eb : pbs (g_cf2 (hv h) n) (k + 1) = if g_cf2 (hv h) n k < pls (g_cf2 (hv h) n) k then k else pbs (g_cf2 (hv h) n) k := rfl
      have el : pls (g_cf2 (hv h) n) (k + 1) = if g_cf2 (hv h) n k < pls (g_cf2 (hv h) n) k then g_cf2 (hv h) n k else pls (g_cf2 (hv h) n) k := rfl
      rw [b224_60, if_pos (by omega), a1 d (by omega), ycv_s, b4 d (by omega), ycv_s, s203', yci_s, if_neg (show ¬ k + 1 = 0 by omega), if_neg (show ¬ k + 1 = 0 by omega), eb, el]
      by_cases z : k = 0
      · subst z
        have z2 : g_cf2 (hv h) n 0 < pls (g_cf2 (hv h) n) 0 := by
          show _ < (1000000 : Int)
          omega
        rw [if_pos rfl, if_pos rfl, if_pos z2, if_pos z2, yr_t (by omega)]
        rfl
      · rw [if_neg z, if_neg z, if_neg (by omega)]
        by_cases z2 : g_cf2 (hv h) n k < pls (g_cf2 (hv h) n) k
        · rw [if_pos z2, if_pos z2, if_pos z2, yr_t (by omega)]
          rfl
        · rw [if_neg z2, if_neg z2, if_neg z2, yr_t (by omega)]
          rfl
    obtain ⟨o6', c4⟩ := c1 d (some (y_vi (g_cf2 (hv h) n k))) hd
    exact ⟨o6', (st o6).trans c4⟩
theorem l224c (d : Nat) (r v2 v3 v4 : Int) (o6 : Option y_V) (hr : 0 ≤ r ∧ r < 6) (g : y_Hp) (hg : 0 ≤ y_I g 94 10 ∧ y_I g 94 10 ≤ 8) : ∀ (m : Nat) (k : Int), 0 ≤ k → k + m = 48 → y_ev z_pg sc d pgX8_best 137 [some (y_vr 94), some (y_vi r), some (y_vi v2), some (y_vi v3), some (y_vi v4), some (y_vi k), o6] [] (y_fill g 97 (Int.toNat (48 * r)) (Int.toNat (48 * r + k)) (fun j => if j < Int.toNat (48 * r) + Int.toNat (y_I g 94 10) then y_I g 114 (j - Int.toNat (48 * r)) else 0)) = some (some (y_vi v4), y_fill g 97 (Int.toNat (48 * r)) (Int.toNat (48 * r + 48)) (fun j => if j < Int.toNat (48 * r) + Int.toNat (y_I g 94 10) then y_I g 114 (j - Int.toNat (48 * r)) else 0))
  | 0, k, hk, hm => by
    have e : k = 48 := by omega
    subst e
    rw [b224_137, if_neg (by omega)]
  | m + 1, k, hk, hm => by
    have := l224c d r v2 v3 v4 o6 hr g hg m (k + 1) (by omega) (by omega)
    rw [show Int.toNat (48 * r + (k + 1)) = Int.toNat (48 * r + k) + 1 by omega] at this
    rw [b224_137, if_pos (by omega), yr_t (by omega), yr_t (by omega), yI_fill_o (by omega)]
    by_cases z : k < y_I g 94 10
    · rw [if_pos z, yi_t (by omega), yi_t (by omega), yr_t (by omega), yI_fill_o (by omega), y_fill_s (by omega) (by rw [if_pos (by omega), show Int.toNat (48 * r + k) - Int.toNat (48 * r) = Int.toNat k by omega]), this]
    · rw [if_neg z, yi_t (by omega), yr_t (by omega), y_fill_s (by omega) (by rw [if_neg (by omega)]), this]
end BE
