/-! THE LAW'S WALK, backwards: from the copy more to the end; from the second house -/
/-- it goes on from here to 1 -/
def GW (sc : z_Sc) (nn pc : Nat) (ls : y_Ls) (h : y_Hp) : Prop := ∃ g, GE sc nn pc ls [] h = some (some (y_vi 1), g)
abbrev iV (v : Int) : Option y_V := some (y_vi v)
abbrev rV (a : Nat) : Option y_V := some (y_vr a)
section WK
variable {sc : z_Sc} {nn N M : Nat} {Φ Ψ : y_Hp → Prop} {R : Nat → Nat → Int} {h : y_Hp} {ls : y_Ls} {pc : Nat}
theorem GW_L {stops : List Nat} {k : Nat} (hn : nn = 186 ∨ nn = 188) (hl : y_okL nn ls) (L : LSt nn N M Φ Ψ R h) (q : ∀ g, LSt nn N M Φ Ψ R g → ∃ g2, y_un sc (y_se z_pg sc 200) (GE sc nn) pgL_law stops k pc ls [] g = some (some (y_vi 1), g2)) : GW sc nn pc ls h := GE_of hl (GD_L hn hl L q)
theorem okI (hl : y_okL nn ls) (k : Nat) {v : Int} (hv : -2147483648 ≤ v ∧ v < 2147483648) : y_okL nn (ls.set k (iV v)) := y_okL_set hl fun w e => by
  cases e
  exact hv
theorem okS1 : y_okS nn [y_vr 2] := by
  intro v hv
  simp only [List.mem_cons, List.not_mem_nil, or_false] at hv
  rcases hv with rfl
  exact y_ng_iff.mpr (by omega)
theorem okS2 {a : Int} (ha : -2147483648 ≤ a ∧ a < 2147483648) : y_okS nn [y_vr 2, y_vi a] := by
  intro v hv
  simp only [List.mem_cons, List.not_mem_nil, or_false] at hv
  rcases hv with rfl | rfl
  · exact y_ng_iff.mpr (by omega)
  · exact ha
theorem okS3 {a b : Int} (ha : -2147483648 ≤ a ∧ a < 2147483648) (hb : -2147483648 ≤ b ∧ b < 2147483648) : y_okS nn [y_vr 2, y_vi a, y_vi b] := by
  intro v hv
  simp only [List.mem_cons, List.not_mem_nil, or_false] at hv
  rcases hv with rfl | rfl | rfl
  · exact y_ng_iff.mpr (by omega)
  · exact ha
  · exact hb
theorem okS4 {a b c : Int} (ha : -2147483648 ≤ a ∧ a < 2147483648) (hb : -2147483648 ≤ b ∧ b < 2147483648) (hc : -2147483648 ≤ c ∧ c < 2147483648) : y_okS nn [y_vr 2, y_vi a, y_vi b, y_vi c] := by
  intro v hv
  simp only [List.mem_cons, List.not_mem_nil, or_false] at hv
  rcases hv with rfl | rfl | rfl | rfl
  · exact y_ng_iff.mpr (by omega)
  · exact ha
  · exact hb
  · exact hc
theorem okQ1 : y_okS nn [y_vr 119] := by
  intro v hv
  simp only [List.mem_cons, List.not_mem_nil, or_false] at hv
  rcases hv with rfl
  exact y_ng_iff.mpr (by omega)
theorem okQ2 {a : Int} (ha : -2147483648 ≤ a ∧ a < 2147483648) : y_okS nn [y_vr 119, y_vi a] := by
  intro v hv
  simp only [List.mem_cons, List.not_mem_nil, or_false] at hv
  rcases hv with rfl | rfl
  · exact y_ng_iff.mpr (by omega)
  · exact ha
/-- a copy more, a reader longer in -/
theorem w785 {G G1 : u_G} {X : y_Hp → Prop} {v5 v6 v7 v8 v9 v10 v11 v12 v15 v16 v17 : Int} (hX : XC X) (hN : N ≤ 900) (L : LSt 188 N M (KX G1 (q_R G1 0).2.2 X) Ψ R h) (hg : g_ok G) (R1 : f_re id G G1) (n1 : g_nm G1 = g_nm G) (K : NW (R 236) (R 237)) (A : HG (R 236) (R 237) G) (e9 : v9 = (q_R G 2).1) (e12 : v12 = f_qu G) (e17 : v17 = u_sum (g_bo G) 0 (g_pm G).toNat) (h16 : 0 ≤ v16 ∧ v16 < R 236 1) (hl : y_okL 188 [rV 1, rV 2, rV 119, rV 236, rV 237, iV v5, iV v6, iV v7, iV v8, iV v9, iV v10, iV v11, iV v12, rV 238, rV 239, iV v15, iV v16, iV v17, none]) : GW sc 188 785 [rV 1, rV 2, rV 119, rV 236, rV 237, iV v5, iV v6, iV v7, iV v8, iV v9, iV v10, iV v11, iV v12, rV 238, rV 239, iV v15, iV v16, iV v17, none] h := by
  refine GW_L (stops := lStops) (k := 61) (Or.inr rfl) hl L ?_
  intro g L
  obtain ⟨hg1, hp1⟩ := ST_ok L.2.1
  obtain ⟨k, -, kR, -⟩ := id K
  have a := A.1
  have hn1 : g_nm G1 = 0 := by omega
  have w8 : g_wm G1 ≤ 8 := by have := R1.1.2.2.1; omega
  have r1 := R1.1.2.1
  obtain ⟨g1, c1, L1⟩ := LS_o (x := 105) (Or.inr rfl) L rfl (okS2 (a := -9) (by omega)) (c_missed (r := -9) D_O hX (Or.inl rfl) L.2.1)
  obtain ⟨g2, c2, L2⟩ := LS_o (x := 118) (Or.inr rfl) L1 rfl okS1 (c_bound D_O hX (by omega) L1.2.1)
  have row : y_I g2 236 (Int.toNat (20 + 3 * v16)) = R 236 (Int.toNat (20 + 3 * v16)) := L2.2.2.2.1 236 _ (by omega) (by omega)
  have kr := kR v16 h16.1 (by omega)
  have fr : R 236 (Int.toNat (20 + 3 * v16)) = g_fr G1 v16 := by rw [(R1.2.1 v16 h16.1 (by omega)).1, (A.2.2.1 v16 h16.1 (by omega)).1]
  obtain ⟨G2, c3, R2, n2⟩ := c_late (sc := sc) (r := v16) (a := R 236 (Int.toNat (20 + 3 * v16))) D_O hX ⟨h16.1, by omega⟩ fr L2.2.1
  obtain ⟨g3, c3, L3⟩ := LS_o (x := 102) (Or.inr rfl) L2 rfl (okS4 (a := v16) (b := R 236 (Int.toNat (20 + 3 * v16))) (c := 60) (by omega) (by omega) (by omega)) c3
  obtain ⟨hg2, -⟩ := ST_ok L3.2.1
  have hn2 : g_nm G2 = 0 := by omega
  have w82 : g_wm G2 ≤ 8 := by have := R2.1.2.2.1; omega
  obtain ⟨g4, c4, L4⟩ := LS_o (x := 114) (Or.inr rfl) L3 rfl okS1 (c_least D_O hX (by omega) w82 L3.2.1)
  have m1 := mo_all hg hg1 hn1 R1
  have m2 := mo_all hg1 hg2 hn2 R2
  have b1 := (f_least hg1 hn1).2.1
  rw [t250_785, c1, yci_s, c2, yci_s, if_neg (by omega), yr_t (by omega), yr_t (by omega), yi_t (by omega), row, c3, yci_s, if_pos rfl, c4, yci_s, if_neg (by omega)]
  by_cases z : v12 = -9
  · obtain ⟨g5, c5, L5⟩ := LS_o (x := 119) (Or.inr rfl) L4 rfl okS1 (c_quarrel D_O hX (by omega) w82 L4.2.1)
    obtain ⟨g6, c6, L6⟩ := LS_o (x := 117) (Or.inr rfl) L5 rfl okS1 (c_even D_O hX (by omega) w82 L5.2.1)
    rw [if_pos z, c5, yci_s, if_pos (m2.2.2.2 (m1.2.2.2 (by omega))), c6, yci_s, if_neg (by omega)]
    exact ⟨_, rfl⟩
  · obtain ⟨g6, c6, L6⟩ := LS_o (x := 117) (Or.inr rfl) L4 rfl okS1 (c_even D_O hX (by omega) w82 L4.2.1)
    rw [if_neg z, c6, yci_s, if_neg (by omega)]
    exact ⟨_, rfl⟩
theorem w728 {G : u_G} {P : u_P} {X : y_Hp → Prop} {v5 v6 v7 v8 v9 v10 v11 v12 v15 : Int} {o16 : Option y_V} (hX : XC X) (hs : sc.1 ≤ 260) (hN : N ≤ 800) (L : LSt 188 N M (KX G P X) Ψ R h) (K : NW (R 236) (R 237)) (A : HG (R 236) (R 237) G) (e5 : v5 = R 236 0) (e6 : v6 = (q_R G 0).1) (e9 : v9 = (q_R G 2).1) (e12 : v12 = f_qu G) (hl : y_okL 188 [rV 1, rV 2, rV 119, rV 236, rV 237, iV v5, iV v6, iV v7, iV v8, iV v9, iV v10, iV v11, iV v12, rV 238, rV 239, iV v15, o16, none, none]) : GW sc 188 728 [rV 1, rV 2, rV 119, rV 236, rV 237, iV v5, iV v6, iV v7, iV v8, iV v9, iV v10, iV v11, iV v12, rV 238, rV 239, iV v15, o16, none, none] h := by
  refine GW_L (stops := lStops) (k := 40) (Or.inr rfl) hl L ?_
  intro g L
  obtain ⟨hg, hp⟩ := ST_ok L.2.1
  obtain ⟨k, kP, kR, -⟩ := id K
  have a := A.1
  have hn : g_nm G = 0 := a.2.2.2.2.1
  have row1 : y_I g 236 (Int.toNat 1) = R 236 1 := L.2.2.2.1 236 _ (by omega) (by omega)
  have b4 := cw_bd (sc := sc) (k := 4) (by omega)
  have b5 := cw_bd (sc := sc) (k := 5) (by omega)
  have d4 := dv_bd (u := cw sc 4) (m := v5) b4.1 (by omega)
  have d5 := dv_bd (u := cw sc 5) (m := R 236 1) b5.1 (by omega)
  have p4 := rm_bd (u := cw sc 4) (m := v5) b4.1 (by omega)
  have p5 := rm_bd (u := cw sc 5) (m := R 236 1) b5.1 (by omega)
  rw [t250_728, s251 200 (by omega) 4 (by omega) hs, yci_s, yz_t (by omega), yr_t (by omega), yr_t (by omega)]
  generalize cw sc 4 - Int.tdiv (cw sc 4) v5 * v5 = p at p4 ⊢
  rw [s251 200 (by omega) 5 (by omega) hs, yci_s, yi_t (by omega), row1, yz_t (by omega), yr_t (by omega), yr_t (by omega)]
  generalize cw sc 5 - Int.tdiv (cw sc 5) (R 236 1) * R 236 1 = r at p5 ⊢
  obtain ⟨g1, c1, L1⟩ := LS_o (x := 118) (Or.inr rfl) L rfl okS1 (c_bound D_O hX (by omega) L.2.1)
  obtain ⟨G1, c2, R1, n1⟩ := c_copies (sc := sc) (p := p) D_O hX ⟨p4.1, by omega⟩ L1.2.1
  obtain ⟨g2, c2, L2⟩ := LS_o (x := 100) (Or.inr rfl) L1 rfl (okS3 (a := p) (b := 2) (by omega) (by omega)) c2
  obtain ⟨hg1, -⟩ := ST_ok L2.2.1
  have hn1 : g_nm G1 = 0 := by omega
  have w81 : g_wm G1 ≤ 8 := by have := R1.1.2.2.1; omega
  obtain ⟨g3, c3, L3⟩ := LS_o (x := 114) (Or.inr rfl) L2 rfl okS1 (c_least D_O hX (by omega) w81 L2.2.1)
  have row : y_I g2 236 (Int.toNat (8 + 3 * p)) = g_cp G p := (L2.2.2.2.1 236 _ (by omega) (by omega)).trans (A.2.1 p p4.1 (by omega)).1.symm
  have m1 := mo_all hg hg1 hn1 R1
  have bs := u_sum_bd (f := g_bo G) (lo := 0) (hi := 1000) (n := (g_pm G).toNat) (k := 0) fun j _ _ => g_bo_bd hg
  rw [c1, yci_s, c2, yci_s, yr_t (by omega), yr_t (by omega), yi_t (by omega), row, if_pos rfl, c3, yci_s, if_neg (by omega)]
  exact w785 hX (by omega) L3 hg R1 n1 K A e9 e12 rfl ⟨p5.1, by omega⟩ (okI (okI (okI hl 15 (v := p) (by omega)) 16 (v := r) (by omega)) 17 (v := u_sum (g_bo G) 0 (g_pm G).toNat) (by omega))
/-- the second house -/
theorem w658 {G : u_G} {P : u_P} {X : y_Hp → Prop} {n : Nat} {v5 v6 v7 v8 v9 v10 v11 v12 v15 : Int} {o16 : Option y_V} (hX : XC X) (hs : sc.1 ≤ 260) (hN : N ≤ 700) (hM : M ≤ 500) (L : LSt 188 N M (KX G P X) (fun _ => True) R h) (K : NW (R 236) (R 237)) (A : HG (R 236) (R 237) G) (MR : MH (R 236) (R 237) (R 238) (R 239)) (e5 : v5 = R 236 0) (e6 : v6 = (q_R G 0).1) (e9 : v9 = (q_R G 2).1) (en : g_rm G = (n : Int)) (e10 : v10 = pls (g_cf2 G n) (pfa n)) (e11 : v11 = f_so G) (e12 : v12 = f_qu G) (hl : y_okL 188 [rV 1, rV 2, rV 119, rV 236, rV 237, iV v5, iV v6, iV v7, iV v8, iV v9, iV v10, iV v11, iV v12, rV 238, rV 239, iV v15, o16, none, none]) : GW sc 188 658 [rV 1, rV 2, rV 119, rV 236, rV 237, iV v5, iV v6, iV v7, iV v8, iV v9, iV v10, iV v11, iV v12, rV 238, rV 239, iV v15, o16, none, none] h := by
  refine GW_L (stops := lStops) (k := 48) (Or.inr rfl) hl L ?_
  intro g L
  obtain ⟨hg, hp⟩ := ST_ok L.2.1
  have k := K.1
  have a := A.1
  have hn : g_nm G = 0 := a.2.2.2.2.1
  have K' := MH_NW K MR
  obtain ⟨g0, G', P', c0, B, L0⟩ := LS_hq (sc := sc) (by omega) L K'
  obtain ⟨hg', -⟩ := ST_ok L0.2.2.1
  have b := B.1
  have hn' : g_nm G' = 0 := b.2.2.2.2.1
  obtain ⟨R1, ti1, cp1, un1⟩ := MH_re K MR A B
  obtain ⟨R2, -, -, -⟩ := MH_re K' (MH_sy K MR) B A
  have w8' : g_wm G' ≤ 8 := by have := R1.1.2.2.1; omega
  have en' : g_rm G' = (n : Int) := by have := R1.1.2.1; omega
  have q0 := fun wt => mi_R (wt := wt) hg hg' hn hn' R1 R2
  have eso : f_so G' = f_so G := by unfold f_so; rw [q0]
  have equ := mi_qu hg hg' hn hn' R1 R2
  have ebo := mi_bo hg hg' hn hn' R1 R2
  have run : ∀ cd, g_run G' 1 cd = g_run G 1 cd := fun cd => mi_run hg R1.1.2.2.1 R1.1.2.1 R1.1.1 (fun w w1 w2 => (R1.2.2.1 w w1 w2).1.1) (fun P K w t w1 w2 => mi_may hg hn hn' R1 ti1 cp1 un1 w1 w2)
  have ecf : g_cf2 G' n = g_cf2 G n := funext fun code => by
    unfold g_cf2
    rw [run, re_ms hg R1]
  obtain ⟨g1, c1, L1⟩ := LS_q (x := 114) (Or.inr rfl) L0 rfl okQ1 (c_least D_W TT_XC (by omega) w8' L0.2.2.1)
  obtain ⟨g2, c2, L2⟩ := LS_q (x := 116) (Or.inr rfl) L1 rfl okQ1 (c_soon D_W TT_XC (by omega) w8' L1.2.2.1)
  obtain ⟨g3, c3, L3⟩ := LS_q (x := 117) (Or.inr rfl) L2 rfl okQ1 (c_even D_W TT_XC (by omega) w8' L2.2.2.1)
  have s3 := L3.2.2.1.imp (Ψ := KX G' (q_R G' 0).2.2 (fun _ => True)) fun g _ c => c.1
  obtain ⟨g4, c4, L4⟩ := LS_q (x := 118) (Or.inr rfl) L3 rfl okQ1 (c_bound D_W TT_XC (by omega) s3)
  obtain ⟨g5, c5, L5⟩ := LS_o (x := 118) (Or.inr rfl) L4 rfl okS1 (c_bound D_O hX (by omega) L4.2.1)
  obtain ⟨g6, c6, L6⟩ := LS_q (x := 119) (Or.inr rfl) L5 rfl okQ1 (c_quarrel D_W TT_XC (by omega) w8' L5.2.2.1)
  obtain ⟨g7, c7, L7⟩ := LS_q (x := 113) (Or.inr rfl) L6 rfl (okQ2 (a := 0) (by omega)) (c_best D_W TT_XC (by omega) en' (by omega) (r := 0) (by omega) L6.2.2.1)
  rw [ecf] at c7
  rw [q0] at c1 c3
  rw [eso] at c2
  rw [ebo] at c4
  rw [equ] at c6
  rw [t250_658, c0, yci_s, if_neg (by omega), c1, yci_s, if_pos e6.symm, c2, yci_s, if_pos e11.symm, c3, yci_s, if_pos e9.symm, c4, yci_s, c5, yci_s, if_pos rfl, c6, yci_s, if_pos e12.symm, c7, yci_s, if_pos e10.symm]
  exact w728 hX hs (by omega) L7 K A e5 e6 e9 e12 hl
end WK
