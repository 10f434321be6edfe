/-! THE LAW'S WALK: two rows made; the first half -/
def r_z (h : y_Hp) : y_Hp := (fun a k => if a = 238 ∨ a = 239 then 0 else h.1 a k, fun a k => if a = 238 ∨ a = 239 then 0 else h.2.1 a k, fun a k => if a = 238 ∨ a = 239 then 0 else h.2.2 a k)
theorem c_u_89 {b : Nat} : (c_u b = 238 ∨ c_u b = 239) ↔ (b = 188 ∨ b = 189) := by
  rw [c_u_eq]
  (repeat' split) <;> omega
theorem c_H_z {h : y_Hp} : z_nw (z_nw (c_H 186 h)) = c_H 188 (r_z h) := by
  refine Prod.ext rfl (Prod.ext ?_ (Prod.ext ?_ ?_))
  · funext b k
    show z_row (z_row (c_H 186 h).2.1 188 (fun _ => 0)) 189 (fun _ => 0) b k = Int32.ofInt (if c_u b = 238 ∨ c_u b = 239 then 0 else h.1 (c_u b) k)
    by_cases z : b = 188 ∨ b = 189
    · rw [if_pos (c_u_89.mpr z)]
      unfold z_row
      by_cases y : b = 189
      · rw [if_pos y]; rfl
      · rw [if_neg y, if_pos (by omega)]; rfl
    · rw [if_neg (fun q => z (c_u_89.mp q))]
      unfold z_row
      rw [if_neg (by omega), if_neg (by omega)]
      rfl
  · funext b k
    show z_row (z_row (c_H 186 h).2.2.1 188 (fun _ => 0)) 189 (fun _ => 0) b k = c_t (z_cF (r_z h) (c_u b) k)
    by_cases z : b = 188 ∨ b = 189
    · have e : c_t (z_cF (r_z h) (c_u b) k) = 0 := by
        rcases z with rfl | rfl <;> rfl
      rw [e]
      unfold z_row
      by_cases y : b = 189
      · rw [if_pos y]
      · rw [if_neg y, if_pos (by omega)]
    · have e : z_cF (r_z h) (c_u b) k = z_cF h (c_u b) k := by
        unfold z_cF
        split
        · exact if_neg (fun q => z (c_u_89.mp q))
        · rfl
      rw [e]
      unfold z_row
      rw [if_neg (by omega), if_neg (by omega)]
      rfl
  · funext b k
    show z_row (z_row (c_H 186 h).2.2.2 188 (fun _ => 0)) 189 (fun _ => 0) b k = (if c_u b = 238 ∨ c_u b = 239 then 0 else h.2.2 (c_u b) k)
    by_cases z : b = 188 ∨ b = 189
    · rw [if_pos (c_u_89.mpr z)]
      unfold z_row
      by_cases y : b = 189
      · rw [if_pos y]
      · rw [if_neg y, if_pos (by omega)]
    · rw [if_neg (fun q => z (c_u_89.mp q))]
      unfold z_row
      rw [if_neg (by omega), if_neg (by omega)]
      rfl
def z_c64 : Int32 := (Int8.ofInt 64).toInt32
set_option maxRecDepth 20000 in
theorem z469t (sc : z_Sc) (ls : z_Ls) (H : z_Hp) : z_ev z_pg sc 200 pgL_law 469 ls [] H = z_gd (Nat.beq (w_kd (H.1 + 2)).1 10 && (!(decide (z_c64 < 0)) && Nat.beq (w_kd (H.1 + 2)).2 z_c64.toNatClampNeg)) (z_sg (z_sk ls 13) (z_gd (Nat.beq (w_kd (H.1 + 1 + 2)).1 10 && (!(decide (z_c64 < 0)) && Nat.beq (w_kd (H.1 + 1 + 2)).2 z_c64.toNatClampNeg)) (z_sg (z_sk (ls.set 13 (some (z_vr (H.1 + 2)))) 14) (z_ev z_pg sc 200 pgL_law 481 ((ls.set 13 (some (z_vr (H.1 + 2)))).set 14 (some (z_vr (H.1 + 1 + 2)))) [] (z_nw (z_nw H)))))) := (z_un_eq z_pg sc 200 pgL_law [481] 7 _ _ _ _).trans rfl
theorem z469 (sc : z_Sc) (ls : z_Ls) (H : z_Hp) (e : H.1 = 186) (h1 : z_sk ls 13 = true) (h2 : z_sk (ls.set 13 (some (z_vr 188))) 14 = true) : z_ev z_pg sc 200 pgL_law 469 ls [] H = z_ev z_pg sc 200 pgL_law 481 ((ls.set 13 (some (z_vr 188))).set 14 (some (z_vr 189))) [] (z_nw (z_nw H)) := by
  have g1 : (Nat.beq (w_kd (186 + 2)).1 10 && (!(decide (z_c64 < 0)) && Nat.beq (w_kd (186 + 2)).2 z_c64.toNatClampNeg)) = true := by decide +kernel
  have g2 : (Nat.beq (w_kd (186 + 1 + 2)).1 10 && (!(decide (z_c64 < 0)) && Nat.beq (w_kd (186 + 1 + 2)).2 z_c64.toNatClampNeg)) = true := by decide +kernel
  have e1 : ∀ X : z_O, z_gd true X = X := fun _ => rfl
  have e2 : ∀ X : z_O, z_sg true X = X := fun _ => rfl
  rw [z469t, e, g1, g2, h1, e1, e2, e1, h2, e2]
section W3
variable {sc : z_Sc} {N M : Nat} {Φ Ψ : y_Hp → Prop} {R : Nat → Nat → Int} {h : y_Hp} {G : u_G} {P : u_P} {X : y_Hp → Prop} {n : Nat} {v5 v6 v7 v8 v9 v10 v11 v12 : Int} {o12 o13 o14 : Option y_V}
theorem okL_up {ls : y_Ls} (hl : y_okL 186 ls) : y_okL 188 ls := fun k v hk => by
  have := hl k v hk
  rcases v with x | a | x
  · exact this
  · exact y_ng_iff.mpr (by have := y_ng_iff.mp (show y_ng 186 a = true from this); omega)
  · trivial
theorem okRf {nn : Nat} {ls : y_Ls} (hl : y_okL nn ls) (k : Nat) {a : Nat} (ha : y_ng nn a = true) : y_okL nn (ls.set k (rV a)) := y_okL_set hl fun w e => by
  cases e
  exact ha
theorem LS_z (L : LSt 186 N M Φ Ψ R h) : LSt 188 N M Φ Ψ (fun a k => if a = 238 ∨ a = 239 then 0 else R a k) (r_z h) := by
  have o : ∀ b, ¬ (b = 238 ∨ b = 239) → ∀ k, (r_z h).1 b k = h.1 b k ∧ (r_z h).2.1 b k = h.2.1 b k ∧ (r_z h).2.2 b k = h.2.2 b k := fun b hb k => ⟨if_neg hb, if_neg hb, if_neg hb⟩
  refine ⟨?_, L.2.1.cg (fun b hb k => o b (by have := at_id.mp hb; omega) k), L.2.2.1.cg (fun b hb k => o b (by have := at_w.mp hb; omega) k), fun a k z1 z2 => ?_, fun a k z1 z2 => ?_⟩
  · have ok : y_okH 186 (g_er h) := L.1
    refine ⟨fun a k => ?_, fun a k => ?_⟩
    · show y_inr (g_z 0 (r_z h).1 a k)
      cases q : g_gh a
      · rw [gz_o q]
        by_cases z : a = 238 ∨ a = 239
        · rw [show (r_z h).1 a k = 0 from if_pos z]; unfold y_inr; omega
        · rw [(o a z k).1]
          have := ok.1 a k
          rwa [show (g_er h).1 a k = h.1 a k from gz_o q] at this
      · rw [gz_g q]; unfold y_inr; omega
    · show y_ng 188 (g_z 0 (r_z h).2.1 a k) = true
      cases q : g_gh a
      · rw [gz_o q]
        by_cases z : a = 238 ∨ a = 239
        · rw [show (r_z h).2.1 a k = 0 from if_pos z]; decide
        · rw [(o a z k).2.1]
          have := ok.2 a k
          rw [show (g_er h).2.1 a k = h.2.1 a k from gz_o q] at this
          exact y_ng_iff.mpr (by have := y_ng_iff.mp this; omega)
      · rw [gz_g q]; decide
  · show (r_z h).1 a k = (if a = 238 ∨ a = 239 then 0 else R a k)
    by_cases z : a = 238 ∨ a = 239
    · rw [if_pos z]; exact if_pos z
    · rw [if_neg z, (o a z k).1]; exact L.2.2.2.1 a k z1 z2
  · show (r_z h).2.1 a k = 0
    by_cases z : a = 238 ∨ a = 239
    · exact if_pos z
    · rw [(o a z k).2.1]; exact L.2.2.2.2 a k z1 z2
theorem w469 (C : C2 sc (R 236) (R 237) G n v5 v6 v9 v10 v11 v12) (hX : XC X) (hN : N ≤ 700) (hM : M ≤ 500) (L : LSt 186 N M (KX G P X) (fun _ => True) R h) (hl : y_okL 186 [rV 1, rV 2, rV 119, rV 236, rV 237, iV v5, iV v6, iV v7, iV v8, iV v9, iV v10, iV v11, iV v12, o13, o14, none, none, none, none]) : GW sc 186 469 [rV 1, rV 2, rV 119, rV 236, rV 237, iV v5, iV v6, iV v7, iV v8, iV v9, iV v10, iV v11, iV v12, o13, o14, none, none, none, none] h := by
  have L2 := LS_z L
  have nx := w481 (v7 := v7) (v8 := v8) (H := R 236) (W := R 237) C hX hN hM L2 (funext fun k => if_neg (by omega)) (funext fun k => if_neg (by omega)) (okRf (okRf (okL_up hl) 13 (a := 238) (y_ng_iff.mpr (by omega))) 14 (a := 239) (y_ng_iff.mpr (by omega)))
  obtain ⟨g, q⟩ := nx
  obtain ⟨hz, hz8, q⟩ := (GE_some q).2
  refine GE_of hl ⟨hz, hz8, ?_⟩
  have q : z_ev z_pg sc 200 pgL_law 481 (c_Ls [rV 1, rV 2, rV 119, rV 236, rV 237, iV v5, iV v6, iV v7, iV v8, iV v9, iV v10, iV v11, iV v12, rV 238, rV 239, none, none, none, none]) [] (c_H 188 (r_z h)) = some (some (z_vi 1), hz) := q
  show z_ev z_pg sc 200 pgL_law 469 (c_Ls [rV 1, rV 2, rV 119, rV 236, rV 237, iV v5, iV v6, iV v7, iV v8, iV v9, iV v10, iV v11, iV v12, o13, o14, none, none, none, none]) [] (c_H 186 h) = some (some (z_vi 1), hz)
  rw [z469 sc _ _ rfl rfl rfl, c_H_z]
  exact q
theorem g_qr_in : ∀ (m : Nat) (r s : Int), y_inr s → y_inr (g_qr G m r s)
  | 0, _, _, hs => hs
  | m + 1, r, s, hs => by
    unfold g_qr
    refine g_qr_in m (r + 1) _ ?_
    by_cases c : g_can G (y_and s (y_xor (y_shl 1 r) (-1)))
    · rw [if_pos c]; exact hs
    · rw [if_neg c]; exact y_inr_to _
theorem f_qu_in (hg : g_ok G) : y_inr (f_qu G) := by
  unfold f_qu
  by_cases c : g_can G (f_qs G)
  · rw [if_pos c]; unfold y_inr; omega
  · rw [if_neg c]
    refine g_qr_in _ _ _ ?_
    have kr := hg.2.1
    have sb := shl_bd (n := g_rm G) (by omega)
    unfold f_qs y_inr
    omega
theorem f_so_in (hg : g_ok G) : -9 ≤ f_so G ∧ f_so G ≤ 1000 := by
  have gd := q_R_good (wt := 1) hg
  unfold f_so
  rcases gd with g | g
  · rw [if_pos (by omega)]; omega
  · rw [if_neg (by omega)]; omega
/-- what is known in the first half -/
def C1 (sc : z_Sc) (R : Nat → Nat → Int) (G : u_G) (n : Nat) (v5 v6 : Int) : Prop := sc.1 ≤ 260 ∧ NW (R 236) (R 237) ∧ HG (R 236) (R 237) G ∧ v5 = R 236 0 ∧ v6 = (q_R G 0).1 ∧ g_rm G = (n : Int)
theorem w425 (C : C1 sc R G n v5 v6) (e9 : v9 = (q_R G 2).1) (e10 : v10 = pls (g_cf2 G n) (pfa n)) (hX : XC X) (hN : N ≤ 600) (hM : M ≤ 500) (L : LSt 186 N M (KX G P X) (fun _ => True) R h) (hl : y_okL 186 [rV 1, rV 2, rV 119, rV 236, rV 237, iV v5, iV v6, iV v7, iV v8, iV v9, iV v10, iV v11, o12, o13, o14, none, none, none, none]) : GW sc 186 425 [rV 1, rV 2, rV 119, rV 236, rV 237, iV v5, iV v6, iV v7, iV v8, iV v9, iV v10, iV v11, o12, o13, o14, none, none, none, none] h := by
  refine GW_L (stops := lStops) (k := 42) (Or.inl rfl) hl L ?_
  intro g L
  obtain ⟨hs, K, A, e5, e6, en⟩ := C
  obtain ⟨hg, hp⟩ := ST_ok L.2.1
  have k := K.1
  have a := A.1
  have hn : g_nm G = 0 := a.2.2.2.2.1
  obtain ⟨g1, c1, L1⟩ := LS_o (x := 116) (Or.inl rfl) L rfl okS1 (c_soon D_O hX (by omega) (by omega) L.2.1)
  obtain ⟨g2, c2, L2⟩ := LS_o (x := 119) (Or.inl rfl) L1 rfl okS1 (c_quarrel D_O hX (by omega) (by omega) L1.2.1)
  have qu := f_quar hg hn
  have q1 := f_qu_in hg
  have q2 := f_so_in hg
  unfold y_inr at q1
  have nx : GW sc 186 469 [rV 1, rV 2, rV 119, rV 236, rV 237, iV v5, iV v6, iV v7, iV v8, iV v9, iV v10, iV (f_so G), iV (f_qu G), o13, o14, none, none, none, none] g2 := w469 ⟨hs, K, A, e5, e6, e9, en, e10, rfl, rfl⟩ hX (by omega) hM L2 (okI (okI hl 11 (v := f_so G) (by omega)) 12 (v := f_qu G) (by omega))
  rw [t250_425, c1, yci_s, c2, yci_s]
  by_cases z : f_so G < 0
  · rw [if_pos z, if_neg (by omega), if_neg qu.2]
    exact nx
  · rw [if_neg z, if_pos (qu.1.mpr (by omega)), if_neg qu.2]
    exact nx
/-- by a rule -/
theorem w385 (C : C1 sc R G n v5 v6) (hX : XC X) (hN : N ≤ 600) (hP : f_pl G 1 LT False P) (e12 : v12 = g_ms G P (-9)) (h11 : 0 ≤ v11 ∧ v11 ≤ 5) (hK : ∀ (P' : u_P) (g : y_Hp) (o13 o14 : Option y_V), LSt 186 (N + 1) M (KX G P' X) (fun _ => True) R g → y_okL 186 [rV 1, rV 2, rV 119, rV 236, rV 237, iV v5, iV v6, iV v7, iV v8, iV v9, iV v10, iV (v11 + 1), iV v12, o13, o14, none, none, none, none] → GW sc 186 313 [rV 1, rV 2, rV 119, rV 236, rV 237, iV v5, iV v6, iV v7, iV v8, iV v9, iV v10, iV (v11 + 1), iV v12, o13, o14, none, none, none, none] g) (L : LSt 186 N M (KX G P X) (fun _ => True) R h) (hl : y_okL 186 [rV 1, rV 2, rV 119, rV 236, rV 237, iV v5, iV v6, iV v7, iV v8, iV v9, iV v10, iV v11, iV v12, o13, o14, none, none, none, none]) : GW sc 186 385 [rV 1, rV 2, rV 119, rV 236, rV 237, iV v5, iV v6, iV v7, iV v8, iV v9, iV v10, iV v11, iV v12, o13, o14, none, none, none, none] h := by
  refine GW_L (stops := lStops) (k := 25) (Or.inl rfl) hl L ?_
  intro g L
  obtain ⟨hs, K, A, e5, e6, en⟩ := C
  obtain ⟨hg, hp⟩ := ST_ok L.2.1
  have k := K.1
  have a := A.1
  have hn : g_nm G = 0 := a.2.2.2.2.1
  have b3 := cw_bd (sc := sc) (k := 3) (by omega)
  have d3 := dv_bd (u := cw sc 3) (m := 30) b3.1 (by omega)
  have p3 := rm_bd (u := cw sc 3) (m := 30) b3.1 (by omega)
  rw [t250_385, s251 200 (by omega) 3 (by omega) hs, yci_s, yz_t (by omega), yr_t (by omega), yr_t (by omega)]
  generalize cw sc 3 - Int.tdiv (cw sc 3) 30 * 30 = t at p3 ⊢
  obtain ⟨g1, c1, L1⟩ := LS_o (x := 115) (Or.inl rfl) L rfl (okS2 (a := t) (by omega)) (c_mend D_O hX (by omega) (by omega) (f_bad hg hn hP) (t := t) (by omega) L.2.1)
  obtain ⟨m1, m2, m3⟩ := f_mend hg hn hP (t := t) p3.1
  have best := (f_least hg hn).2.2 _ m1
  have mb := g_ms_bd hg m1.1 (r := -9)
  rw [c1, yci_s, if_neg (by omega), if_neg (by omega), yr_t (by omega)]
  exact hK _ g1 _ _ L1 (okI (okI (okI hl 11 (v := v11 + 1) (by omega)) 13 (v := t) (by omega)) 14 (v := (q_M G P t).1) (by omega))
theorem w335 (C : C1 sc R G n v5 v6) (hn7 : n < 5) (e10 : v10 = pls (g_cf2 G n) (pfa n)) (hN : N ≤ 590) (h11 : 1 ≤ v11 ∧ v11 ≤ 5) (hK : ∀ (P' : u_P) (g : y_Hp) (v12 : Int) (o13 o14 : Option y_V), LSt 186 (N + 4) M (KX G P' (RC0 n (crd n (pbs (g_cf2 G n) (pfa n))) 1)) (fun _ => True) R g → y_okL 186 [rV 1, rV 2, rV 119, rV 236, rV 237, iV v5, iV v6, iV v7, iV v8, iV v9, iV v10, iV (v11 + 1), iV v12, o13, o14, none, none, none, none] → GW sc 186 313 [rV 1, rV 2, rV 119, rV 236, rV 237, iV v5, iV v6, iV v7, iV v8, iV v9, iV v10, iV (v11 + 1), iV v12, o13, o14, none, none, none, none] g) (L : LSt 186 N M (fun g => KX G P (RC0 n (crd n (pbs (g_cf2 G n) (pfa n))) 1) g ∧ RU0 n (crd n (pbs (g_cf2 G n) (pfa n))) v11 v11 g) (fun _ => True) R h) (hl : y_okL 186 [rV 1, rV 2, rV 119, rV 236, rV 237, iV v5, iV v6, iV v7, iV v8, iV v9, iV v10, iV v11, o12, o13, o14, none, none, none, none]) : GW sc 186 335 [rV 1, rV 2, rV 119, rV 236, rV 237, iV v5, iV v6, iV v7, iV v8, iV v9, iV v10, iV v11, o12, o13, o14, none, none, none, none] h := by
  refine GW_L (stops := lStops) (k := 46) (Or.inl rfl) hl L ?_
  intro g L
  obtain ⟨hs, K, A, e5, e6, en⟩ := id C
  have s0 : ST id N (KX G P (RC0 n (crd n (pbs (g_cf2 G n) (pfa n))) 1)) g := L.2.1.imp fun g _ c => c.1
  obtain ⟨hg, hp⟩ := ST_ok s0
  have k := K.1
  have a := A.1
  have hn : g_nm G = 0 := a.2.2.2.2.1
  generalize eF : crd n (pbs (g_cf2 G n) (pfa n)) = F at *
  obtain ⟨g1, c1, L1⟩ := LS_o (x := 112) (Or.inl rfl) L rfl (okS2 (a := v11) (by omega)) (c_run D_O RC0_XC (by omega) en (k := v11) (v := v11) (by omega) h11 L.2.1)
  have pr := f_run (kd := v11) (cd := fun i => ((F (Int.toNat i) : Nat) : Int)) hg
  have ecard : v11 = 1 → g_ms G (g_run G v11 (fun i => ((F (Int.toNat i) : Nat) : Int))) (-9) = v10 := fun z => by
    have pb := pfa_bd (n := n) (by omega)
    rw [e10, f_pls (F := g_cf2 G n) (fun k => (g_cf2_bd hg).2) (k := pfa n) (by omega), z, ← eF]
    rfl
  generalize g_run G v11 (fun i => ((F (Int.toNat i) : Nat) : Int)) = Q at *
  have best := (f_least hg hn).2.2 _ pr
  have mb := g_ms_bd hg pr.1 (r := -9)
  obtain ⟨g2, c2, L2⟩ := LS_o (x := 104) (Or.inl rfl) L1 rfl okS1 (c_judge D_O RC0_XC L1.2.1)
  obtain ⟨g3, c3, L3⟩ := LS_o (x := 105) (Or.inl rfl) L2 rfl (okS2 (a := -9) (by omega)) (c_missed (r := -9) D_O RC0_XC (Or.inl rfl) L2.2.1)
  have nx : GW sc 186 385 [rV 1, rV 2, rV 119, rV 236, rV 237, iV v5, iV v6, iV v7, iV v8, iV v9, iV v10, iV v11, iV (g_ms G Q (-9)), o13, o14, none, none, none, none] g3 := w385 C RC0_XC (by omega) pr rfl (by omega) (fun P' g o13 o14 L hl => hK P' g _ o13 o14 L hl) L3 (okI hl 12 (v := g_ms G Q (-9)) (by omega))
  rw [t250_335, c1, yci_s, if_neg (by omega)]
  by_cases z : v11 = 1
  · rw [if_pos z, if_pos (ecard z), c2, yci_s, if_pos (f_bad hg hn pr), c3, yci_s, if_pos rfl]
    exact nx
  · rw [if_neg z, c2, yci_s, if_pos (f_bad hg hn pr), c3, yci_s, if_pos rfl]
    exact nx
theorem l313 (C : C1 sc R G n v5 v6) (hn7 : n < 5) (e9 : v9 = (q_R G 2).1) (e10 : v10 = pls (g_cf2 G n) (pfa n)) (hM : M ≤ 500) : ∀ (m : Nat) (k : Int) (N : Nat) (P : u_P) (h : y_Hp) (o12 o13 o14 : Option y_V), 1 ≤ k → k + m = 6 → N + 5 * m ≤ 550 → LSt 186 N M (KX G P (RC0 n (crd n (pbs (g_cf2 G n) (pfa n))) 1)) (fun _ => True) R h → y_okL 186 [rV 1, rV 2, rV 119, rV 236, rV 237, iV v5, iV v6, iV v7, iV v8, iV v9, iV v10, iV k, o12, o13, o14, none, none, none, none] → GW sc 186 313 [rV 1, rV 2, rV 119, rV 236, rV 237, iV v5, iV v6, iV v7, iV v8, iV v9, iV v10, iV k, o12, o13, o14, none, none, none, none] h := by
  intro m
  induction m with
  | zero =>
    intro k N P h o12 o13 o14 h1 h2 h3 L hl
    refine GW_L (stops := lStops) (k := 15) (Or.inl rfl) hl L ?_
    intro g L
    rw [t250_313, if_neg (by omega)]
    exact w425 C e9 e10 RC0_XC (by omega) hM L hl
  | succ m ih =>
    intro k N P h o12 o13 o14 h1 h2 h3 L hl
    refine GW_L (stops := lStops) (k := 15) (Or.inl rfl) hl L ?_
    intro g L
    obtain ⟨hs, K, A, e5, e6, en⟩ := id C
    have pb := pfa_bd (n := n) (by omega)
    have ck : u_cok (fun j => ((crd n (pbs (g_cf2 G n) (pfa n)) (Int.toNat j) : Nat) : Int)) (g_rm G) (g_rm G).toNat 0 0 := by
      rw [en, Int.toNat_natCast]
      exact crd_ok hn7 (pbs_lt (by omega))
    obtain ⟨g1, c1, L1⟩ := LS_o (x := 110) (Or.inl rfl) L rfl (okS4 (a := k) (b := k) (c := 1) (by omega) (by omega) (by omega)) (c_rule D_O (by omega) en (k := k) (v := k) (r := 1) (by omega) (by omega) (by omega) ck L.2.1)
    rw [t250_313, if_pos (by omega), c1, yci_s, if_pos rfl]
    exact w335 C hn7 e10 (by omega) (by omega) (fun P' g v12 o13 o14 L hl => ih (k + 1) (N + 1 + 4) P' g (iV v12) o13 o14 (by omega) (by omega) (by omega) L hl) L1 hl
theorem w294 (C : C1 sc R G n v5 v6) (hn7 : n < 5) (e9 : v9 = (q_R G 2).1) (hX : XC X) (hN : N ≤ 500) (hM : M ≤ 500) (L : LSt 186 N M (KX G P X) (fun _ => True) R h) (hl : y_okL 186 [rV 1, rV 2, rV 119, rV 236, rV 237, iV v5, iV v6, iV v7, iV v8, iV v9, iV v10, none, none, none, none, none, none, none, none]) : GW sc 186 294 [rV 1, rV 2, rV 119, rV 236, rV 237, iV v5, iV v6, iV v7, iV v8, iV v9, iV v10, none, none, none, none, none, none, none, none] h := by
  refine GW_L (stops := lStops) (k := 12) (Or.inl rfl) hl L ?_
  intro g L
  obtain ⟨hs, K, A, e5, e6, en⟩ := id C
  obtain ⟨hg, hp⟩ := ST_ok L.2.1
  have hn : g_nm G = 0 := A.1.2.2.2.2.1
  have pb := pfa_bd (n := n) (by omega)
  obtain ⟨g1, c1, L1⟩ := LS_o (x := 113) (Or.inl rfl) L rfl (okS2 (a := 1) (by omega)) (c_best D_O hX (by omega) en (by omega) (r := 1) (by omega) L.2.1)
  have ep := f_pls (F := g_cf2 G n) (fun k => (g_cf2_bd hg).2) (k := pfa n) (by omega)
  have best := (f_least hg hn).2.2 _ (f_run (kd := 1) (cd := fun i => ((crd n (pbs (g_cf2 G n) (pfa n)) (Int.toNat i) : Nat) : Int)) hg)
  have bd := g_cf2_bd hg (n := n) (code := pbs (g_cf2 G n) (pfa n))
  have best : (q_R G 0).1 ≤ g_cf2 G n (pbs (g_cf2 G n) (pfa n)) := best
  rw [t250_294, c1, yci_s, if_neg (by omega)]
  have hl2 := okI hl 10 (v := pls (g_cf2 G n) (pfa n)) (by omega)
  refine GW_L (stops := lStops) (k := 5) (Or.inl rfl) hl2 L1 ?_
  intro g L
  rw [t250_310]
  exact l313 C hn7 e9 rfl hM 5 1 (N + 1) P g none none none (by omega) (by omega) (by omega) L (okI hl2 11 (v := 1) (by omega))
/-- gone on from the best -/
theorem l238 (C : C1 sc R G n v5 v6) (hn7 : n < 5) (e9 : v9 = (q_R G 2).1) (hM : M ≤ 500) : ∀ (m : Nat) (t : Int) (N : Nat) (h : y_Hp), 0 ≤ t → t ≤ 100 → 40 ≤ t + m → N + 3 * m ≤ 450 → LSt 186 N M (KX G (q_R G 0).2.2 (RI0 G (q_R G 0).2.2 0)) (fun _ => True) R h → y_okL 186 [rV 1, rV 2, rV 119, rV 236, rV 237, iV v5, iV v6, iV v7, iV v8, iV v9, iV t, none, none, none, none, none, none, none, none] → GW sc 186 238 [rV 1, rV 2, rV 119, rV 236, rV 237, iV v5, iV v6, iV v7, iV v8, iV v9, iV t, none, none, none, none, none, none, none, none] h := by
  intro m
  induction m with
  | zero =>
    intro t N h h1 h2 h3 h4 L hl
    refine GW_L (stops := lStops) (k := 37) (Or.inl rfl) hl L ?_
    intro g L
    rw [t250_238, if_neg (by omega)]
    exact w294 C hn7 e9 RI0_XC (by omega) hM L hl
  | succ m ih =>
    intro t N h h1 h2 h3 h4 L hl
    refine GW_L (stops := lStops) (k := 37) (Or.inl rfl) hl L ?_
    intro g L
    by_cases z : t < 40
    · obtain ⟨hs, K, A, e5, e6, en⟩ := id C
      obtain ⟨hg, hp⟩ := ST_ok L.2.1
      have k := K.1
      have a := A.1
      have hn : g_nm G = 0 := a.2.2.2.2.1
      obtain ⟨b1, b2, b3⟩ := f_least hg hn
      obtain ⟨m1, m2, m3⟩ := f_mend hg hn b1 (t := t) h1
      have best := b3 _ m1
      obtain ⟨g1, c1, L1⟩ := LS_o (x := 115) (Or.inl rfl) L rfl (okS2 (a := t) (by omega)) (c_mend D_O RI0_XC (by omega) (by omega) (f_bad hg hn b1) (t := t) (by omega) L.2.1)
      obtain ⟨g2, c2, L2⟩ := LS_o (x := 104) (Or.inl rfl) L1 rfl okS1 (c_judge D_O RI0_XC L1.2.1)
      obtain ⟨g3, c3, L3⟩ := LS_o (x := 109) (Or.inl rfl) L2 rfl (okS2 (a := 0) (by omega)) (c_on (r := 0) D_O (by omega) hp (by omega) L2.2.1)
      have b2' := cw_bd (sc := sc) (k := 2) (by omega)
      have d2 := dv_bd (u := cw sc 2) (m := 7) b2'.1 (by omega)
      have p2 := rm_bd (u := cw sc 2) (m := 7) b2'.1 (by omega)
      rw [t250_238, if_pos z, c1, yci_s, if_pos (by omega), c2, yci_s, if_pos (f_bad hg hn m1), c3, yci_s, if_pos rfl, s251 200 (by omega) 2 (by omega) hs, yci_s, yz_t (by omega), yr_t (by omega), yr_t (by omega), yr_t (by omega), yr_t (by omega)]
      generalize cw sc 2 - Int.tdiv (cw sc 2) 7 * 7 = x at p2 ⊢
      exact ih (t + (1 + x)) (N + 1 + 1 + 1) g3 (by omega) (by omega) (by omega) (by omega) L3 (okI hl 10 (v := t + (1 + x)) (by omega))
    · rw [t250_238, if_neg z]
      exact w294 C hn7 e9 RI0_XC (by omega) hM L hl
theorem w222 (C : C1 sc R G n v5 v6) (hn7 : n < 5) (e9 : v9 = (q_R G 2).1) (hX : XC X) (hN : N ≤ 250) (hM : M ≤ 500) (L : LSt 186 N M (KX G (q_R G 0).2.2 X) (fun _ => True) R h) (hl : y_okL 186 [rV 1, rV 2, rV 119, rV 236, rV 237, iV v5, iV v6, iV v7, iV v8, iV v9, none, none, none, none, none, none, none, none, none]) : GW sc 186 222 [rV 1, rV 2, rV 119, rV 236, rV 237, iV v5, iV v6, iV v7, iV v8, iV v9, none, none, none, none, none, none, none, none, none] h := by
  refine GW_L (stops := lStops) (k := 12) (Or.inl rfl) hl L ?_
  intro g L
  obtain ⟨hs, K, A, e5, e6, en⟩ := id C
  obtain ⟨g1, c1, L1⟩ := LS_o (x := 108) (Or.inl rfl) L rfl (okS2 (a := 0) (by omega)) (c_image (r := 0) D_O hX (by omega) L.2.1)
  have row : y_I g1 236 (Int.toNat 2) = g_wm G := (L1.2.2.2.1 236 _ (by omega) (by omega)).trans A.1.2.2.2.1.symm
  rw [t250_222, c1, yci_s, yi_t (by omega), row, if_pos rfl]
  refine GW_L (stops := lStops) (k := 5) (Or.inl rfl) hl L1 ?_
  intro g L
  rw [t250_235]
  exact l238 C hn7 e9 hM 40 0 (N + 1) g (by omega) (by omega) (by omega) (by omega) L (okI hl 10 (v := 0) (by omega))
/-- what each misses -/
theorem w180 (C : C1 sc R G n v5 v6) (hn7 : n < 5) (hX : XC X) (hN : N ≤ 240) (hM : M ≤ 500) (L : LSt 186 N M (KX G (q_R G 0).2.2 X) (fun _ => True) R h) (e7 : v7 = (q_R G 0).1) (h8 : 0 ≤ v8) (h8r : ∀ r, 0 ≤ r → r < g_rm G → g_ms G (q_R G 0).2.2 r ≤ v8) (hl : y_okL 186 [rV 1, rV 2, rV 119, rV 236, rV 237, iV v5, iV v6, iV v7, iV v8, iV v9, none, none, none, none, none, none, none, none, none]) : GW sc 186 180 [rV 1, rV 2, rV 119, rV 236, rV 237, iV v5, iV v6, iV v7, iV v8, iV v9, none, none, none, none, none, none, none, none, none] h := by
  refine GW_L (stops := lStops) (k := 31) (Or.inl rfl) hl L ?_
  intro g L
  obtain ⟨hs, K, A, e5, e6, en⟩ := id C
  obtain ⟨hg, hp⟩ := ST_ok L.2.1
  have k := K.1
  have a := A.1
  have hn : g_nm G = 0 := a.2.2.2.2.1
  obtain ⟨g1, c1, L1⟩ := LS_o (x := 117) (Or.inl rfl) L rfl okS1 (c_even D_O hX (by omega) (by omega) L.2.1)
  obtain ⟨g2, c2, L2⟩ := LS_o (x := 121) (Or.inl rfl) L1 rfl okS1 (c_asked D_O hX L1.2.1)
  obtain ⟨f1, f2, f3⟩ := f_even hg hn h8 h8r
  have gd := (q_R_good (wt := 2) hg).resolve_left (by have := q_R_ge (wt := 2) hg (by omega); omega)
  have row : y_I g2 236 (Int.toNat 1) = g_rm G := (L2.2.2.2.1 236 _ (by omega) (by omega)).trans a.2.2.1.symm
  have b1 : 0 ≤ (q_R G 2).1 * g_rm G := Int.mul_nonneg (by omega) (by omega)
  have b2 : (q_R G 2).1 * g_rm G ≤ 1000 * 4 := Int.mul_le_mul (by omega) (by omega) (by omega) (by omega)
  rw [t250_180, c1, yci_s, if_pos (by omega), if_neg (by omega), c2, yci_s, if_neg (by omega), yi_t (by omega), row, yr_t (by omega), if_neg (by omega)]
  exact w222 C hn7 rfl hX (by omega) hM L2 (okI hl 9 (v := (q_R G 2).1) (by omega))
theorem l131w (C : C1 sc R G n v5 v6) (hn7 : n < 5) (hX : XC X) (hM : M ≤ 500) : ∀ (m : Nat) (r v7 v8 : Int) (N : Nat) (h : y_Hp), 0 ≤ r → r + m = g_rm G → N + 3 * m ≤ 240 → LSt 186 N M (KX G (q_R G 0).2.2 X) (fun _ => True) R h → v7 = u_sum (g_ms G (q_R G 0).2.2) 0 r.toNat → (0 ≤ v7 ∧ v7 ≤ 216 * r) → (0 ≤ v8 ∧ v8 ≤ 216) → (∀ q, 0 ≤ q → q < r → g_ms G (q_R G 0).2.2 q ≤ v8) → y_okL 186 [rV 1, rV 2, rV 119, rV 236, rV 237, iV v5, iV v6, iV v7, iV v8, iV r, none, none, none, none, none, none, none, none, none] → GW sc 186 131 [rV 1, rV 2, rV 119, rV 236, rV 237, iV v5, iV v6, iV v7, iV v8, iV r, none, none, none, none, none, none, none, none, none] h := by
  intro m
  induction m with
  | zero =>
    intro r v7 v8 N h h1 h2 h3 L e7 h7 h8 h8r hl
    refine GW_L (stops := lStops) (k := 30) (Or.inl rfl) hl L ?_
    intro g L
    obtain ⟨hs, K, A, e5, e6, en⟩ := id C
    obtain ⟨hg, hp⟩ := ST_ok L.2.1
    have hn : g_nm G = 0 := A.1.2.2.2.2.1
    have er : r = g_rm G := by omega
    have row : y_I g 236 (Int.toNat 1) = g_rm G := (L.2.2.2.1 236 _ (by omega) (by omega)).trans A.1.2.2.1.symm
    rw [t250_131, yi_t (by omega), row, if_neg (by omega)]
    exact w180 C hn7 hX (by omega) hM L (by rw [e7, er, f_rds hg, (f_least hg hn).2.1]) h8.1 (fun q q1 q2 => h8r q q1 (by omega)) hl
  | succ m ih =>
    intro r v7 v8 N h h1 h2 h3 L e7 h7 h8 h8r hl
    refine GW_L (stops := lStops) (k := 30) (Or.inl rfl) hl L ?_
    intro g L
    obtain ⟨hs, K, A, e5, e6, en⟩ := id C
    obtain ⟨hg, hp⟩ := ST_ok L.2.1
    have row : y_I g 236 (Int.toNat 1) = g_rm G := (L.2.2.2.1 236 _ (by omega) (by omega)).trans A.1.2.2.1.symm
    have mb := g_ms_bd hg hp (r := r)
    obtain ⟨g1, c1, L1⟩ := LS_o (x := 105) (Or.inl rfl) L rfl (okS2 (a := r) (by omega)) (c_missed (r := r) D_O hX (Or.inr ⟨h1, by omega⟩) L.2.1)
    obtain ⟨g2, c2, L2⟩ := LS_o (x := 105) (Or.inl rfl) L1 rfl (okS2 (a := r) (by omega)) (c_missed (r := r) D_O hX (Or.inr ⟨h1, by omega⟩) L1.2.1)
    have es : v7 + g_ms G (q_R G 0).2.2 r = u_sum (g_ms G (q_R G 0).2.2) 0 (r + 1).toNat := by
      rw [show (r + 1).toNat = r.toNat + 1 by omega, u_sum_last, e7, show (0 : Int) + (r.toNat : Int) = r by omega]
    rw [t250_131, yi_t (by omega), row, if_pos (by omega), c1, yci_s, yr_t (by omega), c2, yci_s]
    by_cases z : v8 < g_ms G (q_R G 0).2.2 r
    · obtain ⟨g3, c3, L3⟩ := LS_o (x := 105) (Or.inl rfl) L2 rfl (okS2 (a := r) (by omega)) (c_missed (r := r) D_O hX (Or.inr ⟨h1, by omega⟩) L2.2.1)
      rw [if_pos z, c3, yci_s, yr_t (by omega)]
      refine ih (r + 1) _ _ (N + 1 + 1 + 1) g3 (by omega) (by omega) (by omega) L3 es (by omega) mb (fun q q1 q2 => ?_) (okI (okI (okI hl 7 (v := v7 + g_ms G (q_R G 0).2.2 r) (by omega)) 8 (v := g_ms G (q_R G 0).2.2 r) (by omega)) 9 (v := r + 1) (by omega))
      by_cases y : q = r
      · rw [y]; exact Int.le_refl _
      · have := h8r q q1 (by omega)
        omega
    · rw [if_neg z, yr_t (by omega)]
      refine ih (r + 1) _ _ (N + 1 + 1) g2 (by omega) (by omega) (by omega) L2 es (by omega) h8 (fun q q1 q2 => ?_) (okI (okI hl 7 (v := v7 + g_ms G (q_R G 0).2.2 r) (by omega)) 9 (v := r + 1) (by omega))
      by_cases y : q = r
      · rw [y]; omega
      · exact h8r q q1 (by omega)
theorem w73 (hs : sc.1 ≤ 260) (K : NW (R 236) (R 237)) (A : HG (R 236) (R 237) G) (e5 : v5 = R 236 0) (hX : XC X) (hN : N ≤ 200) (hM : M ≤ 500) (L : LSt 186 N M (KX G P X) (fun _ => True) R h) (hl : y_okL 186 [rV 1, rV 2, rV 119, rV 236, rV 237, iV v5, none, none, none, none, none, none, none, none, none, none, none, none, none]) : GW sc 186 73 [rV 1, rV 2, rV 119, rV 236, rV 237, iV v5, none, none, none, none, none, none, none, none, none, none, none, none, none] h := by
  refine GW_L (stops := lStops) (k := 34) (Or.inl rfl) hl L ?_
  intro g L
  obtain ⟨hg, hp⟩ := ST_ok L.2.1
  have k := K.1
  have a := A.1
  have hn : g_nm G = 0 := a.2.2.2.2.1
  obtain ⟨b1, b2, b3⟩ := f_least hg hn
  have ge := q_R_ge (wt := 0) hg (by omega)
  have gd := (q_R_good (wt := 0) hg).resolve_left (by omega)
  obtain ⟨g1, c1, L1⟩ := LS_o (x := 114) (Or.inl rfl) L rfl okS1 (c_least D_O hX (by omega) (by omega) L.2.1)
  obtain ⟨g2, c2, L2⟩ := LS_o (x := 104) (Or.inl rfl) L1 rfl okS1 (c_judge D_O hX L1.2.1)
  obtain ⟨g3, c3, L3⟩ := LS_o (x := 105) (Or.inl rfl) L2 rfl (okS2 (a := -9) (by omega)) (c_missed (r := -9) D_O hX (Or.inl rfl) L2.2.1)
  obtain ⟨g4, c4, L4⟩ := LS_o (x := 118) (Or.inl rfl) L3 rfl okS1 (c_bound D_O hX (by omega) L3.2.1)
  obtain ⟨g5, c5, L5⟩ := LS_o (x := 116) (Or.inl rfl) L4 rfl okS1 (c_soon D_O hX (by omega) (by omega) L4.2.1)
  have bo := f_bo hg hn b1
  have so : f_so G ≠ 0 := by
    have := f_soon hg (by omega)
    unfold f_so
    by_cases z : (q_R G 1).1 < 0
    · rw [if_pos z]; omega
    · rw [if_neg z]; exact this
  rw [t250_73, c1, yci_s, if_neg (by omega), c2, yci_s, if_pos (f_bad hg hn b1), c3, yci_s, if_pos b2.symm, c4, yci_s, if_neg (by omega), c5, yci_s, if_neg so]
  have hl2 := okI hl 6 (v := (q_R G 0).1) (by omega)
  refine GW_L (stops := lStops) (k := 9) (Or.inl rfl) hl2 L5 ?_
  intro g L
  rw [t250_122]
  have en : g_rm G = (((g_rm G).toNat : Nat) : Int) := by omega
  exact l131w (n := (g_rm G).toNat) ⟨hs, K, A, e5, rfl, en⟩ (by omega) hX hM (g_rm G).toNat 0 0 0 (N + 1 + 1 + 1 + 1 + 1) g (by omega) (by omega) (by omega) L rfl (by omega) (by omega) (fun q q1 q2 => by omega) (okI (okI (okI hl2 7 (v := 0) (by omega)) 8 (v := 0) (by omega)) 9 (v := 0) (by omega))
theorem w27 (hs : sc.1 ≤ 260) (L : LSt 186 0 0 (fun _ => True) (fun _ => True) R h) (hl : y_okL 186 [rV 1, rV 2, rV 119, rV 236, rV 237, none, none, none, none, none, none, none, none, none, none, none, none, none, none]) : GW sc 186 27 [rV 1, rV 2, rV 119, rV 236, rV 237, none, none, none, none, none, none, none, none, none, none, none, none, none, none] h := by
  refine GW_L (stops := lStops) (k := 33) (Or.inl rfl) hl L ?_
  intro g L
  have b0 := cw_bd (sc := sc) (k := 0) (by omega)
  have d0 := dv_bd (u := cw sc 0) (m := 3) b0.1 (by omega)
  have p0 := rm_bd (u := cw sc 0) (m := 3) b0.1 (by omega)
  have b1 := cw_bd (sc := sc) (k := 1) (by omega)
  have d1 := dv_bd (u := cw sc 1) (m := 4) b1.1 (by omega)
  have p1 := rm_bd (u := cw sc 1) (m := 4) b1.1 (by omega)
  rw [t250_27, s251 200 (by omega) 0 (by omega) hs, yci_s, yz_t (by omega), yr_t (by omega), yr_t (by omega), yr_t (by omega), s251 200 (by omega) 1 (by omega) hs, yci_s, yz_t (by omega), yr_t (by omega), yr_t (by omega), yr_t (by omega)]
  generalize cw sc 0 - Int.tdiv (cw sc 0) 3 * 3 = x at p0 ⊢
  generalize cw sc 1 - Int.tdiv (cw sc 1) 4 * 4 = y at p1 ⊢
  obtain ⟨g1, R1, c1, L1, K, e0, e1⟩ := LS_num (Or.inl rfl) hs L (2 + x) (1 + y) (by omega) (by omega)
  obtain ⟨g2, G, P, c2, A, L2⟩ := LS_ho (sc := sc) (Or.inl rfl) (by omega) L1 K
  rw [c1, ycv_s, c2, yci_s, if_neg (by omega)]
  exact w73 hs K A e0.symm TT_XC (by omega) (by omega) L2 (okI hl 5 (v := 2 + x) (by omega))
end W3
