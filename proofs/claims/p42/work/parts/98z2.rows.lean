/-! THE LAW'S WALK: the house told the other way round -/
def Ru (R : Nat → Nat → Int) (a j : Nat) (v : Int) : Nat → Nat → Int := fun b k => if b = a ∧ k = j then v else R b k
theorem Ru_o {R : Nat → Nat → Int} {a j b k : Nat} {v : Int} (q : ¬ (b = a ∧ k = j)) : Ru R a j v b k = R b k := if_neg q
theorem Ru_e {R : Nat → Nat → Int} {a j b k : Nat} {v : Int} (q : b = a ∧ k = j) : Ru R a j v b k = v := if_pos q
theorem Ru_r {R : Nat → Nat → Int} {a j b : Nat} {v : Int} (q : b ≠ a) : Ru R a j v b = R b := funext fun k => Ru_o fun z => q z.1
def iA (H H' : Nat → Int) : Prop := ∀ j : Int, 0 ≤ j → j < 8 → H' (Int.toNat j) = H (Int.toNat j)
def iP (H H' : Nat → Int) (k : Int) : Prop := ∀ p : Int, 0 ≤ p → p < k → H' (Int.toNat (8 + 3 * p)) = H (Int.toNat (8 + 3 * (H 0 - 1 - p))) ∧ H' (Int.toNat (9 + 3 * p)) = H (Int.toNat (9 + 3 * (H 0 - 1 - p))) ∧ H' (Int.toNat (10 + 3 * p)) = H (Int.toNat (10 + 3 * (H 0 - 1 - p)))
def iQ (H H' : Nat → Int) (p i : Int) : Prop := (0 < i → H' (Int.toNat (8 + 3 * p)) = H (Int.toNat (8 + 3 * (H 0 - 1 - p)))) ∧ (1 < i → H' (Int.toNat (9 + 3 * p)) = H (Int.toNat (9 + 3 * (H 0 - 1 - p)))) ∧ (2 < i → H' (Int.toNat (10 + 3 * p)) = H (Int.toNat (10 + 3 * (H 0 - 1 - p))))
def iR (H H' : Nat → Int) : Prop := ∀ j : Int, 20 ≤ j → j < 40 → H' (Int.toNat j) = H (Int.toNat j)
def iC (H H' : Nat → Int) (k : Int) : Prop := ∀ q : Int, 0 ≤ q → q < H 5 → H' (Int.toNat (40 + 3 * q)) = (if q < k then H 0 - 1 - H (Int.toNat (40 + 3 * q)) else H (Int.toNat (40 + 3 * q))) ∧ H' (Int.toNat (41 + 3 * q)) = H (Int.toNat (41 + 3 * q)) ∧ H' (Int.toNat (42 + 3 * q)) = H (Int.toNat (42 + 3 * q))
def iW (H W W' : Nat → Int) (k : Int) : Prop := ∀ w : Int, 0 ≤ w → w < H 2 → W' (Int.toNat (4 * w)) = W (Int.toNat (4 * w)) ∧ W' (Int.toNat (4 * w + 1)) = (if w < k then H 0 - 1 - W (Int.toNat (4 * w + 1)) else W (Int.toNat (4 * w + 1))) ∧ W' (Int.toNat (4 * w + 2)) = W (Int.toNat (4 * w + 2)) ∧ W' (Int.toNat (4 * w + 3)) = W (Int.toNat (4 * w + 3))
theorem MH_of {H W H' W' : Nat → Int} (a : iA H H') (p : iP H H' (H 0)) (r : iR H H') (c : iC H H' (H 5)) (w : iW H W W' (H 2)) (K : NW H W) : MH H W H' W' := by
  have k := K.1
  refine ⟨⟨a 0 (by omega) (by omega), a 1 (by omega) (by omega), a 2 (by omega) (by omega), a 3 (by omega) (by omega), a 4 (by omega) (by omega), a 5 (by omega) (by omega)⟩, p, fun q q1 q2 => ⟨r _ (by omega) (by omega), r _ (by omega) (by omega), r _ (by omega) (by omega)⟩, fun q q1 q2 => ?_, fun q q1 q2 => ?_⟩
  · have := w q q1 q2
    rw [if_pos q2] at this
    exact this
  · have := c q q1 q2
    rw [if_pos q2] at this
    exact this
section RW
variable {sc : z_Sc} {N M : Nat} {Φ Ψ : y_Hp → Prop} {R : Nat → Nat → Int} {h : y_Hp} {H W : Nat → Int} {G : u_G} {P : u_P} {X : y_Hp → Prop} {n : Nat} {v5 v6 v7 v8 v9 v10 v11 v12 : Int} {o16 : Option y_V}
theorem LS_row (L : LSt 188 N M Φ Ψ R h) {a j : Nat} {v : Int} (ha : a = 238 ∨ a = 239) (hv : -2147483648 ≤ v ∧ v < 2147483648) : LSt 188 N M Φ Ψ (Ru R a j v) (y_sI h a j v) := by
  have gh : g_gh a = false := by rw [g_gh_f]; omega
  have o : ∀ b, b ≠ a → ∀ k, (y_sI h a j v).1 b k = h.1 b k ∧ (y_sI h a j v).2.1 b k = h.2.1 b k ∧ (y_sI h a j v).2.2 b k = h.2.2 b k := fun b hb k => ⟨yI_sI_ne hb, rfl, rfl⟩
  refine ⟨?_, L.2.1.cg (fun b hb k => o b (by have := at_id.mp hb; omega) k), L.2.2.1.cg (fun b hb k => o b (by have := at_w.mp hb; omega) k), fun b k z1 z2 => ?_, L.2.2.2.2⟩
  · have ok : y_okH 188 (g_er h) := L.1
    unfold g_ok2
    rw [← er_sI gh]
    refine ⟨fun b k => ?_, fun b k => ok.2 b k⟩
    show y_inr (y_I (y_sI (g_er h) a j v) b k)
    rw [yI_sI]
    by_cases z : b = a ∧ k = j
    · rw [if_pos z]; exact hv
    · rw [if_neg z]; exact ok.1 b k
  · rw [yI_sI]
    unfold Ru
    by_cases z : b = a ∧ k = j
    · rw [if_pos z, if_pos z]
    · rw [if_neg z, if_neg z]; exact L.2.2.2.1 b k z1 z2
/-- what is known in the second half -/
def C2 (sc : z_Sc) (H W : Nat → Int) (G : u_G) (n : Nat) (v5 v6 v9 v10 v11 v12 : Int) : Prop := sc.1 ≤ 260 ∧ NW H W ∧ HG H W G ∧ v5 = H 0 ∧ v6 = (q_R G 0).1 ∧ v9 = (q_R G 2).1 ∧ g_rm G = (n : Int) ∧ v10 = pls (g_cf2 G n) (pfa n) ∧ v11 = f_so G ∧ v12 = f_qu G
theorem l620 (C : C2 sc H W G n v5 v6 v9 v10 v11 v12) (hX : XC X) (hN : N ≤ 700) (hM : M ≤ 500) : ∀ (m : Nat) (k : Int) (R : Nat → Nat → Int) (h : y_Hp), 0 ≤ k → k + m = H 5 → LSt 188 N M (KX G P X) (fun _ => True) R h → R 236 = H → R 237 = W → iA H (R 238) → iP H (R 238) (H 0) → iR H (R 238) → iC H (R 238) k → iW H W (R 239) (H 2) → y_okL 188 [rV 1, rV 2, rV 119, rV 236, rV 237, iV v5, iV v6, iV v7, iV v8, iV v9, iV v10, iV v11, iV v12, rV 238, rV 239, iV k, o16, none, none] → GW sc 188 620 [rV 1, rV 2, rV 119, rV 236, rV 237, iV v5, iV v6, iV v7, iV v8, iV v9, iV v10, iV v11, iV v12, rV 238, rV 239, iV k, o16, none, none] h := by
  obtain ⟨hs, K, A, e5, e6, e9, en, e10, e11, e12⟩ := C
  have k0 := K.1
  have kC := K.2.2.2.2.2.2
  intro m
  induction m with
  | zero =>
    intro k R h hk hm L r6 r7 a p r c w hl
    refine GW_L (stops := lStops) (k := 28) (Or.inr rfl) hl L ?_
    intro g L
    have row : y_I g 236 (Int.toNat 5) = H 5 := (L.2.2.2.1 236 _ (by omega) (by omega)).trans (congrFun r6 5)
    rw [show k = H 5 by omega] at c
    rw [t250_620, yi_t (by omega), row, if_neg (by omega)]
    exact w658 hX hs (by omega) (by omega) L (by rw [r6, r7]; exact K) (by rw [r6, r7]; exact A) (by rw [r6, r7]; exact MH_of a p r c w K) (by rw [r6]; exact e5) e6 e9 en e10 e11 e12 hl
  | succ m ih =>
    intro k R h hk hm L r6 r7 a p r c w hl
    refine GW_L (stops := lStops) (k := 28) (Or.inr rfl) hl L ?_
    intro g L
    have row : y_I g 236 (Int.toNat 5) = H 5 := (L.2.2.2.1 236 _ (by omega) (by omega)).trans (congrFun r6 5)
    have rowk : y_I g 236 (Int.toNat (40 + 3 * k)) = H (Int.toNat (40 + 3 * k)) := (L.2.2.2.1 236 _ (by omega) (by omega)).trans (congrFun r6 _)
    have kc := kC k hk (by omega)
    rw [t250_620, yi_t (by omega), row, if_pos (by omega), yr_t (by omega), yr_t (by omega), yr_t (by omega), yr_t (by omega), yr_t (by omega), yi_t (by omega), rowk, yr_t (by omega), yi_t (by omega), yhb_s, yr_t (by omega)]
    have L1 := LS_row L (a := 238) (j := Int.toNat (40 + 3 * k)) (v := v5 - 1 - H (Int.toNat (40 + 3 * k))) (Or.inl rfl) (by omega)
    refine ih (k + 1) _ _ (by omega) (by omega) L1 ((Ru_r (by omega)).trans r6) ((Ru_r (by omega)).trans r7) (fun j j1 j2 => ?_) (fun q q1 q2 => ?_) (fun j j1 j2 => ?_) (fun q q1 q2 => ?_) (by rw [Ru_r (by omega)]; exact w) (okI hl 15 (v := k + 1) (by omega))
    · rw [Ru_o (by omega)]; exact a j j1 j2
    · rw [Ru_o (by omega), Ru_o (by omega), Ru_o (by omega)]; exact p q q1 q2
    · rw [Ru_o (by omega)]; exact r j j1 j2
    · obtain ⟨c1, c2, c3⟩ := c q q1 q2
      rw [Ru_o (k := Int.toNat (41 + 3 * q)) (by omega), Ru_o (k := Int.toNat (42 + 3 * q)) (by omega)]
      refine ⟨?_, c2, c3⟩
      by_cases z : q = k
      · rw [Ru_e ⟨rfl, by rw [z]⟩, if_pos (by omega), z, e5]
      · rw [Ru_o (by omega), c1]
        by_cases y : q < k
        · rw [if_pos y, if_pos (by omega)]
        · rw [if_neg y, if_neg (by omega)]
theorem l580 (C : C2 sc H W G n v5 v6 v9 v10 v11 v12) (hX : XC X) (hN : N ≤ 700) (hM : M ≤ 500) : ∀ (m : Nat) (k : Int) (R : Nat → Nat → Int) (h : y_Hp), 0 ≤ k → k + m = H 2 → LSt 188 N M (KX G P X) (fun _ => True) R h → R 236 = H → R 237 = W → iA H (R 238) → iP H (R 238) (H 0) → iR H (R 238) → iC H (R 238) 0 → iW H W (R 239) k → y_okL 188 [rV 1, rV 2, rV 119, rV 236, rV 237, iV v5, iV v6, iV v7, iV v8, iV v9, iV v10, iV v11, iV v12, rV 238, rV 239, iV k, o16, none, none] → GW sc 188 580 [rV 1, rV 2, rV 119, rV 236, rV 237, iV v5, iV v6, iV v7, iV v8, iV v9, iV v10, iV v11, iV v12, rV 238, rV 239, iV k, o16, none, none] h := by
  obtain ⟨hs, K, A, e5, e6, e9, en, e10, e11, e12⟩ := id C
  have k0 := K.1
  have kW := K.2.2.2.1
  intro m
  induction m with
  | zero =>
    intro k R h hk hm L r6 r7 a p r c w hl
    refine GW_L (stops := lStops) (k := 28) (Or.inr rfl) hl L ?_
    intro g L
    have row : y_I g 236 (Int.toNat 2) = H 2 := (L.2.2.2.1 236 _ (by omega) (by omega)).trans (congrFun r6 2)
    rw [show k = H 2 by omega] at w
    rw [t250_580, yi_t (by omega), row, if_neg (by omega)]
    refine GW_L (stops := lStops) (k := 5) (Or.inr rfl) hl L ?_
    intro g L
    rw [t250_617]
    exact l620 C hX hN hM (H 5).toNat 0 R g (by omega) (by omega) L r6 r7 a p r c w (okI hl 15 (v := 0) (by omega))
  | succ m ih =>
    intro k R h hk hm L r6 r7 a p r c w hl
    refine GW_L (stops := lStops) (k := 28) (Or.inr rfl) hl L ?_
    intro g L
    have row : y_I g 236 (Int.toNat 2) = H 2 := (L.2.2.2.1 236 _ (by omega) (by omega)).trans (congrFun r6 2)
    have rowk : y_I g 237 (Int.toNat (4 * k + 1)) = W (Int.toNat (4 * k + 1)) := (L.2.2.2.1 237 _ (by omega) (by omega)).trans (congrFun r7 _)
    have kw := kW k hk (by omega)
    rw [t250_580, yi_t (by omega), row, if_pos (by omega), yr_t (by omega), yr_t (by omega), yr_t (by omega), yr_t (by omega), yr_t (by omega), yi_t (by omega), rowk, yr_t (by omega), yi_t (by omega), yhb_s, yr_t (by omega)]
    have L1 := LS_row L (a := 239) (j := Int.toNat (4 * k + 1)) (v := v5 - 1 - W (Int.toNat (4 * k + 1))) (Or.inr rfl) (by omega)
    refine ih (k + 1) _ _ (by omega) (by omega) L1 ((Ru_r (by omega)).trans r6) ((Ru_r (by omega)).trans r7) (by rw [Ru_r (by omega)]; exact a) (by rw [Ru_r (by omega)]; exact p) (by rw [Ru_r (by omega)]; exact r) (by rw [Ru_r (by omega)]; exact c) (fun q q1 q2 => ?_) (okI hl 15 (v := k + 1) (by omega))
    obtain ⟨c1, c2, c3, c4⟩ := w q q1 q2
    rw [Ru_o (k := Int.toNat (4 * q)) (by omega), Ru_o (k := Int.toNat (4 * q + 2)) (by omega), Ru_o (k := Int.toNat (4 * q + 3)) (by omega)]
    refine ⟨c1, ?_, c3, c4⟩
    by_cases z : q = k
    · rw [Ru_e ⟨rfl, by rw [z]⟩, if_pos (by omega), z, e5]
    · rw [Ru_o (by omega), c2]
      by_cases y : q < k
      · rw [if_pos y, if_pos (by omega)]
      · rw [if_neg y, if_neg (by omega)]
/-- a part's three numbers -/
theorem l529 (C : C2 sc H W G n v5 v6 v9 v10 v11 v12) (q : Int) (hq : 0 ≤ q ∧ q < H 0) (hK : ∀ (R : Nat → Nat → Int) (h : y_Hp), LSt 188 N M (KX G P X) (fun _ => True) R h → R 236 = H → R 237 = W → iA H (R 238) → iP H (R 238) (q + 1) → iR H (R 238) → iC H (R 238) 0 → iW H W (R 239) 0 → y_okL 188 [rV 1, rV 2, rV 119, rV 236, rV 237, iV v5, iV v6, iV v7, iV v8, iV v9, iV v10, iV v11, iV v12, rV 238, rV 239, iV (q + 1), iV 3, none, none] → GW sc 188 519 [rV 1, rV 2, rV 119, rV 236, rV 237, iV v5, iV v6, iV v7, iV v8, iV v9, iV v10, iV v11, iV v12, rV 238, rV 239, iV (q + 1), iV 3, none, none] h) : ∀ (m : Nat) (i : Int) (R : Nat → Nat → Int) (h : y_Hp), 0 ≤ i → i + m = 3 → LSt 188 N M (KX G P X) (fun _ => True) R h → R 236 = H → R 237 = W → iA H (R 238) → iP H (R 238) q → iQ H (R 238) q i → iR H (R 238) → iC H (R 238) 0 → iW H W (R 239) 0 → y_okL 188 [rV 1, rV 2, rV 119, rV 236, rV 237, iV v5, iV v6, iV v7, iV v8, iV v9, iV v10, iV v11, iV v12, rV 238, rV 239, iV q, iV i, none, none] → GW sc 188 529 [rV 1, rV 2, rV 119, rV 236, rV 237, iV v5, iV v6, iV v7, iV v8, iV v9, iV v10, iV v11, iV v12, rV 238, rV 239, iV q, iV i, none, none] h := by
  obtain ⟨hs, K, A, e5, e6, e9, en, e10, e11, e12⟩ := id C
  have k0 := K.1
  have kP := K.2.1
  intro m
  induction m with
  | zero =>
    intro i R h hi hm L r6 r7 a p pi r c w hl
    refine GW_L (stops := lStops) (k := 32) (Or.inr rfl) hl L ?_
    intro g L
    have e3 : i = 3 := by omega
    subst e3
    rw [t250_529, if_neg (by omega), yr_t (by omega)]
    refine hK R g L r6 r7 a (fun x x1 x2 => ?_) r c w (okI hl 15 (v := q + 1) (by omega))
    by_cases z : x = q
    · rw [z]
      exact ⟨pi.1 (by omega), pi.2.1 (by omega), pi.2.2 (by omega)⟩
    · exact p x x1 (by omega)
  | succ m ih =>
    intro i R h hi hm L r6 r7 a p pi r c w hl
    refine GW_L (stops := lStops) (k := 32) (Or.inr rfl) hl L ?_
    intro g L
    have rowk : y_I g 236 (Int.toNat ((8 + 3 * (v5 - 1 - q)) + i)) = H (Int.toNat ((8 + 3 * (v5 - 1 - q)) + i)) := (L.2.2.2.1 236 _ (by omega) (by omega)).trans (congrFun r6 _)
    have kp := kP (v5 - 1 - q) (by omega) (by omega)
    have bd : 0 ≤ H (Int.toNat ((8 + 3 * (v5 - 1 - q)) + i)) ∧ H (Int.toNat ((8 + 3 * (v5 - 1 - q)) + i)) ≤ 8 := by
      rcases (show i = 0 ∨ i = 1 ∨ i = 2 by omega) with rfl | rfl | rfl
      · rw [show (8 + 3 * (v5 - 1 - q)) + 0 = 8 + 3 * (v5 - 1 - q) by omega]; omega
      · rw [show (8 + 3 * (v5 - 1 - q)) + 1 = 9 + 3 * (v5 - 1 - q) by omega]; omega
      · rw [show (8 + 3 * (v5 - 1 - q)) + 2 = 10 + 3 * (v5 - 1 - q) by omega]; omega
    rw [t250_529, if_pos (by omega), yr_t (by omega), yr_t (by omega), yr_t (by omega), yr_t (by omega), yr_t (by omega), yr_t (by omega), yr_t (by omega), yr_t (by omega), yi_t (by omega), yi_t (by omega), rowk, yhb_s, yr_t (by omega)]
    have L1 := LS_row L (a := 238) (j := Int.toNat ((8 + 3 * q) + i)) (v := H (Int.toNat ((8 + 3 * (v5 - 1 - q)) + i))) (Or.inl rfl) (by omega)
    refine ih (i + 1) _ _ (by omega) (by omega) L1 ((Ru_r (by omega)).trans r6) ((Ru_r (by omega)).trans r7) (fun j j1 j2 => ?_) (fun x x1 x2 => ?_) ⟨fun y => ?_, fun y => ?_, fun y => ?_⟩ (fun j j1 j2 => ?_) (fun x x1 x2 => ?_) (by rw [Ru_r (by omega)]; exact w) (okI hl 16 (v := i + 1) (by omega))
    · rw [Ru_o (by omega)]; exact a j j1 j2
    · rw [Ru_o (by omega), Ru_o (by omega), Ru_o (by omega)]; exact p x x1 x2
    · by_cases z : i = 0
      · rw [Ru_e ⟨rfl, by omega⟩, z, e5]
        congr 1
        omega
      · rw [Ru_o (by omega)]; exact pi.1 (by omega)
    · by_cases z : i = 1
      · rw [Ru_e ⟨rfl, by omega⟩, z, e5]
        congr 1
        omega
      · rw [Ru_o (by omega)]; exact pi.2.1 (by omega)
    · by_cases z : i = 2
      · rw [Ru_e ⟨rfl, by omega⟩, z, e5]
        congr 1
        omega
      · rw [Ru_o (by omega)]; exact pi.2.2 (by omega)
    · rw [Ru_o (by omega)]; exact r j j1 j2
    · rw [Ru_o (by omega), Ru_o (by omega), Ru_o (by omega)]; exact c x x1 x2
theorem l519 (C : C2 sc H W G n v5 v6 v9 v10 v11 v12) (hX : XC X) (hN : N ≤ 700) (hM : M ≤ 500) : ∀ (m : Nat) (q : Int) (R : Nat → Nat → Int) (h : y_Hp) (o16 : Option y_V), 0 ≤ q → q + m = H 0 → LSt 188 N M (KX G P X) (fun _ => True) R h → R 236 = H → R 237 = W → iA H (R 238) → iP H (R 238) q → iR H (R 238) → iC H (R 238) 0 → iW H W (R 239) 0 → y_okL 188 [rV 1, rV 2, rV 119, rV 236, rV 237, iV v5, iV v6, iV v7, iV v8, iV v9, iV v10, iV v11, iV v12, rV 238, rV 239, iV q, o16, none, none] → GW sc 188 519 [rV 1, rV 2, rV 119, rV 236, rV 237, iV v5, iV v6, iV v7, iV v8, iV v9, iV v10, iV v11, iV v12, rV 238, rV 239, iV q, o16, none, none] h := by
  obtain ⟨hs, K, A, e5, e6, e9, en, e10, e11, e12⟩ := id C
  have k0 := K.1
  intro m
  induction m with
  | zero =>
    intro q R h o16 hq hm L r6 r7 a p r c w hl
    refine GW_L (stops := lStops) (k := 8) (Or.inr rfl) hl L ?_
    intro g L
    rw [show q = H 0 by omega] at p
    rw [t250_519, if_neg (by omega)]
    refine GW_L (stops := lStops) (k := 5) (Or.inr rfl) hl L ?_
    intro g L
    rw [t250_577]
    exact l580 C hX hN hM (H 2).toNat 0 R g (by omega) (by omega) L r6 r7 a p r c w (okI hl 15 (v := 0) (by omega))
  | succ m ih =>
    intro q R h o16 hq hm L r6 r7 a p r c w hl
    refine GW_L (stops := lStops) (k := 8) (Or.inr rfl) hl L ?_
    intro g L
    rw [t250_519, if_pos (by omega)]
    exact l529 C q ⟨hq, by omega⟩ (fun R h L r6 r7 a p r c w hl => ih (q + 1) R h (iV 3) (by omega) (by omega) L r6 r7 a p r c w hl) 3 0 R g (by omega) (by omega) L r6 r7 a p ⟨fun y => by omega, fun y => by omega, fun y => by omega⟩ r c w (okI hl 16 (v := 0) (by omega))
/-- both rows taken over -/
theorem l484 (C : C2 sc H W G n v5 v6 v9 v10 v11 v12) (hX : XC X) (hN : N ≤ 700) (hM : M ≤ 500) : ∀ (m : Nat) (k : Int) (R : Nat → Nat → Int) (h : y_Hp), 0 ≤ k → k + m = 64 → LSt 188 N M (KX G P X) (fun _ => True) R h → R 236 = H → R 237 = W → (∀ j : Int, 0 ≤ j → j < k → R 238 (Int.toNat j) = H (Int.toNat j) ∧ R 239 (Int.toNat j) = W (Int.toNat j)) → y_okL 188 [rV 1, rV 2, rV 119, rV 236, rV 237, iV v5, iV v6, iV v7, iV v8, iV v9, iV v10, iV v11, iV v12, rV 238, rV 239, iV k, none, none, none] → GW sc 188 484 [rV 1, rV 2, rV 119, rV 236, rV 237, iV v5, iV v6, iV v7, iV v8, iV v9, iV v10, iV v11, iV v12, rV 238, rV 239, iV k, none, none, none] h := by
  obtain ⟨hs, K, A, e5, e6, e9, en, e10, e11, e12⟩ := id C
  have k0 := K.1
  intro m
  induction m with
  | zero =>
    intro k R h hk hm L r6 r7 b hl
    refine GW_L (stops := lStops) (k := 20) (Or.inr rfl) hl L ?_
    intro g L
    rw [t250_484, if_neg (by omega)]
    refine GW_L (stops := lStops) (k := 5) (Or.inr rfl) hl L ?_
    intro g L
    rw [t250_516]
    have b8 : ∀ j : Int, 0 ≤ j → j < 64 → R 238 (Int.toNat j) = H (Int.toNat j) := fun j j1 j2 => (b j j1 (by omega)).1
    have b9 : ∀ j : Int, 0 ≤ j → j < 64 → R 239 (Int.toNat j) = W (Int.toNat j) := fun j j1 j2 => (b j j1 (by omega)).2
    exact l519 C hX hN hM (H 0).toNat 0 R g none (by omega) (by omega) L r6 r7 (fun j j1 j2 => b8 j j1 (by omega)) (fun x x1 x2 => by omega) (fun j j1 j2 => b8 j (by omega) (by omega)) (fun x x1 x2 => by rw [if_neg (by omega)]; exact ⟨b8 _ (by omega) (by omega), b8 _ (by omega) (by omega), b8 _ (by omega) (by omega)⟩) (fun x x1 x2 => by rw [if_neg (by omega)]; exact ⟨b9 _ (by omega) (by omega), b9 _ (by omega) (by omega), b9 _ (by omega) (by omega), b9 _ (by omega) (by omega)⟩) (okI hl 15 (v := 0) (by omega))
  | succ m ih =>
    intro k R h hk hm L r6 r7 b hl
    refine GW_L (stops := lStops) (k := 20) (Or.inr rfl) hl L ?_
    intro g L
    have ok : y_okH 188 (g_er g) := L.1
    have i6 : y_inr (y_I g 236 (Int.toNat k)) := by
      have := ok.1 236 (Int.toNat k)
      have e : (g_er g).1 236 (Int.toNat k) = y_I g 236 (Int.toNat k) := er_I (by rw [g_gh_f]; omega)
      rwa [e] at this
    have i7 : y_inr (y_I g 237 (Int.toNat k)) := by
      have := ok.1 237 (Int.toNat k)
      have e : (g_er g).1 237 (Int.toNat k) = y_I g 237 (Int.toNat k) := er_I (by rw [g_gh_f]; omega)
      rwa [e] at this
    have row6 : y_I g 236 (Int.toNat k) = H (Int.toNat k) := (L.2.2.2.1 236 _ (by omega) (by omega)).trans (congrFun r6 _)
    have row7 : y_I g 237 (Int.toNat k) = W (Int.toNat k) := (L.2.2.2.1 237 _ (by omega) (by omega)).trans (congrFun r7 _)
    rw [row6] at i6
    rw [row7] at i7
    rw [t250_484, if_pos (by omega), yi_t (by omega), yi_t (by omega), yi_t (by omega), yi_t (by omega), yhb_s, yr_t (by omega), yI_sI_ne (by omega), row6, row7]
    have L1 := LS_row (LS_row L (a := 238) (j := Int.toNat k) (v := H (Int.toNat k)) (Or.inl rfl) i6) (a := 239) (j := Int.toNat k) (v := W (Int.toNat k)) (Or.inr rfl) i7
    refine ih (k + 1) _ _ (by omega) (by omega) L1 ((Ru_r (by omega)).trans ((Ru_r (by omega)).trans r6)) ((Ru_r (by omega)).trans ((Ru_r (by omega)).trans r7)) (fun j j1 j2 => ?_) (okI hl 15 (v := k + 1) (by omega))
    by_cases z : j = k
    · rw [Ru_o (by omega), Ru_e ⟨rfl, by rw [z]⟩, Ru_e ⟨rfl, by rw [z]⟩, z]
      exact ⟨rfl, rfl⟩
    · rw [Ru_o (by omega), Ru_o (by omega), Ru_o (by omega), Ru_o (by omega)]
      exact b j j1 (by omega)
theorem w481 (C : C2 sc H W G n v5 v6 v9 v10 v11 v12) (hX : XC X) (hN : N ≤ 700) (hM : M ≤ 500) (L : LSt 188 N M (KX G P X) (fun _ => True) R h) (r6 : R 236 = H) (r7 : R 237 = W) (hl : y_okL 188 [rV 1, rV 2, rV 119, rV 236, rV 237, iV v5, iV v6, iV v7, iV v8, iV v9, iV v10, iV v11, iV v12, rV 238, rV 239, none, none, none, none]) : GW sc 188 481 [rV 1, rV 2, rV 119, rV 236, rV 237, iV v5, iV v6, iV v7, iV v8, iV v9, iV v10, iV v11, iV v12, rV 238, rV 239, none, none, none, none] h := by
  refine GW_L (stops := lStops) (k := 5) (Or.inr rfl) hl L ?_
  intro g L
  rw [t250_481]
  exact l484 C hX hN hM 64 0 R g (by omega) (by omega) L r6 r7 (fun j j1 j2 => by omega) (okI hl 15 (v := 0) (by omega))
end RW
