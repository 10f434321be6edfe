/-! readers, wants, cushions are told -/
section BL
variable {sc : z_Sc} {p1 p2 : Nat} {H W : Nat → Int} {N : Nat} {h : y_Hp} {L : List Int}
abbrev bL (p1 p2 : Nat) (L : List Int) (r : y_Ls) : y_Ls := some (y_vr 2) :: some (y_vr p1) :: some (y_vr p2) :: some (y_vi (L.length : Int)) :: r
theorem b_head (hp : pA p1 p2) (hN : N ≤ 800) (K : NW H W) (r n : Int) (hr : 0 ≤ r ∧ r < H 1) (hL : L.length ≤ 100) (s : BS p1 p2 H W N L h) : ∃ h', (∀ d o, 63 ≤ d → y_ev z_pg sc d pgL_house 153 (bL p1 p2 L [some (y_vi n), some (y_vi r), o]) [] h = y_ev z_pg sc d pgL_house 237 (bL p1 p2 (L ++ rhead H r) [some (y_vi n), some (y_vi r), some (y_vi 1)]) [] h') ∧ BS p1 p2 H W N (L ++ rhead H r) h' ∧ bF h h' ∧ (rhead H r).length ≤ 7 := by
  obtain ⟨⟨k0, k1, k2, k3, k4, k5⟩, kP, kR, kW, kO, kU, kC⟩ := id K
  obtain ⟨c1, c2, c3⟩ := kR r hr.1 hr.2
  have er : rhead H r = 114 :: (rnum (H (Int.toNat (20 + 3 * r))) ++ (45 :: (rnum (H (Int.toNat (21 + 3 * r))) ++ (40 :: (if H (Int.toNat (22 + 3 * r)) = 1 then [33] else []))))) := rfl
  generalize ea : H (Int.toNat (20 + 3 * r)) = a at c1 c2 er
  generalize eb : H (Int.toNat (21 + 3 * r)) = b at c2 er
  generalize ec : H (Int.toNat (22 + 3 * r)) = c at c3 er
  have lb := rnum_len (x := b)
  obtain ⟨h1, a1, s1, f1⟩ := b_put (sc := sc) hp hN (by omega) 114 (by omega) s
  have l1 : (L ++ [114]).length = L.length + 1 := lapp
  obtain ⟨h2, a2, s2, f2⟩ := b_num (sc := sc) hp hN (by omega) a (by omega) s1
  have l2 : ((L ++ [114]) ++ rnum a).length = L.length + 2 := by rw [lapp, l1, rnum_1 (by omega)]
  obtain ⟨h3, a3, s3, f3⟩ := b_put (sc := sc) hp hN (by omega) 45 (by omega) s2
  have l3 : (((L ++ [114]) ++ rnum a) ++ [45]).length = L.length + 3 := by rw [lapp, l2]; rfl
  obtain ⟨h4, a4, s4, f4⟩ := b_num (sc := sc) hp hN (by omega) b (by omega) s3
  have l4 : ((((L ++ [114]) ++ rnum a) ++ [45]) ++ rnum b).length ≤ L.length + 5 := by rw [lapp, l3]; omega
  obtain ⟨h5, a5, s5, f5⟩ := b_put (sc := sc) hp hN (by omega) 40 (by omega) s4
  have l5 : (((((L ++ [114]) ++ rnum a) ++ [45]) ++ rnum b) ++ [40]).length ≤ L.length + 6 := by
    rw [lapp]
    show _ + 1 ≤ _
    omega
  have F5 : bF h h5 := bF_tr f1 (bF_tr f2 (bF_tr f3 (bF_tr f4 f5)))
  have len : (rhead H r).length ≤ 7 := by
    rw [er]
    simp only [List.length_cons, List.length_append]
    have := rnum_1 (x := a) (by omega)
    have q : (if c = 1 then [33] else ([] : List Int)).length ≤ 1 := by split <;> simp
    omega
  by_cases cc : c = 1
  · rw [if_pos cc] at er
    obtain ⟨h6, a6, s6, f6⟩ := b_put (sc := sc) hp hN (by omega) 33 (by omega) s5
    have e6 : (((((L ++ [114]) ++ rnum a) ++ [45]) ++ rnum b) ++ [40]) ++ [33] = L ++ rhead H r := by
      rw [er]
      simp only [List.append_assoc, List.cons_append, List.nil_append]
    rw [e6] at a6 s6
    refine ⟨h6, fun d o hd => ?_, s6, bF_tr F5 f6, len⟩
    rw [b255_153, yA1 hp, lA1 hp, yi_t (by omega), s.2.1, show (Int.toNat 1) = 1 from rfl, if_pos hr.2, a1 d (by omega), yci_s, yr_t (by omega), yr_t (by omega), yA1 hp, yi_t (by omega), s1.2.1, ea, a2 d (by omega), yci_s, a3 d (by omega), yci_s, yr_t (by omega), yr_t (by omega), yA1 hp, yi_t (by omega), s3.2.1, eb, a4 d (by omega), yci_s, a5 d (by omega), yci_s, yr_t (by omega), yr_t (by omega), yA1 hp, yi_t (by omega), s5.2.1, ec, if_pos cc, a6 d (by omega), yci_s]
  · rw [if_neg cc] at er
    have e6 : ((((L ++ [114]) ++ rnum a) ++ [45]) ++ rnum b) ++ [40] = L ++ rhead H r := by
      rw [er]
      simp only [List.append_assoc, List.cons_append, List.nil_append]
    rw [e6] at a5 s5
    refine ⟨h5, fun d o hd => ?_, s5, F5, len⟩
    rw [b255_153, yA1 hp, lA1 hp, yi_t (by omega), s.2.1, show (Int.toNat 1) = 1 from rfl, if_pos hr.2, a1 d (by omega), yci_s, yr_t (by omega), yr_t (by omega), yA1 hp, yi_t (by omega), s1.2.1, ea, a2 d (by omega), yci_s, a3 d (by omega), yci_s, yr_t (by omega), yr_t (by omega), yA1 hp, yi_t (by omega), s3.2.1, eb, a4 d (by omega), yci_s, a5 d (by omega), yci_s, yr_t (by omega), yr_t (by omega), yA1 hp, yi_t (by omega), s5.2.1, ec, if_neg cc]
theorem b_wants (hp : pA p1 p2) (hN : N ≤ 800) (K : NW H W) : ∀ (n : Nat) (w : Int) (L : List Int) (h : y_Hp), 0 ≤ w → w + (n + 1) = H 2 → (L.length : Int) ≤ 27 + 7 * (W (Int.toNat (4 * w)) + 1) + 6 * w → BS p1 p2 H W N L h → ∃ h', (∀ d, 63 ≤ d → ∃ o, y_ev z_pg sc d pgL_house 237 (bL p1 p2 L [some (y_vi w), some (y_vi (W (Int.toNat (4 * w)))), some (y_vi 1)]) [] h = y_ev z_pg sc d pgL_house 359 (bL p1 p2 (L ++ rwants H W w (n + 1)) [some (y_vi (H 2)), some (y_vi 0), o]) [] h') ∧ BS p1 p2 H W N (L ++ rwants H W w (n + 1)) h' ∧ bF h h' ∧ ((L ++ rwants H W w (n + 1)).length : Int) ≤ 91 := by
  intro n
  induction n with
  | zero =>
    intro w L h hw hn hL s
    obtain ⟨⟨k0, k1, k2, k3, k4, k5⟩, kP, kR, kW, kO, kU, kC⟩ := id K
    obtain ⟨c1, c2, c3, c4⟩ := kW w hw (by omega)
    have last := kO.2.2
    rw [show H 2 - 1 = w by omega] at last
    generalize er : W (Int.toNat (4 * w)) = r at c1 hL last
    generalize ea : W (Int.toNat (4 * w + 1)) = a at c2
    generalize eb : W (Int.toNat (4 * w + 2)) = b at c3
    generalize ec : W (Int.toNat (4 * w + 3)) = c at c4
    obtain ⟨h1, a1, s1, f1⟩ := b_put (sc := sc) hp hN (by omega) (48 + a) (by omega) s
    have l1 : (L ++ [48 + a]).length = L.length + 1 := lapp
    obtain ⟨h2, a2, s2, f2⟩ := b_put (sc := sc) hp hN (by omega) 42 (by omega) s1
    have l2 : ((L ++ [48 + a]) ++ [42]).length = L.length + 2 := by rw [lapp, l1]; rfl
    obtain ⟨h3, a3, s3, f3⟩ := b_num (sc := sc) hp hN (by omega) b (by omega) s2
    have l3 : (((L ++ [48 + a]) ++ [42]) ++ rnum b).length = L.length + 3 := by rw [lapp, l2, rnum_1 (by omega)]
    obtain ⟨h4, a4, s4, f4⟩ := b_put (sc := sc) hp hN (by omega) 61 (by omega) s3
    have l4 : ((((L ++ [48 + a]) ++ [42]) ++ rnum b) ++ [61]).length = L.length + 4 := by rw [lapp, l3]; rfl
    obtain ⟨h5, a5, s5, f5⟩ := b_put (sc := sc) hp hN (by omega) (48 + c) (by omega) s4
    have l5 : (((((L ++ [48 + a]) ++ [42]) ++ rnum b) ++ [61]) ++ [48 + c]).length = L.length + 5 := by rw [lapp, l4]; rfl
    obtain ⟨h6, a6, s6, f6⟩ := b_put (sc := sc) hp hN (by omega) 41 (by omega) s5
    have l6 : ((((((L ++ [48 + a]) ++ [42]) ++ rnum b) ++ [61]) ++ [48 + c]) ++ [41]).length = L.length + 6 := by rw [lapp, l5]; rfl
    have e6 : (((((L ++ [48 + a]) ++ [42]) ++ rnum b) ++ [61]) ++ [48 + c]) ++ [41] = L ++ rwants H W w (0 + 1) := by
      have x : rwants H W w (0 + 1) = rwant W w ++ [41] := rfl
      rw [x]
      unfold rwant
      rw [ea, eb, ec]
      simp only [List.append_assoc, List.cons_append, List.nil_append]
    rw [e6] at a6 s6 l6
    refine ⟨h6, fun d hd => ⟨some (y_vi 0), ?_⟩, s6, bF_tr f1 (bF_tr f2 (bF_tr f3 (bF_tr f4 (bF_tr f5 f6)))), by omega⟩
    rw [b255_237, if_neg (by omega), yr_t (by omega), yr_t (by omega), yA2 hp, lA2 hp, yi_t (by omega), s.2.2, ea, yr_t (by omega), a1 d (by omega), yci_s, a2 d (by omega), yci_s, yr_t (by omega), yr_t (by omega), yA2 hp, yi_t (by omega), s2.2.2, eb, a3 d (by omega), yci_s, a4 d (by omega), yci_s, yr_t (by omega), yr_t (by omega), yA2 hp, yi_t (by omega), s4.2.2, ec, yr_t (by omega), a5 d (by omega), yci_s, yr_t (by omega), yA1 hp, lA1 hp, yi_t (by omega), s5.2.1, show (Int.toNat 2) = 2 from rfl, if_neg (by omega), a6 d (by omega), yci_s, b255_237, if_pos rfl, yr_t (by omega), b255_153, yA1 hp, lA1 hp, yi_t (by omega), s6.2.1, show (Int.toNat 1) = 1 from rfl, if_neg (by omega), show w + 1 = H 2 by omega]
  | succ n ih =>
    intro w L h hw hn hL s
    obtain ⟨⟨k0, k1, k2, k3, k4, k5⟩, kP, kR, kW, kO, kU, kC⟩ := id K
    obtain ⟨c1, c2, c3, c4⟩ := kW w hw (by omega)
    have d1 := (kW (w + 1) (by omega) (by omega)).1
    have nx := kO.2.1 w hw (by omega)
    have ih := ih (w + 1)
    generalize er2 : W (Int.toNat (4 * (w + 1))) = r2 at d1 nx ih
    generalize er : W (Int.toNat (4 * w)) = r at c1 hL nx
    generalize ea : W (Int.toNat (4 * w + 1)) = a at c2
    generalize eb : W (Int.toNat (4 * w + 2)) = b at c3
    generalize ec : W (Int.toNat (4 * w + 3)) = c at c4
    obtain ⟨h1, a1, s1, f1⟩ := b_put (sc := sc) hp hN (by omega) (48 + a) (by omega) s
    have l1 : (L ++ [48 + a]).length = L.length + 1 := lapp
    obtain ⟨h2, a2, s2, f2⟩ := b_put (sc := sc) hp hN (by omega) 42 (by omega) s1
    have l2 : ((L ++ [48 + a]) ++ [42]).length = L.length + 2 := by rw [lapp, l1]; rfl
    obtain ⟨h3, a3, s3, f3⟩ := b_num (sc := sc) hp hN (by omega) b (by omega) s2
    have l3 : (((L ++ [48 + a]) ++ [42]) ++ rnum b).length = L.length + 3 := by rw [lapp, l2, rnum_1 (by omega)]
    obtain ⟨h4, a4, s4, f4⟩ := b_put (sc := sc) hp hN (by omega) 61 (by omega) s3
    have l4 : ((((L ++ [48 + a]) ++ [42]) ++ rnum b) ++ [61]).length = L.length + 4 := by rw [lapp, l3]; rfl
    obtain ⟨h5, a5, s5, f5⟩ := b_put (sc := sc) hp hN (by omega) (48 + c) (by omega) s4
    have l5 : (((((L ++ [48 + a]) ++ [42]) ++ rnum b) ++ [61]) ++ [48 + c]).length = L.length + 5 := by rw [lapp, l4]; rfl
    have F5 : bF h h5 := bF_tr f1 (bF_tr f2 (bF_tr f3 (bF_tr f4 f5)))
    by_cases cs : r2 = r
    · obtain ⟨h6, a6, s6, f6⟩ := b_put (sc := sc) hp hN (by omega) 44 (by omega) s5
      have l6 : ((((((L ++ [48 + a]) ++ [42]) ++ rnum b) ++ [61]) ++ [48 + c]) ++ [44]).length = L.length + 6 := by rw [lapp, l5]; rfl
      obtain ⟨h', q1, q2, q3, q4⟩ := ih _ h6 (by omega) (by omega) (by rw [l6]; omega) s6
      have e6 : ((((((L ++ [48 + a]) ++ [42]) ++ rnum b) ++ [61]) ++ [48 + c]) ++ [44]) ++ rwants H W (w + 1) (n + 1) = L ++ rwants H W w (n + 1 + 1) := by
        have x : rwants H W w (n + 1 + 1) = rwant W w ++ (44 :: rwants H W (w + 1) (n + 1)) := by
          show rwant W w ++ (if n + 1 = 0 then [41] else _) = _
          rw [if_neg (by omega), er, er2, if_pos cs]
        rw [x]
        unfold rwant
        rw [ea, eb, ec]
        simp only [List.append_assoc, List.cons_append, List.nil_append]
      rw [e6] at q1 q2 q4
      refine ⟨h', fun d hd => ?_, q2, bF_tr F5 (bF_tr f6 q3), q4⟩
      obtain ⟨o, q⟩ := q1 d hd
      refine ⟨o, ?_⟩
      rw [← q, b255_237, if_neg (by omega), yr_t (by omega), yr_t (by omega), yA2 hp, lA2 hp, yi_t (by omega), s.2.2, ea, yr_t (by omega), a1 d (by omega), yci_s, a2 d (by omega), yci_s, yr_t (by omega), yr_t (by omega), yA2 hp, yi_t (by omega), s2.2.2, eb, a3 d (by omega), yci_s, a4 d (by omega), yci_s, yr_t (by omega), yr_t (by omega), yA2 hp, yi_t (by omega), s4.2.2, ec, yr_t (by omega), a5 d (by omega), yci_s, yr_t (by omega), yA1 hp, lA1 hp, yi_t (by omega), s5.2.1, show (Int.toNat 2) = 2 from rfl, if_pos (by omega), yr_t (by omega), yA2 hp, yi_t (by omega), s5.2.2, er2, if_pos cs, a6 d (by omega), yci_s, cs]
    · obtain ⟨h6, a6, s6, f6⟩ := b_put (sc := sc) hp hN (by omega) 41 (by omega) s5
      have l6 : ((((((L ++ [48 + a]) ++ [42]) ++ rnum b) ++ [61]) ++ [48 + c]) ++ [41]).length = L.length + 6 := by rw [lapp, l5]; rfl
      obtain ⟨h7, a7, s7, f7, l7⟩ := b_head (sc := sc) hp hN K (r + 1) (w + 1) (by omega) (by omega) s6
      have er1 : r2 = r + 1 := by omega
      obtain ⟨h', q1, q2, q3, q4⟩ := ih _ h7 (by omega) (by omega) (by rw [lapp, l6, er1]; omega) s7
      have e6 : (((((((L ++ [48 + a]) ++ [42]) ++ rnum b) ++ [61]) ++ [48 + c]) ++ [41]) ++ rhead H (r + 1)) ++ rwants H W (w + 1) (n + 1) = L ++ rwants H W w (n + 1 + 1) := by
        have x : rwants H W w (n + 1 + 1) = rwant W w ++ (41 :: (rhead H (r + 1) ++ rwants H W (w + 1) (n + 1))) := by
          show rwant W w ++ (if n + 1 = 0 then [41] else _) = _
          rw [if_neg (by omega), er, er2, if_neg cs, er1]
        rw [x]
        unfold rwant
        rw [ea, eb, ec]
        simp only [List.append_assoc, List.cons_append, List.nil_append]
      rw [e6] at q1 q2 q4
      refine ⟨h', fun d hd => ?_, q2, bF_tr F5 (bF_tr f6 (bF_tr f7 q3)), q4⟩
      obtain ⟨o, q⟩ := q1 d hd
      refine ⟨o, ?_⟩
      rw [← q, b255_237, if_neg (by omega), yr_t (by omega), yr_t (by omega), yA2 hp, lA2 hp, yi_t (by omega), s.2.2, ea, yr_t (by omega), a1 d (by omega), yci_s, a2 d (by omega), yci_s, yr_t (by omega), yr_t (by omega), yA2 hp, yi_t (by omega), s2.2.2, eb, a3 d (by omega), yci_s, a4 d (by omega), yci_s, yr_t (by omega), yr_t (by omega), yA2 hp, yi_t (by omega), s4.2.2, ec, yr_t (by omega), a5 d (by omega), yci_s, yr_t (by omega), yA1 hp, lA1 hp, yi_t (by omega), s5.2.1, show (Int.toNat 2) = 2 from rfl, if_pos (by omega), yr_t (by omega), yA2 hp, yi_t (by omega), s5.2.2, er2, if_neg cs, a6 d (by omega), yci_s, b255_237, if_pos rfl, yr_t (by omega), a7 d _ hd, er1]
theorem b_cush (hp : pA p1 p2) (hN : N ≤ 800) (K : NW H W) : ∀ (n : Nat) (k v4 : Int) (L : List Int) (h : y_Hp), 0 ≤ k → k + n = H 5 → (L.length : Int) ≤ 91 + 8 * k → BS p1 p2 H W N L h → ∃ h', (∀ d o, 63 ≤ d → y_ev z_pg sc d pgL_house 446 (bL p1 p2 L [some (y_vi v4), some (y_vi k), o]) [] h = y_ev z_pg sc d pgL_house 446 (bL p1 p2 (L ++ rcush H k n) [some (y_vi v4), some (y_vi (H 5)), o]) [] h') ∧ BS p1 p2 H W N (L ++ rcush H k n) h' ∧ bF h h' ∧ ((L ++ rcush H k n).length : Int) ≤ 107
  | 0, k, v4, L, h, hk, hn, hL, s => by
    obtain ⟨⟨k0, k1, k2, k3, k4, k5⟩, -⟩ := id K
    have e : L ++ rcush H k 0 = L := List.append_nil L
    rw [e]
    exact ⟨h, fun d o hd => by rw [show k = H 5 by omega], s, bF_rf, by omega⟩
  | n + 1, k, v4, L, h, hk, hn, hL, s => by
    obtain ⟨⟨k0, k1, k2, k3, k4, k5⟩, kP, kR, kW, kO, kU, kC⟩ := id K
    obtain ⟨c1, c2, c3⟩ := kC k hk (by omega)
    generalize ea : H (Int.toNat (40 + 3 * k)) = a at c1
    generalize eb : H (Int.toNat (41 + 3 * k)) = b at c2 c3
    generalize ec : H (Int.toNat (42 + 3 * k)) = c at c3
    have lb := rnum_len (x := b)
    have lc := rnum_len (x := c)
    obtain ⟨h1, a1, s1, f1⟩ := b_put (sc := sc) hp hN (by omega) 99 (by omega) s
    have l1 : (L ++ [99]).length = L.length + 1 := lapp
    obtain ⟨h2, a2, s2, f2⟩ := b_put (sc := sc) hp hN (by omega) (48 + a) (by omega) s1
    have l2 : ((L ++ [99]) ++ [48 + a]).length = L.length + 2 := by rw [lapp, l1]; rfl
    obtain ⟨h3, a3, s3, f3⟩ := b_put (sc := sc) hp hN (by omega) 64 (by omega) s2
    have l3 : (((L ++ [99]) ++ [48 + a]) ++ [64]).length = L.length + 3 := by rw [lapp, l2]; rfl
    obtain ⟨h4, a4, s4, f4⟩ := b_num (sc := sc) hp hN (by omega) b (by omega) s3
    have l4 : ((((L ++ [99]) ++ [48 + a]) ++ [64]) ++ rnum b).length = L.length + 3 + (rnum b).length := by rw [lapp, l3]
    obtain ⟨h5, a5, s5, f5⟩ := b_put (sc := sc) hp hN (by omega) 45 (by omega) s4
    have l5 : (((((L ++ [99]) ++ [48 + a]) ++ [64]) ++ rnum b) ++ [45]).length = L.length + 4 + (rnum b).length := by
      rw [lapp, l4]
      show _ + 1 = _
      omega
    obtain ⟨h6, a6, s6, f6⟩ := b_num (sc := sc) hp hN (by omega) c (by omega) s5
    have l6 : ((((((L ++ [99]) ++ [48 + a]) ++ [64]) ++ rnum b) ++ [45]) ++ rnum c).length = L.length + 4 + (rnum b).length + (rnum c).length := by rw [lapp, l5]
    obtain ⟨h', q1, q2, q3, q4⟩ := b_cush hp hN K n (k + 1) v4 _ h6 (by omega) (by omega) (by rw [l6]; omega) s6
    have e6 : ((((((L ++ [99]) ++ [48 + a]) ++ [64]) ++ rnum b) ++ [45]) ++ rnum c) ++ rcush H (k + 1) n = L ++ rcush H k (n + 1) := by
      show _ = L ++ ((99 :: (48 + H (Int.toNat (40 + 3 * k))) :: 64 :: (rnum (H (Int.toNat (41 + 3 * k))) ++ (45 :: rnum (H (Int.toNat (42 + 3 * k)))))) ++ rcush H (k + 1) n)
      rw [ea, eb, ec]
      simp only [List.append_assoc, List.cons_append, List.nil_append]
    rw [e6] at q1 q2 q4
    refine ⟨h', fun d o hd => ?_, q2, bF_tr f1 (bF_tr f2 (bF_tr f3 (bF_tr f4 (bF_tr f5 (bF_tr f6 q3))))), q4⟩
    rw [← q1 d o hd, b255_446, yA1 hp, lA1 hp, yi_t (by omega), s.2.1, show (Int.toNat 5) = 5 from rfl, if_pos (by omega), a1 d (by omega), yci_s, yr_t (by omega), yr_t (by omega), yA1 hp, yi_t (by omega), s1.2.1, ea, yr_t (by omega), a2 d (by omega), yci_s, a3 d (by omega), yci_s, yr_t (by omega), yr_t (by omega), yA1 hp, yi_t (by omega), s3.2.1, eb, a4 d (by omega), yci_s, a5 d (by omega), yci_s, yr_t (by omega), yr_t (by omega), yA1 hp, yi_t (by omega), s5.2.1, ec, a6 d (by omega), yci_s, yr_t (by omega)]
/-- the whole text, up to the two questions at its end -/
theorem b_house (hp : pA p1 p2) (hN : N ≤ 700) (K : NW H W) (s0 : ST id N (fun _ => True) h) (e1 : ∀ k, y_I h p1 k = H k) (e2 : ∀ k, y_I h p2 k = W k) : ∃ h', (∀ d, 63 ≤ d → y_se z_pg sc (d + 1) 255 [y_vr 2, y_vr p1, y_vr p2] h = y_ci (y_se z_pg sc d 95 [y_vr 2, y_vi 3] h') (fun u2 g1 => (if u2 = (-9) then y_ci (y_se z_pg sc d 96 [y_vr 2, y_vi 3] g1) (fun u4 g3 => y_kt p1 10 (y_in 2 (z_kd p1).2 ((if u4 = (y_I g3 p1 (Int.toNat 2)) then some (some (y_vi 1), g3) else some (some (y_vi 0), g3))))) else some (some (y_vi 0), g1)))) ∧ BS p1 p2 H W (N + 1) (rhouse H W) h' ∧ bF h h' ∧ (rhouse H W).length ≤ 107 := by
  obtain ⟨⟨k0, k1, k2, k3, k4, k5⟩, kP, kR, kW, kO, kU, kC⟩ := id K
  have hp1 : 94 ≤ p1 ∧ 94 ≤ p2 := by rcases hp with ⟨rfl, rfl⟩ | ⟨rfl, rfl⟩ <;> omega
  have F : ∀ g g1 g2 u, GI N g → True → g_rw (fun a => 94 ≤ a) g g1 → (∀ d, 60 ≤ d → y_se z_pg sc d 154 [y_vr 94, y_vi 3, y_vi 120] g1 = some (some (y_vi u), g2)) → u = 120 ∧ TX [] g2 := by
    intro g g1 g2 u I t fr q
    have q2 := Option.some.inj ((q 60 (Nat.le_refl _)).symm.trans (m_text3 60 (by omega)))
    have h3 : (some (y_vi u) : Option y_V) = some (y_vi 120) := congrArg Prod.fst q2
    have eg := congrArg Prod.snd q2
    cases h3
    refine ⟨rfl, ?_⟩
    have eg : g2 = _ := eg
    rw [eg]
    exact TX_0
  obtain ⟨u, h1, a1, a2, a3⟩ := ST_op (sc := sc) (x := 93) (m := 154) (ax := [y_vr 2, y_vi 3, y_vi 120]) (am := [y_vr 94, y_vi 3, y_vi 120]) (Ψ := fun u g => u = 120 ∧ TX [] g) D_O (by
      intro v hv
      simp only [List.mem_cons, List.not_mem_nil, or_false] at hv
      rcases hv with rfl | rfl | rfl <;> first | trivial | decide) (by
      intro v hv
      simp only [List.mem_cons, List.not_mem_nil, or_false] at hv
      rcases hv with rfl | rfl | rfl <;> first | trivial | decide) (fun g I _ => o_text I.1 (by omega) 3 120) F s0
  obtain ⟨g, c1, c2, c3, c4⟩ := a2
  subst c3
  have f1 := bF_of a3
  have s1 : BS p1 p2 H W (N + 1) [] h1 := ⟨⟨g, c1, c2, c4⟩, fun k => by rw [rw_I f1 hp1.1]; exact e1 k, fun k => by rw [rw_I f1 hp1.2]; exact e2 k⟩
  obtain ⟨h2, b1, s2, f2⟩ := b_put (sc := sc) hp (by omega) (by decide) 109 (by omega) s1
  obtain ⟨h3, b2, s3, f3⟩ := b_num (sc := sc) hp (by omega) (by decide) (H 3) (by omega) s2
  have l3 := rnum_len (x := H 3)
  obtain ⟨h4, b3, s4, f4, l4⟩ := b_parts (sc := sc) hp (by omega) K (H 0).toNat 0 _ h3 (by omega) (by omega) (by
    rw [lapp]
    show (((1 + (rnum (H 3)).length : Nat)) : Int) ≤ _
    omega) s3
  obtain ⟨h5, b4, s5, f5, l5⟩ := b_head (sc := sc) hp (by omega) K 0 0 (by omega) (by omega) s4
  have w0 : W (Int.toNat (4 * 0)) = 0 := kO.1
  obtain ⟨h6, b5, s6, f6, l6⟩ := b_wants (sc := sc) hp (by omega) K ((H 2).toNat - 1) 0 _ h5 (by omega) (by omega) (by
    rw [lapp, w0]
    omega) s5
  have en : (H 2).toNat - 1 + 1 = (H 2).toNat := by omega
  rw [en] at b5 s6 l6
  obtain ⟨h7, b6, s7, f7, l7⟩ := b_cush (sc := sc) hp (by omega) K (H 5).toNat 0 (H 2) _ h6 (by omega) (by omega) (by omega) s6
  have el : (((((([] ++ [109]) ++ rnum (H 3)) ++ rparts H 0 (H 0).toNat) ++ rhead H 0) ++ rwants H W 0 (H 2).toNat) ++ rcush H 0 (H 5).toNat) = rhouse H W := by
    unfold rhouse
    simp only [List.append_assoc, List.cons_append, List.nil_append]
  rw [el] at b6 s7 l7
  refine ⟨h7, fun d hd => ?_, s7, bF_tr f1 (bF_tr f2 (bF_tr f3 (bF_tr f4 (bF_tr f5 (bF_tr f6 f7))))), by omega⟩
  have q1 : y_se z_pg sc d 93 [y_vr 2, y_vi 3, y_vi 120] h = some (some (y_vi 120), h1) := a1 d (by omega)
  have q2 : y_se z_pg sc d 252 [y_vr 2, y_vi 0, y_vi 109] h1 = some (some (y_vi ((([] : List Int) ++ [109]).length : Int)), h2) := b1 d (by omega)
  obtain ⟨o, q5⟩ := b5 d hd
  rw [w0] at q5
  have pos : 0 < (rhouse H W).length := by unfold rhouse; simp
  rw [e255, b255_0, q1, yci_s, if_pos rfl, q2, yci_s, yA1 hp, lA1 hp, yi_t (by omega), s2.2.1, show (Int.toNat 3) = 3 from rfl, b2 d (by omega), yci_s, b3 d hd, b4 d none hd, q5, b255_359, yA1 hp, lA1 hp, yi_t (by omega), s6.2.1, show (Int.toNat 4) = 4 from rfl, if_neg (by omega), b6 d o hd, b255_446, yA1 hp, lA1 hp, yi_t (by omega), s7.2.1, show (Int.toNat 5) = 5 from rfl, if_neg (by omega), if_pos (by omega)]
end BL
