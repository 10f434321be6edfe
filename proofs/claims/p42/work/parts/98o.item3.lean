/-! items are read: readers, the whole -/
section TK
variable {sc : z_Sc} {g : y_Hp} {L R : List Int} {p : Int} {H W : Nat → Int}
theorem NW_mono (K : NW H W) : ∀ (n : Nat) (v u : Int), 0 ≤ v → v + n = u → u < H 2 → W (Int.toNat (4 * v)) ≤ W (Int.toNat (4 * u))
  | 0, v, u, h0, h1, h2 => by rw [show u = v by omega]; exact Int.le_refl _
  | n + 1, v, u, h0, h1, h2 => by
    have a := NW_mono K n (v + 1) u (by omega) (by omega) h2
    have b := (K.2.2.2.2.1.2.1 v h0 (by omega)).1
    omega
theorem rwants_hd {w : Int} {n : Nat} : (rwants H W w (n + 1) ++ R).headD 32 = 48 + W (Int.toNat (4 * w + 1)) := rfl
/-- a READER, head and wants -/
theorem i_reader (K : NW H W) (hL : L.length ≤ 110) {la um r w : Int} {n : Nat} (S : QS L H W p la (H 0) r w um g) (hr : 0 ≤ r ∧ r < H 1) (hw : 0 ≤ w) (hn : w + (n + 1) = H 2) (er : W (Int.toNat (4 * w)) = r) (hlt : ∀ v, 0 ≤ v → v < w → W (Int.toNat (4 * v)) < r) (h : RS L p (rhead H r ++ (rwants H W w (n + 1) ++ R))) : ∃ g' q w', (∀ d, 20 ≤ d → y_se z_pg sc d 162 [y_vr 94, y_vi 3] g = some (some (y_vi 1), g')) ∧ QS L H W q la (H 0) (r + 1) w' um g' ∧ FMM g g' ∧ rEnd L R H W r w' q n := by
  have K0 := K
  obtain ⟨⟨k0, k1, k2, k3, k4, k5⟩, kP, kR, kW, kO, kU, kC⟩ := id K
  obtain ⟨c1, c2, c3⟩ := kR r hr.1 hr.2
  obtain ⟨M, ⟨e1, e2, e3, e4, e5, e6⟩, sP, sR, sW, sC⟩ := S
  have m2 := M.2.1
  have hwp := (kW w hw (by omega)).2.1
  have hhd : (rwants H W w (n + 1) ++ R).headD 32 = 48 + W (Int.toNat (4 * w + 1)) := rwants_hd
  generalize eX : rwants H W w (n + 1) ++ R = X at h hhd
  unfold rhead at h
  generalize ea : H (Int.toNat (20 + 3 * r)) = a at c1 c2 h
  generalize eb : H (Int.toNat (21 + 3 * r)) = b at c2 h
  generalize ec : H (Int.toNat (22 + 3 * r)) = c at c3 h
  have h : RS L p (114 :: ((rnum a ++ (45 :: (rnum b ++ (40 :: (if c = 1 then [33] else []))))) ++ X)) := h
  rw [List.append_assoc] at h
  have h : RS L p (114 :: (rnum a ++ (45 :: ((rnum b ++ (40 :: (if c = 1 then [33] else []))) ++ X)))) := h
  rw [List.append_assoc] at h
  have h : RS L p (114 :: (rnum a ++ (45 :: (rnum b ++ (40 :: ((if c = 1 then [33] else []) ++ X)))))) := h
  have hp := RS_bd h
  have hpl : (114 :: (rnum a ++ (45 :: (rnum b ++ (40 :: ((if c = 1 then [33] else []) ++ X)))))).length = 1 + (rnum a ++ (45 :: (rnum b ++ (40 :: ((if c = 1 then [33] else []) ++ X))))).length := by simp only [List.length_cons]; omega
  have h1 := (RS_nx h).2
  generalize eg0 : y_sI g 94 19 (p + 1) = g0
  have M0 : MT L (p + 1) g0 := by rw [← eg0]; exact M.at _
  have F0 : FM g g0 := by rw [← eg0]; exact FM.p
  obtain ⟨g1, a1, a2, a3, a4, a5⟩ := k_min (sc := sc) M0 hL (lo := 0) (hi := 60) (by omega) (by omega) h1 (fun _ => Or.inl (by show (45 : Int) < 48; omega))
  obtain ⟨g3, b1, b2, b3, b4⟩ := k_sign (sc := sc) a2 hL a5
  obtain ⟨g5, d1, d2, d3, d4, d5⟩ := k_min (sc := sc) b2 hL (lo := a + 1) (hi := 60) (by omega) (by omega) b4 (fun _ => Or.inl (by show (40 : Int) < 48; omega))
  have F5 : FM g g5 := F0.trans (a3.trans (b3.trans d3))
  have r5 : y_I g5 94 23 = r := (F5.o (by omega)).trans e3
  have k20 : y_I (y_sI g5 107 (Int.toNat (3 * r)) a) 94 20 = b := by rw [yI_sI_o (by omega)]; exact d4
  generalize eg7 : y_sI (y_sI g5 107 (Int.toNat (3 * r)) a) 107 (Int.toNat (3 * r + 1)) b = g7
  have M7 := MT_w (g' := g7) (q := p + 1 + (rnum a).length + 1 + (rnum b).length) d2 (fun x y q => by rw [← eg7]; simp (disch := omega) only [yI_sI_o]) (by rw [← eg7]; simp (disch := omega) only [yI_sI_o]; exact d2.2.1)
  obtain ⟨g8, f1, f2, f3, f4⟩ := k_sign (sc := sc) M7 hL d5
  have st : ∀ d, 20 ≤ d + 1 → y_se z_pg sc (d + 1) 162 [y_vr 94, y_vi 3] g = _ := fun d hd => by
    rw [e162, b162_0, e3, if_neg (by omega), m2, yr_t (by omega), eg0, a1 d (by omega), yci_s, if_neg (by omega), b1 d (by omega), yci_s, if_neg (by omega), a4, yr_t (by omega), d1 d (by omega), yci_s, if_neg (by omega), r5, yr_t (by omega), yi_t (by omega), yr_t (by omega), yi_t (by omega), k20, eg7, yhb_s, f1 d (by omega), yci_s, if_neg (by omega), yr_t (by omega)]
  have X8 : FMM g g8 := F5.mm.trans (FMM.trans (by rw [← eg7]; exact (FMM.s (by omega)).trans (FMM.s (by omega))) f3.mm)
  have o8 : ∀ x i, x ≠ 107 → ¬ (x = 94 ∧ (i = 19 ∨ i = 20)) → y_I g8 x i = y_I g x i := fun x i q1 q2 => by
    rw [f3.o q2, ← eg7]
    simp (disch := omega) only [yI_sI_o]
    exact F5.o q2
  have q8 : y_I g8 107 (Int.toNat (3 * r)) = a ∧ y_I g8 107 (Int.toNat (3 * r + 1)) = b := by
    rw [f3.o (by omega), f3.o (by omega), ← eg7]
    simp (disch := omega) only [yI_sI_o, yI_sI_e]
    trivial
  have p8 : ∀ j : Int, 0 ≤ j → j < 3 * r → y_I g8 107 (Int.toNat j) = y_I g 107 (Int.toNat j) := fun j j1 j2 => by
    rw [f3.o (by omega), ← eg7]
    simp (disch := omega) only [yI_sI_o]
    exact F5.o (by omega)
  have fin : ∀ (g10 : y_Hp) (q : Int), MT L q g10 → FM g8 g10 → RS L q X → ∃ g' q' w', (∀ d o, 19 ≤ d → y_ev z_pg sc d pgX8_readsReader 131 [some (y_vr 94), some (y_vi 3), some (y_vi a), some (y_vi (3 * r)), some (y_vi 0), some (y_vi 1), o] [] (y_sI g10 107 (Int.toNat (3 * r + 2)) c) = some (some (y_vi 1), g')) ∧ QS L H W q' la (H 0) (r + 1) w' um g' ∧ FMM g g' ∧ rEnd L R H W r w' q' n := by
    intro g10 q M10 F10 hX
    generalize eg11 : y_sI g10 107 (Int.toNat (3 * r + 2)) c = g11
    have M11 := MT_w (g' := g11) (q := q) M10 (fun x y q => by rw [← eg11]; exact yI_sI_o (by omega)) (by rw [← eg11, yI_sI_o (by omega)]; exact M10.2.1)
    have o11 : ∀ x i, x ≠ 107 → ¬ (x = 94 ∧ (i = 19 ∨ i = 20)) → y_I g11 x i = y_I g x i := fun x i q1 q2 => by
      rw [← eg11, yI_sI_o (by omega), F10.o q2]; exact o8 x i q1 q2
    have S11 : QS L H W q la (H 0) r w um g11 := by
      refine ⟨M11, ⟨(o11 _ _ (by omega) (by omega)).trans e1, (o11 _ _ (by omega) (by omega)).trans e2, (o11 _ _ (by omega) (by omega)).trans e3, (o11 _ _ (by omega) (by omega)).trans e4, (o11 _ _ (by omega) (by omega)).trans e5, (o11 _ _ (by omega) (by omega)).trans e6⟩, qP_cg (fun i => o11 _ i (by omega) (by omega)) sP, fun t t1 t2 => ?_, qW_cg (fun i => o11 _ i (by omega) (by omega)) sW, qC_cg (fun i => o11 _ i (by omega) (by omega)) sC⟩
      have z : ∀ j : Int, 0 ≤ j → j < 3 * r → y_I g11 107 (Int.toNat j) = y_I g 107 (Int.toNat j) := fun j j1 j2 => by
        rw [← eg11, yI_sI_o (by omega), F10.o (by omega)]; exact p8 j j1 j2
      rw [z _ (by omega) (by omega), z _ (by omega) (by omega), z _ (by omega) (by omega)]
      exact sR t t1 t2
    have R11 : qR H (r + 1) g11 := fun t t1 t2 => by
      by_cases et : t = r
      · subst et
        refine ⟨?_, ?_, ?_⟩
        · rw [← eg11, yI_sI_o (by omega), F10.o (by omega), q8.1, ea]
        · rw [← eg11, yI_sI_o (by omega), F10.o (by omega), q8.2, eb]
        · rw [← eg11, yI_sI_e ⟨rfl, rfl⟩, ec]
      · exact S11.2.2.2.1 t t1 (by omega)
    have hM : rMask W r w 0 := fun x x1 x2 => by
      constructor
      · intro q; exact absurd q ub_0
      · rintro ⟨v, v1, v2, v3, -⟩
        have := hlt v v1 v2
        omega
    obtain ⟨g', q', w', z1, z2, z3, z4⟩ := l162w (sc := sc) K0 hL (v2 := a) (v3 := 3 * r) n w 0 q g11 hw hn er S11 R11 hM (by rw [eX]; exact hX)
    refine ⟨g', q', w', z1, z2, X8.trans (F10.mm.trans (FMM.trans ?_ z3)), z4⟩
    rw [← eg11]
    exact FMM.s (by omega)
  by_cases cc : c = 1
  · rw [if_pos cc] at f4
    obtain ⟨g10, j1, j2, j3, j4⟩ := k_sign (sc := sc) f2 hL f4
    obtain ⟨g', q', w', z1, z2, z3, z4⟩ := fin g10 _ j2 j3 j4
    refine ⟨g', q', w', fun d hd => ?_, z2, z3, z4⟩
    obtain ⟨d, rfl⟩ : ∃ e, d = e + 1 := ⟨d - 1, by omega⟩
    rw [st d hd, j1 d (by omega), yci_s, if_neg (by omega), yi_t (by omega), ← z1 d none (by omega), cc]
  · rw [if_neg cc] at f4
    have c0 : c = 0 := by omega
    have j1 := fun d hd => t_nos (sc := sc) (v := 33) d hd f2 hL f4 (by show X.headD 32 ≠ 33; rw [hhd]; omega)
    obtain ⟨g', q', w', z1, z2, z3, z4⟩ := fin g8 _ f2 FM.refl f4
    refine ⟨g', q', w', fun d hd => ?_, z2, z3, z4⟩
    obtain ⟨d, rfl⟩ : ∃ e, d = e + 1 := ⟨d - 1, by omega⟩
    rw [st d hd, j1 d (by omega), yci_s, if_pos rfl, yi_t (by omega), ← z1 d none (by omega), c0]
/-- an item's call goes -/
theorem l167_item {b : Int} {m : Nat} {g' : y_Hp} (M : MT L p g) (hL : L.length ≤ 110) (h : RS L p (b :: R)) (hb : (b = 109 ∧ m = 160) ∨ (b = 112 ∧ m = 161) ∨ (b = 114 ∧ m = 162) ∨ (b = 99 ∧ m = 165)) (c : ∀ d, 20 ≤ d → y_se z_pg sc d m [y_vr 94, y_vi 3] g = some (some (y_vi 1), g')) (d : Nat) (hd : 22 ≤ d) : y_ev z_pg sc d pgX8_faultOf 36 [some (y_vr 94), some (y_vi 3)] [] g = y_ev z_pg sc d pgX8_faultOf 36 [some (y_vr 94), some (y_vi 3)] [] g' := by
  have hp := RS_bd h
  have hpl : (b :: R).length = R.length + 1 := rfl
  have hb2 := (RS_nx h).1
  rw [b167_36, yi_t (by omega), M.2.1, M.1, if_pos (by omega), t_byte d (by omega) M (by omega), yci_s, hb2, if_neg (by omega)]
  obtain ⟨d, rfl⟩ : ∃ e, d = e + 1 := ⟨d - 1, by omega⟩
  rw [e166, b166_0, M.2.1, t_byte d (by omega) M (by omega), yci_s, hb2]
  have c := c d (by omega)
  rcases hb with ⟨rfl, rfl⟩ | ⟨rfl, rfl⟩ | ⟨rfl, rfl⟩ | ⟨rfl, rfl⟩
  · rw [if_neg (by omega), if_pos rfl, c, yci_s, yb_t (Or.inr rfl), yci_s, if_neg (by omega)]
  · rw [if_neg (by omega), if_neg (by omega), if_neg (by omega), if_pos rfl, c, yci_s, yb_t (Or.inr rfl), yci_s, if_neg (by omega)]
  · rw [if_neg (by omega), if_neg (by omega), if_neg (by omega), if_neg (by omega), if_pos rfl, c, yci_s, yb_t (Or.inr rfl), yci_s, if_neg (by omega)]
  · rw [if_pos rfl, c, yci_s, yb_t (Or.inr rfl), yci_s, if_neg (by omega)]
/-- what an end of reading is -/
def LE (sc : z_Sc) (g g' : y_Hp) : Prop := ∀ d, 22 ≤ d → y_ev z_pg sc d pgX8_faultOf 36 [some (y_vr 94), some (y_vi 3)] [] g = y_ev z_pg sc d pgX8_faultOf 36 [some (y_vr 94), some (y_vi 3)] [] g'
theorem l167_blank {la pm rm wm um : Int} : ∀ (n : Nat) (p : Int) (g : y_Hp), 0 ≤ p → p + n = 120 → (∀ q, p ≤ q → TL L q = 32) → QS L H W p la pm rm wm um g → ∃ g', (∀ d, 22 ≤ d → y_ev z_pg sc d pgX8_faultOf 36 [some (y_vr 94), some (y_vi 3)] [] g = some (some (y_vi (-9)), g')) ∧ QS L H W 120 la pm rm wm um g' ∧ FMM g g' := by
  intro n
  induction n with
  | zero =>
    intro p g hp hn hb S
    have ep : p = 120 := by omega
    subst ep
    refine ⟨g, fun d hd => ?_, S, FMM.rf⟩
    rw [b167_36, yi_t (by omega), S.1.2.1, S.1.1, if_neg (by omega)]
  | succ n ih =>
    intro p g hp hn hb S
    have S2 : QS L H W (p + 1) la pm rm wm um (y_sI g 94 19 (p + 1)) := by
      have o : ∀ x i, ¬ (x = 94 ∧ i = 19) → y_I (y_sI g 94 19 (p + 1)) x i = y_I g x i := fun x i q => yI_sI_o (by omega)
      obtain ⟨M, ⟨e1, e2, e3, e4, e5, e6⟩, sP, sR, sW, sC⟩ := S
      exact ⟨M.at _, ⟨(o _ _ (by omega)).trans e1, (o _ _ (by omega)).trans e2, (o _ _ (by omega)).trans e3, (o _ _ (by omega)).trans e4, (o _ _ (by omega)).trans e5, (o _ _ (by omega)).trans e6⟩, qP_cg (fun i => o _ i (by omega)) sP, qR_cg (fun i => o _ i (by omega)) sR, qW_cg (fun i => o _ i (by omega)) sW, qC_cg (fun i => o _ i (by omega)) sC⟩
    obtain ⟨g', a1, a2, a3⟩ := ih (p + 1) _ (by omega) (by omega) (fun q hq => hb q (by omega)) S2
    refine ⟨g', fun d hd => ?_, a2, (FMM.s (by omega)).trans a3⟩
    rw [b167_36, yi_t (by omega), S.1.2.1, S.1.1, if_pos (by omega), t_byte d (by omega) S.1 (by omega), yci_s, hb p (Int.le_refl _), if_pos rfl, S.1.2.1, yr_t (by omega), a1 d hd]
theorem l167_cush (K : NW H W) (hL : L.length ≤ 110) {la rm wm : Int} : ∀ (n : Nat) (k p : Int) (g : y_Hp), 0 ≤ k → k + n = H 5 → RS L p (rcush H k n) → QS L H W p la (H 0) rm wm k g → ∃ g' q, LE sc g g' ∧ QS L H W q la (H 0) rm wm (H 5) g' ∧ FMM g g' ∧ RS L q []
  | 0, k, p, g, hk, hn, h, S => ⟨g, p, fun d hd => rfl, by rw [show H 5 = k by omega]; exact S, FMM.rf, h⟩
  | n + 1, k, p, g, hk, hn, h, S => by
    obtain ⟨⟨k0, k1, k2, k3, k4, k5⟩, kP, kR, kW, kO, kU, kC⟩ := id K
    obtain ⟨c1, c2, c3⟩ := kC k hk (by omega)
    have hh : nfg ((rcush H (k + 1) n).headD 32) := by
      rcases n with _ | n
      · exact Or.inl (by show (32 : Int) < 48; omega)
      · exact Or.inr (by show (57 : Int) < 99; omega)
    obtain ⟨g1, q1, a1, a2, a3, a4⟩ := i_cush (sc := sc) (R := rcush H (k + 1) n) S hL (by omega) (by omega) c1 (by omega) h hh
    obtain ⟨g', q, b1, b2, b3, b4⟩ := l167_cush K hL n (k + 1) q1 g1 (by omega) (by omega) a4 a2
    exact ⟨g', q, fun d hd => (l167_item S.1 hL h (Or.inr (Or.inr (Or.inr ⟨rfl, rfl⟩))) a1 d hd).trans (b1 d hd), b2, a3.trans b3, b4⟩
theorem l167_rd (K : NW H W) (hL : L.length ≤ 110) {la um : Int} : ∀ (n : Nat) (r w p : Int) (g : y_Hp), 0 ≤ r → 0 ≤ w → w + (n + 1) = H 2 → W (Int.toNat (4 * w)) = r → (∀ v, 0 ≤ v → v < w → W (Int.toNat (4 * v)) < r) → RS L p (rhead H r ++ (rwants H W w (n + 1) ++ R)) → QS L H W p la (H 0) r w um g → ∃ g' q, LE sc g g' ∧ QS L H W q la (H 0) (H 1) (H 2) um g' ∧ FMM g g' ∧ RS L q R := by
  intro n
  induction n using Nat.strongRecOn with
  | ind n ih =>
    intro r w p g hr hw hn er hlt h S
    have hr2 := (K.2.2.2.1 w hw (by omega)).1
    obtain ⟨g1, q1, w1, a1, a2, a3, a4⟩ := i_reader (sc := sc) K hL S (by omega) hw hn er hlt h
    have st : LE sc g g1 := fun d hd => l167_item (R := _) S.1 hL h (Or.inr (Or.inr (Or.inl ⟨rfl, rfl⟩))) a1 d hd
    rcases a4 with ⟨e1, e2, e3⟩ | ⟨m, m1, m2, ⟨m3, m4⟩, m5, m6⟩
    · exact ⟨g1, q1, st, by rw [← e1, ← e2]; exact a2, a3, e3⟩
    · obtain ⟨g', q, b1, b2, b3, b4⟩ := ih m m1 (r + 1) w1 q1 g1 (by omega) (by omega) m2 m5 (fun v v1 v2 => by
        have := NW_mono K (w1 - 1 - v).toNat v (w1 - 1) v1 (by omega) (by omega)
        omega) m6 a2
      exact ⟨g', q, fun d hd => (st d hd).trans (b1 d hd), b2, a3.trans b3, b4⟩
theorem l167_part (K : NW H W) (hL : L.length ≤ 110) {la rm wm um : Int} (hR : okh (R.headD 32)) : ∀ (n : Nat) (k p : Int) (g : y_Hp), 0 ≤ k → k + n = H 0 → RS L p (rparts H k n ++ R) → QS L H W p la k rm wm um g → ∃ g' q, LE sc g g' ∧ QS L H W q la (H 0) rm wm um g' ∧ FMM g g' ∧ RS L q R
  | 0, k, p, g, hk, hn, h, S => ⟨g, p, fun d hd => rfl, by rw [show H 0 = k by omega]; exact S, FMM.rf, h⟩
  | n + 1, k, p, g, hk, hn, h, S => by
    obtain ⟨⟨k0, k1, k2, k3, k4, k5⟩, kP, kR, kW, kO, kU, kC⟩ := id K
    obtain ⟨c1, c2, c3⟩ := kP k hk (by omega)
    have hh : okh ((rparts H (k + 1) n ++ R).headD 32) := by
      rcases n with _ | n
      · exact hR
      · exact Or.inl rfl
    have h : RS L p ((rpart H k ++ rparts H (k + 1) n) ++ R) := h
    rw [List.append_assoc] at h
    obtain ⟨g1, q1, a1, a2, a3, a4⟩ := i_part (sc := sc) S hL (by omega) c1 c2 c3 h hh
    obtain ⟨g', q, b1, b2, b3, b4⟩ := l167_part K hL hR n (k + 1) q1 g1 (by omega) (by omega) a4 a2
    exact ⟨g', q, fun d hd => (l167_item (R := _) S.1 hL h (Or.inr (Or.inl ⟨rfl, rfl⟩)) a1 d hd).trans (b1 d hd), b2, a3.trans b3, b4⟩
theorem m_167 (K : NW H W) (t : TX (rhouse H W) g) (hL : (rhouse H W).length ≤ 110) : ∃ g', (∀ d, 23 ≤ d → y_se z_pg sc d 167 [y_vr 94, y_vi 3] g = some (some (y_vi (-9)), g')) ∧ QS (rhouse H W) H W 120 (H 3) (H 0) (H 1) (H 2) (H 5) g' ∧ FMM g g' := by
  obtain ⟨⟨k0, k1, k2, k3, k4, k5⟩, kP, kR, kW, kO, kU, kC⟩ := id K
  generalize eg0 : y_sI (y_sI (y_sI (y_sI (y_sI (y_sI (y_sI g 94 19 0) 94 21 60) 94 22 0) 94 23 0) 94 24 0) 94 25 0) 94 26 0 = g0
  have o0 : ∀ x i, ¬ (x = 94 ∧ 19 ≤ i ∧ i ≤ 26) → y_I g0 x i = y_I g x i := fun x i q => by
    rw [← eg0]
    simp (disch := omega) only [yI_sI_o]
  have S0 : QS (rhouse H W) H W 0 60 0 0 0 0 g0 := by
    refine ⟨⟨?_, ?_, fun i i1 i2 => ?_⟩, ⟨?_, ?_, ?_, ?_, ?_, ?_⟩, fun q q1 q2 => by omega, fun q q1 q2 => by omega, fun q q1 q2 => by omega, fun q q1 q2 => by omega⟩
    · rw [o0 _ _ (by omega)]; exact t.1
    · rw [← eg0]; simp (disch := omega) only [yI_sI_o, yI_sI_e]
    · rw [o0 _ _ (by omega), show Int.toNat (120 * 3 + i) = 360 + i.toNat by omega]
      exact t.2 i.toNat (by omega)
    all_goals (rw [← eg0]; simp (disch := omega) only [yI_sI_o, yI_sI_e])
  have X0 : FMM g g0 := ⟨fun x i q1 q2 => o0 x i q1, by rw [← eg0]; rfl⟩
  have h0 : RS (rhouse H W) 0 (rhouse H W) := RS_0
  have hR0 : okh ((rhead H 0 ++ (rwants H W 0 (H 2).toNat ++ rcush H 0 (H 5).toNat)).headD 32) := Or.inr (Or.inl rfl)
  have hR1 : okh ((rparts H 0 (H 0).toNat ++ (rhead H 0 ++ (rwants H W 0 (H 2).toNat ++ rcush H 0 (H 5).toNat))).headD 32) := by
    rw [show (H 0).toNat = ((H 0).toNat - 1) + 1 by omega]
    exact Or.inl rfl
  have h1 : RS (rhouse H W) 0 (109 :: (rnum (H 3) ++ (rparts H 0 (H 0).toNat ++ (rhead H 0 ++ (rwants H W 0 (H 2).toNat ++ rcush H 0 (H 5).toNat))))) := h0
  obtain ⟨g1, q1, a1, a2, a3, a4⟩ := i_last (sc := sc) S0 hL (by omega) h1 (okh_n hR1).1
  obtain ⟨g2, q2, b1, b2, b3, b4⟩ := l167_part (sc := sc) K hL hR0 (H 0).toNat 0 q1 g1 (by omega) (by omega) a4 a2
  have e2 : (H 2).toNat = ((H 2).toNat - 1) + 1 := by omega
  rw [e2] at b4
  obtain ⟨g3, q3, c1, c2, c3, c4⟩ := l167_rd (sc := sc) K hL ((H 2).toNat - 1) 0 0 q2 g2 (by omega) (by omega) (by omega) kO.1 (fun v v1 v2 => by omega) b4 b2
  obtain ⟨g4, q4, d1, d2, d3, d4⟩ := l167_cush (sc := sc) K hL (H 5).toNat 0 q3 g3 (by omega) (by omega) c4 c2
  have hq4 := RS_bd d4
  have hz : ((([] : List Int).length : Nat) : Int) = 0 := rfl
  obtain ⟨g5, f1, f2, f3⟩ := l167_blank (sc := sc) (120 - q4).toNat q4 g4 hq4.1 (by omega) (fun q hq => RS_nil d4 hq) d2
  refine ⟨g5, fun d hd => ?_, f2, X0.trans (a3.trans (b3.trans (c3.trans (d3.trans f3))))⟩
  obtain ⟨d, rfl⟩ : ∃ e, d = e + 1 := ⟨d - 1, by omega⟩
  rw [e167, b167_0, yhb_s, eg0, l167_item S0.1 hL h1 (Or.inl ⟨rfl, rfl⟩) a1 d (by omega), b1 d (by omega), c1 d (by omega), d1 d (by omega), f1 d (by omega)]
end TK
