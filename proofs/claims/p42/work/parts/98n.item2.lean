/-! items are read: cushions, wants, readers -/
section TK
variable {sc : z_Sc} {g : y_Hp} {L R : List Int} {p : Int} {H W : Nat → Int}
/-- a CUSHION -/
theorem i_cush {la pm rm wm k : Int} (S : QS L H W p la pm rm wm k g) (hL : L.length ≤ 110) (hk : 0 ≤ k ∧ k < 8) (hpm : 1 ≤ pm ∧ pm ≤ 6) (c1 : 0 ≤ H (Int.toNat (40 + 3 * k)) ∧ H (Int.toNat (40 + 3 * k)) < pm) (c2 : 0 ≤ H (Int.toNat (41 + 3 * k)) ∧ H (Int.toNat (41 + 3 * k)) ≤ H (Int.toNat (42 + 3 * k)) ∧ H (Int.toNat (42 + 3 * k)) ≤ 60) (h : RS L p ((99 :: (48 + H (Int.toNat (40 + 3 * k))) :: 64 :: (rnum (H (Int.toNat (41 + 3 * k))) ++ (45 :: rnum (H (Int.toNat (42 + 3 * k)))))) ++ R)) (hR : nfg (R.headD 32)) : ∃ g' q, (∀ d, 20 ≤ d → y_se z_pg sc d 165 [y_vr 94, y_vi 3] g = some (some (y_vi 1), g')) ∧ QS L H W q la pm rm wm (k + 1) g' ∧ FMM g g' ∧ RS L q R := by
  obtain ⟨M, ⟨e1, e2, e3, e4, e5, e6⟩, sP, sR, sW, sC⟩ := S
  have m2 := M.2.1
  generalize ea : H (Int.toNat (40 + 3 * k)) = a at c1 h
  generalize eb : H (Int.toNat (41 + 3 * k)) = b at c2 h
  generalize ec : H (Int.toNat (42 + 3 * k)) = c at c2 h
  have h : RS L p (99 :: (48 + a) :: 64 :: ((rnum b ++ (45 :: rnum c)) ++ R)) := h
  rw [List.append_assoc] at h
  have h : RS L p (99 :: (48 + a) :: 64 :: (rnum b ++ (45 :: (rnum c ++ R)))) := h
  have hp := RS_bd h
  have hpl : (99 :: (48 + a) :: 64 :: (rnum b ++ (45 :: (rnum c ++ R)))).length = 3 + (rnum b ++ (45 :: (rnum c ++ R))).length := by simp only [List.length_cons]; omega
  have h1 := (RS_nx h).2
  have e0 : y_I (y_sI g 94 19 (p + 1)) 94 26 = k := by rw [yI_sI_o (by omega)]; exact e6
  have e0p : y_I (y_sI g 94 19 (p + 1)) 94 22 = pm := by rw [yI_sI_o (by omega)]; exact e2
  obtain ⟨g1, a1, a2, a3, a4, a5⟩ := k_fig (sc := sc) (M.at (p + 1)) hL (lo := 0) (hi := pm - 1) (by omega) (by omega) h1
  have F1 : FM g g1 := FM.p.trans a3
  generalize eg3 : y_sI g1 110 (Int.toNat (3 * k)) a = g3
  have M3 : MT L (p + 1 + 1) g3 := MT_w a2 (fun x y q => by rw [← eg3]; exact yI_sI_o (by omega)) (by rw [← eg3, yI_sI_o (by omega)]; exact a2.2.1)
  obtain ⟨g4, b1, b2, b3, b4⟩ := k_sign (sc := sc) M3 hL a5
  obtain ⟨g6, d1, d2, d3, d4, d5⟩ := k_min (sc := sc) b2 hL (lo := 0) (hi := 60) (by omega) (by omega) b4 (fun _ => Or.inl (by show (45 : Int) < 48; omega))
  have F6 : FM g3 g6 := b3.trans d3
  generalize eg8 : y_sI g6 110 (Int.toNat (3 * k + 1)) b = g8
  have M8 := MT_w (g' := g8) (q := p + 1 + 1 + 1 + (rnum b).length) d2 (fun x y q => by rw [← eg8]; exact yI_sI_o (by omega)) (by rw [← eg8, yI_sI_o (by omega)]; exact d2.2.1)
  obtain ⟨g9, f1, f2, f3, f4⟩ := k_sign (sc := sc) M8 hL d5
  have r9 : y_I g9 110 (Int.toNat (3 * k + 1)) = b := by rw [f3.o (by omega), ← eg8, yI_sI_e ⟨rfl, rfl⟩]
  obtain ⟨gb, j1, j2, j3, j4, j5⟩ := k_min (sc := sc) f2 hL (lo := b) (hi := 60) (by omega) (by omega) f4 (fun _ => hR)
  have FB : FM g8 gb := f3.trans j3
  have o : ∀ x i, x ≠ 110 → ¬ (x = 94 ∧ (i = 19 ∨ i = 20)) → y_I gb x i = y_I g x i := fun x i q1 q2 => by
    rw [FB.o q2, ← eg8, yI_sI_o (by omega), F6.o q2, ← eg3, yI_sI_o (by omega), F1.o q2]
  have kb : y_I (y_sI gb 110 (Int.toNat (3 * k + 2)) c) 94 26 = k := by rw [yI_sI_o (by omega), o 94 26 (by omega) (by omega)]; exact e6
  have w0 : ∀ j : Int, 0 ≤ j → j < 3 * k → y_I gb 110 (Int.toNat j) = y_I g 110 (Int.toNat j) := fun j q1 q2 => by
    rw [FB.o (by omega), ← eg8, yI_sI_o (by omega), F6.o (by omega), ← eg3, yI_sI_o (by omega), F1.o (by omega)]
  refine ⟨y_sI (y_sI gb 110 (Int.toNat (3 * k + 2)) c) 94 26 (k + 1), _, fun d hd => ?_, ⟨MT_w j2 (fun x y q => by simp (disch := omega) only [yI_sI_o]) (by simp (disch := omega) only [yI_sI_o]; exact j2.2.1), ⟨?_, ?_, ?_, ?_, ?_, yI_sI_e ⟨rfl, rfl⟩⟩, qP_cg (fun i => ?_) sP, qR_cg (fun i => ?_) sR, qW_cg (fun i => ?_) sW, fun q q1 q2 => ?_⟩, ?_, j5⟩
  · obtain ⟨d, rfl⟩ : ∃ e, d = e + 1 := ⟨d - 1, by omega⟩
    rw [e165, b165_0, e6, if_neg (by omega), m2, yr_t (by omega), e0, yr_t (by omega), e0p, yr_t (by omega), a1 d (by omega), yci_s, if_neg (by omega), yi_t (by omega), a4, eg3, yhb_s, b1 d (by omega), yci_s, if_neg (by omega), d1 d (by omega), yci_s, if_neg (by omega), yr_t (by omega), yi_t (by omega), d4, eg8, yhb_s, f1 d (by omega), yci_s, if_neg (by omega), yr_t (by omega), yi_t (by omega), r9, j1 d (by omega), yci_s, if_neg (by omega), yr_t (by omega), yi_t (by omega), j4, yhb_s, kb, yr_t (by omega)]
  · simp (disch := omega) only [yI_sI_o]
    rw [o 94 21 (by omega) (by omega)]; exact e1
  · simp (disch := omega) only [yI_sI_o]
    rw [o 94 22 (by omega) (by omega)]; exact e2
  · simp (disch := omega) only [yI_sI_o]
    rw [o 94 23 (by omega) (by omega)]; exact e3
  · simp (disch := omega) only [yI_sI_o]
    rw [o 94 24 (by omega) (by omega)]; exact e4
  · simp (disch := omega) only [yI_sI_o]
    rw [o 94 25 (by omega) (by omega)]; exact e5
  · simp (disch := omega) only [yI_sI_o]
    exact o 106 i (by omega) (by omega)
  · simp (disch := omega) only [yI_sI_o]
    exact o 107 i (by omega) (by omega)
  · simp (disch := omega) only [yI_sI_o]
    exact o 108 i (by omega) (by omega)
  · by_cases eq : q = k
    · subst eq
      simp (disch := omega) only [yI_sI_o, yI_sI_e]
      refine ⟨?_, ?_, ec.symm⟩
      · rw [FB.o (by omega), ← eg8, yI_sI_o (by omega), F6.o (by omega), ← eg3, yI_sI_e ⟨rfl, rfl⟩, ea]
      · rw [FB.o (by omega), ← eg8, yI_sI_e ⟨rfl, rfl⟩, eb]
    · simp (disch := omega) only [yI_sI_o]
      rw [w0 _ (by omega) (by omega), w0 _ (by omega) (by omega), w0 _ (by omega) (by omega)]
      exact sC q q1 (by omega)
  · have X3 : FMM g g3 := F1.mm.trans (by rw [← eg3]; exact FMM.s (by omega))
    have X8 : FMM g g8 := X3.trans (F6.mm.trans (by rw [← eg8]; exact FMM.s (by omega)))
    exact X8.trans (FB.mm.trans ((FMM.s (by omega)).trans (FMM.s (by omega))))
/-- a WANT -/
theorem i_want {la pm um w r : Int} (S : QS L H W p la pm r w um g) (hL : L.length ≤ 110) (hw : 0 ≤ w ∧ w < 24) (er : W (Int.toNat (4 * w)) = r) (c1 : 0 ≤ W (Int.toNat (4 * w + 1)) ∧ W (Int.toNat (4 * w + 1)) ≤ 5) (c2 : 1 ≤ W (Int.toNat (4 * w + 2)) ∧ W (Int.toNat (4 * w + 2)) ≤ 6) (c3 : 1 ≤ W (Int.toNat (4 * w + 3)) ∧ W (Int.toNat (4 * w + 3)) ≤ 9) (h : RS L p (rwant W w ++ R)) : ∃ g' q, (∀ d, 18 ≤ d → y_se z_pg sc d 163 [y_vr 94, y_vi 3, y_vi (W (Int.toNat (4 * w + 1)))] g = some (some (y_vi 1), g')) ∧ QS L H W q la pm r (w + 1) um g' ∧ (∀ i, y_I g' 107 i = y_I g 107 i) ∧ FMM g g' ∧ RS L q R := by
  obtain ⟨M, ⟨e1, e2, e3, e4, e5, e6⟩, sP, sR, sW, sC⟩ := S
  have m2 := M.2.1
  unfold rwant at h
  generalize ea : W (Int.toNat (4 * w + 1)) = a at c1 h ⊢
  generalize eb : W (Int.toNat (4 * w + 2)) = b at c2 h
  generalize ec : W (Int.toNat (4 * w + 3)) = c at c3 h
  have h : RS L p ((48 + a) :: 42 :: ((rnum b ++ [61, 48 + c]) ++ R)) := h
  rw [List.append_assoc] at h
  have h : RS L p ((48 + a) :: 42 :: (rnum b ++ (61 :: (48 + c) :: R))) := h
  have hp := RS_bd h
  have hpl : ((48 + a) :: 42 :: (rnum b ++ (61 :: (48 + c) :: R))).length = 2 + (rnum b ++ (61 :: (48 + c) :: R)).length := by simp only [List.length_cons]; omega
  have h1 := (RS_nx h).2
  generalize eg0 : y_sI g 94 19 (p + 1) = g0
  have M0 : MT L (p + 1) g0 := by rw [← eg0]; exact M.at _
  have F0 : FM g g0 := by rw [← eg0]; exact FM.p
  have w0 : y_I g0 94 24 = w := (F0.o (by omega)).trans e4
  have r0 : y_I g0 94 23 = r := (F0.o (by omega)).trans e3
  generalize eg2 : y_sI (y_sI g0 108 (Int.toNat (4 * w)) r) 108 (Int.toNat (4 * w + 1)) a = g2
  have M2 : MT L (p + 1) g2 := MT_w M0 (fun x y q => by rw [← eg2]; simp (disch := omega) only [yI_sI_o]) (by rw [← eg2]; simp (disch := omega) only [yI_sI_o]; exact M0.2.1)
  obtain ⟨g4, b1, b2, b3, b4⟩ := k_sign (sc := sc) M2 hL h1
  obtain ⟨g5, d1, d2, d3, d4, d5⟩ := k_min (sc := sc) b2 hL (lo := 1) (hi := 20) (by omega) (by omega) b4 (fun _ => Or.inr (by show (57 : Int) < 61; omega))
  have F5 : FM g2 g5 := b3.trans d3
  generalize eg6 : y_sI g5 108 (Int.toNat (4 * w + 2)) b = g6
  have M6 := MT_w (g' := g6) (q := p + 1 + 1 + (rnum b).length) d2 (fun x y q => by rw [← eg6]; exact yI_sI_o (by omega)) (by rw [← eg6, yI_sI_o (by omega)]; exact d2.2.1)
  obtain ⟨g7, f1, f2, f3, f4⟩ := k_sign (sc := sc) M6 hL d5
  obtain ⟨g9, j1, j2, j3, j4, j5⟩ := k_fig (sc := sc) f2 hL (lo := 1) (hi := 9) (by omega) (by omega) f4
  have F9 : FM g6 g9 := f3.trans j3
  have o : ∀ x i, x ≠ 108 → ¬ (x = 94 ∧ (i = 19 ∨ i = 20)) → y_I g9 x i = y_I g x i := fun x i q1 q2 => by
    rw [F9.o q2, ← eg6, yI_sI_o (by omega), F5.o q2, ← eg2, yI_sI_o (by omega), yI_sI_o (by omega), F0.o q2]
  have k9 : y_I (y_sI g9 108 (Int.toNat (4 * w + 3)) c) 94 24 = w := by rw [yI_sI_o (by omega), o 94 24 (by omega) (by omega)]; exact e4
  have wo : ∀ j : Int, 0 ≤ j → j < 4 * w → y_I g9 108 (Int.toNat j) = y_I g 108 (Int.toNat j) := fun j q1 q2 => by
    rw [F9.o (by omega), ← eg6, yI_sI_o (by omega), F5.o (by omega), ← eg2, yI_sI_o (by omega), yI_sI_o (by omega), F0.o (by omega)]
  refine ⟨y_sI (y_sI g9 108 (Int.toNat (4 * w + 3)) c) 94 24 (w + 1), _, fun d hd => ?_, ⟨MT_w j2 (fun x y q => by simp (disch := omega) only [yI_sI_o]) (by simp (disch := omega) only [yI_sI_o]; exact j2.2.1), ⟨?_, ?_, ?_, yI_sI_e ⟨rfl, rfl⟩, ?_, ?_⟩, qP_cg (fun i => ?_) sP, qR_cg (fun i => ?_) sR, fun q q1 q2 => ?_, qC_cg (fun i => ?_) sC⟩, fun i => ?_, ?_, j5⟩
  · obtain ⟨d, rfl⟩ : ∃ e, d = e + 1 := ⟨d - 1, by omega⟩
    rw [e163, b163_0, m2, yr_t (by omega), eg0, w0, r0, yr_t (by omega), yi_t (by omega), yhb_s, yr_t (by omega), yi_t (by omega), eg2, b1 d (by omega), yci_s, if_neg (by omega), d1 d (by omega), yci_s, if_neg (by omega), yr_t (by omega), yi_t (by omega), d4, eg6, yhb_s, f1 d (by omega), yci_s, if_neg (by omega), j1 d (by omega), yci_s, if_neg (by omega), yr_t (by omega), yi_t (by omega), j4, yhb_s, k9, yr_t (by omega)]
  · simp (disch := omega) only [yI_sI_o]
    rw [o 94 21 (by omega) (by omega)]; exact e1
  · simp (disch := omega) only [yI_sI_o]
    rw [o 94 22 (by omega) (by omega)]; exact e2
  · simp (disch := omega) only [yI_sI_o]
    rw [o 94 23 (by omega) (by omega)]; exact e3
  · simp (disch := omega) only [yI_sI_o]
    rw [o 94 25 (by omega) (by omega)]; exact e5
  · simp (disch := omega) only [yI_sI_o]
    rw [o 94 26 (by omega) (by omega)]; exact e6
  · simp (disch := omega) only [yI_sI_o]
    exact o 106 i (by omega) (by omega)
  · simp (disch := omega) only [yI_sI_o]
    exact o 107 i (by omega) (by omega)
  · by_cases eq : q = w
    · subst eq
      simp (disch := omega) only [yI_sI_o, yI_sI_e]
      refine ⟨?_, ?_, ?_, ec.symm⟩
      · rw [F9.o (by omega), ← eg6, yI_sI_o (by omega), F5.o (by omega), ← eg2, yI_sI_o (by omega), yI_sI_e ⟨rfl, rfl⟩, er]
      · rw [F9.o (by omega), ← eg6, yI_sI_o (by omega), F5.o (by omega), ← eg2, yI_sI_e ⟨rfl, rfl⟩, ea]
      · rw [F9.o (by omega), ← eg6, yI_sI_e ⟨rfl, rfl⟩, eb]
    · simp (disch := omega) only [yI_sI_o]
      rw [wo _ (by omega) (by omega), wo _ (by omega) (by omega), wo _ (by omega) (by omega), wo _ (by omega) (by omega)]
      exact sW q q1 (by omega)
  · simp (disch := omega) only [yI_sI_o]
    exact o 110 i (by omega) (by omega)
  · simp (disch := omega) only [yI_sI_o]
    exact o 107 i (by omega) (by omega)
  · have X2 : FMM g g2 := F0.mm.trans (by rw [← eg2]; exact (FMM.s (by omega)).trans (FMM.s (by omega)))
    have X6 : FMM g g6 := X2.trans (F5.mm.trans (by rw [← eg6]; exact FMM.s (by omega)))
    exact X6.trans (F9.mm.trans ((FMM.s (by omega)).trans (FMM.s (by omega))))
/-- where a READER's wants end -/
def rEnd (L R : List Int) (H W : Nat → Int) (r w' q : Int) (n : Nat) : Prop := (w' = H 2 ∧ r + 1 = H 1 ∧ RS L q R) ∨ (∃ m : Nat, m < n ∧ w' + (m + 1) = H 2 ∧ (0 < w' ∧ W (Int.toNat (4 * (w' - 1))) = r) ∧ W (Int.toNat (4 * w')) = r + 1 ∧ RS L q (rhead H (r + 1) ++ (rwants H W w' (m + 1) ++ R)))
def rMask (W : Nat → Int) (r w v4 : Int) : Prop := ∀ q, 0 ≤ q → q < 32 → (u_bs v4 q ↔ ∃ v, 0 ≤ v ∧ v < w ∧ W (Int.toNat (4 * v)) = r ∧ W (Int.toNat (4 * v + 1)) = q)
theorem l162w (K : NW H W) (hL : L.length ≤ 110) {la um r v2 v3 : Int} : ∀ (n : Nat) (w v4 p : Int) (g : y_Hp), 0 ≤ w → w + (n + 1) = H 2 → W (Int.toNat (4 * w)) = r → QS L H W p la (H 0) r w um g → qR H (r + 1) g → rMask W r w v4 → RS L p (rwants H W w (n + 1) ++ R) → ∃ g' q w', (∀ d o, 19 ≤ d → y_ev z_pg sc d pgX8_readsReader 131 [some (y_vr 94), some (y_vi 3), some (y_vi v2), some (y_vi v3), some (y_vi v4), some (y_vi 1), o] [] g = some (some (y_vi 1), g')) ∧ QS L H W q la (H 0) (r + 1) w' um g' ∧ FMM g g' ∧ rEnd L R H W r w' q n := by
  intro n
  induction n with
  | zero =>
    intro w v4 p g hw hn er S hRr hM h
    obtain ⟨⟨k0, k1, k2, k3, k4, k5⟩, kP, kR, kW, kO, kU, kC⟩ := id K
    obtain ⟨c1, c2, c3, c4⟩ := kW w hw (by omega)
    have e1 : rwants H W w (0 + 1) ++ R = rwant W w ++ (41 :: R) := by
      show (rwant W w ++ [41]) ++ R = _
      rw [List.append_assoc]; rfl
    rw [e1] at h
    obtain ⟨g1, q1, a1, a2, a3, a4, a5⟩ := i_want (sc := sc) S hL (by omega) er (by omega) c3 c4 h
    have hd := RS_at h
    have hd2 : TL L p = 48 + W (Int.toNat (4 * w + 1)) := hd
    have hp := RS_bd h
    have hpl : 1 ≤ (rwant W w ++ (41 :: R)).length := by unfold rwant; simp
    have b1 := fun d hd => t_nos (sc := sc) (v := 44) d hd a2.1 hL a5 (by show (41 : Int) ≠ 44; omega)
    obtain ⟨g2, d1, d2, d3, d4⟩ := k_sign (sc := sc) a2.1 hL a5
    have nb : ¬ u_bs v4 (W (Int.toNat (4 * w + 1))) := fun q => by
      obtain ⟨v, v1, v2', v3', v4'⟩ := (hM _ (by omega) (by omega)).mp q
      have := kU v w v1 (by omega) hw (by omega) (v3'.trans er.symm) v4'
      omega
    have k23 : y_I g2 94 23 = r := (d3.o (by omega)).trans a2.2.1.2.2.1
    refine ⟨y_sI g2 94 23 (r + 1), _, w + 1, fun d o hdd => ?_, ⟨MT_w d2 (fun x y q => yI_sI_o (by omega)) (by rw [yI_sI_o (by omega)]; exact d2.2.1), ⟨?_, ?_, yI_sI_e ⟨rfl, rfl⟩, ?_, ?_, ?_⟩, qP_cg (fun i => ?_) a2.2.2.1, qR_cg (fun i => ?_) hRr, qW_cg (fun i => ?_) a2.2.2.2.2.1, qC_cg (fun i => ?_) a2.2.2.2.2.2⟩, a4.trans (d3.mm.trans (FMM.s (by omega))), Or.inl ⟨by omega, by have := kO.2.2; rw [show H 2 - 1 = w by omega, er] at this; omega, d4⟩⟩
    · rw [b162_131, if_neg (by omega), S.1.2.1, t_byte d (by omega) S.1 (by omega), yci_s, hd2, show 48 + W (Int.toNat (4 * w + 1)) - 48 = W (Int.toNat (4 * w + 1)) by omega, yr_t (by omega), S.2.1.2.1, yr_t (by omega), s136 d (by omega), yci_s, if_neg (by rw [bi_t (by omega)]; omega), s137 d (by omega) _ _ (by omega), yci_s, if_pos (bi_f nb), S.2.1.2.2.2.1, if_neg (by omega), a1 d (by omega), yci_s, if_neg (by omega), b1 d (by omega), yci_s, b162_131, if_pos rfl, d1 d (by omega), yci_s, if_neg (by omega), k23, yr_t (by have := kO.2.2; rw [show H 2 - 1 = w by omega, er] at this; omega)]
    · rw [yI_sI_o (by omega), d3.o (by omega)]; exact a2.2.1.1
    · rw [yI_sI_o (by omega), d3.o (by omega)]; exact a2.2.1.2.1
    · rw [yI_sI_o (by omega), d3.o (by omega)]; exact a2.2.1.2.2.2.1
    · rw [yI_sI_o (by omega), d3.o (by omega)]; exact a2.2.1.2.2.2.2.1
    · rw [yI_sI_o (by omega), d3.o (by omega)]; exact a2.2.1.2.2.2.2.2
    · rw [yI_sI_o (by omega), d3.o (by omega)]
    · rw [yI_sI_o (by omega), d3.o (by omega)]; exact a3 i
    · rw [yI_sI_o (by omega), d3.o (by omega)]
    · rw [yI_sI_o (by omega), d3.o (by omega)]
  | succ n ih =>
    intro w v4 p g hw hn er S hRr hM h
    obtain ⟨⟨k0, k1, k2, k3, k4, k5⟩, kP, kR, kW, kO, kU, kC⟩ := id K
    obtain ⟨c1, c2, c3, c4⟩ := kW w hw (by omega)
    have d1x := (kW (w + 1) (by omega) (by omega)).1
    have nx := kO.2.1 w hw (by omega)
    have nb : ¬ u_bs v4 (W (Int.toNat (4 * w + 1))) := fun q => by
      obtain ⟨v, v1, v2', v3', v4'⟩ := (hM _ (by omega) (by omega)).mp q
      have := kU v w v1 (by omega) hw (by omega) (v3'.trans er.symm) v4'
      omega
    by_cases cs : W (Int.toNat (4 * (w + 1))) = W (Int.toNat (4 * w))
    · have e1 : rwants H W w (n + 1 + 1) ++ R = rwant W w ++ (44 :: (rwants H W (w + 1) (n + 1) ++ R)) := by
        show (rwant W w ++ (if n + 1 = 0 then [41] else _)) ++ R = _
        rw [if_neg (by omega), if_pos cs, List.append_assoc]; rfl
      rw [e1] at h
      obtain ⟨g1, q1, a1, a2, a3, a4, a5⟩ := i_want (sc := sc) S hL (by omega) er (by omega) c3 c4 h
      have hd2 : TL L p = 48 + W (Int.toNat (4 * w + 1)) := RS_at h
      have hp := RS_bd h
      have hpl : 1 ≤ (rwant W w ++ (44 :: (rwants H W (w + 1) (n + 1) ++ R))).length := by unfold rwant; simp
      obtain ⟨g2, d1, d2, d3, d4⟩ := k_sign (sc := sc) a2.1 hL a5
      have S2 : QS L H W (q1 + 1) la (H 0) r (w + 1) um g2 := ⟨d2, ⟨(d3.o (by omega)).trans a2.2.1.1, (d3.o (by omega)).trans a2.2.1.2.1, (d3.o (by omega)).trans a2.2.1.2.2.1, (d3.o (by omega)).trans a2.2.1.2.2.2.1, (d3.o (by omega)).trans a2.2.1.2.2.2.2.1, (d3.o (by omega)).trans a2.2.1.2.2.2.2.2⟩, qP_cg (fun i => d3.o (by omega)) a2.2.2.1, qR_cg (fun i => d3.o (by omega)) a2.2.2.2.1, qW_cg (fun i => d3.o (by omega)) a2.2.2.2.2.1, qC_cg (fun i => d3.o (by omega)) a2.2.2.2.2.2⟩
      have hM2 : rMask W r (w + 1) (y_or v4 (y_shl 1 (W (Int.toNat (4 * w + 1))))) := fun q q1 q2 => by
        rw [ub_or, hM q q1 q2, ub_shl (by omega) (by omega)]
        constructor
        · rintro (⟨v, v1, v2', v3', v4'⟩ | e)
          · exact ⟨v, v1, by omega, v3', v4'⟩
          · exact ⟨w, hw, by omega, er, e.symm⟩
        · rintro ⟨v, v1, v2', v3', v4'⟩
          by_cases ev : v = w
          · subst ev; exact Or.inr v4'.symm
          · exact Or.inl ⟨v, v1, by omega, v3', v4'⟩
      obtain ⟨g', q, w', b1, b2, b3, b4⟩ := ih (w + 1) (y_or v4 (y_shl 1 (W (Int.toNat (4 * w + 1))))) _ g2 (by omega) (by omega) (cs.trans er) S2 (qR_cg (fun i => (d3.o (by omega)).trans (a3 i)) hRr) hM2 d4
      refine ⟨g', q, w', fun d o hdd => ?_, b2, a4.trans (d3.mm.trans b3), ?_⟩
      · rw [b162_131, if_neg (by omega), S.1.2.1, t_byte d (by omega) S.1 (by omega), yci_s, hd2, show 48 + W (Int.toNat (4 * w + 1)) - 48 = W (Int.toNat (4 * w + 1)) by omega, yr_t (by omega), S.2.1.2.1, yr_t (by omega), s136 d (by omega), yci_s, if_neg (by rw [bi_t (by omega)]; omega), s137 d (by omega) _ _ (by omega), yci_s, if_pos (bi_f nb), S.2.1.2.2.2.1, if_neg (by omega), a1 d (by omega), yci_s, if_neg (by omega), d1 d (by omega), yci_s, b1 d _ hdd]
      · rcases b4 with b4 | ⟨m, m1, m2⟩
        · exact Or.inl b4
        · exact Or.inr ⟨m, by omega, m2⟩
    · have er1 : W (Int.toNat (4 * (w + 1))) = r + 1 := by omega
      have e1 : rwants H W w (n + 1 + 1) ++ R = rwant W w ++ (41 :: (rhead H (r + 1) ++ (rwants H W (w + 1) (n + 1) ++ R))) := by
        show (rwant W w ++ (if n + 1 = 0 then [41] else _)) ++ R = _
        rw [if_neg (by omega), if_neg cs, er1, List.append_assoc]
        show rwant W w ++ (41 :: ((rhead H (r + 1) ++ rwants H W (w + 1) (n + 1)) ++ R)) = _
        rw [List.append_assoc]
      rw [e1] at h
      obtain ⟨g1, q1, a1, a2, a3, a4, a5⟩ := i_want (sc := sc) S hL (by omega) er (by omega) c3 c4 h
      have hd2 : TL L p = 48 + W (Int.toNat (4 * w + 1)) := RS_at h
      have hp := RS_bd h
      have hpl : 1 ≤ (rwant W w ++ (41 :: (rhead H (r + 1) ++ (rwants H W (w + 1) (n + 1) ++ R)))).length := by unfold rwant; simp
      have b1 := fun d hd => t_nos (sc := sc) (v := 44) d hd a2.1 hL a5 (by show (41 : Int) ≠ 44; omega)
      obtain ⟨g2, d1, d2, d3, d4⟩ := k_sign (sc := sc) a2.1 hL a5
      have k23 : y_I g2 94 23 = r := (d3.o (by omega)).trans a2.2.1.2.2.1
      refine ⟨y_sI g2 94 23 (r + 1), _, w + 1, fun d o hdd => ?_, ⟨MT_w d2 (fun x y q => yI_sI_o (by omega)) (by rw [yI_sI_o (by omega)]; exact d2.2.1), ⟨?_, ?_, yI_sI_e ⟨rfl, rfl⟩, ?_, ?_, ?_⟩, qP_cg (fun i => ?_) a2.2.2.1, qR_cg (fun i => ?_) hRr, qW_cg (fun i => ?_) a2.2.2.2.2.1, qC_cg (fun i => ?_) a2.2.2.2.2.2⟩, a4.trans (d3.mm.trans (FMM.s (by omega))), Or.inr ⟨n, by omega, by omega, ⟨by omega, by rw [show w + 1 - 1 = w by omega]; exact er⟩, er1, d4⟩⟩
      · rw [b162_131, if_neg (by omega), S.1.2.1, t_byte d (by omega) S.1 (by omega), yci_s, hd2, show 48 + W (Int.toNat (4 * w + 1)) - 48 = W (Int.toNat (4 * w + 1)) by omega, yr_t (by omega), S.2.1.2.1, yr_t (by omega), s136 d (by omega), yci_s, if_neg (by rw [bi_t (by omega)]; omega), s137 d (by omega) _ _ (by omega), yci_s, if_pos (bi_f nb), S.2.1.2.2.2.1, if_neg (by omega), a1 d (by omega), yci_s, if_neg (by omega), b1 d (by omega), yci_s, b162_131, if_pos rfl, d1 d (by omega), yci_s, if_neg (by omega), k23, yr_t (by omega)]
      · rw [yI_sI_o (by omega), d3.o (by omega)]; exact a2.2.1.1
      · rw [yI_sI_o (by omega), d3.o (by omega)]; exact a2.2.1.2.1
      · rw [yI_sI_o (by omega), d3.o (by omega)]; exact a2.2.1.2.2.2.1
      · rw [yI_sI_o (by omega), d3.o (by omega)]; exact a2.2.1.2.2.2.2.1
      · rw [yI_sI_o (by omega), d3.o (by omega)]; exact a2.2.1.2.2.2.2.2
      · rw [yI_sI_o (by omega), d3.o (by omega)]
      · rw [yI_sI_o (by omega), d3.o (by omega)]; exact a3 i
      · rw [yI_sI_o (by omega), d3.o (by omega)]
      · rw [yI_sI_o (by omega), d3.o (by omega)]
end TK
