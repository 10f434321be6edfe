/-! READING A HOUSE, the call house -/
/-- the draft's rows copied as far as k -/
def CP (k : Int) (g h : y_Hp) : Prop := (∀ j, j < Int.toNat k → y_I h 103 j = y_I g 108 j) ∧ (∀ j, j < Int.toNat k → j < 18 → y_I h 101 j = y_I g 106 j) ∧ (∀ j, j < Int.toNat k → j < 24 → y_I h 102 j = y_I g 107 j) ∧ (∀ j, j < Int.toNat k → j < 24 → y_I h 104 j = y_I g 109 j) ∧ (∀ j, j < Int.toNat k → j < 24 → y_I h 105 j = y_I g 110 j) ∧ (∀ j, j < Int.toNat k → j < 24 → y_I h 111 j = -9) ∧ (∀ a j, ¬ (a = 103 ∧ j < Int.toNat k) → ¬ (a = 101 ∧ j < Int.toNat k ∧ j < 18) → ¬ ((a = 102 ∨ a = 104 ∨ a = 105 ∨ a = 111) ∧ j < Int.toNat k ∧ j < 24) → y_I h a j = y_I g a j) ∧ h.2 = g.2
section HO
variable {sc : z_Sc} {h g : y_Hp} {b : Nat} {t n : Int}
theorem hv_dv {h g : y_Hp} (e94 : ∀ k, 8 ≤ k → k ≤ 13 → y_I h 94 k = y_I g 94 (k + 13)) (e1 : ∀ k, y_I h 101 k = if k < 18 then y_I g 106 k else y_I g 101 k) (e2 : ∀ k, y_I h 102 k = if k < 24 then y_I g 107 k else y_I g 102 k) (e3 : ∀ k, y_I h 103 k = if k < 96 then y_I g 108 k else y_I g 103 k) (e4 : ∀ k, y_I h 104 k = if k < 24 then y_I g 109 k else y_I g 104 k) (e5 : ∀ k, y_I h 105 k = if k < 24 then y_I g 110 k else y_I g 105 k) : hv h = dv g := by
  have k94 : hv h 94 = dv g 94 := by
    funext k
    by_cases z : 8 ≤ k ∧ k ≤ 13
    · rcases (show k = 8 ∨ k = 9 ∨ k = 10 ∨ k = 11 ∨ k = 12 ∨ k = 13 by omega) with rfl | rfl | rfl | rfl | rfl | rfl
      · exact e94 8 (by omega) (by omega)
      · exact e94 9 (by omega) (by omega)
      · exact e94 10 (by omega) (by omega)
      · exact e94 11 (by omega) (by omega)
      · exact e94 12 (by omega) (by omega)
      · exact e94 13 (by omega) (by omega)
    · rcases k with _ | _ | _ | _ | _ | _ | _ | _ | _ | _ | _ | _ | _ | _ | k
      all_goals first
        | rfl
        | (exfalso; omega)
  funext a
  by_cases z : a = 94
  · subst z
    exact k94
  · by_cases z : 101 ≤ a ∧ a ≤ 105
    · rcases (show a = 101 ∨ a = 102 ∨ a = 103 ∨ a = 104 ∨ a = 105 by omega) with rfl | rfl | rfl | rfl | rfl
      · exact funext e1
      · exact funext e2
      · exact funext e3
      · exact funext e4
      · exact funext e5
    · unfold hv dv
      split
      all_goals first
        | (exfalso; omega)
        | skip
      split
      all_goals first
        | (exfalso; omega)
        | rfl
theorem CP_a {k : Int} {g h : y_Hp} (C : CP k g h) (hk : 0 ≤ k ∧ k < 96) : CP (k + 1) g (if k < 18 then y_sI (y_sI (y_sI (y_sI (y_sI (y_sI h 103 (Int.toNat k) (y_I g 108 (Int.toNat k))) 101 (Int.toNat k) (y_I g 106 (Int.toNat k))) 102 (Int.toNat k) (y_I g 107 (Int.toNat k))) 104 (Int.toNat k) (y_I g 109 (Int.toNat k))) 105 (Int.toNat k) (y_I g 110 (Int.toNat k))) 111 (Int.toNat k) (-9) else if k < 24 then y_sI (y_sI (y_sI (y_sI (y_sI h 103 (Int.toNat k) (y_I g 108 (Int.toNat k))) 102 (Int.toNat k) (y_I g 107 (Int.toNat k))) 104 (Int.toNat k) (y_I g 109 (Int.toNat k))) 105 (Int.toNat k) (y_I g 110 (Int.toNat k))) 111 (Int.toNat k) (-9) else y_sI h 103 (Int.toNat k) (y_I g 108 (Int.toNat k))) := by
  obtain ⟨c1, c2, c3, c4, c5, c6, c7, c8⟩ := C
  by_cases z1 : k < 18
  · rw [if_pos z1]
    refine ⟨fun j a => ?_, fun j a b => ?_, fun j a b => ?_, fun j a b => ?_, fun j a b => ?_, fun j a b => ?_, fun a j d1 d2 d3 => ?_, c8⟩
    · by_cases e : j = Int.toNat k
      · simp (disch := omega) only [yI_sI_o, yI_sI_e]; rw [e]
      · simp (disch := omega) only [yI_sI_o]; exact c1 j (by omega)
    · by_cases e : j = Int.toNat k
      · simp (disch := omega) only [yI_sI_o, yI_sI_e]; rw [e]
      · simp (disch := omega) only [yI_sI_o]; exact c2 j (by omega) b
    · by_cases e : j = Int.toNat k
      · simp (disch := omega) only [yI_sI_o, yI_sI_e]; rw [e]
      · simp (disch := omega) only [yI_sI_o]; exact c3 j (by omega) b
    · by_cases e : j = Int.toNat k
      · simp (disch := omega) only [yI_sI_o, yI_sI_e]; rw [e]
      · simp (disch := omega) only [yI_sI_o]; exact c4 j (by omega) b
    · by_cases e : j = Int.toNat k
      · simp (disch := omega) only [yI_sI_o, yI_sI_e]; rw [e]
      · simp (disch := omega) only [yI_sI_o]; exact c5 j (by omega) b
    · by_cases e : j = Int.toNat k
      · simp (disch := omega) only [yI_sI_e]
      · simp (disch := omega) only [yI_sI_o]; exact c6 j (by omega) b
    · simp (disch := omega) only [yI_sI_o]; exact c7 a j (by omega) (by omega) (by omega)
  · rw [if_neg z1]
    by_cases z2 : k < 24
    · rw [if_pos z2]
      refine ⟨fun j a => ?_, fun j a b => ?_, fun j a b => ?_, fun j a b => ?_, fun j a b => ?_, fun j a b => ?_, fun a j d1 d2 d3 => ?_, c8⟩
      · by_cases e : j = Int.toNat k
        · simp (disch := omega) only [yI_sI_o, yI_sI_e]; rw [e]
        · simp (disch := omega) only [yI_sI_o]; exact c1 j (by omega)
      · simp (disch := omega) only [yI_sI_o]; exact c2 j (by omega) b
      · by_cases e : j = Int.toNat k
        · simp (disch := omega) only [yI_sI_o, yI_sI_e]; rw [e]
        · simp (disch := omega) only [yI_sI_o]; exact c3 j (by omega) b
      · by_cases e : j = Int.toNat k
        · simp (disch := omega) only [yI_sI_o, yI_sI_e]; rw [e]
        · simp (disch := omega) only [yI_sI_o]; exact c4 j (by omega) b
      · by_cases e : j = Int.toNat k
        · simp (disch := omega) only [yI_sI_o, yI_sI_e]; rw [e]
        · simp (disch := omega) only [yI_sI_o]; exact c5 j (by omega) b
      · by_cases e : j = Int.toNat k
        · simp (disch := omega) only [yI_sI_e]
        · simp (disch := omega) only [yI_sI_o]; exact c6 j (by omega) b
      · simp (disch := omega) only [yI_sI_o]; exact c7 a j (by omega) (by omega) (by omega)
    · rw [if_neg z2]
      refine ⟨fun j a => ?_, fun j a b => ?_, fun j a b => ?_, fun j a b => ?_, fun j a b => ?_, fun j a b => ?_, fun a j d1 d2 d3 => ?_, c8⟩
      · by_cases e : j = Int.toNat k
        · simp (disch := omega) only [yI_sI_e]; rw [e]
        · simp (disch := omega) only [yI_sI_o]; exact c1 j (by omega)
      · simp (disch := omega) only [yI_sI_o]; exact c2 j (by omega) b
      · simp (disch := omega) only [yI_sI_o]; exact c3 j (by omega) b
      · simp (disch := omega) only [yI_sI_o]; exact c4 j (by omega) b
      · simp (disch := omega) only [yI_sI_o]; exact c5 j (by omega) b
      · simp (disch := omega) only [yI_sI_o]; exact c6 j (by omega) b
      · simp (disch := omega) only [yI_sI_o]; exact c7 a j (by omega) (by omega) (by omega)
theorem l169 (t : Int) (g : y_Hp) : ∀ (m : Nat) (k : Int) (h : y_Hp), 0 ≤ k → k + m = 96 → CP k g h → ∃ h', CP 96 g h' ∧ ∀ d, y_ev z_pg sc d pgX8_house 87 [some (y_vr 94), some (y_vi t), some (y_vi k)] [] h = y_ev z_pg sc d pgX8_house 181 [some (y_vr 94), some (y_vi t), some (y_vi 0)] [] h'
  | 0, k, h, hk, hm, C => by
    have e : k = 96 := by omega
    subst e
    refine ⟨h, C, fun d => ?_⟩
    rw [b169_87, if_neg (by omega)]
  | m + 1, k, h, hk, hm, C => by
    obtain ⟨h', C', e⟩ := l169 t g m (k + 1) _ (by omega) (by omega) (CP_a C (by omega))
    refine ⟨h', C', fun d => ?_⟩
    rw [← e d, b169_87, if_pos (by omega), yi_t (by omega), yi_t (by omega)]
    obtain ⟨c1, c2, c3, c4, c5, c6, c7, c8⟩ := C
    have g1 := c7 108 (Int.toNat k) (by omega) (by omega) (by omega)
    have g2 := c7 106 (Int.toNat k) (by omega) (by omega) (by omega)
    have g3 := c7 107 (Int.toNat k) (by omega) (by omega) (by omega)
    have g4 := c7 109 (Int.toNat k) (by omega) (by omega) (by omega)
    have g5 := c7 110 (Int.toNat k) (by omega) (by omega) (by omega)
    by_cases z1 : k < 18
    · simp (disch := omega) only [if_pos, yi_t, yr_t, yhb_s, yI_sI_o, g1, g2, g3, g4, g5]
    · by_cases z2 : k < 24
      · simp (disch := omega) only [if_pos, if_neg, yi_t, yr_t, yhb_s, yI_sI_o, g1, g2, g3, g4, g5]
      · simp (disch := omega) only [if_neg, yi_t, yr_t, yhb_s, yI_sI_o, g1, g2, g3, g4, g5]
theorem l169b (t : Int) (g : y_Hp) (d : Nat) : ∀ (m : Nat) (k : Int), 0 ≤ k → k + m = 6 → y_ev z_pg sc d pgX8_house 181 [some (y_vr 94), some (y_vi t), some (y_vi k)] [] (y_fill g 112 0 (Int.toNat k) (fun _ => 0)) = some (some (y_vi (y_I g 94 11)), y_fill g 112 0 6 (fun _ => 0))
  | 0, k, hk, hm => by
    have e : k = 6 := by omega
    subst e
    rw [b169_181, if_neg (by omega), yI_fill_o (by omega)]
    rfl
  | m + 1, k, hk, hm => by
    have := l169b t g d m (k + 1) (by omega) (by omega)
    rw [show Int.toNat (k + 1) = Int.toNat k + 1 by omega] at this
    rw [b169_181, if_pos (by omega), yi_t (by omega), yr_t (by omega), y_fill_s (Nat.zero_le _) rfl, this]
/-- rules' kinds, as far as k -/
def CK (k : Int) (g h : y_Hp) : Prop := (∀ j, j < Int.toNat k → y_I h (25 + 2 * j) 0 = 0) ∧ (∀ a j, ¬ (25 ≤ a ∧ a ≤ 36) → y_I h a j = y_I g a j) ∧ h.2 = g.2
theorem yRk {k : Int} {x : y_O} (hk : 0 ≤ k ∧ k < 6) : y_kt (25 + 2 * Int.toNat k) 4 x = x := by
  rcases (show k = 0 ∨ k = 1 ∨ k = 2 ∨ k = 3 ∨ k = 4 ∨ k = 5 by omega) with rfl | rfl | rfl | rfl | rfl | rfl <;> rfl
theorem l96 (t : Int) (g : y_Hp) (p2 : Nat) (hb : y_F g 2 10 = b) (hh : b = 62 ∨ b = 78) : ∀ (m : Nat) (k : Int) (h : y_Hp), 0 ≤ k → k + m = 6 → CK k g h → ∃ h', CK 6 g h' ∧ ∀ d, y_ev z_pg sc d pgX7_house 94 [some (y_vr 2), some (y_vi t), some (y_vr p2), some (y_vi k)] [] h = some (some (y_vi (y_I g b 3)), h')
  | 0, k, h, hk, hm, C => by
    have e : k = 6 := by omega
    subst e
    refine ⟨h, C, fun d => ?_⟩
    have eF : y_F h 2 10 = b := by unfold y_F; rw [C.2.2]; exact hb
    rw [b96_94, if_neg (by omega), eF, yH0 hh, C.2.1 _ _ (by omega)]
  | m + 1, k, h, hk, hm, C => by
    obtain ⟨h', C', e⟩ := l96 t g p2 hb hh m (k + 1) (y_sI h (25 + 2 * Int.toNat k) 0 0) (by omega) (by omega) ⟨fun j a => by
      by_cases e : j = Int.toNat k
      · rw [yI_sI_e (by omega)]
      · rw [yI_sI_o (by omega)]; exact C.1 j (by omega), fun a j z => by
      rw [yI_sI_o (by omega)]; exact C.2.1 a j z, C.2.2⟩
    refine ⟨h', C', fun d => ?_⟩
    rw [← e d, b96_94, if_pos (by omega), yi_t (by omega), yRk (by omega), yr_t (by omega)]
theorem o_house {N : Nat} (I : INV N h) (hN : N ≤ 1000) (t : Int) : OP sc 96 169 [y_vr 2, y_vi t] [y_vr 94, y_vi t] N h := by
  have II := I
  obtain ⟨a, ⟨hF, hD, X, hg⟩, i2, i3, i4, i5, i6⟩ := I
  have ha := X.1
  by_cases c1 : 0 ≤ t ∧ t ≤ 3
  · obtain ⟨j1, j2, j3⟩ := i3 t c1.1 (by omega)
    by_cases c2 : y_I h 99 (Int.toNat t) = -1
    · refine OP_fd II hN 1 (by omega) (fun d hd => ?_) (fun d hd => ?_)
      · rw [e96, b96_0, s79b d (by omega), yci_s, if_neg (by rw [bi_t c1]; omega), s80b d (by omega) t (by omega), yci_s, if_neg (by rw [bi_t (j1.trans c2)]; omega)]
      · rw [e169, b169_0, s153 d (by omega), yci_s, if_neg (by rw [bi_t c1]; omega), yi_t (by omega), xfd_o (by omega) (by omega), if_pos (by omega)]
    · obtain ⟨u, hA, a0, a1, a2, a3⟩ := K_all (b := 140 - a) sc h (t := t) (by omega) (by omega) (by omega) i3 rfl
      by_cases c3 : u = -9
      · subst c3
        generalize eb : 140 - a = b at *
        have hb : b = 62 ∨ b = 78 := by omega
        have FA10 : y_F hA 2 10 = a := by rw [a2.2.1 _ _ (by omega)]; exact hF
        have FA11 : y_F hA 2 11 = b := by rw [a2.2.1 _ _ (by omega)]; exact hD
        generalize eB : y_fill (y_sF (y_sF hA 2 11 a) 2 10 b) 21 0 24 (fun _ => -9) = hB
        have FB10 : y_F hB 2 10 = b := by
          rw [← eB, yF_fill, yF_sF, if_pos ⟨rfl, rfl⟩]
        have FB11 : y_F hB 2 11 = a := by
          rw [← eB, yF_fill, yF_sF, if_neg (by omega), yF_sF, if_pos ⟨rfl, rfl⟩]
        have BI : ∀ c k, c ≠ 21 → y_I hB c k = y_I hA c k := fun c k z => by
          rw [← eB, yI_fill_o (by omega)]
          rfl
        have BJ : ∀ c k, y_J hB c k = y_J hA c k := fun c k => by
          rw [← eB]
          rfl
        have B21 : ∀ k, k < 24 → y_I hB 21 k = -9 := fun k z => by rw [← eB, yI_fill_e (by omega)]
        obtain ⟨h1, C6, l6⟩ := l96 (sc := sc) t hB b FB10 hb 6 0 hB (by omega) (by omega) ⟨fun j z => by omega, fun a j z => rfl, rfl⟩
        have h1o : ∀ c k, c ≠ 19 → ¬ (b ≤ c ∧ c ≤ b + 15) → c ≠ 21 → ¬ (25 ≤ c ∧ c ≤ 36) → y_I h1 c k = y_I h c k := fun c k z1 z2 z3 z4 => by
          rw [C6.2.1 c k z4, BI c k z3, a2.1 c k z1 z2]
        obtain ⟨g1, m1, m2, m3⟩ := a3 h1 (h1o _ _ (by omega) (by omega) (by omega) (by omega)) (fun i _ _ => h1o _ _ (by omega) (by omega) (by omega) (by omega))
        have D := m3 rfl
        have b3 : y_I hA b 3 = y_I g1 94 24 := D.1.2.2.2.2.1
        generalize eG : y_sI (y_sI (y_sI (y_sI (y_sI (y_sI g1 94 8 (y_I g1 94 21)) 94 9 (y_I g1 94 22)) 94 10 (y_I g1 94 23)) 94 11 (y_I g1 94 24)) 94 12 (y_I g1 94 25)) 94 13 (y_I g1 94 26) = g2
        have G2o : ∀ c k, ¬ (c = 94 ∧ 8 ≤ k ∧ k ≤ 13) → y_I g2 c k = y_I g1 c k := fun c k z => by
          rw [← eG]
          simp (disch := omega) only [yI_sI_o]
        have G2e : ∀ k, 8 ≤ k → k ≤ 13 → y_I g2 94 k = y_I g1 94 (k + 13) := fun k z1 z2 => by
          rw [← eG]
          rcases (show k = 8 ∨ k = 9 ∨ k = 10 ∨ k = 11 ∨ k = 12 ∨ k = 13 by omega) with rfl | rfl | rfl | rfl | rfl | rfl <;> simp (disch := omega) only [yI_sI_o, yI_sI_e]
        obtain ⟨g3, C9, l9⟩ := l169 (sc := sc) t g2 96 0 g2 (by omega) (by omega) ⟨fun j z => by omega, fun j z => by omega, fun j z => by omega, fun j z => by omega, fun j z => by omega, fun j z => by omega, fun a j z1 z2 z3 => rfl, rfl⟩
        obtain ⟨k1, k2, k3, k4, k5, k6, k7, k8⟩ := C9
        have l181 := fun d => l169b (sc := sc) t g3 d 6 0 (by omega) (by omega)
        rw [show Int.toNat 0 = 0 from rfl, y_fill_0] at l181
        have g3o : ∀ c k, c ≠ 112 → y_I (y_fill g3 112 0 6 (fun _ => 0)) c k = y_I g3 c k := fun c k z => yI_fill_o (by omega)
        have hvd : hv (y_fill g3 112 0 6 (fun _ => 0)) = dv g1 := by
          refine hv_dv (fun k z1 z2 => ?_) (fun k => ?_) (fun k => ?_) (fun k => ?_) (fun k => ?_) (fun k => ?_)
          · rw [g3o _ _ (by omega), k7 _ _ (by omega) (by omega) (by omega), G2e k z1 z2]
          · rw [g3o _ _ (by omega)]
            by_cases z : k < 18
            · rw [if_pos z, k2 k (by omega) z, G2o _ _ (by omega)]
            · rw [if_neg z, k7 _ _ (by omega) (by omega) (by omega), G2o _ _ (by omega)]
          · rw [g3o _ _ (by omega)]
            by_cases z : k < 24
            · rw [if_pos z, k3 k (by omega) z, G2o _ _ (by omega)]
            · rw [if_neg z, k7 _ _ (by omega) (by omega) (by omega), G2o _ _ (by omega)]
          · rw [g3o _ _ (by omega)]
            by_cases z : k < 96
            · rw [if_pos z, k1 k (by omega), G2o _ _ (by omega)]
            · rw [if_neg z, k7 _ _ (by omega) (by omega) (by omega), G2o _ _ (by omega)]
          · rw [g3o _ _ (by omega)]
            by_cases z : k < 24
            · rw [if_pos z, k4 k (by omega) z, G2o _ _ (by omega)]
            · rw [if_neg z, k7 _ _ (by omega) (by omega) (by omega), G2o _ _ (by omega)]
          · rw [g3o _ _ (by omega)]
            by_cases z : k < 24
            · rw [if_pos z, k5 k (by omega) z, G2o _ _ (by omega)]
            · rw [if_neg z, k7 _ _ (by omega) (by omega) (by omega), G2o _ _ (by omega)]
        generalize eH : y_fill g3 112 0 6 (fun _ => 0) = h2 at hvd g3o l181
        have h2I : ∀ c k, ¬ (94 ≤ c ∧ c ≤ 113 ∧ ¬ (c = 94 ∧ (k < 8 ∨ (13 < k ∧ k < 19) ∨ 26 < k)) ∧ ¬ (95 ≤ c ∧ c ≤ 100) ∧ c ≠ 113) → y_I h2 c k = y_I h1 c k := fun c k z => by
          rw [g3o _ _ (by omega), k7 _ _ (by omega) (by omega) (by omega), G2o _ _ (by omega), m2.1 _ _ (by omega) (by omega)]
        have h2s : h2.2 = h1.2 := by
          rw [← eH]
          show g3.2 = _
          rw [k8, ← eG]
          exact m2.2
        have h2F : ∀ c k, y_F h2 c k = y_F hB c k := fun c k => by
          unfold y_F; rw [h2s, C6.2.2]
        have h2J : ∀ c k, y_J h2 c k = y_J hA c k := fun c k => by
          rw [← BJ]
          unfold y_J; rw [h2s, C6.2.2]
        have fr : ∀ c k, c ≠ 19 → ¬ (b ≤ c ∧ c ≤ b + 15) → c ≠ 21 → ¬ (25 ≤ c ∧ c ≤ 36) → ¬ (94 ≤ c ∧ c ≤ 113 ∧ ¬ (c = 94 ∧ (k < 8 ∨ (13 < k ∧ k < 19) ∨ 26 < k)) ∧ ¬ (95 ≤ c ∧ c ≤ 100) ∧ c ≠ 113) → y_I h2 c k = y_I h c k := fun c k z1 z2 z3 z4 z5 => by
          rw [h2I c k z5, h1o c k z1 z2 z3 z4]
        have X2 : xm h2 b := by
          rw [← xmg_xm, hvd]
          refine xmg_cg (h := hA) (fun c k z => ?_) (fun p => h2J _ _) D.1
          rw [h2I _ _ (by omega), C6.2.1 _ _ (by omega), BI _ _ (by omega)]
        have h2r : ∀ j, j < 6 → y_I h2 112 j = 0 := fun j z => by rw [← eH, yI_fill_e (by omega)]
        have kw2 : 0 ≤ g_wm (hv h2) ∧ g_wm (hv h2) ≤ 24 := by rw [hvd]; exact D.2.1.2.2.1
        have p111 : ∀ w, 0 ≤ w → w < g_wm (hv h2) → pl h2 111 w = -9 := fun w w1 w2 => by
          unfold pl
          rw [g3o _ _ (by omega), k6 _ (by omega) (by omega)]
        have p21 : ∀ w, 0 ≤ w → w < g_wm (hv h2) → pl h2 21 w = -9 := fun w w1 w2 => by
          unfold pl
          rw [h2I _ _ (by omega), C6.2.1 _ _ (by omega), B21 _ (by omega)]
        refine OP_do (y_I g1 94 24) h1 h2 (fun d hd => ?_) (fun d hd => ?_) ⟨b, ⟨?_, ?_, X2, by rw [hvd]; exact D.2.1⟩, I_row_cg (h := h) (fun c k q => ?_) i2, I_txt_cg (h := h) (fun c k q => ?_) i3, ⟨fun w w1 w2 => Or.inl (p111 w w1 w2), fun w w1 w2 => by rw [p111 w w1 w2, p21 w w1 w2]⟩, fun k k1' k2' => ⟨?_, ?_, fun z => ?_⟩, I_tel_up (Nat.le_succ N) (I_tel_cg (h := h) (fun c k q => ?_) i6)⟩
        · rw [e96, b96_0, s79b d (by omega), yci_s, if_neg (by rw [bi_t c1]; omega), s80b d (by omega) t (by omega), yci_s, if_pos (bi_f (by rw [j1]; exact c2)), yi_t (by omega), yi_t (by omega), j1, hD, a1 d (by omega), yci_s, if_pos rfl, FA10, FA11, s32 d (by omega) (Or.inl rfl), ycv_s, eB, l6 d, BI _ _ (by omega), b3]
        · rw [e169, b169_0, s153 d (by omega), yci_s, if_neg (by rw [bi_t c1]; omega), yi_t (by omega), h1o _ _ (by omega) (by omega) (by omega) (by omega), if_neg (by omega), m1 d (by omega), yci_s, if_pos rfl]
          simp (disch := omega) only [yhb_s, yI_sI_o]
          rw [eG, l9 d, l181 d, k7 _ _ (by omega) (by omega) (by omega), G2e _ (by omega) (by omega)]
        · rw [h2F]; exact FB10
        · rw [h2F, FB11]; omega
        · unfold RR at q; exact fr c k (by omega) (by omega) (by omega) (by omega) (by omega)
        · unfold RT at q; exact fr c k (by omega) (by omega) (by omega) (by omega) (by omega)
        · rw [h2r _ (by omega), h2I _ _ (by omega), C6.1 _ (by omega)]
        · rw [h2r _ (by omega)]; omega
        · rw [h2r _ (by omega)] at z; omega
        · unfold RE at q; exact fr c k (by omega) (by omega) (by omega) (by omega) (by omega)
      · obtain ⟨g1, m1, m2, -⟩ := a3 hA (a2.1 _ _ (by omega) (by omega)) (fun i _ _ => a2.1 _ _ (by omega) (by omega))
        have fr : ∀ b k, b ≠ 19 → ¬ (140 - a ≤ b ∧ b ≤ 140 - a + 15) → ¬ (b = 94 ∧ 19 ≤ k ∧ k ≤ 26) → ¬ (106 ≤ b ∧ b ≤ 110) → y_I g1 b k = y_I h b k := fun b k z1 z2 z3 z4 => (m2.1 b k z3 z4).trans (a2.1 b k z1 z2)
        have fF : ∀ b k, b ≠ 19 → y_F g1 b k = y_F h b k := fun b k z => by
          unfold y_F; rw [m2.2]; exact a2.2.1 b k z
        have fJ : ∀ b k, b ≠ 140 - a + 4 → y_J g1 b k = y_J h b k := fun b k z => by
          unfold y_J; rw [m2.2]; exact a2.2.2 b k z
        have eg : hv g1 = hv h := hv_cg fun b k q => by
          unfold RG at q
          exact fr b k (by omega) (by omega) (by omega) (by omega)
        refine OP_do (-4) hA g1 (fun d hd => ?_) (fun d hd => ?_) ⟨a, ⟨?_, ?_, xm_cg (h := h) (fun b k q => ?_) (fun p => fJ _ _ (by omega)) X, by rw [eg]; exact hg⟩, I_row_cg (h := h) (fun b k q => ?_) i2, I_txt_cg (h := h) (fun b k q => ?_) i3, I_pln_cg (h := h) (fun b k q => ?_) i4, I_rul_cg (h := h) (fun b k q => ?_) i5, I_tel_up (Nat.le_succ N) (I_tel_cg (h := h) (fun b k q => ?_) i6)⟩
        · rw [e96, b96_0, s79b d (by omega), yci_s, if_neg (by rw [bi_t c1]; omega), s80b d (by omega) t (by omega), yci_s, if_pos (bi_f (by rw [j1]; exact c2)), yi_t (by omega), yi_t (by omega), j1, hD, a1 d (by omega), yci_s, if_neg c3]
        · rw [e169, b169_0, s153 d (by omega), yci_s, if_neg (by rw [bi_t c1]; omega), yi_t (by omega), a2.1 _ _ (by omega) (by omega), if_neg (by omega), m1 d (by omega), yci_s, if_neg c3]
        · rw [fF _ _ (by omega)]; exact hF
        · rw [fF _ _ (by omega)]; exact hD
        · unfold RX RG at q; exact fr b k (by omega) (by omega) (by omega) (by omega)
        · unfold RR at q; exact fr b k (by omega) (by omega) (by omega) (by omega)
        · unfold RT at q; exact fr b k (by omega) (by omega) (by omega) (by omega)
        · unfold RP RG at q; exact fr b k (by omega) (by omega) (by omega) (by omega)
        · unfold RV RG at q; exact fr b k (by omega) (by omega) (by omega) (by omega)
        · unfold RE at q; exact fr b k (by omega) (by omega) (by omega) (by omega)
  · refine OP_same II (-1) (fun d hd => ?_) (fun d hd => ?_)
    · rw [e96, b96_0, s79b d (by omega), yci_s, if_pos (bi_f c1)]
    · rw [e169, b169_0, s153 d (by omega), yci_s, if_pos (bi_f c1)]
end HO
