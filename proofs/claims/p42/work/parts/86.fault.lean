/-! READING A HOUSE, from the start; the call fault -/
/-- x's reader, begun -/
def x_rb (h : y_Hp) (c : Nat) (n : Int) (b : Nat) : y_Hp := y_sI (y_sI (y_sI (y_sI (y_sF (y_sI (y_sI (y_sI (y_sI (y_sF h 19 0 c) 19 1 n) 19 2 0) 19 4 0) 19 5 0) 19 6 b) b 0 60) b 1 0) b 2 0) b 3 0
/-- the model's, begun -/
def m_rb (g : y_Hp) : y_Hp := y_sI (y_sI (y_sI (y_sI (y_sI (y_sI (y_sI g 94 19 0) 94 21 60) 94 22 0) 94 23 0) 94 24 0) 94 25 0) 94 26 0
/-- what x's reading changes -/
def FY (b : Nat) (h h' : y_Hp) : Prop := (∀ a k, a ≠ 19 → ¬ (b ≤ a ∧ a ≤ b + 15) → y_I h' a k = y_I h a k) ∧ (∀ a k, a ≠ 19 → y_F h' a k = y_F h a k) ∧ ∀ a k, a ≠ b + 4 → y_J h' a k = y_J h a k
section FT
variable {sc : z_Sc} {h g : y_Hp} {b : Nat} {t n : Int}
theorem x_rb_o {c : Nat} {n : Int} {a k : Nat} (e : a ≠ 19 ∧ ¬ (b ≤ a ∧ a ≤ b + 15)) : y_I (x_rb h c n b) a k = y_I h a k := by
  unfold x_rb
  rw [yI_sI_o (by omega), yI_sI_o (by omega), yI_sI_o (by omega), yI_sI_o (by omega)]
  show y_I (y_sI (y_sI (y_sI (y_sI (y_sF h 19 0 c) 19 1 n) 19 2 0) 19 4 0) 19 5 0) a k = _
  rw [yI_sI_o (by omega), yI_sI_o (by omega), yI_sI_o (by omega), yI_sI_o (by omega)]
  rfl
theorem m_rb_o {a k : Nat} (e : ¬ (a = 94 ∧ 19 ≤ k ∧ k ≤ 26)) : y_I (m_rb g) a k = y_I g a k := by
  unfold m_rb
  rw [yI_sI_o (by omega), yI_sI_o (by omega), yI_sI_o (by omega), yI_sI_o (by omega), yI_sI_o (by omega), yI_sI_o (by omega), yI_sI_o (by omega)]
theorem K_all (sc : z_Sc) (h : y_Hp) (ht : 0 ≤ t ∧ t < 4) (hb : b = 62 ∨ b = 78) (hn : 0 ≤ n ∧ n ≤ 120) (I : I_txt h) (en : y_I h 99 (Int.toNat t) = n) : ∃ (u : Int) (h1 : y_Hp), (-9 ≤ u ∧ u ≤ 120) ∧ (∀ d, 23 ≤ d → y_se z_pg sc d 19 [y_vr 19, y_vr (14 + Int.toNat t), y_vi n, y_vr b] h = some (some (y_vi u), h1)) ∧ FY b h h1 ∧ ∀ g, y_I g 99 (Int.toNat t) = n → (∀ i, 0 ≤ i → i < n → y_I g 100 (Int.toNat (120 * t + i)) = y_I h 100 (Int.toNat (120 * t + i))) → ∃ g1, (∀ d, 23 ≤ d → y_se z_pg sc d 167 [y_vr 94, y_vi t] g = some (some (y_vi u), g1)) ∧ FMM g g1 ∧ (u = -9 → DR h1 b g1) := by
  obtain ⟨i1, i2, i3⟩ := I t ht.1 ht.2
  rw [en] at i2 i3
  have key : ∀ g, y_I g 99 (Int.toNat t) = n → (∀ i, 0 ≤ i → i < n → y_I g 100 (Int.toNat (120 * t + i)) = y_I h 100 (Int.toNat (120 * t + i))) → ∃ (u : Int) (h1 g1 : y_Hp), (-9 ≤ u ∧ u ≤ 120) ∧ (∀ d, 23 ≤ d → y_se z_pg sc d 19 [y_vr 19, y_vr (14 + Int.toNat t), y_vi n, y_vr b] h = some (some (y_vi u), h1)) ∧ FY b h h1 ∧ (∀ d, 23 ≤ d → y_se z_pg sc d 167 [y_vr 94, y_vi t] g = some (some (y_vi u), g1)) ∧ FMM g g1 ∧ (u = -9 → DR h1 b g1) := by
    intro g g1 g2
    have xI : ∀ k, k ≠ 3 → y_I (x_rb h (14 + Int.toNat t) n b) 19 k = y_I (y_sI (y_sI (y_sI (y_sI h 19 1 n) 19 2 0) 19 4 0) 19 5 0) 19 k := fun k hk => by
      unfold x_rb
      rw [yI_sI_o (by omega), yI_sI_o (by omega), yI_sI_o (by omega), yI_sI_o (by omega)]
      rfl
    have xB : ∀ k, k ≤ 3 → y_I (x_rb h (14 + Int.toNat t) n b) b k = if k = 0 then 60 else 0 := fun k hk => by
      unfold x_rb
      rcases (show k = 0 ∨ k = 1 ∨ k = 2 ∨ k = 3 by omega) with rfl | rfl | rfl | rfl
      · rw [yI_sI_o (by omega), yI_sI_o (by omega), yI_sI_o (by omega), yI_sI_e ⟨rfl, rfl⟩, if_pos rfl]
      · rw [yI_sI_o (by omega), yI_sI_o (by omega), yI_sI_e ⟨rfl, rfl⟩, if_neg (by omega)]
      · rw [yI_sI_o (by omega), yI_sI_e ⟨rfl, rfl⟩, if_neg (by omega)]
      · rw [yI_sI_e ⟨rfl, rfl⟩, if_neg (by omega)]
    have S : XS (14 + Int.toNat t) b n (fun i => y_I h (14 + Int.toNat t) (Int.toNat i)) 0 (x_rb h (14 + Int.toNat t) n b) := by
      refine ⟨?_, ?_, ?_, ?_, fun i j1 j2 => ?_⟩
      · show y_F (y_sF (y_sF h 19 0 (14 + Int.toNat t)) 19 6 b) 19 0 = _
        rw [yF_sF, if_neg (by omega), yF_sF, if_pos ⟨rfl, rfl⟩]
      · show y_F (y_sF (y_sF h 19 0 (14 + Int.toNat t)) 19 6 b) 19 6 = _
        rw [yF_sF, if_pos ⟨rfl, rfl⟩]
      · rw [xI _ (by omega), yI_sI_o (by omega), yI_sI_o (by omega), yI_sI_o (by omega), yI_sI_e ⟨rfl, rfl⟩]
      · rw [xI _ (by omega), yI_sI_o (by omega), yI_sI_o (by omega), yI_sI_e ⟨rfl, rfl⟩]
      · rw [x_rb_o (by omega)]
    have M : MS t n (fun i => y_I h (14 + Int.toNat t) (Int.toNat i)) 0 (m_rb g) := by
      refine ⟨by rw [m_rb_o (by omega)]; exact g1, ?_, fun i j1 j2 => ?_⟩
      · unfold m_rb
        rw [yI_sI_o (by omega), yI_sI_o (by omega), yI_sI_o (by omega), yI_sI_o (by omega), yI_sI_o (by omega), yI_sI_o (by omega), yI_sI_e ⟨rfl, rfl⟩]
      · rw [m_rb_o (by omega), g2 i j1 j2]
        exact (i3 i j1 j2).1.symm
    have D : DR (x_rb h (14 + Int.toNat t) n b) b (m_rb g) := by
      refine DR_first hb (xB 0 (by omega)) (xB 1 (by omega)) (xB 2 (by omega)) (xB 3 (by omega)) ?_ ?_ ?_ ?_ ?_ ?_ ?_ ?_
      · rw [xI _ (by omega), yI_sI_o (by omega), yI_sI_e ⟨rfl, rfl⟩]
      · rw [xI _ (by omega), yI_sI_e ⟨rfl, rfl⟩]
      all_goals (unfold m_rb; simp (disch := omega) only [yI_sI_o, yI_sI_e])
    obtain ⟨u, q, h1, g1, a1, a2, a3, a4, a5, a6, a7, a8⟩ := K_items (sc := sc) (b := b) (c := 14 + Int.toNat t) (t := t) (n := n) (T := fun i => y_I h (14 + Int.toNat t) (Int.toNat i)) (fun i j1 j2 => by
      rw [(i3 i j1 j2).1]; exact (i3 i j1 j2).2) (by omega) ht hn.2 n.toNat 0 (x_rb h (14 + Int.toNat t) n b) (m_rb g) 0 (by omega) S M D (by omega) (by omega)
    refine ⟨u, h1, g1, a7, fun d hd => ?_, ⟨fun a k e1 e2 => ?_, fun a k e1 => ?_, fun a k e1 => ?_⟩, fun d hd => ?_, ⟨fun a k e1 e2 => ?_, ?_⟩, a8⟩
    · obtain ⟨d, rfl⟩ : ∃ e, d = e + 1 := ⟨d - 1, by omega⟩
      have eF : y_F (y_sF (y_sI (y_sI (y_sI (y_sI (y_sF h 19 0 (14 + Int.toNat t)) 19 1 n) 19 2 0) 19 4 0) 19 5 0) 19 6 b) 19 6 = b := by rw [yF_sF, if_pos ⟨rfl, rfl⟩]
      rw [e19, b19_0, eF, yH0 hb, s1 d (by omega) hb, ycv_s]
      exact a1 d n (14 + Int.toNat t) b (by omega)
    · rw [a5.1 a k e1 e2, x_rb_o ⟨e1, e2⟩]
    · rw [a5.2.1]
      show y_F (y_sF (y_sF h 19 0 (14 + Int.toNat t)) 19 6 b) a k = _
      rw [yF_sF, if_neg (by omega), yF_sF, if_neg (by omega)]
    · rw [a5.2.2 a k e1]
      rfl
    · obtain ⟨d, rfl⟩ : ∃ e, d = e + 1 := ⟨d - 1, by omega⟩
      rw [e167, b167_0, yhb_s]
      exact a2 d (by omega)
    · rw [a6.1 a k e1 e2, m_rb_o e1]
    · rw [a6.2]
      rfl
  obtain ⟨u, h1, g1, a1, a2, a3, -, -, -⟩ := key h en (fun i _ _ => rfl)
  refine ⟨u, h1, a1, a2, a3, fun g e1 e2 => ?_⟩
  obtain ⟨v, h2, g2, c1, c2, c3, c4, c5, c6⟩ := key g e1 e2
  obtain ⟨e5, e4⟩ : u = v ∧ h1 = h2 := by
    have ee := (a2 23 (by omega)).symm.trans (c2 23 (by omega))
    simp only [Option.some.injEq, Prod.mk.injEq, Sum.inl.injEq] at ee
    exact ee
  rw [← e5] at c4 c6
  rw [← e4] at c6
  exact ⟨g2, c4, c5, c6⟩
theorem o_fault {N : Nat} (I : INV N h) (hN : N ≤ 1000) (t : Int) : OP sc 95 168 [y_vr 2, y_vi t] [y_vr 94, y_vi t] N h := by
  have II := I
  obtain ⟨a, ⟨hF, hD, X, hg⟩, i2, i3, i4, i5, i6⟩ := I
  have ha := X.1
  by_cases c1 : 0 ≤ t ∧ t ≤ 3
  · obtain ⟨j1, j2, j3⟩ := i3 t c1.1 (by omega)
    by_cases c2 : y_I h 99 (Int.toNat t) = -1
    · refine OP_fd II hN 1 (by omega) (fun d hd => ?_) (fun d hd => ?_)
      · rw [e95, b95_0, s79b d (by omega), yci_s, if_neg (by rw [bi_t c1]; omega), s80b d (by omega) t (by omega), yci_s, if_neg (by rw [bi_t (j1.trans c2)]; omega)]
      · rw [e168, b168_0, s153 d (by omega), yci_s, if_neg (by rw [bi_t c1]; omega), yi_t (by omega), xfd_o (by omega) (by omega), if_pos (by omega)]
    · obtain ⟨u, h1, a0, a1, a2, a3⟩ := K_all (b := 140 - a) sc h (t := t) (by omega) (by omega) (by omega) i3 rfl
      obtain ⟨g1, m1, m2, -⟩ := a3 h1 (a2.1 _ _ (by omega) (by omega)) (fun i _ _ => a2.1 _ _ (by omega) (by omega))
      have fr : ∀ b k, b ≠ 19 → ¬ (140 - a ≤ b ∧ b ≤ 140 - a + 15) → ¬ (b = 94 ∧ 19 ≤ k ∧ k ≤ 26) → ¬ (106 ≤ b ∧ b ≤ 110) → y_I g1 b k = y_I h b k := fun b k z1 z2 z3 z4 => (m2.1 b k z3 z4).trans (a2.1 b k z1 z2)
      have fF : ∀ b k, b ≠ 19 → y_F g1 b k = y_F h b k := fun b k z => by
        unfold y_F; rw [m2.2]; exact a2.2.1 b k z
      have fJ : ∀ b k, b ≠ 140 - a + 4 → y_J g1 b k = y_J h b k := fun b k z => by
        unfold y_J; rw [m2.2]; exact a2.2.2 b k z
      have eg : hv g1 = hv h := hv_cg fun b k q => by
        unfold RG at q
        exact fr b k (by omega) (by omega) (by omega) (by omega)
      refine OP_do u h1 g1 (fun d hd => ?_) (fun d hd => ?_) ⟨a, ⟨?_, ?_, xm_cg (h := h) (fun b k q => ?_) (fun p => fJ _ _ (by omega)) X, by rw [eg]; exact hg⟩, I_row_cg (h := h) (fun b k q => ?_) i2, I_txt_cg (h := h) (fun b k q => ?_) i3, I_pln_cg (h := h) (fun b k q => ?_) i4, I_rul_cg (h := h) (fun b k q => ?_) i5, I_tel_up (Nat.le_succ N) (I_tel_cg (h := h) (fun b k q => ?_) i6)⟩
      · rw [e95, b95_0, s79b d (by omega), yci_s, if_neg (by rw [bi_t c1]; omega), s80b d (by omega) t (by omega), yci_s, if_pos (bi_f (by rw [j1]; exact c2)), yi_t (by omega), yi_t (by omega), j1, hD, a1 d (by omega), yci_s]
      · rw [e168, b168_0, s153 d (by omega), yci_s, if_neg (by rw [bi_t c1]; omega), yi_t (by omega), a2.1 _ _ (by omega) (by omega), if_neg (by omega), m1 d (by omega), yci_s]
      · rw [fF _ _ (by omega)]; exact hF
      · rw [fF _ _ (by omega)]; exact hD
      · unfold RX RG at q; exact fr b k (by omega) (by omega) (by omega) (by omega)
      · unfold RR at q; exact fr b k (by omega) (by omega) (by omega) (by omega)
      · unfold RT at q; exact fr b k (by omega) (by omega) (by omega) (by omega)
      · unfold RP RG at q; exact fr b k (by omega) (by omega) (by omega) (by omega)
      · unfold RV RG at q; exact fr b k (by omega) (by omega) (by omega) (by omega)
      · unfold RE at q; exact fr b k (by omega) (by omega) (by omega) (by omega)
  · refine OP_same II (-1) (fun d hd => ?_) (fun d hd => ?_)
    · rw [e95, b95_0, s79b d (by omega), yci_s, if_pos (bi_f c1)]
    · rw [e168, b168_0, s153 d (by omega), yci_s, if_pos (bi_f c1)]
end FT
