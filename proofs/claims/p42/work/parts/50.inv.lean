/-! WHAT HOLDS BETWEEN CALLS: x's cells and the model's tell the same -/
theorem yI_sI_o {h : y_Hp} {a k b j : Nat} {v : Int} (e : ¬ (b = a ∧ j = k)) : y_I (y_sI h a k v) b j = y_I h b j := by rw [yI_sI, if_neg e]
theorem yI_sI_e {h : y_Hp} {a k b j : Nat} {v : Int} (e : b = a ∧ j = k) : y_I (y_sI h a k v) b j = v := by rw [yI_sI, if_pos e]
/-- places lo to hi of a row are f's -/
def y_fill (h : y_Hp) (a lo hi : Nat) (f : Nat → Int) : y_Hp := ((fun b k => if b = a ∧ lo ≤ k ∧ k < hi then f k else h.1 b k), h.2.1, h.2.2)
theorem yI_fill_o {h : y_Hp} {a lo hi b j : Nat} {f : Nat → Int} (e : ¬ (b = a ∧ lo ≤ j ∧ j < hi)) : y_I (y_fill h a lo hi f) b j = y_I h b j := if_neg e
theorem yI_fill_e {h : y_Hp} {a lo hi b j : Nat} {f : Nat → Int} (e : b = a ∧ lo ≤ j ∧ j < hi) : y_I (y_fill h a lo hi f) b j = f j := if_pos e
theorem yF_fill {h : y_Hp} {a lo hi b j : Nat} {f : Nat → Int} : y_F (y_fill h a lo hi f) b j = y_F h b j := rfl
theorem yJ_fill {h : y_Hp} {a lo hi b j : Nat} {f : Nat → Int} : y_J (y_fill h a lo hi f) b j = y_J h b j := rfl
theorem y_ext {h g : y_Hp} (h1 : ∀ a k, y_I h a k = y_I g a k) (h2 : h.2 = g.2) : h = g := Prod.ext (funext fun a => funext fun k => h1 a k) h2
theorem y_fill_0 {h : y_Hp} {a lo : Nat} {f : Nat → Int} : y_fill h a lo lo f = h := y_ext (fun b k => yI_fill_o (by omega)) rfl
theorem y_fill_s {h : y_Hp} {a lo hi : Nat} {f : Nat → Int} {v : Int} (hl : lo ≤ hi) (hv : v = f hi) : y_sI (y_fill h a lo hi f) a hi v = y_fill h a lo (hi + 1) f := by
  refine y_ext (fun b k => ?_) rfl
  rw [yI_sI]
  by_cases e : b = a ∧ k = hi
  · rw [if_pos e, yI_fill_e ⟨e.1, by omega, by omega⟩, hv, e.2]
  · rw [if_neg e]
    by_cases e2 : b = a ∧ lo ≤ k ∧ k < hi
    · rw [yI_fill_e e2, yI_fill_e ⟨e2.1, e2.2.1, by omega⟩]
    · rw [yI_fill_o e2, yI_fill_o (fun q => by
        by_cases q2 : k = hi
        · exact e ⟨q.1, q2⟩
        · exact e2 ⟨q.1, q.2.1, by omega⟩)]
/-- alike where R says so -/
def y_same (R : Nat → Nat → Prop) (h h' : y_Hp) : Prop := ∀ a k, R a k → y_I h' a k = y_I h a k
def RG (a k : Nat) : Prop := (a = 94 ∧ 8 ≤ k ∧ k ≤ 13) ∨ (101 ≤ a ∧ a ≤ 105)
theorem hv_cg {h h' : y_Hp} (e : y_same RG h h') : hv h' = hv h := by
  funext a
  unfold hv
  split
  · funext k
    split
    · exact e 94 8 (Or.inl ⟨rfl, by omega, by omega⟩)
    · exact e 94 9 (Or.inl ⟨rfl, by omega, by omega⟩)
    · exact e 94 10 (Or.inl ⟨rfl, by omega, by omega⟩)
    · exact e 94 11 (Or.inl ⟨rfl, by omega, by omega⟩)
    · exact e 94 12 (Or.inl ⟨rfl, by omega, by omega⟩)
    · exact e 94 13 (Or.inl ⟨rfl, by omega, by omega⟩)
    · rfl
  · exact funext fun k => e 101 k (Or.inr (by omega))
  · exact funext fun k => e 102 k (Or.inr (by omega))
  · exact funext fun k => e 103 k (Or.inr (by omega))
  · exact funext fun k => e 104 k (Or.inr (by omega))
  · exact funext fun k => e 105 k (Or.inr (by omega))
  · rfl
/-- rows -/
def I_row (h : y_Hp) : Prop := ∀ r, 0 ≤ r → r < 6 → y_I h 11 (Int.toNat r) = y_I h 96 (Int.toNat r) ∧ (-1 ≤ y_I h 96 (Int.toNat r) ∧ y_I h 96 (Int.toNat r) ≤ 48) ∧ ∀ i, 0 ≤ i → i < y_I h 96 (Int.toNat r) → y_I h (5 + Int.toNat r) (Int.toNat i) = y_I h 97 (Int.toNat (48 * r + i))
def RR (a _k : Nat) : Prop := (5 ≤ a ∧ a ≤ 11) ∨ a = 96 ∨ a = 97
theorem I_row_cg {h h' : y_Hp} (e : y_same RR h h') (I : I_row h) : I_row h' := by
  intro r r1 r2
  obtain ⟨i1, i2, i3⟩ := I r r1 r2
  have e1 := e 11 (Int.toNat r) (Or.inl (by omega))
  have e2 := e 96 (Int.toNat r) (Or.inr (Or.inl rfl))
  rw [e1, e2]
  refine ⟨i1, i2, fun i j1 j2 => ?_⟩
  rw [e _ _ (Or.inl (by omega)), e _ _ (Or.inr (Or.inr rfl))]
  exact i3 i j1 j2
/-- texts -/
def I_txt (h : y_Hp) : Prop := ∀ t, 0 ≤ t → t < 4 → y_I h 18 (Int.toNat t) = y_I h 99 (Int.toNat t) ∧ (-1 ≤ y_I h 99 (Int.toNat t) ∧ y_I h 99 (Int.toNat t) ≤ 120) ∧ ∀ i, 0 ≤ i → i < y_I h 99 (Int.toNat t) → y_I h (14 + Int.toNat t) (Int.toNat i) = y_I h 100 (Int.toNat (120 * t + i)) ∧ (-128 ≤ y_I h 100 (Int.toNat (120 * t + i)) ∧ y_I h 100 (Int.toNat (120 * t + i)) ≤ 127)
def RT (a _k : Nat) : Prop := (14 ≤ a ∧ a ≤ 18) ∨ a = 99 ∨ a = 100
theorem I_txt_cg {h h' : y_Hp} (e : y_same RT h h') (I : I_txt h) : I_txt h' := by
  intro r r1 r2
  obtain ⟨i1, i2, i3⟩ := I r r1 r2
  have e1 := e 18 (Int.toNat r) (Or.inl (by omega))
  have e2 := e 99 (Int.toNat r) (Or.inr (Or.inl rfl))
  rw [e1, e2]
  refine ⟨i1, i2, fun i j1 j2 => ?_⟩
  rw [e _ _ (Or.inl (by omega)), e _ _ (Or.inr (Or.inr rfl))]
  exact i3 i j1 j2
/-- the house: x's at a, and where the references are -/
def I_hou (h : y_Hp) (a : Nat) : Prop := y_F h 2 10 = a ∧ y_F h 2 11 = 140 - a ∧ xm h a ∧ g_ok (hv h)
def RX (a0 : Nat) (a k : Nat) : Prop := RG a k ∨ (a0 ≤ a ∧ a ≤ a0 + 15)
theorem xm_cg {h h' : y_Hp} {a : Nat} (e : y_same (RX a) h h') (ej : ∀ p, y_J h' (a + 4) p = y_J h (a + 4) p) (X : xm h a) : xm h' a := by
  have eg : hv h' = hv h := hv_cg fun b k q => e b k (Or.inl q)
  have ex : ∀ i, i ≤ 15 → ∀ k, y_I h' (a + i) k = y_I h (a + i) k := fun i hi k => e _ _ (Or.inr (by omega))
  have e0 : ∀ k, y_I h' a k = y_I h a k := fun k => e _ _ (Or.inr (by omega))
  unfold xm at X ⊢
  rw [eg]
  simp only [e0, ex 1 (by omega), ex 2 (by omega), ex 3 (by omega), ej, ex 5 (by omega), ex 6 (by omega), ex 7 (by omega), ex 8 (by omega), ex 9 (by omega), ex 10 (by omega), ex 11 (by omega), ex 12 (by omega), ex 13 (by omega), ex 14 (by omega), ex 15 (by omega)]
  exact X
theorem I_hou_cg {h h' : y_Hp} {a : Nat} (e : y_same (RX a) h h') (ef : y_F h' = y_F h) (ej : ∀ p, y_J h' (a + 4) p = y_J h (a + 4) p) (I : I_hou h a) : I_hou h' a := by
  have eg : hv h' = hv h := hv_cg fun b k q => e b k (Or.inl q)
  unfold I_hou
  rw [ef, eg]
  exact ⟨I.1, I.2.1, xm_cg e ej I.2.2.1, I.2.2.2⟩
/-- the plan -/
def I_pln (h : y_Hp) : Prop := p_ok (hv h) (pl h 111) ∧ p_eq (hv h) (pl h 111) (pl h 21)
def RP (a k : Nat) : Prop := RG a k ∨ a = 21 ∨ a = 111
theorem I_pln_cg {h h' : y_Hp} (e : y_same RP h h') (I : I_pln h) : I_pln h' := by
  have eg : hv h' = hv h := hv_cg fun b k q => e b k (Or.inl q)
  have e1 : pl h' 111 = pl h 111 := funext fun w => e 111 _ (Or.inr (Or.inr rfl))
  have e2 : pl h' 21 = pl h 21 := funext fun w => e 21 _ (Or.inr (Or.inl rfl))
  unfold I_pln
  rw [eg, e1, e2]
  exact I
/-- rules -/
def I_rul (h : y_Hp) : Prop := ∀ k, 0 ≤ k → k < 6 → y_I h (25 + 2 * Int.toNat k) 0 = y_I h 112 (Int.toNat k) ∧ (0 ≤ y_I h 112 (Int.toNat k) ∧ y_I h 112 (Int.toNat k) ≤ 5) ∧
  (y_I h 112 (Int.toNat k) = 1 ∨ y_I h 112 (Int.toNat k) = 2 → ∀ i, 0 ≤ i → i < g_rm (hv h) → y_I h (26 + 2 * Int.toNat k) (Int.toNat i) = y_I h 113 (Int.toNat (8 * k + i)) ∧ (0 ≤ y_I h 113 (Int.toNat (8 * k + i)) ∧ y_I h 113 (Int.toNat (8 * k + i)) < g_rm (hv h)) ∧ ∀ j, 0 ≤ j → j < g_rm (hv h) → y_I h 113 (Int.toNat (8 * k + i)) = y_I h 113 (Int.toNat (8 * k + j)) → i = j)
def RV (a k : Nat) : Prop := RG a k ∨ (25 ≤ a ∧ a ≤ 36) ∨ a = 112 ∨ a = 113
theorem I_rul_cg {h h' : y_Hp} (e : y_same RV h h') (I : I_rul h) : I_rul h' := by
  have eg : hv h' = hv h := hv_cg fun b k q => e b k (Or.inl q)
  intro k k1 k2
  have I := I k k1 k2
  have e1 : ∀ j, y_I h' 112 j = y_I h 112 j := fun j => e _ _ (Or.inr (Or.inr (Or.inl rfl)))
  have e2 : ∀ j, y_I h' 113 j = y_I h 113 j := fun j => e _ _ (Or.inr (Or.inr (Or.inr rfl)))
  have e3 : ∀ j, y_I h' (25 + 2 * Int.toNat k) j = y_I h (25 + 2 * Int.toNat k) j := fun j => e _ _ (Or.inr (Or.inl (by omega)))
  have e4 : ∀ j, y_I h' (26 + 2 * Int.toNat k) j = y_I h (26 + 2 * Int.toNat k) j := fun j => e _ _ (Or.inr (Or.inl (by omega)))
  simp only [e1, e2, e3, e4, eg]
  exact I
/-- what is told; N calls so far -/
def I_tel (N : Nat) (h : y_Hp) : Prop := y_I h 2 13 = y_I h 94 2 ∧ y_I h 2 12 = y_I h 94 0 ∧ ∀ f, 1 ≤ f → f ≤ 5 → y_I h 61 (Int.toNat f) = y_I h 95 (Int.toNat f) ∧ (0 ≤ y_I h 95 (Int.toNat f) ∧ y_I h 95 (Int.toNat f) ≤ N)
def RE (a k : Nat) : Prop := (a = 2 ∧ 12 ≤ k ∧ k ≤ 13) ∨ (a = 94 ∧ k ≤ 2) ∨ a = 61 ∨ a = 95
theorem I_tel_cg {N : Nat} {h h' : y_Hp} (e : y_same RE h h') (I : I_tel N h) : I_tel N h' := by
  unfold I_tel
  rw [e 2 13 (Or.inl (by omega)), e 2 12 (Or.inl (by omega)), e 94 2 (Or.inr (Or.inl (by omega))), e 94 0 (Or.inr (Or.inl (by omega)))]
  refine ⟨I.1, I.2.1, fun f f1 f2 => ?_⟩
  rw [e 61 _ (Or.inr (Or.inr (Or.inl rfl))), e 95 _ (Or.inr (Or.inr (Or.inr rfl)))]
  exact I.2.2 f f1 f2
theorem I_tel_up {N M : Nat} {h : y_Hp} (hN : N ≤ M) (I : I_tel N h) : I_tel M h := ⟨I.1, I.2.1, fun f f1 f2 => by
  obtain ⟨i1, i2⟩ := I.2.2 f f1 f2
  exact ⟨i1, by omega⟩⟩
def INV (N : Nat) (h : y_Hp) : Prop := ∃ a, I_hou h a ∧ I_row h ∧ I_txt h ∧ I_pln h ∧ I_rul h ∧ I_tel N h
theorem INV.up {N M : Nat} {h : y_Hp} (hN : N ≤ M) (I : INV N h) : INV M h := by
  obtain ⟨a, i1, i2, i3, i4, i5, i6⟩ := I
  exact ⟨a, i1, i2, i3, i4, i5, I_tel_up hN i6⟩
/-- where a call may write: what all of that isn't told by -/
def RA (a k : Nat) : Prop := RG a k ∨ (62 ≤ a ∧ a ≤ 93) ∨ RR a k ∨ RT a k ∨ a = 21 ∨ a = 111 ∨ (25 ≤ a ∧ a ≤ 36) ∨ a = 112 ∨ a = 113 ∨ RE a k
theorem INV_cg {N : Nat} {h h' : y_Hp} (e : y_same RA h h') (ef : y_F h' = y_F h) (ej : y_J h' = y_J h) (I : INV N h) : INV N h' := by
  obtain ⟨a, i1, i2, i3, i4, i5, i6⟩ := I
  have ha := i1.2.2.1.1
  refine ⟨a, I_hou_cg (fun b k q => e b k ?_) ef (fun p => by rw [ej]) i1, I_row_cg (fun b k q => e b k (Or.inr (Or.inr (Or.inl q)))) i2, I_txt_cg (fun b k q => e b k (Or.inr (Or.inr (Or.inr (Or.inl q))))) i3, I_pln_cg (fun b k q => e b k ?_) i4, I_rul_cg (fun b k q => e b k ?_) i5, I_tel_cg (fun b k q => e b k ?_) i6⟩
  · rcases q with q | q
    · exact Or.inl q
    · exact Or.inr (Or.inl (by omega))
  · rcases q with q | q | q
    · exact Or.inl q
    · exact Or.inr (Or.inr (Or.inr (Or.inr (Or.inl q))))
    · exact Or.inr (Or.inr (Or.inr (Or.inr (Or.inr (Or.inl q)))))
  · rcases q with q | q | q | q
    · exact Or.inl q
    · exact Or.inr (Or.inr (Or.inr (Or.inr (Or.inr (Or.inr (Or.inl q))))))
    · exact Or.inr (Or.inr (Or.inr (Or.inr (Or.inr (Or.inr (Or.inr (Or.inl q)))))))
    · exact Or.inr (Or.inr (Or.inr (Or.inr (Or.inr (Or.inr (Or.inr (Or.inr (Or.inl q))))))))
  · exact Or.inr (Or.inr (Or.inr (Or.inr (Or.inr (Or.inr (Or.inr (Or.inr (Or.inr q))))))))
section FO
variable {sc : z_Sc} {h : y_Hp} {N : Nat}
/-- a finding: x's, the model's -/
def x_fd (h : y_Hp) (f : Int) : y_Hp := y_sI (y_sI h 2 12 f) 61 (Int.toNat f) (y_I h 61 (Int.toNat f) + 1)
def m_fd (h : y_Hp) (f : Int) : y_Hp := y_sI (y_sI h 94 0 f) 95 (Int.toNat f) (y_I h 95 (Int.toNat f) + 1)
theorem s126 (d : Nat) (hd : 1 ≤ d) (f : Int) (hf : 1 ≤ f ∧ f ≤ 5) (hr : -1000000 ≤ y_I h 61 (Int.toNat f) ∧ y_I h 61 (Int.toNat f) ≤ 1000000) : y_se z_pg sc d 126 [y_vr 2, y_vi f] h = some (some (y_vi (-3)), x_fd h f) := by
  rcases d with _ | d
  · omega
  rw [e126, b126_0, yI_sI_o (by omega)]
  simp (disch := omega) only [yr_t, yi_t]
  rw [if_neg (by omega), if_neg (by omega)]
  rfl
theorem s140 (d : Nat) (hd : 1 ≤ d) (f : Int) (hf : 1 ≤ f ∧ f ≤ 5) (hr : -1000000 ≤ y_I h 95 (Int.toNat f) ∧ y_I h 95 (Int.toNat f) ≤ 1000000) : y_se z_pg sc d 140 [y_vr 94, y_vi f] h = some (some (y_vi (-3)), m_fd h f) := by
  rcases d with _ | d
  · omega
  rw [e140, b140_0, yI_sI_o (by omega)]
  simp (disch := omega) only [yr_t, yi_t]
  rfl
theorem INV_fd (I : INV N h) (f : Int) (hf : 1 ≤ f ∧ f ≤ 5) : INV (N + 1) (m_fd (x_fd h f) f) := by
  obtain ⟨a, i1, i2, i3, i4, i5, i6⟩ := I
  have ha := i1.2.2.1.1
  have key : ∀ b k, ¬ RE b k → y_I (m_fd (x_fd h f) f) b k = y_I h b k := by
    intro b k q
    unfold RE at q
    unfold m_fd x_fd
    simp (disch := omega) only [yI_sI_o]
  refine ⟨a, I_hou_cg (fun b k q => key b k ?_) rfl (fun p => rfl) i1, I_row_cg (fun b k q => key b k ?_) i2, I_txt_cg (fun b k q => key b k ?_) i3, I_pln_cg (fun b k q => key b k ?_) i4, I_rul_cg (fun b k q => key b k ?_) i5, ?_⟩
  · unfold RX RG at q; unfold RE; omega
  · unfold RR at q; unfold RE; omega
  · unfold RT at q; unfold RE; omega
  · unfold RP RG at q; unfold RE; omega
  · unfold RV RG at q; unfold RE; omega
  · obtain ⟨t1, t2, t3⟩ := i6
    unfold m_fd x_fd
    refine ⟨?_, ?_, fun g g1 g2 => ?_⟩
    · simp (disch := omega) only [yI_sI_o]
      exact t1
    · simp (disch := omega) only [yI_sI_o, yI_sI_e]
    · have tg := t3 g g1 g2
      by_cases e : g = f
      · subst e
        simp (disch := omega) only [yI_sI_o, yI_sI_e]
        omega
      · simp (disch := omega) only [yI_sI_o]
        omega
/-- both refuse with a finding -/
theorem INV_fr (I : INV N h) (hN : N ≤ 1000) (f : Int) (hf : 1 ≤ f ∧ f ≤ 5) : (∀ d, 1 ≤ d → y_se z_pg sc d 126 [y_vr 2, y_vi f] h = some (some (y_vi (-3)), x_fd h f)) ∧ ∀ d, 1 ≤ d → y_se z_pg sc d 140 [y_vr 94, y_vi f] (x_fd h f) = some (some (y_vi (-3)), m_fd (x_fd h f) f) := by
  obtain ⟨a, i1, i2, i3, i4, i5, i6⟩ := I
  have tg := i6.2.2 f hf.1 hf.2
  refine ⟨fun d hd => s126 d hd f hf (by omega), fun d hd => s140 d hd f hf ?_⟩
  unfold x_fd
  simp (disch := omega) only [yI_sI_o]
  omega
end FO
