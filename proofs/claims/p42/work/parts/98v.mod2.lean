/-! THE GHOST ALONE: copies, late, a house by its text; the other way round -/
def HG (H W : Nat → Int) (G : u_G) : Prop := (g_la G = H 3 ∧ g_pm G = H 0 ∧ g_rm G = H 1 ∧ g_wm G = H 2 ∧ g_nm G = 0 ∧ g_um G = H 5) ∧
  (∀ p, 0 ≤ p → p < H 0 → g_cp G p = H (Int.toNat (8 + 3 * p)) ∧ g_cm G p = H (Int.toNat (9 + 3 * p)) ∧ g_sl G p = H (Int.toNat (10 + 3 * p))) ∧
  (∀ r, 0 ≤ r → r < H 1 → g_fr G r = H (Int.toNat (20 + 3 * r)) ∧ g_ti G r = H (Int.toNat (21 + 3 * r)) ∧ g_or G r = H (Int.toNat (22 + 3 * r))) ∧
  (∀ w, 0 ≤ w → w < H 2 → g_rd G w = W (Int.toNat (4 * w)) ∧ g_pt G w = W (Int.toNat (4 * w + 1)) ∧ g_mn G w = W (Int.toNat (4 * w + 2)) ∧ g_wo G w = W (Int.toNat (4 * w + 3))) ∧
  ∀ k, 0 ≤ k → k < H 5 → G 105 (Int.toNat (3 * k)) = H (Int.toNat (40 + 3 * k)) ∧ G 105 (Int.toNat (3 * k + 1)) = H (Int.toNat (41 + 3 * k)) ∧ G 105 (Int.toNat (3 * k + 2)) = H (Int.toNat (42 + 3 * k))
/-- the parts told the other way round -/
def MH (H W H' W' : Nat → Int) : Prop := (H' 0 = H 0 ∧ H' 1 = H 1 ∧ H' 2 = H 2 ∧ H' 3 = H 3 ∧ H' 4 = H 4 ∧ H' 5 = H 5) ∧
  (∀ p, 0 ≤ p → p < H 0 → H' (Int.toNat (8 + 3 * p)) = H (Int.toNat (8 + 3 * (H 0 - 1 - p))) ∧ H' (Int.toNat (9 + 3 * p)) = H (Int.toNat (9 + 3 * (H 0 - 1 - p))) ∧ H' (Int.toNat (10 + 3 * p)) = H (Int.toNat (10 + 3 * (H 0 - 1 - p)))) ∧
  (∀ r, 0 ≤ r → r < H 1 → H' (Int.toNat (20 + 3 * r)) = H (Int.toNat (20 + 3 * r)) ∧ H' (Int.toNat (21 + 3 * r)) = H (Int.toNat (21 + 3 * r)) ∧ H' (Int.toNat (22 + 3 * r)) = H (Int.toNat (22 + 3 * r))) ∧
  (∀ w, 0 ≤ w → w < H 2 → W' (Int.toNat (4 * w)) = W (Int.toNat (4 * w)) ∧ W' (Int.toNat (4 * w + 1)) = H 0 - 1 - W (Int.toNat (4 * w + 1)) ∧ W' (Int.toNat (4 * w + 2)) = W (Int.toNat (4 * w + 2)) ∧ W' (Int.toNat (4 * w + 3)) = W (Int.toNat (4 * w + 3))) ∧
  ∀ k, 0 ≤ k → k < H 5 → H' (Int.toNat (40 + 3 * k)) = H 0 - 1 - H (Int.toNat (40 + 3 * k)) ∧ H' (Int.toNat (41 + 3 * k)) = H (Int.toNat (41 + 3 * k)) ∧ H' (Int.toNat (42 + 3 * k)) = H (Int.toNat (42 + 3 * k))
section MW
variable {H W H' W' : Nat → Int} {G G' : u_G}
theorem MH_NW (K : NW H W) (M : MH H W H' W') : NW H' W' := by
  obtain ⟨⟨k0, k1, k2, k3, k4, k5⟩, kP, kR, kW, ⟨kO1, kO2, kO3⟩, kU, kC⟩ := K
  obtain ⟨⟨m0, m1, m2, m3, m4, m5⟩, mP, mR, mW, mC⟩ := M
  unfold NW
  rw [m0, m1, m2, m3, m4, m5]
  refine ⟨⟨k0, k1, k2, k3, k4, k5⟩, fun p p1 p2 => ?_, fun r r1 r2 => ?_, fun w w1 w2 => ?_, ⟨?_, fun w w1 w2 => ?_, ?_⟩, fun v w v1 v2 w1 w2 e1 e2 => ?_, fun k k1 k2 => ?_⟩
  · obtain ⟨a, b, c⟩ := mP p p1 p2
    rw [a, b, c]
    exact kP (H 0 - 1 - p) (by omega) (by omega)
  · obtain ⟨a, b, c⟩ := mR r r1 r2
    rw [a, b, c]
    exact kR r r1 r2
  · obtain ⟨a, b, c, d⟩ := mW w w1 w2
    have k := kW w w1 w2
    rw [a, b, c, d]
    exact ⟨k.1, by omega, k.2.2.1, k.2.2.2⟩
  · rw [(mW 0 (by omega) (by omega)).1]; exact kO1
  · rw [(mW w w1 (by omega)).1, (mW (w + 1) (by omega) w2).1]; exact kO2 w w1 w2
  · rw [(mW (H 2 - 1) (by omega) (by omega)).1]; exact kO3
  · obtain ⟨a, b, -, -⟩ := mW v v1 v2
    obtain ⟨c, d, -, -⟩ := mW w w1 w2
    rw [a, c] at e1
    rw [b, d] at e2
    exact kU v w v1 v2 w1 w2 e1 (by omega)
  · obtain ⟨a, b, c⟩ := mC k k1 k2
    have z := kC k k1 k2
    rw [a, b, c]
    exact ⟨by omega, z.2⟩
/-- what the one house is to the other -/
theorem MH_re (K : NW H W) (M : MH H W H' W') (A : HG H W G) (B : HG H' W' G') : f_re (fun p => g_pm G - 1 - p) G G' ∧ (∀ r, 0 ≤ r → r < g_rm G → g_ti G' r = g_ti G r) ∧ (∀ p, 0 ≤ p → p < g_pm G → g_cp G' (g_pm G - 1 - p) = g_cp G p) ∧ ∀ p t n, 0 ≤ p → p < g_pm G → (g_un G' (g_pm G - 1 - p) t n ↔ g_un G p t n) := by
  obtain ⟨⟨k0, k1, k2, k3, k4, k5⟩, kP, kR, kW, kO, kU, kC⟩ := K
  obtain ⟨⟨m0, m1, m2, m3, m4, m5⟩, mP, mR, mW, mC⟩ := M
  obtain ⟨⟨a1, a2, a3, a4, a5, a6⟩, aP, aR, aW, aC⟩ := A
  obtain ⟨⟨b1, b2, b3, b4, b5, b6⟩, bP, bR, bW, bC⟩ := B
  rw [m3] at b1
  rw [m0] at b2 bP
  rw [m1] at b3 bR
  rw [m2] at b4 bW
  rw [m5] at b6 bC
  have un : ∀ p t n, 0 ≤ p → p < g_pm G → (g_un G' (g_pm G - 1 - p) t n ↔ g_un G p t n) := fun p t n p1 p2 => by
    unfold g_un
    rw [b6, a6]
    refine u_any_cg fun k k1 k2 => ?_
    obtain ⟨c1, c2, c3⟩ := aC k k1 (by omega)
    obtain ⟨d1, d2, d3⟩ := bC k k1 (by omega)
    obtain ⟨e1, e2, e3⟩ := mC k k1 (by omega)
    rw [c1, c2, c3, d1, d2, d3, e1, e2, e3]
    have : (H 0 - 1 - H (Int.toNat (40 + 3 * k)) = g_pm G - 1 - p) ↔ (H (Int.toNat (40 + 3 * k)) = p) := by omega
    rw [this]
  have cp : ∀ p, 0 ≤ p → p < g_pm G → g_cp G' (g_pm G - 1 - p) = g_cp G p := fun p p1 p2 => by
    rw [(bP _ (by omega) (by omega)).1, (mP _ (by omega) (by omega)).1, (aP p p1 (by omega)).1]
    congr 2
    omega
  refine ⟨⟨⟨by omega, by omega, by omega, by omega⟩, fun r r1 r2 => ?_, fun w w1 w2 => ?_, fun p p1 p2 => ⟨⟨?_, ?_, Int.le_of_eq (cp p p1 p2).symm⟩, fun t n q => (un p t n p1 p2).mp q⟩, fun p q p1 p2 q1 q2 e => by dsimp only at e; omega⟩, fun r r1 r2 => ?_, cp, un⟩
  · obtain ⟨c1, c2, c3⟩ := aR r r1 (by omega)
    obtain ⟨d1, d2, d3⟩ := bR r r1 (by omega)
    obtain ⟨e1, e2, e3⟩ := mR r r1 (by omega)
    exact ⟨by omega, by omega, by omega⟩
  · obtain ⟨c1, c2, c3, c4⟩ := aW w w1 (by omega)
    obtain ⟨d1, d2, d3, d4⟩ := bW w w1 (by omega)
    obtain ⟨e1, e2, e3, e4⟩ := mW w w1 (by omega)
    refine ⟨⟨by omega, by omega, by omega⟩, ?_⟩
    show g_pt G' w = g_pm G - 1 - g_pt G w
    omega
  · show g_cm G' (g_pm G - 1 - p) = g_cm G p
    rw [(bP _ (by omega) (by omega)).2.1, (mP _ (by omega) (by omega)).2.1, (aP p p1 (by omega)).2.1]
    congr 2
    omega
  · show g_sl G' (g_pm G - 1 - p) = g_sl G p
    rw [(bP _ (by omega) (by omega)).2.2, (mP _ (by omega) (by omega)).2.2, (aP p p1 (by omega)).2.2]
    congr 2
    omega
  · rw [(bR r r1 (by omega)).2.1, (mR r r1 (by omega)).2.1, (aR r r1 (by omega)).2.1]
/-- it's the same the other way -/
theorem MH_sy (K : NW H W) (M : MH H W H' W') : MH H' W' H W := by
  obtain ⟨⟨k0, k1, k2, k3, k4, k5⟩, kP, kR, kW, kO, kU, kC⟩ := K
  obtain ⟨⟨m0, m1, m2, m3, m4, m5⟩, mP, mR, mW, mC⟩ := M
  unfold MH
  rw [m0, m1, m2, m3, m4, m5]
  refine ⟨⟨rfl, rfl, rfl, rfl, rfl, rfl⟩, fun p p1 p2 => ?_, fun r r1 r2 => ?_, fun w w1 w2 => ?_, fun k k1 k2 => ?_⟩
  · obtain ⟨a, b, c⟩ := mP (H 0 - 1 - p) (by omega) (by omega)
    rw [a, b, c, show H 0 - 1 - (H 0 - 1 - p) = p by omega]
    exact ⟨rfl, rfl, rfl⟩
  · obtain ⟨a, b, c⟩ := mR r r1 r2
    exact ⟨a.symm, b.symm, c.symm⟩
  · obtain ⟨a, b, c, d⟩ := mW w w1 w2
    exact ⟨a.symm, by omega, c.symm, d.symm⟩
  · obtain ⟨a, b, c⟩ := mC k k1 k2
    exact ⟨by omega, b.symm, c.symm⟩
end MW
section MV
variable {sc : z_Sc} {g : y_Hp} {G : u_G} {P : u_P} {X : y_Hp → Prop} {H W : Nat → Int}
theorem re_gen {g2 : y_Hp} (hg : g_ok (hv g)) (o : ∀ a k, a ≠ 101 → a ≠ 102 → y_I g2 a k = y_I g a k) (np : ∀ p, 0 ≤ p → p < g_pm (hv g) → g_cm (hv g2) p = g_cm (hv g) p ∧ g_sl (hv g2) p = g_sl (hv g) p ∧ g_cp (hv g) p ≤ g_cp (hv g2) p ∧ g_cp (hv g2) p ≤ 2) (nr : ∀ r, 0 ≤ r → r < g_rm (hv g) → g_fr (hv g2) r = g_fr (hv g) r ∧ g_ti (hv g) r ≤ g_ti (hv g2) r ∧ g_ti (hv g2) r ≤ 60 ∧ g_or (hv g2) r = g_or (hv g) r) : f_re id (hv g) (hv g2) ∧ g_ok (hv g2) ∧ g_nm (hv g2) = g_nm (hv g) := by
  have e : ∀ k, y_I g2 94 k = y_I g 94 k := fun k => o _ _ (by omega) (by omega)
  have e103 : ∀ k, hv g2 103 k = hv g 103 k := fun k => o 103 k (by omega) (by omega)
  have e105 : hv g2 105 = hv g 105 := funext fun k => o 105 k (by omega) (by omega)
  have la : g_la (hv g2) = g_la (hv g) := e 8
  have pm : g_pm (hv g2) = g_pm (hv g) := e 9
  have rm : g_rm (hv g2) = g_rm (hv g) := e 10
  have wm : g_wm (hv g2) = g_wm (hv g) := e 11
  have nm : g_nm (hv g2) = g_nm (hv g) := e 12
  have um : g_um (hv g2) = g_um (hv g) := e 13
  refine ⟨⟨⟨la, rm, wm, pm⟩, fun r r1 r2 => ?_, fun w w1 w2 => ⟨⟨e103 _, e103 _, e103 _⟩, e103 _⟩, fun p p1 p2 => ?_, fun p q _ _ _ _ z => z⟩, ?_, nm⟩
  · obtain ⟨a, b, c, d⟩ := nr r r1 r2
    exact ⟨a, b, d⟩
  · obtain ⟨a, b, c, d⟩ := np p p1 p2
    refine ⟨⟨a, b, c⟩, fun t n q => ?_⟩
    unfold g_un at q ⊢
    rw [show g_um (hv g2) = g_um (hv g) from um, e105] at q
    exact q
  · refine g_ok_gen hg (fun k k1 k2 => ?_) e103 (fun k => congrFun e105 k) (fun q q1 q2 => ?_) (fun r r1 r2 => ?_)
    · rcases (show k = 8 ∨ k = 9 ∨ k = 10 ∨ k = 11 ∨ k = 12 ∨ k = 13 by omega) with rfl | rfl | rfl | rfl | rfl | rfl
      · exact e 8
      · exact e 9
      · exact e 10
      · exact e 11
      · exact e 12
      · exact e 13
    · obtain ⟨a, b, c, d⟩ := np q q1 q2
      have k := hg.2.2.2.2.2.2.1 q q1 q2
      rw [a, b]
      exact ⟨by omega, k.2⟩
    · obtain ⟨a, b, c, d⟩ := nr r r1 r2
      have k := hg.2.2.2.2.2.2.2.1 r r1 r2
      rw [a, d]
      exact ⟨by omega, k.2⟩
theorem m_copies (hX : XC X) (hg : g_ok G) (K : KS G P g) (x : X g) {p : Int} (hp : 0 ≤ p ∧ p < g_pm G) : ∃ G2 g2, (∀ d, 60 ≤ d → y_se z_pg sc d 188 [y_vr 94, y_vi p, y_vi 2] g = some (some (y_vi (g_cp G p)), g2)) ∧ KS G2 P g2 ∧ X g2 ∧ f_re id G G2 ∧ g_ok G2 ∧ g_nm G2 = g_nm G := by
  obtain ⟨K1, K2⟩ := K
  subst K1
  have kp := hg.1
  generalize e2 : y_sI g 101 (Int.toNat (3 * p)) 2 = g2
  have o : ∀ a k, ¬ (a = 101 ∧ k = Int.toNat (3 * p)) → y_I g2 a k = y_I g a k := fun a k q => by rw [← e2, yI_sI_o q]
  obtain ⟨r1, r2, r3⟩ := re_gen (g2 := g2) hg (fun a k q1 _ => o a k (by omega)) (fun q q1 q2 => by
    have k := hg.2.2.2.2.2.2.1 q q1 q2
    have ecm : g_cm (hv g2) q = g_cm (hv g) q := o 101 _ (by omega)
    have esl : g_sl (hv g2) q = g_sl (hv g) q := o 101 _ (by omega)
    by_cases c : q = p
    · have : g_cp (hv g2) q = 2 := by
        show y_I g2 101 (Int.toNat (3 * q)) = 2
        rw [c, ← e2, yI_sI_e ⟨rfl, rfl⟩]
      exact ⟨ecm, esl, by omega, by omega⟩
    · have : g_cp (hv g2) q = g_cp (hv g) q := o 101 _ (by omega)
      exact ⟨ecm, esl, by omega, by omega⟩) (fun r r1 r2 => by
    have k := hg.2.2.2.2.2.2.2.1 r r1 r2
    have efr : g_fr (hv g2) r = g_fr (hv g) r := o 102 _ (by omega)
    have eti : g_ti (hv g2) r = g_ti (hv g) r := o 102 _ (by omega)
    have eor : g_or (hv g2) r = g_or (hv g) r := o 102 _ (by omega)
    exact ⟨efr, by omega, by omega, eor⟩)
  refine ⟨hv g2, g2, fun d hd => ?_, ⟨rfl, fun w w1 w2 => (show y_I g2 111 _ = y_I g 111 _ from o _ _ (by omega)).trans (K2 w w1 (by have := r1.1.2.2.1; omega))⟩, hX g g2 (fun b k q => o b k (by omega)) x, r1, r2, r3⟩
  obtain ⟨d, rfl⟩ : ∃ e, d = e + 1 := ⟨d - 1, by omega⟩
  rw [e188, b188_0, s170 d (by omega) _ hg, yci_s, if_neg (by rw [bi_t hp]; omega), s136 d (by omega), yci_s, if_neg (by rw [bi_t (by omega)]; omega)]
  simp (disch := omega) only [yr_t, yi_t]
  rw [e2]
  rfl
theorem m_late (hX : XC X) (hg : g_ok G) (K : KS G P g) (x : X g) {r a : Int} (hr : 0 ≤ r ∧ r < g_rm G) (ha : a = g_fr G r) : ∃ G2 g2, (∀ d, 60 ≤ d → y_se z_pg sc d 190 [y_vr 94, y_vi r, y_vi a, y_vi 60] g = some (some (y_vi 1), g2)) ∧ KS G2 P g2 ∧ X g2 ∧ f_re id G G2 ∧ g_ok G2 ∧ g_nm G2 = g_nm G := by
  obtain ⟨K1, K2⟩ := K
  subst K1
  have kr := hg.2.1
  have kk := (hg.2.2.2.2.2.2.2.1 r hr.1 hr.2).1
  generalize e2 : y_sI (y_sI g 102 (Int.toNat (3 * r)) a) 102 (Int.toNat (3 * r + 1)) 60 = g2
  have o : ∀ b k, ¬ (b = 102 ∧ (k = Int.toNat (3 * r) ∨ k = Int.toNat (3 * r + 1))) → y_I g2 b k = y_I g b k := fun b k q => by rw [← e2, yI_sI_o (by omega), yI_sI_o (by omega)]
  obtain ⟨r1, r2, r3⟩ := re_gen (g2 := g2) hg (fun a k _ q2 => o a k (by omega)) (fun q q1 q2 => by
    have k := hg.2.2.2.2.2.2.1 q q1 q2
    have ecm : g_cm (hv g2) q = g_cm (hv g) q := o 101 _ (by omega)
    have esl : g_sl (hv g2) q = g_sl (hv g) q := o 101 _ (by omega)
    have ecp : g_cp (hv g2) q = g_cp (hv g) q := o 101 _ (by omega)
    exact ⟨ecm, esl, by omega, by omega⟩) (fun q q1 q2 => by
    have k := (hg.2.2.2.2.2.2.2.1 q q1 q2).1
    have eor : g_or (hv g2) q = g_or (hv g) q := o 102 _ (by omega)
    by_cases c : q = r
    · have e1 : g_fr (hv g2) q = a := by
        show y_I g2 102 (Int.toNat (3 * q)) = a
        rw [c, ← e2, yI_sI_o (by omega), yI_sI_e ⟨rfl, rfl⟩]
      have e3 : g_ti (hv g2) q = 60 := by
        show y_I g2 102 (Int.toNat (3 * q + 1)) = 60
        rw [c, ← e2, yI_sI_e ⟨rfl, rfl⟩]
      exact ⟨by rw [e1, ha, c], by omega, by omega, eor⟩
    · have efr : g_fr (hv g2) q = g_fr (hv g) q := o 102 _ (by omega)
      have eti : g_ti (hv g2) q = g_ti (hv g) q := o 102 _ (by omega)
      exact ⟨efr, by omega, by omega, eor⟩)
  refine ⟨hv g2, g2, fun d hd => ?_, ⟨rfl, fun w w1 w2 => (show y_I g2 111 _ = y_I g 111 _ from o _ _ (by omega)).trans (K2 w w1 (by have := r1.1.2.2.1; omega))⟩, hX g g2 (fun b k q => o b k (by omega)) x, r1, r2, r3⟩
  obtain ⟨d, rfl⟩ : ∃ e, d = e + 1 := ⟨d - 1, by omega⟩
  rw [e190, b190_0, s171 d (by omega) _ hg, yci_s, if_neg (by rw [bi_t hr]; omega), s136 d (by omega), yci_s, if_neg (by rw [bi_t (by omega)]; omega), s136 d (by omega), yci_s, if_neg (by rw [bi_t (by omega)]; omega), if_pos (by omega)]
  simp (disch := omega) only [yr_t, yi_t]
  rw [e2]
theorem m_fault3 (K : NW H W) (t : TX (rhouse H W) g) (hL : (rhouse H W).length ≤ 110) : ∃ g2, (∀ d, 60 ≤ d → y_se z_pg sc d 168 [y_vr 94, y_vi 3] g = some (some (y_vi (-9)), g2)) ∧ TX (rhouse H W) g2 := by
  obtain ⟨g1, a1, a2, a3⟩ := m_167 (sc := sc) K t hL
  refine ⟨g1, fun d hd => ?_, ⟨by rw [a3.1 _ _ (by omega) (by omega)]; exact t.1, fun j hj => by rw [a3.1 _ _ (by omega) (by omega)]; exact t.2 j hj⟩⟩
  obtain ⟨d, rfl⟩ : ∃ e, d = e + 1 := ⟨d - 1, by omega⟩
  rw [e168, b168_0, s153 d (by omega), yci_s, if_neg (by rw [bi_t (by omega)]; omega), yi_t (by omega), t.1, if_neg (by omega), a1 d (by omega), yci_s]
/-- the house that is read -/
theorem dv_HG {g1 : y_Hp} (K : NW H W) {L : List Int} {p : Int} (Q : QS L H W p (H 3) (H 0) (H 1) (H 2) (H 5) g1) : HG H W (dv g1) := by
  obtain ⟨⟨k0, k1, k2, k3, k4, k5⟩, -⟩ := K
  obtain ⟨M, ⟨e1, e2, e3, e4, e5, e6⟩, sP, sR, sW, sC⟩ := Q
  have d1 : ∀ k, k < 18 → dv g1 101 k = y_I g1 106 k := fun k h => if_pos h
  have d2 : ∀ k, k < 24 → dv g1 102 k = y_I g1 107 k := fun k h => if_pos h
  have d3 : ∀ k, k < 96 → dv g1 103 k = y_I g1 108 k := fun k h => if_pos h
  have d5 : ∀ k, k < 24 → dv g1 105 k = y_I g1 110 k := fun k h => if_pos h
  refine ⟨⟨e1, e2, e3, e4, e5, e6⟩, fun q q1 q2 => ?_, fun q q1 q2 => ?_, fun q q1 q2 => ?_, fun q q1 q2 => ?_⟩
  · obtain ⟨a, b, c⟩ := sP q q1 q2
    exact ⟨(d1 _ (by omega)).trans a, (d1 _ (by omega)).trans b, (d1 _ (by omega)).trans c⟩
  · obtain ⟨a, b, c⟩ := sR q q1 q2
    exact ⟨(d2 _ (by omega)).trans a, (d2 _ (by omega)).trans b, (d2 _ (by omega)).trans c⟩
  · obtain ⟨a, b, c, d⟩ := sW q q1 q2
    exact ⟨(d3 _ (by omega)).trans a, (d3 _ (by omega)).trans b, (d3 _ (by omega)).trans c, (d3 _ (by omega)).trans d⟩
  · obtain ⟨a, b, c⟩ := sC q q1 q2
    exact ⟨(d5 _ (by omega)).trans a, (d5 _ (by omega)).trans b, (d5 _ (by omega)).trans c⟩
theorem m_house3 (K : NW H W) (t : TX (rhouse H W) g) (hL : (rhouse H W).length ≤ 110) : ∃ g2, (∀ d, 60 ≤ d → y_se z_pg sc d 169 [y_vr 94, y_vi 3] g = some (some (y_vi (H 2)), g2)) ∧ HG H W (hv g2) := by
  obtain ⟨g1, m1, a2, a3⟩ := m_167 (sc := sc) K t hL
  have b24 : y_I g1 94 24 = H 2 := a2.2.1.2.2.2.1
  generalize eG : y_sI (y_sI (y_sI (y_sI (y_sI (y_sI g1 94 8 (y_I g1 94 21)) 94 9 (y_I g1 94 22)) 94 10 (y_I g1 94 23)) 94 11 (y_I g1 94 24)) 94 12 (y_I g1 94 25)) 94 13 (y_I g1 94 26) = g2
  have G2o : ∀ c k, ¬ (c = 94 ∧ 8 ≤ k ∧ k ≤ 13) → y_I g2 c k = y_I g1 c k := fun c k z => by
    rw [← eG]
    simp (disch := omega) only [yI_sI_o]
  have G2e : ∀ k, 8 ≤ k → k ≤ 13 → y_I g2 94 k = y_I g1 94 (k + 13) := fun k z1 z2 => by
    rw [← eG]
    rcases (show k = 8 ∨ k = 9 ∨ k = 10 ∨ k = 11 ∨ k = 12 ∨ k = 13 by omega) with rfl | rfl | rfl | rfl | rfl | rfl <;> simp (disch := omega) only [yI_sI_o, yI_sI_e]
  obtain ⟨g3, C9, l9⟩ := l169 (sc := sc) 3 g2 96 0 g2 (by omega) (by omega) ⟨fun j z => by omega, fun j z => by omega, fun j z => by omega, fun j z => by omega, fun j z => by omega, fun j z => by omega, fun a j z1 z2 z3 => rfl, rfl⟩
  obtain ⟨k1, k2, k3, k4, k5, k6, k7, k8⟩ := C9
  have l181 := fun d => l169b (sc := sc) 3 g3 d 6 0 (by omega) (by omega)
  rw [show Int.toNat 0 = 0 from rfl, y_fill_0] at l181
  have g3o : ∀ c k, c ≠ 112 → y_I (y_fill g3 112 0 6 (fun _ => 0)) c k = y_I g3 c k := fun c k z => yI_fill_o (by omega)
  have hvd : hv (y_fill g3 112 0 6 (fun _ => 0)) = dv g1 := by
    refine hv_dv (fun k z1 z2 => ?_) (fun k => ?_) (fun k => ?_) (fun k => ?_) (fun k => ?_) (fun k => ?_)
    · rw [g3o _ _ (by omega), k7 _ _ (by omega) (by omega) (by omega), G2e k z1 z2]
    · rw [g3o _ _ (by omega)]
      by_cases z : k < 18
      · rw [if_pos z, k2 k (by omega) z, G2o _ _ (by omega)]
      · rw [if_neg z, k7 _ _ (by omega) (by omega) (by omega), G2o _ _ (by omega)]
    · rw [g3o _ _ (by omega)]
      by_cases z : k < 24
      · rw [if_pos z, k3 k (by omega) z, G2o _ _ (by omega)]
      · rw [if_neg z, k7 _ _ (by omega) (by omega) (by omega), G2o _ _ (by omega)]
    · rw [g3o _ _ (by omega)]
      by_cases z : k < 96
      · rw [if_pos z, k1 k (by omega), G2o _ _ (by omega)]
      · rw [if_neg z, k7 _ _ (by omega) (by omega) (by omega), G2o _ _ (by omega)]
    · rw [g3o _ _ (by omega)]
      by_cases z : k < 24
      · rw [if_pos z, k4 k (by omega) z, G2o _ _ (by omega)]
      · rw [if_neg z, k7 _ _ (by omega) (by omega) (by omega), G2o _ _ (by omega)]
    · rw [g3o _ _ (by omega)]
      by_cases z : k < 24
      · rw [if_pos z, k5 k (by omega) z, G2o _ _ (by omega)]
      · rw [if_neg z, k7 _ _ (by omega) (by omega) (by omega), G2o _ _ (by omega)]
  generalize eH : y_fill g3 112 0 6 (fun _ => 0) = h2 at hvd g3o l181
  refine ⟨h2, fun d hd => ?_, by rw [hvd]; exact dv_HG K a2⟩
  obtain ⟨d, rfl⟩ : ∃ e, d = e + 1 := ⟨d - 1, by omega⟩
  rw [e169, b169_0, s153 d (by omega), yci_s, if_neg (by rw [bi_t (by omega)]; omega), yi_t (by omega), t.1, if_neg (by omega), m1 d (by omega), yci_s, if_pos rfl]
  simp (disch := omega) only [yhb_s, yI_sI_o]
  rw [eG, l9 d, l181 d, k7 _ _ (by omega) (by omega) (by omega), G2e _ (by omega) (by omega), b24]
end MV
