/-! READING A HOUSE: the draft at first -/
section IT
variable {sc : z_Sc} {h g : y_Hp} {b : Nat}
theorem s1 (d : Nat) (hd : 1 ≤ d) (hb : b = 62 ∨ b = 78) : y_se z_pg sc d 1 [y_vr b] h = some (none, y_sI (y_sI (y_sI (y_sI h b 0 60) b 1 0) b 2 0) b 3 0) := by
  rcases d with _ | d
  · omega
  rw [e1, b1_0, yH0 hb, yH0 hb, yH0 hb, yH0 hb]
theorem DR_first (hb : b = 62 ∨ b = 78) (x0 : y_I h b 0 = 60) (x1 : y_I h b 1 = 0) (x2 : y_I h b 2 = 0) (x3 : y_I h b 3 = 0) (n1 : y_I h 19 4 = 0) (n2 : y_I h 19 5 = 0) (g1 : y_I g 94 21 = 60) (g2 : y_I g 94 22 = 0) (g3 : y_I g 94 23 = 0) (g4 : y_I g 94 24 = 0) (g5 : y_I g 94 25 = 0) (g6 : y_I g 94 26 = 0) : DR h b g := by
  have la : g_la (dv g) = 60 := g1
  have pm : g_pm (dv g) = 0 := g2
  have rm : g_rm (dv g) = 0 := g3
  have wm : g_wm (dv g) = 0 := g4
  have nm : g_nm (dv g) = 0 := g5
  have um : g_um (dv g) = 0 := g6
  unfold DR
  refine ⟨?_, ?_, ?_, by rw [n1, nm], by rw [n2, um]⟩
  · unfold xmg
    rw [la, pm, rm, wm]
    exact ⟨hb, x0, x1, x2, x3, fun p p1 p2 => by omega, fun p p1 p2 => by omega, fun p p1 p2 => by omega, fun p p1 p2 => by omega, fun p p1 p2 => by omega, fun p p1 p2 => by omega, fun p p1 p2 => by omega, fun p p1 p2 => by omega, fun p p1 p2 => by omega, fun p p1 p2 => by omega, fun p p1 p2 => by omega, fun p p1 p2 => by omega, fun p p1 p2 => by omega, fun p p1 p2 => by omega, fun p p1 p2 => by omega⟩
  · unfold g_ok
    rw [la, pm, rm, wm, nm, um]
    exact ⟨by omega, by omega, by omega, by omega, by omega, by omega, fun p p1 p2 => by omega, fun p p1 p2 => by omega, fun p p1 p2 => by omega, fun p w p1 p2 => by omega, fun p p1 p2 => by omega⟩
  · unfold g_di
    rw [nm, um]
    exact ⟨fun p p1 p2 => by omega, fun p p1 p2 => by omega⟩
end IT
