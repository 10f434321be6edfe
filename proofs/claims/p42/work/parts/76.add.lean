/-! READING A HOUSE, x adds a reader, a want -/
section IT
variable {sc : z_Sc} {h g : y_Hp} {c b : Nat} {t n p : Int} {T : Int → Int}
def x_ar (h : y_Hp) (b : Nat) (R v1 v2 v3 : Int) : y_Hp := y_sI (y_sI (y_sI (y_sI (y_sI h (b + 5) (Int.toNat R) v1) (b + 6) (Int.toNat R) v2) (b + 7) (Int.toNat R) 0) (b + 8) (Int.toNat R) v3) b 2 (R + 1)
theorem s9 (d : Nat) (hd : 1 ≤ d) (hb : b = 62 ∨ b = 78) (R : Int) (hR : y_I h b 2 = R) (h8 : 0 ≤ R ∧ R < 8) (v1 v2 v3 : Int) (hv : v3 = 0 ∨ v3 = 1) : y_se z_pg sc d 9 [y_vr b, y_vi v1, y_vi v2, y_vi v3] h = some (none, x_ar h b R v1 v2 v3) := by
  rcases d with _ | d
  · omega
  have q1 : ∀ g : y_Hp, ∀ a k v, b ≠ a → y_I (y_sI g a k v) b 2 = y_I g b 2 := fun g a k v e => yI_sI_o (fun z => e z.1)
  rw [e9, b9_0, yH0 hb, hR, if_pos h8.2]
  simp (disch := first | omega | assumption) only [yH0, yH5, yH6, yH7, yH8, lH5, lH6, lH7, lH8, hR, yi_t, q1, yhb_s, yr_t, yb_t]
  rfl
def x_aw (h : y_Hp) (b : Nat) (R W v1 v2 v3 : Int) : y_Hp := y_sI (y_sI (y_sI (y_sI (y_sI (y_sI (y_sI (y_sI (y_sI h (b + 9) (Int.toNat W) (R - 1)) (b + 10) (Int.toNat W) v1) (b + 11) (Int.toNat W) v2) (b + 12) (Int.toNat W) v3) (b + 13) (Int.toNat W) 0) (b + 14) (Int.toNat W) 0) (b + 15) (Int.toNat W) (if y_I h (b + 8) (Int.toNat (R - 1)) = 0 then 0 else y_I h (b + 7) (Int.toNat (R - 1)))) (b + 7) (Int.toNat (R - 1)) (y_or (y_I h (b + 7) (Int.toNat (R - 1))) (y_shl 1 W))) b 3 (W + 1)
theorem s10 (d : Nat) (hd : 1 ≤ d) (hb : b = 62 ∨ b = 78) (R W : Int) (hR : y_I h b 2 = R) (hW : y_I h b 3 = W) (h8 : 1 ≤ R ∧ R ≤ 8) (h24 : 0 ≤ W ∧ W < 24) (v1 v2 v3 : Int) : y_se z_pg sc d 10 [y_vr b, y_vi v1, y_vi v2, y_vi v3] h = some (none, x_aw h b R W v1 v2 v3) := by
  rcases d with _ | d
  · omega
  have q1 : ∀ g : y_Hp, ∀ a k v, b ≠ a → y_I (y_sI g a k v) b 2 = y_I g b 2 := fun g a k v e => yI_sI_o (fun z => e z.1)
  have q2 : ∀ g : y_Hp, ∀ a k v, b ≠ a → y_I (y_sI g a k v) b 3 = y_I g b 3 := fun g a k v e => yI_sI_o (fun z => e z.1)
  have q8 : ∀ g : y_Hp, ∀ a k v j, b + 8 ≠ a → y_I (y_sI g a k v) (b + 8) j = y_I g (b + 8) j := fun g a k v j e => yI_sI_o (fun z => e z.1)
  have q7 : ∀ g : y_Hp, ∀ a k v j, b + 7 ≠ a → y_I (y_sI g a k v) (b + 7) j = y_I g (b + 7) j := fun g a k v j e => yI_sI_o (fun z => e z.1)
  rw [e10, b10_0, yH0 hb, hW, if_pos h24.2, yH0 hb, hR, if_pos (by omega)]
  simp (disch := first | omega | assumption) only [yH0, yH7, yH8, yH9, yH10, yH11, yH12, yH13, yH14, yH15, lH7, lH8, lH9, lH10, lH11, lH12, lH13, lH14, lH15, hR, hW, yi_t, q1, q2, q7, q8, yhb_s, yr_t]
  unfold x_aw
  by_cases e : y_I h (b + 8) (Int.toNat (R - 1)) = 0
  · rw [if_pos e, if_pos e]
  · rw [if_neg e, if_neg e]
end IT
