/-! READING A HOUSE: a plan cleared -/
section IT
variable {sc : z_Sc} {h : y_Hp} {b : Nat}
theorem l32 (d : Nat) (hb : b = 20 ∨ b = 22) (g : y_Hp) : ∀ (m : Nat) (k : Int), 0 ≤ k → k + m = 24 → y_ev z_pg sc d pgX2_clear 2 [some (y_vr b), some (y_vi k)] [] (y_fill g (b + 1) 0 (Int.toNat k) (fun _ => -9)) = some (none, y_fill g (b + 1) 0 24 (fun _ => -9))
  | 0, k, hk, hm => by
    have e : k = 24 := by omega
    subst e
    rw [b32_2, if_neg (by omega)]
    rfl
  | m + 1, k, hk, hm => by
    have := l32 d hb g m (k + 1) (by omega) (by omega)
    rw [show Int.toNat (k + 1) = Int.toNat k + 1 by omega] at this
    rw [b32_2, if_pos (by omega), yP0 hb, yP1 hb, lP1 hb, yi_t (by omega), yr_t (by omega), y_fill_s (Nat.zero_le _) rfl, this]
theorem s32 (d : Nat) (hd : 1 ≤ d) (hb : b = 20 ∨ b = 22) : y_se z_pg sc d 32 [y_vr b] h = some (none, y_fill h (b + 1) 0 24 (fun _ => -9)) := by
  rcases d with _ | d
  · omega
  have := l32 (sc := sc) d hb h 24 0 (by omega) (by omega)
  rw [show Int.toNat 0 = 0 from rfl, y_fill_0] at this
  rw [e32, b32_0, this]
end IT
