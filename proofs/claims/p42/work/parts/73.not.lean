/-! READING A HOUSE, a not -/
section IT
variable {sc : z_Sc} {h g : y_Hp} {c b : Nat} {t n p : Int} {T : Int → Int}
noncomputable def g_wf (G : u_G) (r p : Int) : Int := u_find (fun w => g_rd G w = r ∧ g_pt G w = p) 0 (g_wm G).toNat
theorem l13 (d : Nat) {G : u_G} (X : xmg h b G) (hw : g_wm G ≤ 24) (r q : Int) : ∀ (n : Nat) (k : Int), 0 ≤ k → k + n = max k (g_wm G) → y_ev z_pg sc d pgX0_wantOf 2 [some (y_vr b), some (y_vi r), some (y_vi q), some (y_vi k)] [] h = some (some (y_vi (u_find (fun w => g_rd G w = r ∧ g_pt G w = q) k n)), h)
  | 0, k, hk, hn => by
    have x3 := X.2.2.2.2.1
    rw [b13_2, yH0 X.1, x3, if_neg (by omega)]
    rfl
  | n + 1, k, hk, hn => by
    have x3 := X.2.2.2.2.1
    have x12 := X.2.2.2.2.2.2.2.2.2.2.2.2.2.1 k hk (by omega)
    have x13 := X.2.2.2.2.2.2.2.2.2.2.2.2.2.2.1 k hk (by omega)
    rw [b13_2, yH0 X.1, x3, if_pos (by omega), yH0 X.1, yH9 X.1, lH9 X.1, yi_t (by omega), x12]
    by_cases c1 : g_rd G k = r
    · rw [if_pos c1, yH0 X.1, yH10 X.1, lH10 X.1, yi_t (by omega), x13]
      by_cases c2 : g_pt G k = q
      · rw [if_pos c2, u_find_t (p := fun w => g_rd G w = r ∧ g_pt G w = q) ⟨c1, c2⟩]
      · rw [if_neg c2, yr_t (by omega), l13 d X hw r q n (k + 1) (by omega) (by omega), u_find_f (p := fun w => g_rd G w = r ∧ g_pt G w = q) (fun z => c2 z.2)]
    · rw [if_neg c1, yr_t (by omega), l13 d X hw r q n (k + 1) (by omega) (by omega), u_find_f (p := fun w => g_rd G w = r ∧ g_pt G w = q) (fun z => c1 z.1)]
theorem s13 (d : Nat) (hd : 1 ≤ d) {G : u_G} (X : xmg h b G) (hw : 0 ≤ g_wm G ∧ g_wm G ≤ 24) (r q : Int) : y_se z_pg sc d 13 [y_vr b, y_vi r, y_vi q] h = some (some (y_vi (g_wf G r q)), h) := by
  rcases d with _ | d
  · omega
  rw [e13, b13_0, l13 d X hw.2 r q (g_wm G).toNat 0 (by omega) (by omega)]
  rfl
end IT
