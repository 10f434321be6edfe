/-! how many parts a mask tells of -/
theorem u_sum_ind {g : Int → Int} {q : Int} : ∀ (n : Nat) (k : Int), u_sum (fun j => g j + if j = q then 1 else 0) k n = u_sum g k n + (if k ≤ q ∧ q < k + n then 1 else 0)
  | 0, k => by
    rw [u_sum_0, u_sum_0, if_neg (by omega)]
    rfl
  | n + 1, k => by
    rw [u_sum_s, u_sum_s, u_sum_ind n (k + 1)]
    by_cases e : k = q
    · rw [if_pos e, if_neg (by omega), if_pos (by omega)]
      omega
    · rw [if_neg e]
      by_cases z : k + 1 ≤ q ∧ q < k + 1 + (n : Int)
      · rw [if_pos z, if_pos (by omega)]
        omega
      · rw [if_neg z, if_neg (by omega)]
        omega
noncomputable def u_mks (s : Int) : Int := u_sum (fun j => y_bi (u_bs s j)) 0 6
theorem u_mks_0 : u_mks 0 = 0 := by
  unfold u_mks
  rw [show (fun j => y_bi (u_bs 0 j)) = fun _ => (0 : Int) from funext fun j => bi_f ub_0]
  exact u_sum_z
theorem u_mks_bd {s : Int} : 0 ≤ u_mks s ∧ u_mks s ≤ 6 := by
  have := u_sum_bd (f := fun j => y_bi (u_bs s j)) (lo := 0) (hi := 1) (n := 6) (k := 0) fun j _ _ => bi_bd
  unfold u_mks
  omega
theorem u_mks_up {s q : Int} (hq : 0 ≤ q ∧ q < 6) (hn : ¬ u_bs s q) : u_mks (y_or s (y_shl 1 q)) = u_mks s + 1 := by
  unfold u_mks
  have key : ∀ j, 0 ≤ j → j < 0 + ((6 : Nat) : Int) → y_bi (u_bs (y_or s (y_shl 1 q)) j) = y_bi (u_bs s j) + (if j = q then 1 else 0) := fun j h1 h2 => by
    by_cases e : j = q
    · subst e
      rw [if_pos rfl, bi_f hn, bi_t (ub_or.mpr (Or.inr ((ub_shl (by omega) (by omega)).mpr rfl)))]
      rfl
    · rw [if_neg e, Int.add_zero]
      refine bi_cg ?_
      rw [ub_or, ub_shl (by omega) (by omega)]
      exact ⟨fun z => z.elim id fun z => absurd z e, Or.inl⟩
  rw [u_sum_cg key, u_sum_ind, if_pos (by omega)]
