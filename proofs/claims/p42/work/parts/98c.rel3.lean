/-! runs and calls on two sides that are alike; three sides: what is no ghost; the ghost; x beside the second x -/
section RR
variable {S : Nat → Bool} {σ : Nat → Nat} {sc : z_Sc} {C C' : y_C} {M : Nat} {r : y_R}
theorem r_st (D : r_sd S σ) {Y : y_O → Prop} {K K' : y_K} {pc : Nat} {ls : y_Ls} {st : List y_V} {h g : y_Hp} (hls : r_okL S ls) (hst : r_okS S st) (hh : r_okH S h) (R : r_rel S σ h g) (hR : ∀ v, (∀ w, v = some w → r_okV S w) → r = (v, h) → Y (some (v.map (v_V σ), g)))
    (hK : ∀ pc' ls' st' h' g', r_okL S ls' → r_okS S st' → r_okH S h' → r_rel S σ h' g' → r_fr S h h' → r_fs S σ g g' → K pc' ls' st' h' = some r → Y (K' pc' (v_Ls σ ls') (st'.map (v_V σ)) g'))
    (hC : ∀ x as r0, r_okS S as → C x as h = some r0 → r_okR S r0 ∧ r_fr S h r0.2 ∧ r_cl S σ h g r0 (C' x (as.map (v_V σ)) g)) (q : y_st sc C K (z_gt (z_pg M) pc) pc ls st h = some r) : Y (y_st sc C' K' (z_gt (z_pg M) pc) pc (v_Ls σ ls) (st.map (v_V σ)) g) := by
  have hK0 : ∀ pc' ls' st', r_okL S ls' → r_okS S st' → K pc' ls' st' h = some r → Y (K' pc' (v_Ls σ ls') (st'.map (v_V σ)) g) := fun pc' ls' st' a b c => hK pc' ls' st' h g a b hh R r_fr_rf r_fs_rf c
  rcases hg : z_gt (z_pg M) pc with _ | ⟨g0, ins, x, y, z, t, i⟩
  · rw [hg] at q
    cases q
  · rw [hg] at q
    obtain ⟨len, hm⟩ := z_gt_mem hg
    have hf := r_fokA hm
    have hg5 : g0 = 0 ∨ g0 = 1 ∨ g0 = 2 ∨ g0 = 3 ∨ ∃ k, g0 = k + 4 := by
      match g0 with
      | 0 => exact Or.inl rfl
      | 1 => exact Or.inr (Or.inl rfl)
      | 2 => exact Or.inr (Or.inr (Or.inl rfl))
      | 3 => exact Or.inr (Or.inr (Or.inr (Or.inl rfl)))
      | k + 4 => exact Or.inr (Or.inr (Or.inr (Or.inr ⟨k, rfl⟩)))
    rcases hg5 with rfl | rfl | rfl | rfl | ⟨k, rfl⟩
    · exact r_sim0 hls hst q hK0
    · exact r_sim1 hls hst q hK0
    · exact r_sim2 hls hst hR q hK0
    · exact r_sim3 D hf hls hst hh R q hK
    · exact r_sim4 D hls hst hh R q hK hC
theorem r_run (D : r_sd S σ) (hC : ∀ x as h g r0, r_okS S as → r_okH S h → r_rel S σ h g → C x as h = some r0 → r_okR S r0 ∧ r_fr S h r0.2 ∧ r_cl S σ h g r0 (C' x (as.map (v_V σ)) g)) :
    ∀ n pc ls st h g, r_okL S ls → r_okS S st → r_okH S h → r_rel S σ h g → y_rn sc C (z_pg M) n pc ls st h = some r → r_okR S r ∧ r_fr S h r.2 ∧ r_cl S σ h g r (y_rn sc C' (z_pg M) n pc (v_Ls σ ls) (st.map (v_V σ)) g)
  | 0, _, _, _, _, _, _, _, _, _, q => by cases q
  | n + 1, pc, ls, st, h, g, hls, hst, hh, R, q => by
    have q : y_st sc C (y_rn sc C (z_pg M) n) (z_gt (z_pg M) pc) pc ls st h = some r := q
    refine r_st (Y := fun o => r_okR S r ∧ r_fr S h r.2 ∧ r_cl S σ h g r o) (K' := y_rn sc C' (z_pg M) n) D hls hst hh R (fun v hv e => ?_) (fun pc' ls' st' h' g' a1 a2 a3 a4 a5 a6 a7 => ?_) (fun x as r0 a b => hC x as h g r0 a hh R b) q
    · subst e
      exact ⟨⟨hv, hh⟩, r_fr_rf, g, rfl, R, r_fs_rf⟩
    · obtain ⟨b1, b2, g1, b3, b4, b5⟩ := r_run D hC n pc' ls' st' h' g' a1 a2 a3 a4 a7
      exact ⟨b1, r_fr_tr a5 b2, g1, b3, b4, r_fs_tr a6 b5⟩
theorem v_lay (σ : Nat → Nat) : ∀ as : List y_V, y_lay (as.map (v_V σ)) = v_Ls σ (y_lay as)
  | [] => rfl
  | v :: r => by
    have ih := v_lay σ r
    rcases v with x | a | x
    · show some (v_V σ (.inl x)) :: y_lay (r.map (v_V σ)) = _
      rw [ih]; rfl
    · show some (v_V σ (.inr (.inl a))) :: y_lay (r.map (v_V σ)) = _
      rw [ih]; rfl
    · show some (v_V σ (.inr (.inr x))) :: none :: y_lay (r.map (v_V σ)) = _
      rw [ih]; rfl
theorem v_lay_len (as : List y_V) : (y_lay (as.map (v_V σ))).length = (y_lay as).length := by
  rw [v_lay]
  exact List.length_map _
theorem v_ent {as : List y_V} {n : Nat} : y_ent (as.map (v_V σ)) n = v_Ls σ (y_ent as n) := by
  unfold y_ent
  rw [v_lay_len, v_lay]
  unfold v_Ls
  rw [List.map_append, List.map_replicate]
  rfl
theorem r_lay_ok : ∀ as : List y_V, r_okS S as → ∀ v, some v ∈ y_lay as → r_okV S v
  | [], _, _, h => by cases h
  | v :: r, hs, w, h => by
    obtain ⟨s1, s2⟩ := r_okS_cons.mp hs
    have ih := r_lay_ok r s2 w
    rcases v with x | a | x
    · rcases List.mem_cons.mp h with e | e
      · cases e; exact s1
      · exact ih e
    · rcases List.mem_cons.mp h with e | e
      · cases e; exact s1
      · exact ih e
    · rcases List.mem_cons.mp h with e | e
      · cases e; exact s1
      · rcases List.mem_cons.mp e with e | e
        · cases e
        · exact ih e
theorem r_ent_ok {as : List y_V} {n : Nat} (h : r_okS S as) : r_okL S (y_ent as n) := by
  intro k v hk
  unfold y_ent at hk
  rcases List.mem_append.mp (List.mem_of_getElem? hk) with e | e
  · exact r_lay_ok as h v e
  · have := List.eq_of_mem_replicate e
    cases this
theorem r_ca (D : r_sd S σ) {n : Nat} : ∀ d M as h g r, r_okS S as → r_okH S h → r_rel S σ h g → y_ca z_pg sc n d M as h = some r → r_okR S r ∧ r_fr S h r.2 ∧ r_cl S σ h g r (y_ca z_pg sc n d M (as.map (v_V σ)) g)
  | 0, _, _, _, _, _, _, _, _, q => by cases q
  | d + 1, M, as, h, g, r, hs, hh, R, q => by
    unfold y_ca at q
    obtain ⟨b, q⟩ := y_sg_some.mp q
    unfold y_ca
    rw [v_lay_len, b, v_ent]
    exact r_run D (fun x as h g r0 h1 h2 h3 h4 => r_ca D d x as h g r0 h1 h2 h3 h4) n 0 _ _ _ _ (r_ent_ok hs) (fun v hv => by cases hv) hh R q
/-- A CALL on one side is that call on the other -/
theorem r_se (D : r_sd S σ) {d : Nat} {as : List y_V} {h g : y_Hp} (hs : r_okS S as) (hh : r_okH S h) (R : r_rel S σ h g) (q : y_se z_pg sc d M as h = some r) : r_okR S r ∧ r_fr S h r.2 ∧ ∃ g1, y_se z_pg sc d M (as.map (v_V σ)) g = some (r.1.map (v_V σ), g1) ∧ r_rel S σ r.2 g1 ∧ r_fs S σ g g1 := by
  obtain ⟨n, hn⟩ := y_se_iff.mp q
  obtain ⟨b1, b2, g1, b3, b4, b5⟩ := r_ca D d M as h g r hs hh R hn
  exact ⟨b1, b2, g1, y_se_iff.mpr ⟨n, b3⟩, b4, b5⟩
end RR
/-! THE SIDES -/
def r_dec (S : Nat → Bool) (σ : Nat → Nat) : Bool := (List.range 240).all fun a => !(S a) || (decide (z_kd (σ a) = z_kd a) && ((Nat.beq (σ a) 0 == Nat.beq a 0) && ((Nat.beq (σ a) 1 == Nat.beq a 1) && ((List.range (z_kd a).2).all fun k => S (z_of (z_kd a).1 k a) && Nat.beq (z_of (z_kd a).1 k (σ a)) (σ (z_of (z_kd a).1 k a))))))
theorem r_sd_of {S : Nat → Bool} {σ : Nat → Nat} (h0 : S 0 = true ∧ σ 0 = 0) (hS : ∀ a, S a = true → a < 240) (hi : ∀ a b, S a = true → S b = true → σ a = σ b → a = b) (hd : r_dec S σ = true) : r_sd S σ := by
  have key : ∀ a, S a = true → decide (z_kd (σ a) = z_kd a) = true ∧ (Nat.beq (σ a) 0 == Nat.beq a 0) = true ∧ (Nat.beq (σ a) 1 == Nat.beq a 1) = true ∧ ((List.range (z_kd a).2).all fun k => S (z_of (z_kd a).1 k a) && Nat.beq (z_of (z_kd a).1 k (σ a)) (σ (z_of (z_kd a).1 k a))) = true := fun a ha => by
    have h1 := List.all_eq_true.mp hd a (List.mem_range.mpr (hS a ha))
    rw [ha] at h1
    simpa only [Bool.not_true, Bool.false_or, Bool.and_eq_true] using h1
  refine ⟨h0, fun a ha => of_decide_eq_true (key a ha).1, fun a ha => ⟨eq_of_beq (key a ha).2.1, eq_of_beq (key a ha).2.2.1⟩, hi, fun a k ha hk => ?_⟩
  have h2 := List.all_eq_true.mp (key a ha).2.2.2 k (List.mem_range.mpr hk)
  rw [Bool.and_eq_true] at h2
  exact ⟨h2.1, z_beq h2.2⟩
/-- what is no ghost -/
def s_A (a : Nat) : Bool := y_ng 188 a
/-- the ghost of x -/
def s_G (a : Nat) : Bool := Nat.beq a 0 || (Nat.blt 93 a && Nat.blt a 119)
/-- x, and the rows -/
def s_X (a : Nat) : Bool := Nat.blt a 94 || (Nat.blt 235 a && Nat.blt a 240)
/-- x and the second x change places, their ghosts too -/
def s_w (a : Nat) : Nat := match Nat.blt 1 a with
  | false => a
  | true => (match Nat.blt a 119 with
    | true => a + 117
    | false => (match Nat.blt a 236 with
      | true => a - 117
      | false => a))
theorem s_A_iff {a : Nat} : s_A a = true ↔ (a < 94 ∨ (118 < a ∧ a < 211) ∨ (235 < a ∧ a < 240)) := by
  unfold s_A
  rw [y_ng_iff]
  omega
theorem s_G_iff {a : Nat} : s_G a = true ↔ (a = 0 ∨ (93 < a ∧ a < 119)) := by
  have e : Nat.beq a 0 = true ↔ a = 0 := ⟨z_beq, fun h => by rw [h]; rfl⟩
  unfold s_G
  simp only [Bool.or_eq_true, Bool.and_eq_true, Nat.blt_eq, e]
theorem s_X_iff {a : Nat} : s_X a = true ↔ (a < 94 ∨ (235 < a ∧ a < 240)) := by
  unfold s_X
  simp only [Bool.or_eq_true, Bool.and_eq_true, Nat.blt_eq]
theorem blt_f {a b : Nat} (h : ¬ a < b) : Nat.blt a b = false := by
  cases q : Nat.blt a b
  · rfl
  · exact absurd (Nat.blt_eq.mp q) h
theorem s_w_eq {a : Nat} : s_w a = if 1 < a then (if a < 119 then a + 117 else if a < 236 then a - 117 else a) else a := by
  unfold s_w
  by_cases h1 : 1 < a
  · rw [if_pos h1, Nat.blt_eq.mpr h1]
    by_cases h2 : a < 119
    · rw [if_pos h2, Nat.blt_eq.mpr h2]
    · rw [if_neg h2, blt_f h2]
      by_cases h3 : a < 236
      · rw [if_pos h3, Nat.blt_eq.mpr h3]
      · rw [if_neg h3, blt_f h3]
  · rw [if_neg h1, blt_f h1]
theorem s_ww (a : Nat) : s_w (s_w a) = a := by
  rw [s_w_eq, s_w_eq]
  (repeat' split) <;> omega
theorem D_A : r_sd s_A id := r_sd_of ⟨by decide, rfl⟩ (fun a h => by have := s_A_iff.mp h; omega) (fun a b _ _ e => e) (by decide +kernel)
theorem D_G : r_sd s_G id := r_sd_of ⟨by decide, rfl⟩ (fun a h => by have := s_G_iff.mp h; omega) (fun a b _ _ e => e) (by decide +kernel)
theorem D_X : r_sd s_X s_w := r_sd_of ⟨by decide, by decide⟩ (fun a h => by have := s_X_iff.mp h; omega) (fun a b _ _ e => by have := congrArg s_w e; rwa [s_ww, s_ww] at this) (by decide +kernel)
