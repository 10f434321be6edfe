/-! runs and calls over whole numbers are runs and calls of the pure semantics -/
theorem y_prog : (z_pgl.all fun L => L.all fun q => y_cok q.2.2.2.1 q.2.2.2.2.1 q.2.2.2.2.2.1) = true := by decide +kernel
theorem y_cokA {M pc len g x y z t i : Nat} {ins : Jvm.ClassFile.Instr} (h : (pc, len, g, ins, x, y, z, t, i) ∈ z_pg M) : y_cok ins x y = true := by
  unfold z_pg at h
  split at h
  · rename_i L hL
    exact List.all_eq_true.mp (List.all_eq_true.mp y_prog L (List.mem_of_getElem? hL)) _ h
  · cases h
theorem y_mc {M pc len x y z : Nat} {ins : Jvm.ClassFile.Instr} (hok : z_sok M pc len 4 ins x y z = true) : z = 10 ∨ z = 11 ∨ z = 12 ∨ z = 13 ∨ z_lk x = true := by
  rcases z_g4 hok with ⟨n, rfl⟩ | ⟨n, rfl⟩ | ⟨n, rfl⟩
  · unfold z_sok at hok
    simp only [Bool.and_eq_true] at hok
    exact Or.inr (Or.inr (Or.inr (Or.inr hok.2)))
  · unfold z_sok at hok
    simp only [Bool.and_eq_true] at hok
    have k3 := hok.2
    split at k3
    · omega
    · omega
    · omega
    · simp only [Bool.and_eq_true] at k3
      exact Or.inr (Or.inr (Or.inr (Or.inr k3.2)))
    · cases k3
  · unfold z_sok at hok
    simp only [Bool.and_eq_true] at hok
    have k3 := hok.2
    split at k3
    · omega
    · simp only [Bool.and_eq_true] at k3
      exact Or.inr (Or.inr (Or.inr (Or.inr k3.2)))
    · simp only [Bool.and_eq_true] at k3
      exact Or.inr (Or.inr (Or.inr (Or.inr k3.2)))
    · cases k3
section YRUN
variable {sc : z_Sc} {C : y_C} {C' : z_C} {M nn : Nat} {r : y_R} {T : z_O → Prop}
/-- one step: whatever goes on behind it (K, K') -/
theorem y_step (hM : z_lk M = true ∨ M = 250) (hn : nn = 186 ∨ nn = 188) (hC : ∀ x as h0 r0, z_lk x = true → y_okS nn as → y_okH nn h0 → C x as h0 = some r0 → y_okR nn r0 ∧ C' x (as.map c_V) (c_H nn h0) = some (c_R nn r0)) (hR : y_okR nn r → T (some (c_R nn r))) {K : y_K} {K' : z_K}
    (hK : ∀ pc' ls' st' h', y_okL nn ls' → y_okS nn st' → y_okH nn h' → K pc' ls' st' h' = some r → T (K' pc' (c_Ls ls') (st'.map c_V) (c_H nn h'))) {pc : Nat} {ls : y_Ls} {st : List y_V} {h : y_Hp} (hls : y_okL nn ls) (hst : y_okS nn st) (hh : y_okH nn h) (q : y_st sc C K (z_gt (z_pg M) pc) pc ls st h = some r) : T (z_st sc C' K' (z_gt (z_pg M) pc) pc (c_Ls ls) (st.map c_V) (c_H nn h)) := by
  rcases hg : z_gt (z_pg M) pc with _ | ⟨g, ins, x, y, z, t, i⟩
  · rw [hg] at q
    cases q
  · rw [hg] at q
    obtain ⟨len, hm⟩ := z_gt_mem hg
    have hck := List.all_eq_true.mp (z_ckA M hM) _ hm
    unfold z_eck at hck
    simp only [Bool.and_eq_true, decide_eq_true_eq] at hck
    obtain ⟨h1, h2, h3⟩ := hck
    have hc := y_cokA hm
    have hg4 := z_g_le h2
    rcases (show g = 0 ∨ g = 1 ∨ g = 2 ∨ g = 3 ∨ g = 4 by omega) with rfl | rfl | rfl | rfl | rfl
    · exact y_sim0 hls hst hh hc q hK
    · exact y_sim1 hls hst hh q hK
    · exact y_sim2 hls hst hh hc hR q hK
    · exact y_sim3 h2 hn hls hst hh q hK
    · exact y_sim4 hn (y_mc h2) hls hst hh q hK hC
theorem y_run (hM : z_lk M = true ∨ M = 250) (hn : nn = 186 ∨ nn = 188) (hC : ∀ x as h0 r0, z_lk x = true → y_okS nn as → y_okH nn h0 → C x as h0 = some r0 → y_okR nn r0 ∧ C' x (as.map c_V) (c_H nn h0) = some (c_R nn r0)) :
    ∀ n pc ls st h, y_okL nn ls → y_okS nn st → y_okH nn h → y_rn sc C (z_pg M) n pc ls st h = some r → y_okR nn r ∧ z_rn sc C' (z_pg M) n pc (c_Ls ls) (st.map c_V) (c_H nn h) = some (c_R nn r)
  | 0, _, _, _, _, _, _, _, q => by cases q
  | n + 1, pc, ls, st, h, hls, hst, hh, q => by
    have q : y_st sc C (y_rn sc C (z_pg M) n) (z_gt (z_pg M) pc) pc ls st h = some r := q
    exact y_step (T := fun o => y_okR nn r ∧ o = some (c_R nn r)) hM hn hC (fun h => ⟨h, rfl⟩) (fun pc' ls' st' h' a1 a2 a3 a4 => y_run hM hn hC n pc' ls' st' h' a1 a2 a3 a4) hls hst hh q
end YRUN
theorem y_lay_c : ∀ as : List y_V, z_lay (as.map c_V) = c_Ls (y_lay as)
  | [] => rfl
  | v :: r => by
    have ih := y_lay_c r
    rcases v with x | a | x
    · show some (c_V (.inl x)) :: z_lay (r.map c_V) = _
      rw [ih]; rfl
    · show some (c_V (.inr (.inl a))) :: z_lay (r.map c_V) = _
      rw [ih]; rfl
    · show some (c_V (.inr (.inr x))) :: none :: z_lay (r.map c_V) = _
      rw [ih]; rfl
theorem y_lay_len (as : List y_V) : (z_lay (as.map c_V)).length = (y_lay as).length := by
  rw [y_lay_c]
  exact List.length_map _
theorem y_ent_c {as : List y_V} {n : Nat} : z_ent (as.map c_V) n = c_Ls (y_ent as n) := by
  unfold z_ent y_ent
  rw [y_lay_len, y_lay_c]
  unfold c_Ls
  rw [List.map_append, List.map_replicate]
  rfl
theorem y_lay_ok {nn : Nat} : ∀ as : List y_V, y_okS nn as → ∀ v, some v ∈ y_lay as → y_okV nn v
  | [], _, _, h => by cases h
  | v :: r, hs, w, h => by
    obtain ⟨s1, s2⟩ := y_okS_cons.mp hs
    have ih := y_lay_ok r s2 w
    rcases v with x | a | x
    · rcases List.mem_cons.mp h with e | e
      · cases e; exact s1
      · exact ih e
    · rcases List.mem_cons.mp h with e | e
      · cases e; exact s1
      · exact ih e
    · rcases List.mem_cons.mp h with e | e
      · cases e; exact s1
      · rcases List.mem_cons.mp e with e | e
        · cases e
        · exact ih e
theorem y_ent_ok {nn : Nat} {as : List y_V} {n : Nat} (h : y_okS nn as) : y_okL nn (y_ent as n) := by
  intro k v hk
  unfold y_ent at hk
  rcases List.mem_append.mp (List.mem_of_getElem? hk) with e | e
  · exact y_lay_ok as h v e
  · have := List.eq_of_mem_replicate e
    cases this
theorem y_call {sc : z_Sc} {nn : Nat} (hn : nn = 186 ∨ nn = 188) {n : Nat} : ∀ d M as h r, z_lk M = true → y_okS nn as → y_okH nn h → y_ca z_pg sc n d M as h = some r → y_okR nn r ∧ z_ca z_pg sc n d M (as.map c_V) (c_H nn h) = some (c_R nn r)
  | 0, _, _, _, _, _, _, _, q => by cases q
  | d + 1, M, as, h, r, hM, hs, hh, q => by
    unfold y_ca at q
    obtain ⟨g, q⟩ := y_sg_some.mp q
    unfold z_ca
    rw [y_lay_len, g, y_ent_c]
    exact y_run (Or.inl hM) hn (fun x as h0 r0 h1 h2 h3 h4 => y_call hn d x as h0 r0 h1 h2 h3 h4) n 0 _ _ _ (y_ent_ok hs) (fun v hv => by cases hv) hh q
