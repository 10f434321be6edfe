/-! runs and calls over whole numbers are runs and calls of the pure semantics -/
theorem y_prog : (z_pgl.all fun L => L.all fun q => y_cok q.2.2.2.1 q.2.2.2.2.1 q.2.2.2.2.2.1) = true := by decide +kernel
theorem y_cokA {M pc len g x y z t i : Nat} {ins : Jvm.ClassFile.Instr} (h : (pc, len, g, ins, x, y, z, t, i) ∈ z_pg M) : y_cok ins x y = true := by
  unfold z_pg at h
  split at h
  · rename_i L hL
    exact List.all_eq_true.mp (List.all_eq_true.mp y_prog L (List.mem_of_getElem? hL)) _ h
  · cases h
theorem y_mc {M pc len x y z : Nat} {ins : Jvm.ClassFile.Instr} (hok : z_sok M pc len 4 ins x y z = true) : z = 1 ∨ z = 10 ∨ z = 11 ∨ z = 12 ∨ z = 13 ∨ z_mc x < 98 := by
  rcases z_g4 hok with ⟨n, rfl⟩ | ⟨n, rfl⟩ | ⟨n, rfl⟩
  · unfold z_sok at hok
    simp only [Bool.and_eq_true, Nat.blt_eq] at hok
    obtain ⟨⟨⟨⟨⟨-, -⟩, -⟩, k4⟩, -⟩, k6⟩ := hok
    have := (z_mckV k6 (z_beq k4)).2.2.2.2.2.2.1
    omega
  · unfold z_sok at hok
    simp only [Bool.and_eq_true] at hok
    have k3 := hok.2
    split at k3
    · omega
    · omega
    · omega
    · omega
    · cases k3
  · unfold z_sok at hok
    simp only [Bool.and_eq_true] at hok
    have k3 := hok.2
    split at k3
    · omega
    · simp only [Bool.and_eq_true, Nat.blt_eq] at k3
      have := z_mc_lt k3.2 (z_beq k3.1.1)
      omega
    · simp only [Bool.and_eq_true, Nat.blt_eq] at k3
      have := z_mc_lt k3.2 (z_beq k3.1.1)
      omega
    · cases k3
section YRUN
variable {sc : z_Sc} {C : y_C} {C' : z_C} {M : Nat} {r : y_R}
theorem y_run (hC : ∀ x as h0 r0, y_okS as → y_okH h0 → C x as h0 = some r0 → y_okR r0 ∧ C' x (as.map c_V) (c_H h0) = some (c_R r0)) :
    ∀ n pc ls st h, y_okL ls → y_okS st → y_okH h → y_rn sc C (z_pg M) n pc ls st h = some r → y_okR r ∧ z_rn sc C' (z_pg M) n pc (c_Ls ls) (st.map c_V) (c_H h) = some (c_R r)
  | 0, _, _, _, _, _, _, _, q => by cases q
  | n + 1, pc, ls, st, h, hls, hst, hh, q => by
    have hK := y_run hC n
    have q : y_st sc C (y_rn sc C (z_pg M) n) (z_gt (z_pg M) pc) pc ls st h = some r := q
    show y_okR r ∧ z_st sc C' (z_rn sc C' (z_pg M) n) (z_gt (z_pg M) pc) pc (c_Ls ls) (st.map c_V) (c_H h) = some (c_R r)
    rcases hg : z_gt (z_pg M) pc with _ | ⟨g, ins, x, y, z, t, i⟩
    · rw [hg] at q
      cases q
    · rw [hg] at q
      obtain ⟨len, hm⟩ := z_gt_mem hg
      have hck := List.all_eq_true.mp (z_ckA M) _ hm
      unfold z_eck at hck
      simp only [Bool.and_eq_true, decide_eq_true_eq] at hck
      obtain ⟨h1, h2, h3⟩ := hck
      have hc := y_cokA hm
      have hg4 := z_g_le h2
      rcases (show g = 0 ∨ g = 1 ∨ g = 2 ∨ g = 3 ∨ g = 4 by omega) with rfl | rfl | rfl | rfl | rfl
      · exact y_sim0 hls hst hh hc q hK
      · exact y_sim1 hls hst hh q hK
      · exact y_sim2 hls hst hh hc q hK
      · exact y_sim3 h2 hls hst hh q hK
      · exact y_sim4 (y_mc h2) hls hst hh q hK hC
end YRUN
theorem y_lay_c : ∀ as : List y_V, z_lay (as.map c_V) = c_Ls (y_lay as)
  | [] => rfl
  | v :: r => by
    have ih := y_lay_c r
    rcases v with x | a | x
    · show some (c_V (.inl x)) :: z_lay (r.map c_V) = _
      rw [ih]; rfl
    · show some (c_V (.inr (.inl a))) :: z_lay (r.map c_V) = _
      rw [ih]; rfl
    · show some (c_V (.inr (.inr x))) :: none :: z_lay (r.map c_V) = _
      rw [ih]; rfl
theorem y_lay_len (as : List y_V) : (z_lay (as.map c_V)).length = (y_lay as).length := by
  rw [y_lay_c]
  exact List.length_map _
theorem y_ent_c {as : List y_V} {n : Nat} : z_ent (as.map c_V) n = c_Ls (y_ent as n) := by
  unfold z_ent y_ent
  rw [y_lay_len, y_lay_c]
  unfold c_Ls
  rw [List.map_append, List.map_replicate]
  rfl
theorem y_lay_ok : ∀ as : List y_V, y_okS as → ∀ v, some v ∈ y_lay as → y_okV v
  | [], _, _, h => by cases h
  | v :: r, hs, w, h => by
    obtain ⟨s1, s2⟩ := y_okS_cons.mp hs
    have ih := y_lay_ok r s2 w
    rcases v with x | a | x
    · rcases List.mem_cons.mp h with e | e
      · cases e; exact s1
      · exact ih e
    · rcases List.mem_cons.mp h with e | e
      · cases e; exact s1
      · exact ih e
    · rcases List.mem_cons.mp h with e | e
      · cases e; exact s1
      · rcases List.mem_cons.mp e with e | e
        · cases e
        · exact ih e
theorem y_ent_ok {as : List y_V} {n : Nat} (h : y_okS as) : y_okL (y_ent as n) := by
  intro k v hk
  unfold y_ent at hk
  rcases List.mem_append.mp (List.mem_of_getElem? hk) with e | e
  · exact y_lay_ok as h v e
  · have := List.eq_of_mem_replicate e
    cases this
theorem y_call {sc : z_Sc} {n : Nat} : ∀ d M as h r, y_okS as → y_okH h → y_ca z_pg sc n d M as h = some r → y_okR r ∧ z_ca z_pg sc n d M (as.map c_V) (c_H h) = some (c_R r)
  | 0, _, _, _, _, _, _, q => by cases q
  | d + 1, M, as, h, r, hs, hh, q => by
    unfold y_ca at q
    obtain ⟨g, q⟩ := y_sg_some.mp q
    unfold z_ca
    rw [y_lay_len, g, y_ent_c]
    exact y_run (fun x as h0 r0 h1 h2 h3 => y_call d x as h0 r0 h1 h2 h3) n 0 _ _ _ (y_ent_ok hs) (fun v hv => by cases hv) hh q
/-- what a run over whole numbers comes to, the pure semantics' run comes to -/
theorem y_ev_c {sc : z_Sc} {d M pc : Nat} {ls : y_Ls} {st : List y_V} {h : y_Hp} {r : y_R} (hls : y_okL ls) (hst : y_okS st) (hh : y_okH h) (q : y_ev z_pg sc d (z_pg M) pc ls st h = some r) : z_ev z_pg sc d (z_pg M) pc (c_Ls ls) (st.map c_V) (c_H h) = some (c_R r) := by
  obtain ⟨n, hn⟩ := y_ev_iff.mp q
  exact z_ev_iff.mpr ⟨n, (y_run (fun x as h0 r0 h1 h2 h3 => y_call d x as h0 r0 h1 h2 h3) n pc ls st h hls hst hh hn).2⟩
