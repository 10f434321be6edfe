/-! RUNS of the pure semantics are runs of the machine -/
section RUN
variable {p : Program} {l : Launch} {e : Env} {R : Room} {s : State} {m : MethodId} {args : Array Value} {below : List Frame} {meth : Method} {c : Code} {Q : State → Prop} {D : va_G} {cy : Nat → ClassId} {base b n0 : Nat} {sc : z_Sc} {M : Nat} {C9 : z_C} {d : Nat} {r : z_R}
theorem z_run (hM : z_lk M = true ∨ M = 250) (X : z_Cx p s m args meth c D cy base b sc M) (hC : ∀ x as h0 r0, z_lk x = true → C9 x as h0 = some r0 → z_Met l D cy base b sc d x as h0 r0) (hCge : ∀ x as h0 r0, C9 x as h0 = some r0 → h0.1 ≤ r0.2.1) (hRc : r.2.1 - n0 ≤ R.cells) (hRs : z_sz r.2.1 - z_sz n0 ≤ R.slots) (hRf : d + 1 ≤ R.frames) (hRl : 64 * (d + 1) ≤ R.locals)
    (hri : ∀ pc ls v h, r = (some (z_vi v), h) → decode (z_bM M) pc = .ok (.ireturn, 1) → (z_rM M = some .boolean ∧ z_bo v = true ∨ z_rM M = some .int) → z_at p l e R s m args below meth c Q D cy base b n0 pc ls [z_vi v] h)
    (hrl : ∀ pc ls v h, r = (some (z_vl v), h) → decode (z_bM M) pc = .ok (.lreturn, 1) → z_rM M = some .long → z_at p l e R s m args below meth c Q D cy base b n0 pc ls [z_vl v] h)
    (hrv : ∀ pc ls h, r = (none, h) → decode (z_bM M) pc = .ok (.return_, 1) → z_rM M = none → z_at p l e R s m args below meth c Q D cy base b n0 pc ls [] h) :
    ∀ n pc ls st h, z_rn sc C9 (z_pg M) n pc ls st h = some r → z_at p l e R s m args below meth c Q D cy base b n0 pc ls st h
  | 0, _, _, _, _, q => by cases q
  | n + 1, pc, ls, st, h, q => by
    have hge : ∀ pc' ls' st' h', z_rn sc C9 (z_pg M) n pc' ls' st' h' = some r → h'.1 ≤ r.2.1 := fun pc' ls' st' h' q => z_rn_ge hCge n pc' ls' st' h' r q
    have hK := z_run hM X hC hCge hRc hRs hRf hRl hri hrl hrv n
    have q : z_st sc C9 (z_rn sc C9 (z_pg M) n) (z_gt (z_pg M) pc) pc ls st h = some r := q
    rcases hg : z_gt (z_pg M) pc with _ | ⟨g, ins, x, y, z, t, i⟩
    · rw [hg] at q
      cases q
    · rw [hg] at q
      obtain ⟨len, hm⟩ := z_gt_mem hg
      have hck := List.all_eq_true.mp (z_ckA M hM) _ hm
      unfold z_eck at hck
      simp only [Bool.and_eq_true, decide_eq_true_eq] at hck
      obtain ⟨h1, h2, h3⟩ := hck
      have hg4 := z_g_le h2
      rcases (show g = 0 ∨ g = 1 ∨ g = 2 ∨ g = 3 ∨ g = 4 by omega) with rfl | rfl | rfl | rfl | rfl
      · exact z_sn0 X h1 h2 h3 q hK
      · exact z_sn1 X h1 h2 q hK
      · exact z_sn2 X h1 h2 q hK hri hrl hrv
      · exact z_sn3 X h1 h2 h3 q hK hge hRc hRs
      · exact z_sn4 X h1 h2 h3 q hK hC hCge hge hRc hRs hRf hRl
end RUN
def z_slot (base b : Nat) (o : Option z_V) : Slot := match o with
  | some v => .val (z_tv base b v)
  | none => .second
theorem z_lay_sl {base b : Nat} : ∀ as : List z_V, lg_sl (as.map (z_tv base b)) = (z_lay as).map (z_slot base b)
  | [] => rfl
  | v :: r => by
    have ih := z_lay_sl (base := base) (b := b) r
    rw [List.map_cons]
    have e : lg_sl (z_tv base b v :: r.map (z_tv base b)) = (if (z_tv base b v).category = 2 then [.val (z_tv base b v), .second] else [.val (z_tv base b v)]) ++ lg_sl (r.map (z_tv base b)) := by
      unfold lg_sl
      rw [List.flatMap_cons]
    rw [e, ih, z_tv_cat]
    rcases v with x | a | x
    · rfl
    · rfl
    · rfl
theorem z_lv_ent {base b n : Nat} {as : List z_V} (h : (z_lay as).length ≤ n) : z_lv base b ((lg_sl (as.map (z_tv base b)) ++ List.replicate (n - (lg_sl (as.map (z_tv base b))).length) Slot.unset).toArray) n (z_ent as n) := by
  have hl : (lg_sl (as.map (z_tv base b))).length = (z_lay as).length := by rw [z_lay_sl, List.length_map]
  obtain ⟨h1, h2, -⟩ := lv_entry (as.map (z_tv base b)) (n := n) (by rw [hl]; exact h)
  refine ⟨h1, by unfold z_ent; rw [List.length_append, List.length_replicate]; omega, h2, fun i v hv => ?_⟩
  unfold z_ent at hv
  rw [z_lay_sl, List.getElem?_toArray]
  by_cases q : i < (z_lay as).length
  · rw [List.getElem?_append_left q] at hv
    rw [List.getElem?_append_left (by rw [List.length_map]; exact q), List.getElem?_map, hv]
    rfl
  · rw [List.getElem?_append_right (by omega), List.getElem?_replicate] at hv
    split at hv <;> cases hv
theorem z_mckR {x : Nat} (hx : z_lk x = true) : plainName (z_yM x).cls = true ∧ (match z_mr x with
    | 0 => decide (z_rM x = some .int) || decide (z_rM x = some .boolean)
    | 1 => decide (z_rM x = some .long)
    | 2 => decide (z_rM x = none)
    | _ => false) = true := by
  have h := z_mckA x hx
  unfold z_mck at h
  simp only [Bool.and_eq_true, decide_eq_true_eq] at h
  obtain ⟨-, -, -, -, -, -, h7, -, h9, -⟩ := h
  exact ⟨h7, h9⟩
section MET
variable {l : Launch} {D : va_G} {cy : Nat → ClassId} {base b : Nat} {sc : z_Sc}
theorem z_met : ∀ d n M as h r, z_lk M = true → z_ca z_pg sc n d M as h = some r → z_Met l D cy base b sc d M as h r
  | 0, _, _, _, _, _, _, q => by cases q
  | d + 1, n, M, as, h, r, hM, q => by
    unfold z_ca at q
    obtain ⟨hlen, hrun⟩ := z_gd_some.mp q
    have hlen := Nat.le_of_ble_eq_true hlen
    obtain ⟨hpl, hmr⟩ := z_mckR hM
    have hge := z_rn_ge (fun M as h r => z_ca_ge (P := z_pg) (sc := sc) (n := n) d M as h r) _ _ _ _ _ _ hrun
    unfold z_Met
    refine Met.ofW (cc := z_bM M) (maxL := z_ml M) (ret := z_rM M) hpl rfl ?_
    intro p e s m args below meth c s₁ B hml hv
    obtain ⟨rfl, hsz, hP, hK, hSX⟩ := hv
    have hts : ∀ w ∈ z_W, w.before ((as.map (z_tv base b)).toArray) s = true := fun w hw => atoms_spec (ws := z_ws M) B.pre w (List.mem_cons_of_mem _ hw)
    have hx := B.exec
    have hb := B.bytes
    have hret := B.returns
    have hlocks := B.notSynchronized
    have X : z_Cx p s m ((as.map (z_tv base b)).toArray) meth c D cy base b sc M := ⟨hx, hb, hml, findClass_of_methodNamed B.named, hts, hK, fun e9 => by rw [← e9]; exact (name_of_methodNamed B.named B.method).1, hSX, by omega⟩
    rw [lg_entry_eq]
    have key := z_run (l := l) (e := e) (R := z_rm (d + 1) (r.2.1 - h.1) (z_sz r.2.1 - z_sz h.1)) (below := below) (Q := MQ below (z_Qc D cy base b sc M r) ((as.map (z_tv base b)).toArray) s (r.2.1 - h.1) (z_sz r.2.1 - z_sz h.1) (fun q => base ≤ q)) (n0 := h.1) (d := d) (r := r) (Or.inl hM) X (fun x as h0 r0 hx9 hq => z_met d n x as h0 r0 hx9 hq) (fun x as h0 r0 hq => z_ca_ge d x as h0 r0 hq) (Nat.le_refl _) (Nat.le_refl _) (Nat.le_refl _) (Nat.le_refl _) ?_ ?_ ?_ n 0 _ _ _ hrun
    · exact key s.heap [] _ 0 0 hsz hP va_S.rf (by rw [hml]; exact z_lv_ent hlen) (Nat.le_refl _) (Nat.sub_self _).symm (Nat.sub_self _).symm
    · intro pc ls v h1 er hdg hty H locs mls cells slots a1 a2 a3 a4 a5 a6 a7
      subst er
      have a6 : cells = h1.1 - h.1 := a6
      have a7 : slots = z_sz h1.1 - z_sz h.1 := a7
      subst a6 a7
      have hq : ∀ t : State, t.heap = H → s.WarmedH t.vm → z_Qc D cy base b sc M (some (z_vi v), h1) ((as.map (z_tv base b)).toArray) s (.returned (some (.int v))) t := by
        intro t ht hW
        have hz : z_mr M = 0 := by
          rcases hq : z_mr M with _ | _ | _ | k
          · rfl
          · rw [hq] at hmr
            have := of_decide_eq_true hmr
            rcases hty with ⟨h9, -⟩ | h9 <;> (rw [this] at h9; cases h9)
          · rw [hq] at hmr
            have := of_decide_eq_true hmr
            rcases hty with ⟨h9, -⟩ | h9 <;> (rw [this] at h9; cases h9)
          · rw [hq] at hmr
            cases hmr
        unfold z_Qc
        rw [hz]
        exact ⟨⟨v, (), rfl, rfl, by rw [ht]; exact a1, by rw [ht]; exact a2, z_KK_warm hW hK, z_SX_to hW hSX a3 ht⟩, a3.F ht⟩
      rcases hty with ⟨h9, hbo⟩ | h9
      · exact W.zret hx hb (hret.trans h9) (by rcases z_bo_of hbo with rfl | rfl <;> decide) hq a3.2.2 hdg
      · exact W.iret hx hb (hret.trans h9) hq a3.2.2 hdg
    · intro pc ls v h1 er hdg h9 H locs mls cells slots a1 a2 a3 a4 a5 a6 a7
      subst er
      have a6 : cells = h1.1 - h.1 := a6
      have a7 : slots = z_sz h1.1 - z_sz h.1 := a7
      subst a6 a7
      have hq : ∀ t : State, t.heap = H → s.WarmedH t.vm → z_Qc D cy base b sc M (some (z_vl v), h1) ((as.map (z_tv base b)).toArray) s (.returned (some (.long v))) t := by
        intro t ht hW
        have hz : z_mr M = 1 := by
          rcases hq : z_mr M with _ | _ | _ | k
          · rw [hq] at hmr
            rw [h9] at hmr
            cases hmr
          · rfl
          · rw [hq] at hmr
            have := of_decide_eq_true hmr
            rw [this] at h9
            cases h9
          · rw [hq] at hmr
            cases hmr
        unfold z_Qc
        rw [hz]
        exact ⟨⟨v, (), rfl, rfl, by rw [ht]; exact a1, by rw [ht]; exact a2, z_KK_warm hW hK, z_SX_to hW hSX a3 ht⟩, a3.F ht⟩
      exact W.lret hx hb (hret.trans h9) hq a3.2.2 hdg
    · intro pc ls h1 er hdg h9 H locs mls cells slots a1 a2 a3 a4 a5 a6 a7
      subst er
      have a6 : cells = h1.1 - h.1 := a6
      have a7 : slots = z_sz h1.1 - z_sz h.1 := a7
      subst a6 a7
      have hq : ∀ t : State, t.heap = H → s.WarmedH t.vm → z_Qc D cy base b sc M (none, h1) ((as.map (z_tv base b)).toArray) s (.returned none) t := by
        intro t ht hW
        have hz : z_mr M = 2 := by
          rcases hq : z_mr M with _ | _ | _ | k
          · rw [hq] at hmr
            rw [h9] at hmr
            cases hmr
          · rw [hq] at hmr
            rw [h9] at hmr
            cases hmr
          · rfl
          · rw [hq] at hmr
            cases hmr
        unfold z_Qc
        rw [hz]
        exact ⟨⟨(), rfl, rfl, by rw [ht]; exact a1, by rw [ht]; exact a2, z_KK_warm hW hK, z_SX_to hW hSX a3 ht⟩, a3.F ht⟩
      exact W.vret hx hb (hret.trans h9) hq a3.2.2 hdg
end MET
