/-! TWO HEAPS THAT ARE ALIKE where the machine's can be seen; the claim's walk -/
section AL
variable {cy : Nat → ClassId} {base b : Nat} {h h' : z_Hp} {D : va_G} {cl : List vw_C} {H : Heap}
theorem z_fs_al {a c : Nat} (hI : h'.2.1 a = h.2.1 a) (hJ : h'.2.2.2 a = h.2.2.2 a) (hF : ∀ k, k < z_cN c → z_fk c k = 1 → h'.2.2.1 a k = h.2.2.1 a k) : z_fs base b h' a c = z_fs base b h a c := by
  unfold z_fs
  refine List.map_congr_left fun k hk => ?_
  have hk := List.mem_range.mp hk
  have hF := hF k hk
  generalize z_fk c k = z at *
  rcases z with _ | _ | _ | z
  · show Value.int (h'.2.1 a k) = Value.int (h.2.1 a k)
    rw [hI]
  · show va_rf (z_ro base b (h'.2.2.1 a k)) = va_rf (z_ro base b (h.2.2.1 a k))
    rw [hF rfl]
  · show Value.long (h'.2.2.2 a k) = Value.long (h.2.2.2 a k)
    rw [hJ]
  · show Value.int (h'.2.1 a k) = Value.int (h.2.1 a k)
    rw [hI]
theorem arrV_al {cI : ClassId} {N : Nat} {f g : Nat → Value} (e : ∀ j, j < N → f j = g j) : arrV cI N f = arrV cI N g := by
  unfold arrV
  have : (fun j : Fin N => f j.val) = fun j : Fin N => g j.val := funext fun j => e j.val j.isLt
  rw [this]
theorem z_at_al {a ad : Nat} (hI : h'.2.1 a = h.2.1 a) (hJ : h'.2.2.2 a = h.2.2.2 a) (hF : ∀ k, (((w_kd a).1 < 8 ∧ k < z_cN (w_kd a).1) ∧ z_fk (w_kd a).1 k = 1) ∨ (((w_kd a).1 = 14 ∨ (w_kd a).1 = 15) ∧ k < (w_kd a).2) → h'.2.2.1 a k = h.2.2.1 a k) (A : va_at D cl (ad, z_cel cy base b h' a) H) : va_at D cl (ad, z_cel cy base b h a) H := by
  unfold z_cel at A ⊢
  generalize w_kd a = q at *
  obtain ⟨t, n⟩ := q
  by_cases c : t < 8
  · rw [if_pos c] at A ⊢
    rw [z_fs_al (h := h) hI hJ (fun k hk hz => hF k (Or.inl ⟨⟨c, hk⟩, hz⟩))] at A
    exact A
  · rw [if_neg c] at A ⊢
    by_cases c2 : t = 14 ∨ t = 15
    · have key : ∀ g : z_Hp, vp_cell (cy t) (z_arr base b g a t n) = arrV (cy t) n (fun j => va_rf (z_ro base b (g.2.2.1 a j))) := fun g => by
        rcases c2 with rfl | rfl <;> rfl
      show H[ad]? = some (vp_cell (cy t) (z_arr base b h a t n))
      have A : H[ad]? = some (vp_cell (cy t) (z_arr base b h' a t n)) := A
      rw [A, key, key, arrV_al fun j hj => by rw [hF j (Or.inr ⟨c2, hj⟩)]]
    · have key : z_arr base b h' a t n = z_arr base b h a t n := by
        unfold z_arr
        split
        · rw [hJ]
        · exact absurd (Or.inl rfl) c2
        · exact absurd (Or.inr rfl) c2
        · rw [hI]
      rw [key] at A
      exact A
end AL
theorem z_vis_lt {a k : Nat} (h : (((w_kd a).1 < 8 ∧ k < z_cN (w_kd a).1) ∧ z_fk (w_kd a).1 k = 1) ∨ (((w_kd a).1 = 14 ∨ (w_kd a).1 = 15) ∧ k < (w_kd a).2)) : k < 48 ∧ z_vis (w_kd a).1 (w_kd a).2 k = true := by
  have k1 : ∀ c, c < 8 → z_cN c ≤ 48 := by decide
  have k2 : (w_kdl.all fun q => !(Nat.beq q.1 14 || Nat.beq q.1 15) || Nat.ble q.2 48) = true := by decide +kernel
  unfold z_vis
  rcases h with ⟨⟨h1, h2⟩, h3⟩ | ⟨h1, h2⟩
  · have := k1 _ h1
    refine ⟨by omega, ?_⟩
    rw [h3, Nat.blt_eq.mpr h1]
    rfl
  · refine ⟨?_, ?_⟩
    · unfold w_kd at h1 h2
      split at h1
      · rename_i q hq
        rw [hq] at h2
        have k3 := List.all_eq_true.mp k2 q (List.mem_of_getElem? hq)
        have : (Nat.beq q.1 14 || Nat.beq q.1 15) = true := by
          rcases h1 with e | e <;> rw [e] <;> rfl
        rw [this] at k3
        have := Nat.le_of_ble_eq_true k3
        have h2 : k < q.2 := h2
        omega
      · rcases h1 with e | e <;> cases e
    · have : (Nat.beq (w_kd a).1 14 || Nat.beq (w_kd a).1 15) = true := by
        rcases h1 with e | e <;> rw [e] <;> rfl
      rw [this, Nat.blt_eq.mpr h2]
      cases (Nat.blt (w_kd a).1 8 && Nat.beq (z_fk (w_kd a).1 k) 1) <;> rfl
section AT
variable {p : Program} {l : Launch} {e : Env} {R : Room} {s : State} {m : MethodId} {args : Array Value} {below : List Frame} {meth : Method} {c : Code} {Q : State → Prop} {D : va_G} {cy : Nat → ClassId} {base b n0 : Nat} {pc : Nat} {ls : z_Ls} {st : List z_V} {H9 : z_Hp}
theorem z_at_0 (hc : z_ck0 H9 = true) (A : z_at p l e R s m args below meth c Q D cy base b n0 pc ls st (c_H 186 (y_h0 H9))) : z_at p l e R s m args below meth c Q D cy base b n0 pc ls st H9 := by
  obtain ⟨e1, -, -, -, -, e4⟩ := z_ck0_all hc
  intro H locs mls cells slots a1 a2 a3 a4 a5 a6 a7
  refine A H locs mls cells slots (by rw [a1, e1]; rfl) (fun k q hq => ?_) a3 a4 (by show n0 ≤ 186; omega) (by rw [a6, e1]; rfl) (by rw [a7, e1]; rfl)
  have hk : k < 186 := by
    have := (List.getElem?_eq_some_iff.mp hq).1
    unfold z_wl at this
    rw [List.length_map, List.length_range] at this
    exact this
  have hk1 : k < (c_H 186 (y_h0 H9)).1 := hk
  rw [z_wl_get hk1] at hq
  cases hq
  have A0 := a2 k _ (z_wl_get (by rw [e1]; exact hk))
  refine z_at_al (h' := H9) ?_ ?_ (fun j hj => ?_) A0
  · funext j
    show H9.2.1 (k + 2) j = Int32.ofInt ((y_h0 H9).1 (c_u (k + 2)) j)
    rw [y_h0_I (c_u_gh _), c_tu0, y_ofto]
    rfl
  · funext j
    show H9.2.2.2 (k + 2) j = z_J H9 (c_t (c_u (k + 2))) j
    rw [c_tu0]
    rfl
  · obtain ⟨j1, j2⟩ := z_vis_lt hj
    have v := e4 (k + 2) j (by omega) j1
    unfold z_vck at v
    rw [j2] at v
    show H9.2.2.1 (k + 2) j = c_t (z_cF (y_h0 H9) (c_u (k + 2)) j)
    unfold z_cF
    rcases hd : z_dy (z_kd (c_u (k + 2))).1 j
    · rw [hd] at v
      exact z_beq v
    · have ey : (y_h0 H9).2.1 (c_u (k + 2)) j = c_u (z_F H9 (c_t (c_u (k + 2))) j) := by
        show (match g_gh (c_u (k + 2)) with
          | true => 0
          | false => (match z_dy (z_kd (c_u (k + 2))).1 j with
            | true => c_u (z_F H9 (c_t (c_u (k + 2))) j)
            | false => 0)) = _
        rw [c_u_gh, hd]
      show H9.2.2.1 (k + 2) j = c_t ((y_h0 H9).2.1 (c_u (k + 2)) j)
      rw [ey, c_tu0, c_tu0]
      rfl
end AT
/-- the claim's walk -/
theorem whole_start {p : Program} {e : Env} {s : State} {m : MethodId} {below : List Frame} {meth : Method} {c : Code} (l : Launch) (hflags : l.flags = flags0) {b L : Nat} {xs : Nat → Int32} (hL : L ≤ 260) (C0 : lw_At p s m meth c b L xs) : W p l e room_1 s m #[Value.ref b] below meth c s.heap [] 0 0 (lw_Z below #[Value.ref b] s) (entryFrame m ([Value.ref b] : List Value).toArray 19) := by
  obtain ⟨hx, hb, hr, hml, hown, hts, hX, hbl, hlocks, hgv⟩ := id C0
  obtain ⟨D, cy, hKK⟩ := z_known hts
  obtain ⟨H9, he, hc⟩ := z_run0_2
  have h19 : y_okL 186 [none, none, none, none, none, none, none, none, none, none, none, none, none, none, none, none, none, none, none] := fun k v hk => by
    rcases k with _ | _ | _ | _ | _ | _ | _ | _ | _ | _ | _ | _ | _ | _ | _ | _ | _ | _ | _ | k <;> cases hk
  have hl : y_okL 186 [rV 1, rV 2, rV 119, rV 236, rV 237, none, none, none, none, none, none, none, none, none, none, none, none, none, none] := okRf (okRf (okRf (okRf (okRf h19 0 (a := 1) (y_ng_iff.mpr (by omega))) 1 (a := 2) (y_ng_iff.mpr (by omega))) 2 (a := 119) (y_ng_iff.mpr (by omega))) 3 (a := 236) (y_ng_iff.mpr (by omega))) 4 (a := 237) (y_ng_iff.mpr (by omega))
  obtain ⟨g, q⟩ := w27 (sc := (L, xs)) hL (LS_0 hc) hl
  obtain ⟨hz, hz8, q⟩ := (GE_some q).2
  obtain ⟨n, hn⟩ := z_ev_iff.mp q
  have e9 := (z_ck0_all hc).1
  have hz1 := z_sz_200 (n := hz.1) (by omega)
  have hz2 := z_sz_200 (n := 186) (by omega)
  have X : z_Cx p s m #[Value.ref b] meth c D cy s.heap.size b (L, xs) 250 := ⟨hx, hb, hml, hown, fun w hw => hts w (List.mem_filter.mp hw).1, hKK, fun e9 => absurd e9 (by decide +kernel), ⟨hX, hbl, hbl⟩, Nat.le_refl _⟩
  have key := z_run (l := l) (e := e) (R := room_1) (below := below) (Q := lw_Z below #[Value.ref b] s) (n0 := 0) (d := 200) (r := (some (z_vi 1), hz)) (M := 250) (Or.inr rfl) X (fun x as h0 r0 hx9 hq => z_met 200 n x as h0 r0 hx9 hq) (fun x as h0 r0 hq => z_ca_ge 200 x as h0 r0 hq) (by show hz.1 - 0 ≤ 600000; omega) (by show z_sz hz.1 - z_sz 0 ≤ 7302250; omega) (by show 200 + 1 ≤ 2048; omega) (by show 64 * (200 + 1) ≤ 84000; omega) ?_ ?_ ?_ n 27 _ _ _ hn
  · have key2 := z_runS (l := l) (e := e) (R := room_1) (below := below) (Q := lw_Z below #[Value.ref b] s) (n0 := 0) (d := 6) (C9 := z_ca z_pg (L, xs) 2000 6) (H9 := H9) X (fun x as h0 r0 hx9 hq => z_met 6 2000 x as h0 r0 hx9 hq) (fun x as h0 r0 hq => z_ca_ge 6 x as h0 r0 hq) (by show H9.1 - 0 ≤ 600000; omega) (by show z_sz H9.1 - z_sz 0 ≤ 7302250; rw [e9]; omega) (by show 6 + 1 ≤ 2048; omega) (by show 64 * (6 + 1) ≤ 84000; omega) (z_at_0 hc key) 40 0 _ _ _ (z_run0_sc he)
    rw [lg_entry_eq]
    exact key2 s.heap [] _ 0 0 rfl (fun k q hk => by simp [z_wl, z_h0] at hk) va_S.rf (by rw [hml]; exact z_lv_ent (base := s.heap.size) (b := b) (as := [z_vr 1]) (Nat.le_of_ble_eq_true rfl)) (Nat.le_refl _) rfl rfl
  · intro pc ls v h er hdg hty H locs mls cells slots a1 a2 a3 a4 a5 a6 a7
    cases er
    refine va_forget a3.2.2 (W.widen (k := 600000) (n := 7302250) (by omega) (by have : z_sz 0 = 0 := rfl; omega) ?_)
    exact lw_ret hx hb hr hlocks hdg
  · intro pc ls v h er
    cases er
  · intro pc ls h er
    cases er
