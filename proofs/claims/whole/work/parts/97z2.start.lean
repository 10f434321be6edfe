/-! TWO HEAPS THAT ARE ALIKE where the machine's can be seen; the claim's walk -/
section AL
variable {cy : Nat → ClassId} {base b : Nat} {h h' : z_Hp} {D : va_G} {cl : List vw_C} {H : Heap}
theorem z_fs_al {a c : Nat} (hI : h'.2.1 a = h.2.1 a) (hJ : h'.2.2.2 a = h.2.2.2 a) (hF : ∀ k, k < z_cN c → z_fk c k = 1 → h'.2.2.1 a k = h.2.2.1 a k) : z_fs base b h' a c = z_fs base b h a c := by
  unfold z_fs
  refine List.map_congr_left fun k hk => ?_
  have hk := List.mem_range.mp hk
  have hF := hF k hk
  generalize z_fk c k = z at *
  rcases z with _ | _ | _ | z
  · show Value.int (h'.2.1 a k) = Value.int (h.2.1 a k)
    rw [hI]
  · show va_rf (z_ro base b (h'.2.2.1 a k)) = va_rf (z_ro base b (h.2.2.1 a k))
    rw [hF rfl]
  · show Value.long (h'.2.2.2 a k) = Value.long (h.2.2.2 a k)
    rw [hJ]
  · show Value.int (h'.2.1 a k) = Value.int (h.2.1 a k)
    rw [hI]
theorem arrV_al {cI : ClassId} {N : Nat} {f g : Nat → Value} (e : ∀ j, j < N → f j = g j) : arrV cI N f = arrV cI N g := by
  unfold arrV
  have : (fun j : Fin N => f j.val) = fun j : Fin N => g j.val := funext fun j => e j.val j.isLt
  rw [this]
theorem z_at_al {a ad : Nat} (hI : h'.2.1 a = h.2.1 a) (hJ : h'.2.2.2 a = h.2.2.2 a) (hF : ∀ k, (((z_kd a).1 < 9 ∧ k < z_cN (z_kd a).1) ∧ z_fk (z_kd a).1 k = 1) ∨ (((z_kd a).1 = 14 ∨ (z_kd a).1 = 15) ∧ k < (z_kd a).2) → h'.2.2.1 a k = h.2.2.1 a k) (A : va_at D cl (ad, z_cel cy base b h' a) H) : va_at D cl (ad, z_cel cy base b h a) H := by
  unfold z_cel at A ⊢
  generalize z_kd a = q at *
  obtain ⟨t, n⟩ := q
  by_cases c : t < 9
  · rw [if_pos c] at A ⊢
    rw [z_fs_al (h := h) hI hJ (fun k hk hz => hF k (Or.inl ⟨⟨c, hk⟩, hz⟩))] at A
    exact A
  · rw [if_neg c] at A ⊢
    by_cases c2 : t = 14 ∨ t = 15
    · have key : ∀ g : z_Hp, vp_cell (cy t) (z_arr base b g a t n) = arrV (cy t) n (fun j => va_rf (z_ro base b (g.2.2.1 a j))) := fun g => by
        rcases c2 with rfl | rfl <;> rfl
      show H[ad]? = some (vp_cell (cy t) (z_arr base b h a t n))
      have A : H[ad]? = some (vp_cell (cy t) (z_arr base b h' a t n)) := A
      rw [A, key, key, arrV_al fun j hj => by rw [hF j (Or.inr ⟨c2, hj⟩)]]
    · have key : z_arr base b h' a t n = z_arr base b h a t n := by
        unfold z_arr
        split
        · rw [hJ]
        · exact absurd (Or.inl rfl) c2
        · exact absurd (Or.inr rfl) c2
        · rw [hI]
      rw [key] at A
      exact A
end AL
theorem z_vis_lt {a k : Nat} (h : (((z_kd a).1 < 9 ∧ k < z_cN (z_kd a).1) ∧ z_fk (z_kd a).1 k = 1) ∨ (((z_kd a).1 = 14 ∨ (z_kd a).1 = 15) ∧ k < (z_kd a).2)) : k < 48 ∧ z_vis (z_kd a).1 (z_kd a).2 k = true := by
  have k1 : ∀ c, c < 9 → z_cN c ≤ 48 := by decide
  have k2 : (z_kdl.all fun q => !(Nat.beq q.1 14 || Nat.beq q.1 15) || Nat.ble q.2 48) = true := by decide +kernel
  unfold z_vis
  rcases h with ⟨⟨h1, h2⟩, h3⟩ | ⟨h1, h2⟩
  · have := k1 _ h1
    refine ⟨by omega, ?_⟩
    rw [h3, Nat.blt_eq.mpr h1]
    rfl
  · refine ⟨?_, ?_⟩
    · unfold z_kd at h1 h2
      split at h1
      · rename_i q hq
        rw [hq] at h2
        have k3 := List.all_eq_true.mp k2 q (List.mem_of_getElem? hq)
        have : (Nat.beq q.1 14 || Nat.beq q.1 15) = true := by
          rcases h1 with e | e <;> rw [e] <;> rfl
        rw [this] at k3
        have := Nat.le_of_ble_eq_true k3
        have h2 : k < q.2 := h2
        omega
      · rcases h1 with e | e <;> cases e
    · have : (Nat.beq (z_kd a).1 14 || Nat.beq (z_kd a).1 15) = true := by
        rcases h1 with e | e <;> rw [e] <;> rfl
      rw [this, Nat.blt_eq.mpr h2]
      cases (Nat.blt (z_kd a).1 9 && Nat.beq (z_fk (z_kd a).1 k) 1) <;> rfl
section AT
variable {p : Program} {l : Launch} {e : Env} {R : Room} {s : State} {m : MethodId} {args : Array Value} {below : List Frame} {meth : Method} {c : Code} {Q : State → Prop} {D : va_G} {cy : Nat → ClassId} {base b n0 : Nat} {pc : Nat} {ls : z_Ls} {st : List z_V} {H9 : z_Hp}
theorem z_at_0 (hc : z_ck0 H9 = true) (A : z_at p l e R s m args below meth c Q D cy base b n0 pc ls st (c_H (y_0 H9))) : z_at p l e R s m args below meth c Q D cy base b n0 pc ls st H9 := by
  obtain ⟨e1, -, -, e4⟩ := z_ck0_all hc
  intro H locs mls cells slots a1 a2 a3 a4 a5 a6 a7
  refine A H locs mls cells slots (by rw [a1, e1]; rfl) (fun k q hq => ?_) a3 a4 (by show n0 ≤ 117; omega) (by rw [a6, e1]; rfl) (by rw [a7, e1]; rfl)
  have hk : k < 117 := by
    have := (List.getElem?_eq_some_iff.mp hq).1
    unfold z_wl at this
    rw [List.length_map, List.length_range] at this
    exact this
  have hk1 : k < (c_H (y_0 H9)).1 := hk
  rw [z_wl_get hk1] at hq
  cases hq
  have A0 := a2 k _ (z_wl_get (by rw [e1]; exact hk))
  refine z_at_al (h' := H9) ?_ rfl (fun j hj => ?_) A0
  · funext j
    show H9.2.1 (k + 2) j = Int32.ofInt ((H9.2.1 (k + 2) j).toInt)
    rw [y_ofto]
  · obtain ⟨j1, j2⟩ := z_vis_lt hj
    have v := e4 (k + 2) j (by omega) j1
    unfold z_vck at v
    rw [j2] at v
    show H9.2.2.1 (k + 2) j = z_cF (y_0 H9) (k + 2) j
    unfold z_cF
    rcases hd : z_dy (z_kd (k + 2)).1 j
    · rw [hd] at v
      exact z_beq v
    · rfl
end AT
/-- the law's loop over whole numbers, from the beginning -/
theorem l250_0 {L : Nat} {xs : Nat → Int32} (hL : L ≤ 3072) {H9 : z_Hp} (hc : z_ck0 H9 = true) : ∃ (n : Nat) (h2 : z_Hp), h2.1 = 117 ∧ z_rn (L, xs) (z_ca z_pg (L, xs) n 100) (z_pg 250) n 18 [some (z_vr 1), some (z_vr 2), some (z_vr 94), some (z_vi 0)] [] (c_H (y_0 H9)) = some (some (z_vi 1), h2) := by
  obtain ⟨h2, e⟩ := l250 (sc := (L, xs)) (d := 100) (by omega) (by show L ≤ 3072; exact hL) 512 0 0 (y_0 H9) (by omega) (by show (L : Int) < _; omega) (by omega) (INV_0 hc)
  have e' : y_ev z_pg (L, xs) 100 (z_pg 250) 18 [some (y_vr 1), some (y_vr 2), some (y_vr 94), some (y_vi 0)] [] (y_0 H9) = some (some (y_vi 1), h2) := by rw [pe250]; exact e
  have := y_ev_c (fun k v hk => by
    rcases k with _ | _ | _ | _ | k
    · cases hk; trivial
    · cases hk; trivial
    · cases hk; trivial
    · cases hk
      show y_inr 0
      unfold y_inr
      omega
    · cases hk) (fun v hv => by cases hv) y_0_ok e'
  obtain ⟨n, hn⟩ := z_ev_iff.mp this
  exact ⟨n, c_H h2, rfl, hn⟩
theorem whole_start {p : Program} {e : Env} {s : State} {m : MethodId} {below : List Frame} {meth : Method} {c : Code} (l : Launch) (hflags : l.flags = flags0) {b L : Nat} {xs : Nat → Int32} (hL : L ≤ 3072) (C0 : lw_At p s m meth c b L xs) : W p l e room_1 s m #[Value.ref b] below meth c s.heap [] 0 0 (lw_Z below #[Value.ref b] s) (entryFrame m ([Value.ref b] : List Value).toArray 4) := by
  obtain ⟨hx, hb, hr, hml, hown, hts, hX, hbl, hlocks, hgv⟩ := id C0
  obtain ⟨D, cy, hKK⟩ := z_known hts
  obtain ⟨H9, he, hc⟩ := z_run0_2
  obtain ⟨n, h1, hc1, hn⟩ := l250_0 (L := L) (xs := xs) hL hc
  have e9 := (z_ck0_all hc).1
  have hz1 := z_sz_200 (n := 117) (by omega)
  have X : z_Cx p s m #[Value.ref b] meth c D cy s.heap.size b (L, xs) 250 := ⟨hx, hb, hml, hown, fun w hw => hts w (List.mem_filter.mp hw).1, hKK, fun e9 => absurd e9 (by decide +kernel), fun _ => ⟨hX, hbl, hbl⟩, Nat.le_refl _⟩
  have key := z_run (l := l) (e := e) (R := room_1) (below := below) (Q := lw_Z below #[Value.ref b] s) (n0 := 0) (d := 100) (r := (some (z_vi 1), h1)) X (fun x as h0 r0 hx9 hq => z_met 100 n x as h0 r0 hx9 hq) (fun x as h0 r0 hq => z_ca_ge 100 x as h0 r0 hq) (by show h1.1 - 0 ≤ 600000; omega) (by show z_sz h1.1 - z_sz 0 ≤ 7302250; rw [hc1]; omega) (by show 100 + 1 ≤ 2048; omega) (by show 64 * (100 + 1) ≤ 84000; omega) ?_ ?_ ?_ n 18 _ _ _ hn
  · have key2 := z_runS (l := l) (e := e) (R := room_1) (below := below) (Q := lw_Z below #[Value.ref b] s) (n0 := 0) (d := 6) (C9 := z_ca z_pg (L, xs) 2000 6) (H9 := H9) X (fun x as h0 r0 hx9 hq => z_met 6 2000 x as h0 r0 hx9 hq) (fun x as h0 r0 hq => z_ca_ge 6 x as h0 r0 hq) (by show H9.1 - 0 ≤ 600000; omega) (by show z_sz H9.1 - z_sz 0 ≤ 7302250; rw [e9]; omega) (by show 6 + 1 ≤ 2048; omega) (by show 64 * (6 + 1) ≤ 84000; omega) (z_at_0 hc key) 30 0 _ _ _ (z_run0_sc he)
    rw [lg_entry_eq]
    exact key2 s.heap [] _ 0 0 rfl (fun k q hk => by simp [z_wl, z_h0] at hk) va_S.rf (by rw [hml]; exact z_lv_ent (base := s.heap.size) (b := b) (as := [z_vr 1]) (Nat.le_of_ble_eq_true rfl)) (Nat.le_refl _) rfl rfl
  · intro pc ls v h er hdg hty H locs mls cells slots a1 a2 a3 a4 a5 a6 a7
    cases er
    refine va_forget a3.2.2 (W.widen (k := 600000) (n := 7302250) (by omega) (by have : z_sz 0 = 0 := rfl; rw [hc1] at a7; omega) ?_)
    exact lw_ret hx hb hr hlocks hdg
  · intro pc ls v h er
    cases er
  · intro pc ls h er
    cases er
