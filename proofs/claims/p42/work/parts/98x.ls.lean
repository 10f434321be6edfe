/-! THE LAW'S STATE: two x, four rows -/
def RF (h : y_Hp) : Prop := ∀ a k, 236 ≤ a → a ≤ 239 → y_F h a k = 0
def LSt (nn N M : Nat) (Φ Ψ : y_Hp → Prop) (R : Nat → Nat → Int) (h : y_Hp) : Prop := g_ok2 nn h ∧ ST id N Φ h ∧ ST s_w M Ψ h ∧ (∀ a k, 236 ≤ a → a ≤ 239 → y_I h a k = R a k) ∧ RF h
theorem at_id {b : Nat} : g_at id b ↔ b < 94 := ⟨fun ⟨a, h, e⟩ => by rw [e]; exact h, fun h => ⟨b, h, rfl⟩⟩
theorem at_w {b : Nat} : g_at s_w b ↔ (b < 2 ∨ (118 < b ∧ b < 211)) := by
  constructor
  · rintro ⟨a, h, e⟩
    rw [s_w_eq] at e
    split at e
    · split at e
      · omega
      · split at e <;> omega
    · omega
  · intro h
    refine ⟨s_w b, ?_, (s_ww b).symm⟩
    rw [s_w_eq]
    (repeat' split) <;> omega
section LL
variable {sc : z_Sc} {nn N M N' M' : Nat} {Φ Ψ Φ1 Ψ1 : y_Hp → Prop} {R : Nat → Nat → Int} {h : y_Hp} {x : Nat} {as : List y_V} {U : Int}
theorem run_low {r : y_R} (hs : y_okS nn as) (hh : g_ok2 nn h) (q : y_se z_pg sc 200 x as h = some r) : ∀ b, b < 2 → ∀ k, r.2.1 b k = h.1 b k ∧ r.2.2.1 b k = h.2.1 b k ∧ r.2.2.2 b k = h.2.2 b k := by
  obtain ⟨a1, a2, -⟩ := r_se D_A (y_s_A hs) (g_ok2_F hh) (show r_rel s_A id h h from fun a _ k => ⟨rfl, rfl, rfl⟩) q
  exact fun b hb k => a2 b (Or.inr (by rcases (show b = 0 ∨ b = 1 by omega) with rfl | rfl <;> decide)) k
theorem LS_o (hn : nn = 186 ∨ nn = 188) (L : LSt nn N M Φ Ψ R h) (hM : z_lk x = true) (hs : y_okS nn as) (c : CA sc id N' x as h U Φ1) : ∃ h1, y_se z_pg sc 200 x as h = some (some (y_vi U), h1) ∧ LSt nn N' M Φ1 Ψ R h1 := by
  obtain ⟨h1, a1, a2, a3⟩ := c
  have q := a1 200 (by omega)
  have low := run_low hs L.1 q
  refine ⟨h1, q, (g_call hn hM hs L.1 q).2.1, a2, L.2.2.1.cg (fun b hb k => ?_), fun a k z1 z2 => ?_, fun a k z1 z2 => ?_⟩
  · rcases at_w.mp hb with z | z
    · exact low b z k
    · exact a3 b (fun y => by have := at_id.mp y; omega) k
  · exact (a3 a (fun y => by have := at_id.mp y; omega) k).1.trans (L.2.2.2.1 a k z1 z2)
  · exact (a3 a (fun y => by have := at_id.mp y; omega) k).2.1.trans (L.2.2.2.2 a k z1 z2)
theorem LS_q (hn : nn = 186 ∨ nn = 188) (L : LSt nn N M Φ Ψ R h) (hM : z_lk x = true) (hs : y_okS nn as) (c : CA sc s_w M' x as h U Ψ1) : ∃ h1, y_se z_pg sc 200 x as h = some (some (y_vi U), h1) ∧ LSt nn N M' Φ Ψ1 R h1 := by
  obtain ⟨h1, a1, a2, a3⟩ := c
  have q := a1 200 (by omega)
  have low := run_low hs L.1 q
  refine ⟨h1, q, (g_call hn hM hs L.1 q).2.1, L.2.1.cg (fun b hb k => ?_), a2, fun a k z1 z2 => ?_, fun a k z1 z2 => ?_⟩
  · have hb := at_id.mp hb
    by_cases z : b < 2
    · exact low b z k
    · exact a3 b (fun y => by have := at_w.mp y; omega) k
  · exact (a3 a (fun y => by have := at_w.mp y; omega) k).1.trans (L.2.2.2.1 a k z1 z2)
  · exact (a3 a (fun y => by have := at_w.mp y; omega) k).2.1.trans (L.2.2.2.2 a k z1 z2)
theorem LS_er (L : LSt nn N M Φ Ψ R h) : LSt nn N M Φ Ψ R (g_er h) := by
  have o : ∀ b, (b < 94 ∨ (118 < b ∧ b < 211) ∨ 236 ≤ b) → ∀ k, (g_er h).1 b k = h.1 b k ∧ (g_er h).2.1 b k = h.2.1 b k ∧ (g_er h).2.2 b k = h.2.2 b k := fun b hb k => by
    have : g_gh b = false := by rw [g_gh_f]; omega
    exact ⟨gz_o this, gz_o this, gz_o this⟩
  refine ⟨by unfold g_ok2; rw [er_er]; exact L.1, L.2.1.cg (fun b hb k => o b (Or.inl (at_id.mp hb)) k), L.2.2.1.cg (fun b hb k => o b (by have := at_w.mp hb; omega) k), fun a k z1 z2 => ?_, fun a k z1 z2 => ?_⟩
  · exact (o a (by omega) k).1.trans (L.2.2.2.1 a k z1 z2)
  · exact (o a (by omega) k).2.1.trans (L.2.2.2.2 a k z1 z2)
/-- a stretch of the law from its state -/
theorem GD_L {stops : List Nat} {k pc : Nat} {ls : y_Ls} (hn : nn = 186 ∨ nn = 188) (hl : y_okL nn ls) (L : LSt nn N M Φ Ψ R h) (q : ∀ g, LSt nn N M Φ Ψ R g → ∃ g2, y_un sc (y_se z_pg sc 200) (GE sc nn) pgL_law stops k pc ls [] g = some (some (y_vi 1), g2)) : GD sc nn pc ls h := GD_blk (stops := stops) (k := k) hn hl L.1 (q _ (LS_er L))
/-- the numbers of a house -/
theorem LS_num (hn : nn = 186 ∨ nn = 188) (hs : sc.1 ≤ 260) (L : LSt nn N M Φ Ψ R h) (v2 v3 : Int) (h2 : 2 ≤ v2 ∧ v2 ≤ 4) (h3 : 1 ≤ v3 ∧ v3 ≤ 4) : ∃ h1 R1, y_se z_pg sc 200 254 [y_vr 1, y_vi 10, y_vi v2, y_vi v3, y_vi 6, y_vi 0, y_vr 236, y_vr 237] h = some (none, h1) ∧ LSt nn N M Φ Ψ R1 h1 ∧ NW (R1 236) (R1 237) ∧ R1 236 0 = v2 ∧ R1 236 1 = v3 := by
  obtain ⟨h1, a1, a2, ⟨a3, a4⟩, a5, a6⟩ := s254 (sc := sc) hs v2 v3 h2 h3 h
  have q := a1 200 (by omega)
  have hq : y_okS nn [y_vr 1, y_vi 10, y_vi v2, y_vi v3, y_vi 6, y_vi 0, y_vr 236, y_vr 237] := by
    intro v hv
    simp only [List.mem_cons, List.not_mem_nil, or_false] at hv
    rcases hv with rfl | rfl | rfl | rfl | rfl | rfl | rfl | rfl
    · exact y_ng_iff.mpr (by omega)
    · show y_inr 10; unfold y_inr; omega
    · show y_inr v2; unfold y_inr; omega
    · show y_inr v3; unfold y_inr; omega
    · show y_inr 6; unfold y_inr; omega
    · show y_inr 0; unfold y_inr; omega
    · exact y_ng_iff.mpr (by omega)
    · exact y_ng_iff.mpr (by omega)
  have o : ∀ b, b < 236 → ∀ k, h1.1 b k = h.1 b k ∧ h1.2.1 b k = h.2.1 b k ∧ h1.2.2 b k = h.2.2 b k := fun b hb k => ⟨a5 b k (by omega) (by omega), by rw [a6], by rw [a6]⟩
  refine ⟨h1, fun a k => y_I h1 a k, q, ⟨(g_call hn rfl hq L.1 q).2.1, L.2.1.cg (fun b hb k => o b (by have := at_id.mp hb; omega) k), L.2.2.1.cg (fun b hb k => o b (by have := at_w.mp hb; omega) k), fun _ _ _ _ => rfl, fun a k z1 z2 => ?_⟩, a2, a3, a4⟩
  have : y_F h1 a k = y_F h a k := by unfold y_F; rw [a6]
  rw [this]
  exact L.2.2.2.2 a k z1 z2
end LL
/-! a house told -/
section HS
variable {sc : z_Sc} {nn N M : Nat} {Φ Ψ : y_Hp → Prop} {R : Nat → Nat → Int} {h : y_Hp} {p1 p2 : Nat} {H W : Nat → Int}
theorem s_house (hp : pA p1 p2) (hN : N ≤ 700) (K : NW H W) (s0 : ST id N (fun _ => True) h) (e1 : ∀ k, y_I h p1 k = H k) (e2 : ∀ k, y_I h p2 k = W k) : ∃ h' G P, (∀ d, 64 ≤ d → y_se z_pg sc d 255 [y_vr 2, y_vr p1, y_vr p2] h = some (some (y_vi 1), h')) ∧ HG H W G ∧ ST id (N + 110) (KX G P (fun _ => True)) h' ∧ bF h h' := by
  obtain ⟨h1, a1, ⟨s1, s2, s3⟩, f1, l⟩ := b_house (sc := sc) hp hN K s0 e1 e2
  have hp1 : 94 ≤ p1 := by rcases hp with ⟨rfl, rfl⟩ | ⟨rfl, rfl⟩ <;> omega
  have c1 := ST_m (sc := sc) (x := 95) (m := 168) (ax := [y_vr 2, y_vi 3]) (am := [y_vr 94, y_vi 3]) (U := -9) (Ψ := TX (rhouse H W)) D_O ok2 gk2 (fun g I => o_fault I (by omega) 3) (fun g g1 e t => TX_cg e t) (fun g _ t => m_fault3 K t (by omega)) s1
  obtain ⟨h2, b1, b2, b3⟩ := c1
  have c2 := ST_m (sc := sc) (x := 96) (m := 169) (ax := [y_vr 2, y_vi 3]) (am := [y_vr 94, y_vi 3]) (U := H 2) (Ψ := fun g => HG H W (hv g)) D_O ok2 gk2 (fun g I => o_house I (by omega) 3) (fun g g1 e t => TX_cg e t) (fun g _ t => m_house3 K t (by omega)) b2
  obtain ⟨h3, d1, d2, d3⟩ := c2
  have F : bF h h3 := bF_tr f1 (bF_tr (bF_of b3) (bF_of d3))
  obtain ⟨g, r, I, c⟩ := d2
  refine ⟨h3, hv g, pl g 111, fun d hd => ?_, c, (show ST id (N + 1 + (rhouse H W).length + 1 + 1) (KX (hv g) (pl g 111) (fun _ => True)) h3 from ⟨g, r, I, ⟨rfl, fun _ _ _ => rfl⟩, trivial⟩).up (by omega), F⟩
  obtain ⟨d, rfl⟩ : ∃ e, d = e + 1 := ⟨d - 1, by omega⟩
  have q1 : y_se z_pg sc d 95 [y_vr 2, y_vi 3] h1 = some (some (y_vi (-9)), h2) := b1 d (by omega)
  have q2 : y_se z_pg sc d 96 [y_vr 2, y_vi 3] h2 = some (some (y_vi (H 2)), h3) := d1 d (by omega)
  have row : y_I h3 p1 (Int.toNat 2) = H 2 := (rw_I F hp1).trans (e1 _)
  rw [a1 d (by omega), q1, yci_s, if_pos rfl, q2, yci_s, yA1 hp, lA1 hp, yi_t (by omega), row, if_pos rfl]
/-- the heap with both x changed places -/
def sw (h : y_Hp) : y_Hp := (fun a k => h.1 (s_w a) k, fun a k => s_w (h.2.1 (s_w a) k), fun a k => h.2.2 (s_w a) k)
theorem sw_rel : r_rel s_X s_w (sw h) h := fun a _ k => ⟨rfl, (s_ww _).symm, rfl⟩
theorem s_w_row {a : Nat} (h1 : 236 ≤ a) : s_w a = a := by
  rw [s_w_eq]
  (repeat' split) <;> omega
theorem sw_ST {N : Nat} {Φ : y_Hp → Prop} (s : ST s_w N Φ h) : ST id N Φ (sw h) := by
  obtain ⟨g, r, I, c⟩ := s
  refine ⟨g, fun a ha k => ?_, I, c⟩
  obtain ⟨r1, r2, r3⟩ := r a ha k
  refine ⟨r1, ?_, r3⟩
  show s_w (h.2.1 (s_w a) k) = g.2.1 a k
  rw [r2, s_ww]
theorem s_houseq (hN : N ≤ 700) (K : NW H W) (s0 : ST s_w N (fun _ => True) h) (e1 : ∀ k, y_I h 238 k = H k) (e2 : ∀ k, y_I h 239 k = W k) (rf : RF h) : ∃ h' G P, y_se z_pg sc 200 255 [y_vr 119, y_vr 238, y_vr 239] h = some (some (y_vi 1), h') ∧ HG H W G ∧ ST s_w (N + 110) (KX G P (fun _ => True)) h' ∧ g_rw (fun b => ¬ g_at s_w b) h h' := by
  have sw238 : ∀ k, y_I (sw h) 238 k = H k := fun k => by
    show h.1 (s_w 238) k = _
    rw [s_w_row (by omega)]
    exact e1 k
  have sw239 : ∀ k, y_I (sw h) 239 k = W k := fun k => by
    show h.1 (s_w 239) k = _
    rw [s_w_row (by omega)]
    exact e2 k
  obtain ⟨k1, G, P, a1, a2, a3, a4⟩ := s_house (sc := sc) (p1 := 238) (p2 := 239) (Or.inr ⟨rfl, rfl⟩) hN K (sw_ST s0) sw238 sw239
  have okH : r_okH s_X (sw h) := fun a k ha => by
    rcases s_X_iff.mp ha with z | z
    · obtain ⟨g, r, I, c⟩ := s0
      have e : (sw h).2.1 a k = g.2.1 a k := by
        show s_w (h.2.1 (s_w a) k) = g.2.1 a k
        rw [(r a (s_O_iff.mpr z) k).2.1, s_ww]
      rw [e]
      exact s_X_iff.mpr (Or.inl (s_O_iff.mp (I.2.1 a k (s_O_iff.mpr z))))
    · have e : (sw h).2.1 a k = 0 := by
        show s_w (h.2.1 (s_w a) k) = 0
        rw [s_w_row (a := a) (by omega), show h.2.1 a k = 0 from rf a k (by omega) (by omega)]
        decide
      rw [e]
      decide
  have okS : r_okS s_X [y_vr 2, y_vr 238, y_vr 239] := by
    intro v hv
    simp only [List.mem_cons, List.not_mem_nil, or_false] at hv
    rcases hv with rfl | rfl | rfl <;> trivial
  obtain ⟨b1, b2, g1, b3, b4, b5⟩ := r_se D_X okS okH sw_rel (a1 200 (by omega))
  have e3 : [y_vr 2, y_vr 238, y_vr 239].map (v_V s_w) = [y_vr 119, y_vr 238, y_vr 239] := rfl
  rw [e3] at b3
  refine ⟨g1, G, P, b3, a2, ?_, fun b hb k => ?_⟩
  · obtain ⟨g, r, I, c⟩ := a3
    refine ⟨g, fun a ha k => ?_, I, c⟩
    obtain ⟨r1, r2, r3⟩ := r a ha k
    obtain ⟨c1, c2, c3⟩ := b4 a (s_X_iff.mpr (Or.inl (s_O_iff.mp ha))) k
    have r1 : k1.1 a k = g.1 a k := r1
    have r2 : k1.2.1 a k = g.2.1 a k := r2
    have r3 : k1.2.2 a k = g.2.2 a k := r3
    exact ⟨c1.trans r1, by rw [c2]; show s_w (k1.2.1 a k) = _; rw [r2], c3.trans r3⟩
  · by_cases z : 236 ≤ b ∧ b < 240
    · obtain ⟨c1, c2, c3⟩ := b4 b (s_X_iff.mpr (Or.inr (by omega))) k
      obtain ⟨f1, f2, f3⟩ := a4 b (by show 94 ≤ b; omega) k
      have ew : s_w b = b := s_w_row (by omega)
      rw [ew] at c1 c2 c3
      have s1 : (sw h).1 b k = h.1 b k := by show h.1 (s_w b) k = _; rw [ew]
      have s2 : (sw h).2.1 b k = s_w (h.2.1 b k) := by show s_w (h.2.1 (s_w b) k) = _; rw [ew]
      have s3 : (sw h).2.2 b k = h.2.2 b k := by show h.2.2 (s_w b) k = _; rw [ew]
      refine ⟨c1.trans (f1.trans s1), ?_, c3.trans (f3.trans s3)⟩
      rw [c2]
      show s_w (k1.2.1 b k) = _
      rw [f2, s2, s_ww]
    · refine b5 b (fun a ha e => ?_) k
      rcases s_X_iff.mp ha with y | y
      · exact hb ⟨a, y, e⟩
      · rw [s_w_row (by omega)] at e
        omega
theorem okR3 {nn a b c : Nat} (ha : y_ng nn a = true) (hb : y_ng nn b = true) (hc : y_ng nn c = true) : y_okS nn [y_vr a, y_vr b, y_vr c] := by
  intro v hv
  simp only [List.mem_cons, List.not_mem_nil, or_false] at hv
  rcases hv with rfl | rfl | rfl
  · exact ha
  · exact hb
  · exact hc
theorem LS_ho (hn : nn = 186 ∨ nn = 188) (hN : N ≤ 700) (L : LSt nn N M (fun _ => True) Ψ R h) (K : NW (R 236) (R 237)) : ∃ h1 G P, y_se z_pg sc 200 255 [y_vr 2, y_vr 236, y_vr 237] h = some (some (y_vi 1), h1) ∧ HG (R 236) (R 237) G ∧ LSt nn (N + 110) M (KX G P (fun _ => True)) Ψ R h1 := by
  obtain ⟨h1, G, P, a1, a2, a3, a4⟩ := s_house (sc := sc) (p1 := 236) (p2 := 237) (Or.inl ⟨rfl, rfl⟩) hN K L.2.1 (fun k => L.2.2.2.1 236 k (by omega) (by omega)) (fun k => L.2.2.2.1 237 k (by omega) (by omega))
  have q := a1 200 (by omega)
  have hs : y_okS nn [y_vr 2, y_vr 236, y_vr 237] := okR3 (y_ng_iff.mpr (by omega)) (y_ng_iff.mpr (by omega)) (y_ng_iff.mpr (by omega))
  have low := run_low hs L.1 q
  refine ⟨h1, G, P, q, a2, (g_call hn rfl hs L.1 q).2.1, a3, L.2.2.1.cg (fun b hb k => ?_), fun a k z1 z2 => ?_, fun a k z1 z2 => ?_⟩
  · rcases at_w.mp hb with z | z
    · exact low b z k
    · exact a4 b (by show 94 ≤ b; omega) k
  · exact (a4 a (by show 94 ≤ a; omega) k).1.trans (L.2.2.2.1 a k z1 z2)
  · exact (a4 a (by show 94 ≤ a; omega) k).2.1.trans (L.2.2.2.2 a k z1 z2)
theorem LS_hq (hM : M ≤ 700) (L : LSt 188 N M Φ (fun _ => True) R h) (K : NW (R 238) (R 239)) : ∃ h1 G P, y_se z_pg sc 200 255 [y_vr 119, y_vr 238, y_vr 239] h = some (some (y_vi 1), h1) ∧ HG (R 238) (R 239) G ∧ LSt 188 N (M + 110) Φ (KX G P (fun _ => True)) R h1 := by
  obtain ⟨h1, G, P, q, a2, a3, a4⟩ := s_houseq (sc := sc) hM K L.2.2.1 (fun k => L.2.2.2.1 238 k (by omega) (by omega)) (fun k => L.2.2.2.1 239 k (by omega) (by omega)) L.2.2.2.2
  have hs : y_okS 188 [y_vr 119, y_vr 238, y_vr 239] := okR3 (y_ng_iff.mpr (by omega)) (y_ng_iff.mpr (by omega)) (y_ng_iff.mpr (by omega))
  have low := run_low hs L.1 q
  refine ⟨h1, G, P, q, a2, (g_call (Or.inr rfl) rfl hs L.1 q).2.1, L.2.1.cg (fun b hb k => ?_), a3, fun a k z1 z2 => ?_, fun a k z1 z2 => ?_⟩
  · have hb := at_id.mp hb
    by_cases z : b < 2
    · exact low b z k
    · exact a4 b (fun y => by have := at_w.mp y; omega) k
  · exact (a4 a (fun y => by have := at_w.mp y; omega) k).1.trans (L.2.2.2.1 a k z1 z2)
  · exact (a4 a (fun y => by have := at_w.mp y; omega) k).2.1.trans (L.2.2.2.2 a k z1 z2)
end HS
