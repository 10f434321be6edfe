/-! AN x AND ITS GHOST: what holds of x, told by a heap that has its ghost beside it -/
def s_O (a : Nat) : Bool := Nat.blt a 94
theorem s_O_iff {a : Nat} : s_O a = true ↔ a < 94 := by
  unfold s_O
  rw [Nat.blt_eq]
theorem s_O_f {a : Nat} : s_O a = false ↔ 94 ≤ a := by
  have := @s_O_iff a
  cases q : s_O a
  · rw [q] at this
    exact ⟨fun _ => by
      rcases Nat.lt_or_ge a 94 with e | e
      · have := this.mpr e; cases this
      · exact e, fun _ => rfl⟩
  · exact ⟨fun e => (by cases e), fun e => absurd (this.mp q) (by omega)⟩
theorem D_O : r_sd s_O id := r_sd_of ⟨by decide, rfl⟩ (fun a h => by have := s_O_iff.mp h; omega) (fun a b _ _ e => e) (by decide +kernel)
theorem D_W : r_sd s_O s_w := r_sd_of ⟨by decide, by decide⟩ (fun a h => by have := s_O_iff.mp h; omega) (fun a b _ _ e => by have := congrArg s_w e; rwa [s_ww, s_ww] at this) (by decide +kernel)
def GI (N : Nat) (g : y_Hp) : Prop := INV N g ∧ r_okH s_O g ∧ r_okH s_G g
/-- rows alike -/
def g_rw (P : Nat → Prop) (h h' : y_Hp) : Prop := ∀ a, P a → ∀ k, h'.1 a k = h.1 a k ∧ h'.2.1 a k = h.2.1 a k ∧ h'.2.2 a k = h.2.2 a k
def ST (σ : Nat → Nat) (N : Nat) (Φ : y_Hp → Prop) (h : y_Hp) : Prop := ∃ g, r_rel s_O σ g h ∧ GI N g ∧ Φ g
theorem ST.imp {σ : Nat → Nat} {N : Nat} {Φ Ψ : y_Hp → Prop} {h : y_Hp} (s : ST σ N Φ h) (e : ∀ g, GI N g → Φ g → Ψ g) : ST σ N Ψ h := by
  obtain ⟨g, a, b, c⟩ := s
  exact ⟨g, a, b, e g b c⟩
theorem ST.up {σ : Nat → Nat} {N M : Nat} {Φ : y_Hp → Prop} {h : y_Hp} (s : ST σ N Φ h) (e : N ≤ M) : ST σ M Φ h := by
  obtain ⟨g, a, b, c⟩ := s
  exact ⟨g, a, ⟨b.1.up e, b.2⟩, c⟩
/-- where x stands -/
def g_at (σ : Nat → Nat) (b : Nat) : Prop := ∃ a, a < 94 ∧ b = σ a
theorem ST.cg {σ : Nat → Nat} {N : Nat} {Φ : y_Hp → Prop} {h h' : y_Hp} (s : ST σ N Φ h) (e : g_rw (g_at σ) h h') : ST σ N Φ h' := by
  obtain ⟨g, a, b, c⟩ := s
  refine ⟨g, fun x hx k => ?_, b, c⟩
  obtain ⟨a1, a2, a3⟩ := a x hx k
  obtain ⟨e1, e2, e3⟩ := e (σ x) ⟨x, s_O_iff.mp hx, rfl⟩ k
  exact ⟨e1.trans a1, e2.trans a2, e3.trans a3⟩
section STC
variable {sc : z_Sc} {σ : Nat → Nat} {N x m : Nat} {ax am : List y_V} {Φ : y_Hp → Prop} {Ψ : Int → y_Hp → Prop} {h : y_Hp}
theorem OP_GI {g : y_Hp} (I : GI N g) (hx : r_okS s_O ax) (hm : r_okS s_G am) (O : OP sc x m ax am N g) : ∃ (u : Int) (g1 g2 : y_Hp), (∀ d, 60 ≤ d → y_se z_pg sc d x ax g = some (some (y_vi u), g1)) ∧ (∀ d, 60 ≤ d → y_se z_pg sc d m am g1 = some (some (y_vi u), g2)) ∧ GI (N + 1) g2 ∧ g_rw (fun a => a < 94) g1 g2 ∧ g_rw (fun a => 94 ≤ a) g g1 := by
  obtain ⟨u, g1, g2, a1, a2, a3⟩ := O
  obtain ⟨b1, b2, -⟩ := r_se D_O hx I.2.1 (show r_rel s_O id g g from fun a _ k => ⟨rfl, rfl, rfl⟩) (a1 60 (Nat.le_refl _))
  have fr : g_rw (fun a => 94 ≤ a) g g1 := fun a ha k => b2 a (Or.inl (s_O_f.mpr ha)) k
  have G1 : r_okH s_G g1 := fun a k ha => by
    have e := s_G_iff.mp ha
    rcases e with e | e
    · have e2 := (b2 a (Or.inr (by rw [e]; decide)) k).2.1
      rw [e2]; exact I.2.2 a k ha
    · have e2 := (fr a (by omega) k).2.1
      rw [e2]; exact I.2.2 a k ha
  obtain ⟨c1, c2, -⟩ := r_se D_G hm G1 (show r_rel s_G id g1 g1 from fun a _ k => ⟨rfl, rfl, rfl⟩) (a2 60 (Nat.le_refl _))
  have fr2 : g_rw (fun a => a < 94) g1 g2 := fun a ha k => c2 a (by
    cases q : s_G a
    · exact Or.inl rfl
    · right
      have := s_G_iff.mp q
      rw [show a = 0 by omega]
      decide) k
  refine ⟨u, g1, g2, a1, a2, ⟨a3, fun a k ha => ?_, c1.2⟩, fr2, fr⟩
  rw [(fr2 a (s_O_iff.mp ha) k).2.1]
  exact b1.2 a k ha
/-- A CALL on x -/
theorem ST_op (D : r_sd s_O σ) (hx : r_okS s_O ax) (hm : r_okS s_G am) (O : ∀ g, GI N g → Φ g → OP sc x m ax am N g) (F : ∀ g g1 g2 u, GI N g → Φ g → g_rw (fun a => 94 ≤ a) g g1 → (∀ d, 60 ≤ d → y_se z_pg sc d m am g1 = some (some (y_vi u), g2)) → Ψ u g2) (s : ST σ N Φ h) : ∃ (u : Int) (h1 : y_Hp), (∀ d, 60 ≤ d → y_se z_pg sc d x (ax.map (v_V σ)) h = some (some (y_vi u), h1)) ∧ ST σ (N + 1) (Ψ u) h1 ∧ g_rw (fun b => ¬ g_at σ b) h h1 := by
  obtain ⟨g, R, I, c⟩ := s
  obtain ⟨u, g1, g2, a1, a2, a3, a4, a5⟩ := OP_GI I hx hm (O g I c)
  obtain ⟨b1, b2, h1, b3, b4, b5⟩ := r_se D hx I.2.1 R (a1 60 (Nat.le_refl _))
  refine ⟨u, h1, fun d hd => ?_, ⟨g2, fun a ha k => ?_, a3, F g g1 g2 u I c a5 a2⟩, fun b hb k => b5 b (fun a ha e => hb ⟨a, s_O_iff.mp ha, e⟩) k⟩
  · obtain ⟨-, -, h2, d3, d4, d5⟩ := r_se D hx I.2.1 R (a1 d hd)
    rw [d3]
    have e : h2 = h1 := by
      refine Prod.ext (funext fun b => funext fun k => ?_) (Prod.ext (funext fun b => funext fun k => ?_) (funext fun b => funext fun k => ?_))
      · by_cases q : ∃ a, s_O a = true ∧ b = σ a
        · obtain ⟨a, ha, rfl⟩ := q
          rw [(d4 a ha k).1, (b4 a ha k).1]
        · rw [(d5 b (fun a ha e => q ⟨a, ha, e⟩) k).1, (b5 b (fun a ha e => q ⟨a, ha, e⟩) k).1]
      · by_cases q : ∃ a, s_O a = true ∧ b = σ a
        · obtain ⟨a, ha, rfl⟩ := q
          rw [(d4 a ha k).2.1, (b4 a ha k).2.1]
        · rw [(d5 b (fun a ha e => q ⟨a, ha, e⟩) k).2.1, (b5 b (fun a ha e => q ⟨a, ha, e⟩) k).2.1]
      · by_cases q : ∃ a, s_O a = true ∧ b = σ a
        · obtain ⟨a, ha, rfl⟩ := q
          rw [(d4 a ha k).2.2, (b4 a ha k).2.2]
        · rw [(d5 b (fun a ha e => q ⟨a, ha, e⟩) k).2.2, (b5 b (fun a ha e => q ⟨a, ha, e⟩) k).2.2]
    rw [e]
    rfl
  · obtain ⟨e1, e2, e3⟩ := a4 a (s_O_iff.mp ha) k
    obtain ⟨f1, f2, f3⟩ := b4 a ha k
    rw [e1, e2, e3]
    exact ⟨f1, f2, f3⟩
end STC
/-! THE TEXT that is told: byte for byte -/
def TX (L : List Int) (g : y_Hp) : Prop := y_I g 99 (Int.toNat 3) = 120 ∧ ∀ j : Nat, j < 120 → y_I g 100 (360 + j) = L.getD j 32
theorem y_i2b_n : ∀ n : Nat, n < 128 → y_i2b (n : Int) = (n : Int) := by decide +kernel
theorem y_i2b_s {v : Int} (hv : 0 ≤ v ∧ v < 128) : y_i2b v = v := by
  have := y_i2b_n v.toNat (by omega)
  rwa [show ((v.toNat : Nat) : Int) = v by omega] at this
section TXT
variable {sc : z_Sc} {g g1 g2 : y_Hp} {N : Nat}
/-- the model's text 3, anew -/
theorem m_text3 (d : Nat) (hd : 3 ≤ d) : y_se z_pg sc d 154 [y_vr 94, y_vi 3, y_vi 120] g = some (some (y_vi 120), y_fill (y_sI g 99 (Int.toNat 3) 120) 100 (Int.toNat (120 * 3)) (Int.toNat (120 * 3 + 120)) (fun _ => y_i2b 32)) := by
  obtain ⟨d, rfl⟩ : ∃ e, d = e + 1 := ⟨d - 1, by omega⟩
  have := l154 (sc := sc) d 3 120 (y_sI g 99 (Int.toNat 3) 120) (by omega) 120 0 (by omega) (by omega)
  rw [Int.add_zero, y_fill_0] at this
  rw [e154, b154_0, s153 d (by omega), yci_s, if_neg (by rw [bi_t (by omega)]; omega), if_neg (by omega), if_neg (by omega), yi_t (by omega), this]
theorem TX_0 : TX [] (y_fill (y_sI g 99 (Int.toNat 3) 120) 100 (Int.toNat (120 * 3)) (Int.toNat (120 * 3 + 120)) (fun _ => y_i2b 32)) := by
  refine ⟨by rw [yI_fill_o (by omega), yI_sI_e ⟨rfl, rfl⟩], fun j hj => ?_⟩
  rw [yI_fill_e (by omega), y_i2b_32]
  rfl
/-- the model's byte -/
theorem m_put3 (d : Nat) (hd : 3 ≤ d) (i v : Int) (hi : 0 ≤ i ∧ i < 120) (e : y_I g 99 (Int.toNat 3) = 120) (b : -128 ≤ y_I g 100 (Int.toNat (120 * 3 + i)) ∧ y_I g 100 (Int.toNat (120 * 3 + i)) ≤ 127) : y_se z_pg sc d 155 [y_vr 94, y_vi 3, y_vi i, y_vi v] g = some (some (y_vi (1000 + y_I g 100 (Int.toNat (120 * 3 + i)))), y_sI g 100 (Int.toNat (120 * 3 + i)) (y_i2b v)) := by
  obtain ⟨d, rfl⟩ : ∃ e, d = e + 1 := ⟨d - 1, by omega⟩
  rw [e155, b155_0, s153 d (by omega), yci_s, if_neg (by rw [bi_t (by omega)]; omega), yi_t (by omega), e, if_neg (by omega), yi_t (by omega), yr_t (by omega), s136 d (by omega), yci_s, if_neg (by rw [bi_t (by omega)]; omega), y_i2b_i]
  simp (disch := omega) only [yr_t, yi_t]
theorem rw_I {P : Nat → Prop} {h h' : y_Hp} (e : g_rw P h h') {a k : Nat} (ha : P a) : y_I h' a k = y_I h a k := (e a ha k).1
theorem TX_cg {L : List Int} (e : g_rw (fun a => 94 ≤ a) g g1) (t : TX L g) : TX L g1 := ⟨by rw [rw_I e (by omega)]; exact t.1, fun j hj => by rw [rw_I e (by omega)]; exact t.2 j hj⟩
theorem okO2 {v : y_V} (h : r_okV s_O v) : r_okS s_O [v] := fun w hw => by
  rcases List.mem_cons.mp hw with rfl | q
  · exact h
  · cases q
/-- byte L.length is b -/
theorem c_put {σ : Nat → Nat} (D : r_sd s_O σ) {h : y_Hp} {L : List Int} {b : Int} (hN : N ≤ 1000) (hL : L.length < 120) (hb : 0 ≤ b ∧ b < 128) (s : ST σ N (TX L) h) : ∃ h1, (∀ d, 60 ≤ d → y_se z_pg sc d 94 [y_vr (σ 2), y_vi 3, y_vi (L.length : Int), y_vi b] h = some (some (y_vi 1032), h1)) ∧ ST σ (N + 1) (TX (L ++ [b])) h1 ∧ g_rw (fun b => ¬ g_at σ b) h h1 := by
  have F : ∀ g g1 g2 u, GI N g → TX L g → g_rw (fun a => 94 ≤ a) g g1 → (∀ d, 60 ≤ d → y_se z_pg sc d 155 [y_vr 94, y_vi 3, y_vi (L.length : Int), y_vi b] g1 = some (some (y_vi u), g2)) → u = 1032 ∧ TX (L ++ [b]) g2 := by
    intro g g1 g2 u I t fr q
    have t1 := TX_cg fr t
    have ei : Int.toNat (120 * 3 + (L.length : Int)) = 360 + L.length := by omega
    have e0 : y_I g1 100 (Int.toNat (120 * 3 + (L.length : Int))) = 32 := by
      rw [ei, t1.2 _ hL, List.getD_eq_getElem?_getD, List.getElem?_eq_none (Nat.le_refl _)]
      rfl
    have q1 := (q 60 (Nat.le_refl _)).symm.trans (m_put3 60 (by omega) (L.length : Int) b (by omega) t1.1 (by rw [e0]; omega))
    rw [e0, ei, y_i2b_s hb] at q1
    have q2 := Option.some.inj q1
    have eu : u = 1032 := by
      have := congrArg Prod.fst q2
      have h3 : (some (y_vi u) : Option y_V) = some (y_vi (1000 + 32)) := this
      cases h3
      rfl
    have eg : g2 = y_sI g1 100 (360 + L.length) b := congrArg Prod.snd q2
    refine ⟨eu, ?_⟩
    rw [eg]
    refine ⟨by rw [yI_sI_o (by omega)]; exact t1.1, fun j hj => ?_⟩
    by_cases e : j = L.length
    · rw [yI_sI_e ⟨rfl, by omega⟩, e, List.getD_eq_getElem?_getD, List.getElem?_append_right (Nat.le_refl _), Nat.sub_self]
      rfl
    · rw [yI_sI_o (by omega), t1.2 j hj, List.getD_eq_getElem?_getD, List.getD_eq_getElem?_getD]
      rcases Nat.lt_or_ge j L.length with c | c
      · rw [List.getElem?_append_left c]
      · rw [List.getElem?_eq_none c, List.getElem?_eq_none (by rw [List.length_append]; show L.length + 1 ≤ j; omega)]
  obtain ⟨u, h1, a1, a2, a3⟩ := ST_op (sc := sc) (x := 94) (m := 155) (ax := [y_vr 2, y_vi 3, y_vi (L.length : Int), y_vi b]) (am := [y_vr 94, y_vi 3, y_vi (L.length : Int), y_vi b]) (Ψ := fun u g => u = 1032 ∧ TX (L ++ [b]) g) D (by
      intro v hv
      simp only [List.mem_cons, List.not_mem_nil, or_false] at hv
      rcases hv with rfl | rfl | rfl | rfl <;> first | trivial | decide) (by
      intro v hv
      simp only [List.mem_cons, List.not_mem_nil, or_false] at hv
      rcases hv with rfl | rfl | rfl | rfl <;> first | trivial | decide) (fun g I _ => o_put I.1 hN 3 _ b) F s
  obtain ⟨g, c1, c2, c3, c4⟩ := a2
  exact ⟨h1, fun d hd => by rw [← c3]; exact a1 d hd, ⟨g, c1, c2, c4⟩, a3⟩
end TXT
