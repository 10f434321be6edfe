/-! READING A HOUSE, the draft: x's in cells b.., the model's in 106.. and 94 21.. -/
def dv (g : y_Hp) : u_G := fun a => match a with
  | 94 => fun k => match k with
    | 8 => y_I g 94 21
    | 9 => y_I g 94 22
    | 10 => y_I g 94 23
    | 11 => y_I g 94 24
    | 12 => y_I g 94 25
    | 13 => y_I g 94 26
    | _ => 0
  | 101 => fun k => if k < 18 then y_I g 106 k else y_I g 101 k
  | 102 => fun k => if k < 24 then y_I g 107 k else y_I g 102 k
  | 103 => fun k => if k < 96 then y_I g 108 k else y_I g 103 k
  | 104 => fun k => if k < 24 then y_I g 109 k else y_I g 104 k
  | 105 => fun k => if k < 24 then y_I g 110 k else y_I g 105 k
  | _ => fun _ => 0
/-- a house of x at a is G -/
def xmg (h : y_Hp) (a : Nat) (G : u_G) : Prop :=
  (a = 62 ∨ a = 78) ∧ y_I h a 0 = g_la G ∧ y_I h a 1 = g_pm G ∧ y_I h a 2 = g_rm G ∧ y_I h a 3 = g_wm G ∧
  (∀ p, 0 ≤ p → p < g_pm G → y_I h (a + 1) (Int.toNat p) = g_cp G p) ∧
  (∀ p, 0 ≤ p → p < g_pm G → y_I h (a + 2) (Int.toNat p) = g_cm G p) ∧
  (∀ p, 0 ≤ p → p < g_pm G → y_I h (a + 3) (Int.toNat p) = g_sl G p) ∧
  (∀ p, 0 ≤ p → p < g_pm G → ∀ t, 0 ≤ t → t ≤ 60 → (u_lb (y_J h (a + 4) (Int.toNat p)) t ↔ g_cv G p t)) ∧
  (∀ r, 0 ≤ r → r < g_rm G → y_I h (a + 5) (Int.toNat r) = g_fr G r) ∧
  (∀ r, 0 ≤ r → r < g_rm G → y_I h (a + 6) (Int.toNat r) = g_ti G r) ∧
  (∀ r, 0 ≤ r → r < g_rm G → y_inr (y_I h (a + 7) (Int.toNat r)) ∧ ∀ w, 0 ≤ w → w < 32 → (u_bs (y_I h (a + 7) (Int.toNat r)) w ↔ (w < g_wm G ∧ g_rd G w = r))) ∧
  (∀ r, 0 ≤ r → r < g_rm G → y_I h (a + 8) (Int.toNat r) = g_or G r) ∧
  (∀ w, 0 ≤ w → w < g_wm G → y_I h (a + 9) (Int.toNat w) = g_rd G w) ∧
  (∀ w, 0 ≤ w → w < g_wm G → y_I h (a + 10) (Int.toNat w) = g_pt G w) ∧
  (∀ w, 0 ≤ w → w < g_wm G → y_I h (a + 11) (Int.toNat w) = g_mn G w) ∧
  (∀ w, 0 ≤ w → w < g_wm G → y_I h (a + 12) (Int.toNat w) = g_wo G w) ∧
  (∀ w, 0 ≤ w → w < g_wm G → y_inr (y_I h (a + 13) (Int.toNat w)) ∧ ∀ q, 0 ≤ q → q < 32 → (u_bs (y_I h (a + 13) (Int.toNat w)) q ↔ (q < g_rm G ∧ g_na G (g_rd G w) q (g_pt G w)))) ∧
  (∀ w, 0 ≤ w → w < g_wm G → y_inr (y_I h (a + 14) (Int.toNat w)) ∧ ∀ v, 0 ≤ v → v < 32 → (u_bs (y_I h (a + 14) (Int.toNat w)) v ↔ (v < g_wm G ∧ g_pt G v = g_pt G w ∧ g_na G (g_rd G w) (g_rd G v) (g_pt G w)))) ∧
  (∀ w, 0 ≤ w → w < g_wm G → y_inr (y_I h (a + 15) (Int.toNat w)) ∧ ∀ v, 0 ≤ v → v < 32 → (u_bs (y_I h (a + 15) (Int.toNat w)) v ↔ (v < w ∧ g_or G (g_rd G w) = 1 ∧ g_rd G v = g_rd G w)))
theorem xmg_xm {h : y_Hp} {a : Nat} : xmg h a (hv h) ↔ xm h a := Iff.rfl
/-- nots and cushions tell of readers and parts that are there -/
def g_di (G : u_G) : Prop := (∀ k, 0 ≤ k → k < g_nm G → (0 ≤ G 104 (Int.toNat (3 * k)) ∧ G 104 (Int.toNat (3 * k)) < g_rm G) ∧ (0 ≤ G 104 (Int.toNat (3 * k + 1)) ∧ G 104 (Int.toNat (3 * k + 1)) < g_rm G) ∧ (0 ≤ G 104 (Int.toNat (3 * k + 2)) ∧ G 104 (Int.toNat (3 * k + 2)) < g_pm G)) ∧ ∀ k, 0 ≤ k → k < g_um G → 0 ≤ G 105 (Int.toNat (3 * k)) ∧ G 105 (Int.toNat (3 * k)) < g_pm G
def DR (h : y_Hp) (b : Nat) (g : y_Hp) : Prop := xmg h b (dv g) ∧ g_ok (dv g) ∧ g_di (dv g) ∧ y_I h 19 4 = g_nm (dv g) ∧ y_I h 19 5 = g_um (dv g)
theorem g_na_in {G : u_G} (D : g_di G) (hn : 0 ≤ g_nm G) {r q p : Int} (e : g_na G r q p) : (0 ≤ r ∧ r < g_rm G) ∧ (0 ≤ q ∧ q < g_rm G) ∧ (0 ≤ p ∧ p < g_pm G) := by
  unfold g_na at e
  obtain ⟨k, k1, k2, e1, e2, e3⟩ := u_any_iff.mp e
  have := D.1 k k1 (by omega)
  omega
theorem g_cv_in {G : u_G} (D : g_di G) (hn : 0 ≤ g_um G) {p t : Int} (e : g_cv G p t) : 0 ≤ p ∧ p < g_pm G := by
  unfold g_cv at e
  obtain ⟨k, k1, k2, e1, e2⟩ := u_any_iff.mp e
  have := D.2 k k1 (by omega)
  omega
/-- cells of the draft's view -/
def RD (a k : Nat) : Prop := (a = 94 ∧ 21 ≤ k ∧ k ≤ 26) ∨ (106 ≤ a ∧ a ≤ 110) ∨ (101 ≤ a ∧ a ≤ 105)
theorem dv_cg {g g' : y_Hp} (e : y_same RD g g') : dv g' = dv g := by
  funext a
  unfold dv
  split
  · funext k
    split
    · exact e 94 21 (Or.inl ⟨rfl, by omega, by omega⟩)
    · exact e 94 22 (Or.inl ⟨rfl, by omega, by omega⟩)
    · exact e 94 23 (Or.inl ⟨rfl, by omega, by omega⟩)
    · exact e 94 24 (Or.inl ⟨rfl, by omega, by omega⟩)
    · exact e 94 25 (Or.inl ⟨rfl, by omega, by omega⟩)
    · exact e 94 26 (Or.inl ⟨rfl, by omega, by omega⟩)
    · rfl
  all_goals first
    | (funext k; rw [e _ k (Or.inr (by omega)), e _ k (Or.inr (by omega))])
    | rfl
theorem dv_pt {g g' : y_Hp} (a k : Nat) (h1 : a = 94 → 8 ≤ k → k ≤ 13 → y_I g' 94 (k + 13) = y_I g 94 (k + 13)) (h2 : 101 ≤ a ∧ a ≤ 105 → y_I g' (a + 5) k = y_I g (a + 5) k) (h3 : 101 ≤ a ∧ a ≤ 105 → y_I g' a k = y_I g a k) : dv g' a k = dv g a k := by
  unfold dv
  split
  · dsimp only
    split
    all_goals first
      | exact h1 rfl (by omega) (by omega)
      | rfl
  all_goals first
    | (dsimp only; rw [← h2 (by omega), ← h3 (by omega)])
    | rfl
theorem xmg_cg {h h' : y_Hp} {a : Nat} {G : u_G} (e : ∀ b k, a ≤ b ∧ b ≤ a + 15 → y_I h' b k = y_I h b k) (ej : ∀ p, y_J h' (a + 4) p = y_J h (a + 4) p) (X : xmg h a G) : xmg h' a G := by
  have ex : ∀ i, i ≤ 15 → ∀ k, y_I h' (a + i) k = y_I h (a + i) k := fun i hi k => e _ _ (by omega)
  have e0 : ∀ k, y_I h' a k = y_I h a k := fun k => e _ _ (by omega)
  unfold xmg at X ⊢
  simp only [e0, ex 1 (by omega), ex 2 (by omega), ex 3 (by omega), ej, ex 5 (by omega), ex 6 (by omega), ex 7 (by omega), ex 8 (by omega), ex 9 (by omega), ex 10 (by omega), ex 11 (by omega), ex 12 (by omega), ex 13 (by omega), ex 14 (by omega), ex 15 (by omega)]
  exact X
theorem DR_cg {h h' g g' : y_Hp} {b : Nat} (D : DR h b g) (e : FX h h') (f : FM g g') : DR h' b g' := by
  have hb := D.1.1
  have eg : dv g' = dv g := dv_cg fun a k q => f.2 a k (by unfold RD at q; omega)
  unfold DR
  rw [eg, e.2 19 4 (by omega), e.2 19 5 (by omega)]
  exact ⟨xmg_cg (fun a k q => e.2 a k (by omega)) (fun p => by unfold y_J; rw [e.1]) D.1, D.2⟩
/-- what reading changes -/
def FXX (b : Nat) (h h' : y_Hp) : Prop := (∀ a k, a ≠ 19 → ¬ (b ≤ a ∧ a ≤ b + 15) → y_I h' a k = y_I h a k) ∧ y_F h' = y_F h ∧ ∀ a k, a ≠ b + 4 → y_J h' a k = y_J h a k
def FMM (g g' : y_Hp) : Prop := (∀ a k, ¬ (a = 94 ∧ 19 ≤ k ∧ k ≤ 26) → ¬ (106 ≤ a ∧ a ≤ 110) → y_I g' a k = y_I g a k) ∧ g'.2 = g.2
theorem FX.xx {b : Nat} {h h' : y_Hp} (e : FX h h') : FXX b h h' := ⟨fun a k q _ => e.2 a k (by omega), by unfold y_F; rw [e.1], fun a k _ => by unfold y_J; rw [e.1]⟩
theorem FM.mm {g g' : y_Hp} (e : FM g g') : FMM g g' := ⟨fun a k q _ => e.2 a k (by omega), e.1⟩
theorem FXX.trans {b : Nat} {h i j : y_Hp} (e : FXX b h i) (f : FXX b i j) : FXX b h j := ⟨fun a k q r => (f.1 a k q r).trans (e.1 a k q r), f.2.1.trans e.2.1, fun a k q => (f.2.2 a k q).trans (e.2.2 a k q)⟩
theorem FMM.trans {h i j : y_Hp} (e : FMM h i) (f : FMM i j) : FMM h j := ⟨fun a k q r => (f.1 a k q r).trans (e.1 a k q r), f.2.trans e.2⟩
/-- an item read by both -/
def KI (sc : z_Sc) (c b : Nat) (t n : Int) (T : Int → Int) (p : Int) (h g : y_Hp) (x m : Nat) : Prop := ∃ (u q : Int) (h' g' : y_Hp), (∀ d, 20 ≤ d → y_se z_pg sc d x [y_vr 19] h = some (some (y_vi u), h')) ∧ (∀ d, 20 ≤ d → y_se z_pg sc d m [y_vr 94, y_vi t] g = some (some (y_vi u), g')) ∧ XS c b n T q h' ∧ MS t n T q g' ∧ FXX b h h' ∧ FMM g g' ∧ (u = 0 ∨ u = 1) ∧ (p ≤ q ∧ q ≤ n) ∧ (u = 1 → p < q ∧ DR h' b g')
section IT
variable {sc : z_Sc} {h g : y_Hp} {c b : Nat} {t n p : Int} {T : Int → Int}
theorem K_last (S : XS c b n T p h) (M : MS t n T p g) (D : DR h b g) (hc : 14 ≤ c ∧ c ≤ 17) (ht : 0 ≤ t ∧ t < 4) (hn : n ≤ 120) (hp : 0 ≤ p ∧ p < n) : KI sc c b t n T p h g 25 160 := by
  have hb := D.1.1
  have i2 := S.2.2.2.1
  have m2 := M.2.1
  obtain ⟨u, q, h1, g1, k1, k2, k3, k4, k5, k6, k7, k8, k9⟩ := K_min (sc := sc) (S.at hc (p + 1)) (M.at (p + 1)) hc ht hn (by omega) 1 60
  have D1 : DR h1 b g1 := DR_cg D (FX.p.trans k5) (FM.p.trans k6)
  have hx : ∀ d, 20 ≤ d + 1 → y_se z_pg sc (d + 1) 25 [y_vr 19] h = if u = 0 then some (some (y_vi 0), h1) else some (some (y_vi 1), y_sI h1 b 0 (y_I h1 19 3)) := fun d hd => by
    rw [e25, b25_0, i2, yr_t (by omega), k1 d (by omega), yci_s, k3.2.1, yH0 hb]
  have hm : ∀ d, 20 ≤ d + 1 → y_se z_pg sc (d + 1) 160 [y_vr 94, y_vi t] g = some (some (y_vi u), y_sI g1 94 21 (y_I g1 94 20)) := fun d hd => by
    rw [e160, b160_0, m2, yr_t (by omega), k2 d (by omega), yci_s, yb_t k7]
  have M1 : MS t n T q (y_sI g1 94 21 (y_I g1 94 20)) := ⟨by rw [yI_sI_o (by omega)]; exact k4.1, by rw [yI_sI_o (by omega)]; exact k4.2.1, fun i i1 i2 => by rw [yI_sI_o (by omega)]; exact k4.2.2 i i1 i2⟩
  have F1 : FMM g (y_sI g1 94 21 (y_I g1 94 20)) := (FM.p.trans k6).mm.trans ⟨fun a k q _ => yI_sI_o (by omega), rfl⟩
  rcases k7 with e | e
  · subst e
    exact ⟨0, q, h1, _, fun d hd => by obtain ⟨d, rfl⟩ : ∃ e, d = e + 1 := ⟨d - 1, by omega⟩; rw [hx d hd, if_pos rfl], fun d hd => by obtain ⟨d, rfl⟩ : ∃ e, d = e + 1 := ⟨d - 1, by omega⟩; exact hm d hd, k3, M1, (FX.p.trans k5).xx, F1, Or.inl rfl, by omega, fun q => by omega⟩
  · subst e
    obtain ⟨v1, v2⟩ := k9 rfl
    have S1 : XS c b n T q (y_sI h1 b 0 (y_I h1 19 3)) := ⟨k3.1, k3.2.1, by rw [yI_sI_o (by omega)]; exact k3.2.2.1, by rw [yI_sI_o (by omega)]; exact k3.2.2.2.1, fun i i1 i2 => by rw [yI_sI_o (by omega)]; exact k3.2.2.2.2 i i1 i2⟩
    refine ⟨1, q, y_sI h1 b 0 (y_I h1 19 3), _, fun d hd => by obtain ⟨d, rfl⟩ : ∃ e, d = e + 1 := ⟨d - 1, by omega⟩; rw [hx d hd, if_neg (by omega)], fun d hd => by obtain ⟨d, rfl⟩ : ∃ e, d = e + 1 := ⟨d - 1, by omega⟩; exact hm d hd, S1, M1, (FX.p.trans k5).xx.trans ⟨fun a k q r => yI_sI_o (by omega), rfl, fun a k q => rfl⟩, F1, Or.inr rfl, by omega, fun _ => ⟨by omega, ?_⟩⟩
    obtain ⟨X, G1, G2, n1, n2⟩ := D1
    have ga : ∀ a k, ¬ (a = 94 ∧ k = 8) → dv (y_sI g1 94 21 (y_I g1 94 20)) a k = dv g1 a k := fun a k q => dv_pt a k (fun e _ _ => yI_sI_o (by omega)) (fun e => yI_sI_o (by omega)) (fun e => yI_sI_o (by omega))
    have la : g_la (dv (y_sI g1 94 21 (y_I g1 94 20))) = y_I g1 94 20 := yI_sI_e ⟨rfl, rfl⟩
    generalize eG : dv (y_sI g1 94 21 (y_I g1 94 20)) = G at ga la
    generalize dv g1 = G0 at ga X G1 G2 n1 n2
    have pm : g_pm G = g_pm G0 := ga _ _ (by omega)
    have rm : g_rm G = g_rm G0 := ga _ _ (by omega)
    have wm : g_wm G = g_wm G0 := ga _ _ (by omega)
    have nm : g_nm G = g_nm G0 := ga _ _ (by omega)
    have um : g_um G = g_um G0 := ga _ _ (by omega)
    have r1 : G 101 = G0 101 := funext fun k => ga _ _ (by omega)
    have r2 : G 102 = G0 102 := funext fun k => ga _ _ (by omega)
    have r3 : G 103 = G0 103 := funext fun k => ga _ _ (by omega)
    have r4 : G 104 = G0 104 := funext fun k => ga _ _ (by omega)
    have r5 : G 105 = G0 105 := funext fun k => ga _ _ (by omega)
    have x0 : ∀ k, k ≠ 0 → y_I (y_sI h1 b 0 (y_I h1 19 3)) b k = y_I h1 b k := fun k q => yI_sI_o (by omega)
    have xi : ∀ i k, 1 ≤ i → y_I (y_sI h1 b 0 (y_I h1 19 3)) (b + i) k = y_I h1 (b + i) k := fun i k q => yI_sI_o (by omega)
    unfold DR
    rw [eG]
    refine ⟨?_, ?_, ?_, by rw [yI_sI_o (by omega), nm]; exact n1, by rw [yI_sI_o (by omega), um]; exact n2⟩
    · unfold xmg g_na g_cv g_cp g_cm g_sl g_fr g_ti g_or g_rd g_pt g_mn g_wo at X ⊢
      rw [pm, rm, wm, nm, um, r1, r2, r3, r4, r5]
      refine ⟨hb, by rw [yI_sI_e ⟨rfl, rfl⟩, v1, la], by rw [x0 _ (by omega)]; exact X.2.2.1, by rw [x0 _ (by omega)]; exact X.2.2.2.1, by rw [x0 _ (by omega)]; exact X.2.2.2.2.1, ?_⟩
      simp only [xi 1 _ (by omega), xi 2 _ (by omega), xi 3 _ (by omega), yJ_sI, xi 5 _ (by omega), xi 6 _ (by omega), xi 7 _ (by omega), xi 8 _ (by omega), xi 9 _ (by omega), xi 10 _ (by omega), xi 11 _ (by omega), xi 12 _ (by omega), xi 13 _ (by omega), xi 14 _ (by omega), xi 15 _ (by omega)]
      exact X.2.2.2.2.2
    · unfold g_ok g_cp g_cm g_sl g_fr g_ti g_or g_rd g_pt g_mn g_wo at G1 ⊢
      rw [pm, rm, wm, nm, um, la, r1, r2, r3, r5]
      exact ⟨G1.1, G1.2.1, G1.2.2.1, G1.2.2.2.1, G1.2.2.2.2.1, v2, G1.2.2.2.2.2.2⟩
    · unfold g_di at G2 ⊢
      rw [pm, rm, nm, um, r4, r5]
      exact G2
end IT
