/-! READING A HOUSE, the signs: x's reader in cell 19, the model's in 94; both step alike -/
def XS (c b : Nat) (n : Int) (T : Int → Int) (p : Int) (h : y_Hp) : Prop := y_F h 19 0 = c ∧ y_F h 19 6 = b ∧ y_I h 19 1 = n ∧ y_I h 19 2 = p ∧ ∀ i, 0 ≤ i → i < n → y_I h c (Int.toNat i) = T i
def MS (t : Int) (n : Int) (T : Int → Int) (p : Int) (g : y_Hp) : Prop := y_I g 99 (Int.toNat t) = n ∧ y_I g 94 19 = p ∧ ∀ i, 0 ≤ i → i < n → y_I g 100 (Int.toNat (120 * t + i)) = T i
/-- what a sign changes -/
def FX (h h' : y_Hp) : Prop := h'.2 = h.2 ∧ ∀ a k, ¬ (a = 19 ∧ (k = 2 ∨ k = 3)) → y_I h' a k = y_I h a k
def FM (h h' : y_Hp) : Prop := h'.2 = h.2 ∧ ∀ a k, ¬ (a = 94 ∧ (k = 19 ∨ k = 20)) → y_I h' a k = y_I h a k
theorem FX.refl {h : y_Hp} : FX h h := ⟨rfl, fun _ _ _ => rfl⟩
theorem FM.refl {h : y_Hp} : FM h h := ⟨rfl, fun _ _ _ => rfl⟩
theorem FX.trans {h i j : y_Hp} (e : FX h i) (f : FX i j) : FX h j := ⟨f.1.trans e.1, fun a k q => (f.2 a k q).trans (e.2 a k q)⟩
theorem FM.trans {h i j : y_Hp} (e : FM h i) (f : FM i j) : FM h j := ⟨f.1.trans e.1, fun a k q => (f.2 a k q).trans (e.2 a k q)⟩
theorem FX.p {h : y_Hp} {v : Int} : FX h (y_sI h 19 2 v) := ⟨rfl, fun a k q => yI_sI_o (by omega)⟩
theorem FX.v {h : y_Hp} {v : Int} : FX h (y_sI h 19 3 v) := ⟨rfl, fun a k q => yI_sI_o (by omega)⟩
theorem FM.p {h : y_Hp} {v : Int} : FM h (y_sI h 94 19 v) := ⟨rfl, fun a k q => yI_sI_o (by omega)⟩
theorem FM.v {h : y_Hp} {v : Int} : FM h (y_sI h 94 20 v) := ⟨rfl, fun a k q => yI_sI_o (by omega)⟩
section TK
variable {sc : z_Sc} {h g : y_Hp} {c b : Nat} {t n p : Int} {T : Int → Int}
theorem XS.at (S : XS c b n T p h) (hc : 14 ≤ c ∧ c ≤ 17) (q : Int) : XS c b n T q (y_sI h 19 2 q) := ⟨S.1, S.2.1, by rw [yI_sI_o (by omega)]; exact S.2.2.1, yI_sI_e ⟨rfl, rfl⟩, fun i i1 i2 => by rw [yI_sI_o (by omega)]; exact S.2.2.2.2 i i1 i2⟩
theorem XS.vl (S : XS c b n T p h) (hc : 14 ≤ c ∧ c ≤ 17) {v : Int} : XS c b n T p (y_sI h 19 3 v) := ⟨S.1, S.2.1, by rw [yI_sI_o (by omega)]; exact S.2.2.1, by rw [yI_sI_o (by omega)]; exact S.2.2.2.1, fun i i1 i2 => by rw [yI_sI_o (by omega)]; exact S.2.2.2.2 i i1 i2⟩
theorem MS.at (S : MS t n T p g) (q : Int) : MS t n T q (y_sI g 94 19 q) := ⟨by rw [yI_sI_o (by omega)]; exact S.1, yI_sI_e ⟨rfl, rfl⟩, fun i i1 i2 => by rw [yI_sI_o (by omega)]; exact S.2.2 i i1 i2⟩
theorem MS.vl (S : MS t n T p g) {v : Int} : MS t n T p (y_sI g 94 20 v) := ⟨by rw [yI_sI_o (by omega)]; exact S.1, by rw [yI_sI_o (by omega)]; exact S.2.1, fun i i1 i2 => by rw [yI_sI_o (by omega)]; exact S.2.2 i i1 i2⟩
theorem yTc {x : y_O} (hc : 14 ≤ c ∧ c ≤ 17) : y_kt c 10 x = x := by
  rcases (show c = 14 ∨ c = 15 ∨ c = 16 ∨ c = 17 by omega) with rfl | rfl | rfl | rfl <;> rfl
theorem lTc (hc : 14 ≤ c ∧ c ≤ 17) : (z_kd c).2 = 120 := by
  rcases (show c = 14 ∨ c = 15 ∨ c = 16 ∨ c = 17 by omega) with rfl | rfl | rfl | rfl <;> rfl
theorem s20 (d : Nat) (hd : 1 ≤ d) (S : XS c b n T p h) (hc : 14 ≤ c ∧ c ≤ 17) (hn : n ≤ 120) (hp : 0 ≤ p) : y_se z_pg sc d 20 [y_vr 19] h = some (some (y_vi (if p < n then T p else 1000)), h) := by
  rcases d with _ | d
  · omega
  obtain ⟨f0, f6, i1, i2, i3⟩ := S
  rw [e20, b20_0, i1, i2, f0]
  by_cases c1 : p < n
  · rw [if_pos c1, if_pos c1, yTc hc, lTc hc, if_pos (by omega), yTc hc, yi_t (by omega), i3 p hp c1]
  · rw [if_neg c1, if_neg c1]
theorem s156w (d : Nat) (hd : 1 ≤ d) (S : MS t n T p g) (ht : 0 ≤ t ∧ t < 4) (hn : n ≤ 120) (hp : 0 ≤ p) : y_se z_pg sc d 156 [y_vr 94, y_vi t, y_vi p] g = some (some (y_vi (if p < n then T p else 0)), g) := by
  rcases d with _ | d
  · omega
  obtain ⟨i1, i2, i3⟩ := S
  rw [e156, b156_0, yi_t (by omega), i1]
  by_cases c1 : p < n
  · rw [if_pos c1, if_pos c1, yr_t (by omega), yr_t (by omega), yi_t (by omega), i3 p hp c1]
  · rw [if_neg c1, if_neg c1]
/-- both look for a sign -/
theorem K_sign (S : XS c b n T p h) (M : MS t n T p g) (hc : 14 ≤ c ∧ c ≤ 17) (ht : 0 ≤ t ∧ t < 4) (hn : n ≤ 120) (hp : 0 ≤ p ∧ p ≤ n) (v : Int) (hv : 1 ≤ v ∧ v ≤ 127) : ∃ (u q : Int) (h' g' : y_Hp), (∀ d, 3 ≤ d → y_se z_pg sc d 21 [y_vr 19, y_vi v] h = some (some (y_vi u), h')) ∧ (∀ d, 3 ≤ d → y_se z_pg sc d 157 [y_vr 94, y_vi t, y_vi v] g = some (some (y_vi u), g')) ∧ XS c b n T q h' ∧ MS t n T q g' ∧ FX h h' ∧ FM g g' ∧ (u = 0 ∨ u = 1) ∧ (p ≤ q ∧ q ≤ n) ∧ y_I h' 19 3 = y_I h 19 3 ∧ y_I g' 94 20 = y_I g 94 20 := by
  have i2 := S.2.2.2.1
  have m2 := M.2.1
  by_cases c1 : p < n ∧ T p = v
  · refine ⟨1, p + 1, y_sI h 19 2 (p + 1), y_sI g 94 19 (p + 1), fun d hd => ?_, fun d hd => ?_, S.at hc _, M.at _, FX.p, FM.p, Or.inr rfl, by omega, yI_sI_o (by omega), yI_sI_o (by omega)⟩
    · obtain ⟨d, rfl⟩ : ∃ e, d = e + 1 := ⟨d - 1, by omega⟩
      rw [e21, b21_0, s20 d (by omega) S hc hn hp.1, yci_s, if_pos c1.1, if_pos c1.2, i2, yr_t (by omega)]
    · obtain ⟨d, rfl⟩ : ∃ e, d = e + 1 := ⟨d - 1, by omega⟩
      rw [e157, b157_0, m2, s156w d (by omega) M ht hn hp.1, yci_s, if_pos c1.1, if_pos c1.2, m2, yr_t (by omega)]
  · refine ⟨0, p, h, g, fun d hd => ?_, fun d hd => ?_, S, M, FX.refl, FM.refl, Or.inl rfl, by omega, rfl, rfl⟩
    · obtain ⟨d, rfl⟩ : ∃ e, d = e + 1 := ⟨d - 1, by omega⟩
      rw [e21, b21_0, s20 d (by omega) S hc hn hp.1, yci_s]
      by_cases c2 : p < n
      · rw [if_pos c2, if_neg (fun e => c1 ⟨c2, e⟩)]
      · rw [if_neg c2, if_neg (by omega)]
    · obtain ⟨d, rfl⟩ : ∃ e, d = e + 1 := ⟨d - 1, by omega⟩
      rw [e157, b157_0, m2, s156w d (by omega) M ht hn hp.1, yci_s]
      have e0 : y_sI g 94 19 (p + 0) = g := y_sI_id (by rw [m2, Int.add_zero])
      by_cases c2 : p < n
      · rw [if_pos c2, if_neg (fun e => c1 ⟨c2, e⟩), m2, yr_t (by omega), e0]
      · rw [if_neg c2, if_neg (by omega), m2, yr_t (by omega), e0]
/-- a figure at p -/
def u_fg (T : Int → Int) (n p : Int) : Prop := p < n ∧ 48 ≤ T p ∧ T p ≤ 57
theorem s22 (d : Nat) (hd : 2 ≤ d) (S : XS c b n T p h) (hc : 14 ≤ c ∧ c ≤ 17) (hn : n ≤ 120) (hp : 0 ≤ p) : y_se z_pg sc d 22 [y_vr 19] h = some (some (y_vi (@ite _ (u_fg T n p) (Classical.propDecidable _) (T p - 48) (-9))), h) := by
  rcases d with _ | d
  · omega
  rw [e22, b22_0, s20 d (by omega) S hc hn hp, yci_s]
  by_cases c1 : p < n
  · rw [if_pos c1]
    by_cases c2 : T p < 48
    · rw [if_pos c2, if_neg (fun q => by unfold u_fg at q; omega)]
    rw [if_neg c2]
    by_cases c3 : 57 < T p
    · rw [if_pos c3, if_neg (fun q => by unfold u_fg at q; omega)]
    · rw [if_neg c3, yr_t (by omega), if_pos (by unfold u_fg; omega)]
  · rw [if_neg c1, if_neg (by omega), if_pos (by omega), if_neg (fun q => c1 q.1)]
/-- both take a figure -/
theorem K_fig (S : XS c b n T p h) (M : MS t n T p g) (hT : ∀ i, 0 ≤ i → i < n → -128 ≤ T i ∧ T i ≤ 127) (hc : 14 ≤ c ∧ c ≤ 17) (ht : 0 ≤ t ∧ t < 4) (hn : n ≤ 120) (hp : 0 ≤ p ∧ p ≤ n) (lo hi : Int) : ∃ (u q : Int) (h' g' : y_Hp), (∀ d, 4 ≤ d → y_se z_pg sc d 23 [y_vr 19, y_vi lo, y_vi hi] h = some (some (y_vi u), h')) ∧ (∀ d, 4 ≤ d → y_se z_pg sc d 158 [y_vr 94, y_vi t, y_vi lo, y_vi hi] g = some (some (y_vi u), g')) ∧ XS c b n T q h' ∧ MS t n T q g' ∧ FX h h' ∧ FM g g' ∧ (u = 0 ∨ u = 1) ∧ (p ≤ q ∧ q ≤ n) ∧ (u = 1 → y_I h' 19 3 = y_I g' 94 20 ∧ (lo ≤ y_I g' 94 20 ∧ y_I g' 94 20 ≤ hi) ∧ (0 ≤ y_I g' 94 20 ∧ y_I g' 94 20 ≤ 9)) := by
  have i2 := S.2.2.2.1
  have m2 := M.2.1
  have ep : ∀ v, y_I (y_sI g 94 20 v) 94 19 = p := fun v => by rw [yI_sI_o (by omega), m2]
  have hx : ∀ d, 4 ≤ d + 1 → y_se z_pg sc (d + 1) 23 [y_vr 19, y_vi lo, y_vi hi] h = _ := fun d hd => by rw [e23, b23_0, s22 d (by omega) S hc hn hp.1, yci_s, yI_sI_e ⟨rfl, rfl⟩, yI_sI_o (by omega), i2]
  have hm : ∀ d, 4 ≤ d + 1 → y_se z_pg sc (d + 1) 158 [y_vr 94, y_vi t, y_vi lo, y_vi hi] g = _ := fun d hd => by rw [e158, b158_0, m2, s156w d (by omega) M ht hn hp.1, yci_s, yr_t (by split <;> first | omega | (have := hT p hp.1 (by assumption); omega)), yI_sI_e ⟨rfl, rfl⟩, s136 d (by omega), yci_s, yI_sI_o (by omega), yI_sI_e ⟨rfl, rfl⟩, m2]
  by_cases c1 : u_fg T n p
  · have eT : (if p < n then T p else 0) = T p := if_pos c1.1
    have c1' := c1
    unfold u_fg at c1'
    by_cases c2 : lo ≤ T p - 48 ∧ T p - 48 ≤ hi
    · refine ⟨1, p + 1, y_sI (y_sI h 19 3 (T p - 48)) 19 2 (p + 1), y_sI (y_sI g 94 20 (T p - 48)) 94 19 (p + 1), fun d hd => ?_, fun d hd => ?_, (S.vl hc).at hc _, M.vl.at _, FX.v.trans FX.p, FM.v.trans FM.p, Or.inr rfl, by omega, fun _ => ?_⟩
      · obtain ⟨d, rfl⟩ : ∃ e, d = e + 1 := ⟨d - 1, by omega⟩
        rw [hx d hd, if_pos c1, if_neg (by omega), if_neg (by omega), if_neg (by omega), yr_t (by omega)]
      · obtain ⟨d, rfl⟩ : ∃ e, d = e + 1 := ⟨d - 1, by omega⟩
        rw [hm d hd, eT, if_neg (by rw [bi_t (by omega)]; omega), s136 d (by omega), yci_s, if_neg (by rw [bi_t c2]; omega), ep, yr_t (by omega)]
      · rw [yI_sI_o (by omega), yI_sI_e ⟨rfl, rfl⟩, yI_sI_o (by omega), yI_sI_e ⟨rfl, rfl⟩]
        omega
    · refine ⟨0, p, y_sI h 19 3 (T p - 48), y_sI g 94 20 (T p - 48), fun d hd => ?_, fun d hd => ?_, S.vl hc, M.vl, FX.v, FM.v, Or.inl rfl, by omega, fun q => by omega⟩
      · obtain ⟨d, rfl⟩ : ∃ e, d = e + 1 := ⟨d - 1, by omega⟩
        rw [hx d hd, if_pos c1, if_neg (by omega)]
        by_cases c3 : T p - 48 < lo
        · rw [if_pos c3]
        · rw [if_neg c3, if_pos (by omega)]
      · obtain ⟨d, rfl⟩ : ∃ e, d = e + 1 := ⟨d - 1, by omega⟩
        rw [hm d hd, eT, if_neg (by rw [bi_t (by omega)]; omega), s136 d (by omega), yci_s, if_pos (bi_f c2), ep, yr_t (by omega), y_sI_id (by rw [ep, Int.add_zero])]
  · refine ⟨0, p, y_sI h 19 3 (-9), y_sI g 94 20 ((if p < n then T p else 0) - 48), fun d hd => ?_, fun d hd => ?_, S.vl hc, M.vl, FX.v, FM.v, Or.inl rfl, by omega, fun q => by omega⟩
    · obtain ⟨d, rfl⟩ : ∃ e, d = e + 1 := ⟨d - 1, by omega⟩
      rw [hx d hd, if_neg c1, if_pos rfl]
    · obtain ⟨d, rfl⟩ : ∃ e, d = e + 1 := ⟨d - 1, by omega⟩
      have c2 : ¬ (0 ≤ (if p < n then T p else 0) - 48 ∧ (if p < n then T p else 0) - 48 ≤ 9) := fun q => c1 (by
        unfold u_fg
        by_cases e : p < n
        · rw [if_pos e] at q; omega
        · rw [if_neg e] at q; omega)
      rw [hm d hd, if_pos (bi_f c2), yr_t (by omega), y_sI_id (by rw [yI_sI_o (by omega), m2, Int.add_zero])]
end TK
