/-! READING A HOUSE, a not's place in the draft -/
theorem u_find_cs {p : Int → Prop} : ∀ {n : Nat} {k : Int}, 0 ≤ k → (u_find p k n = -9 ∧ ∀ j, k ≤ j → j < k + n → ¬ p j) ∨ (k ≤ u_find p k n ∧ u_find p k n < k + n ∧ p (u_find p k n))
  | 0, k, hk => Or.inl ⟨rfl, fun j h1 h2 => by omega⟩
  | n + 1, k, hk => by
    by_cases c : p k
    · rw [u_find_t c]
      exact Or.inr ⟨Int.le_refl _, by omega, c⟩
    · rw [u_find_f c]
      rcases u_find_cs (p := p) (n := n) (k := k + 1) (by omega) with q | q
      · refine Or.inl ⟨q.1, fun j h1 h2 => ?_⟩
        by_cases e : j = k
        · subst e; exact c
        · exact q.2 j (by omega) (by omega)
      · exact Or.inr ⟨by omega, by omega, q.2.2⟩
section IT
variable {sc : z_Sc} {h g : y_Hp} {c b : Nat} {t n p : Int} {T : Int → Int}
/-- x's forbid: u the want that waits, v the want it waits for, q its reader -/
def x_fb (h : y_Hp) (b : Nat) (u v q : Int) : y_Hp := if u = -9 then h else y_sI (y_sI h (b + 13) (Int.toNat u) (y_or (y_I h (b + 13) (Int.toNat u)) (y_shl 1 q))) (b + 14) (Int.toNat u) (y_or (y_I h (b + 14) (Int.toNat u)) (if v = -9 then 0 else y_shl 1 v))
theorem s11 (d : Nat) (hd : 2 ≤ d) {G : u_G} (X : xmg h b G) (hw : 0 ≤ g_wm G ∧ g_wm G ≤ 24) (r q o : Int) : y_se z_pg sc d 11 [y_vr b, y_vi r, y_vi q, y_vi o] h = some (none, x_fb h b (g_wf G r o) (g_wf G q o) q) := by
  rcases d with _ | d
  · omega
  have hb := X.1
  rw [e11, b11_0, yH0 hb, s13 d (by omega) X hw, yci_s, yH0 hb, s13 d (by omega) X hw, yci_s]
  unfold x_fb
  by_cases c1 : g_wf G r o = -9
  · rw [if_pos c1, if_pos c1]
  · rw [if_neg c1, if_neg c1]
    have k1 : 0 ≤ g_wf G r o ∧ g_wf G r o < 24 := by
      rcases u_find_cs (p := fun w => g_rd G w = r ∧ g_pt G w = o) (n := (g_wm G).toNat) (k := 0) (by omega) with z | z
      · exact absurd z.1 c1
      · unfold g_wf; omega
    rw [yH0 hb, yH13 hb, lH13 hb, yi_t (by omega), yH13 hb, yi_t (by omega), yH0 hb, yH14 hb, lH14 hb, yi_t (by omega), yH14 hb, yi_t (by omega), yhb_s, yH14 hb, yi_t (by omega), yhb_s, yI_sI_o (by omega)]
    by_cases c2 : g_wf G q o = -9
    · rw [if_pos c2, if_pos c2]
    · rw [if_neg c2, if_neg c2]
theorem not_fin (S : XS c b n T p h) (M : MS t n T p g) {h0 g0 : y_Hp} (D : DR h0 b g0) (hc : 14 ≤ c ∧ c ≤ 17) (U : Int) (hU : g_nm (dv g0) = U) (h8 : U < 8) (eh : FX h0 h) (eg : FP 109 U g0 g) (w1 w2 w3 : Int) (g1 : y_I g 109 (Int.toNat (3 * U)) = w1) (g2 : y_I g 109 (Int.toNat (3 * U + 1)) = w2) (g3 : y_I g 109 (Int.toNat (3 * U + 2)) = w3) (b1 : 0 ≤ w1 ∧ w1 < g_rm (dv g0)) (b2 : 0 ≤ w2 ∧ w2 < g_rm (dv g0)) (b3 : 0 ≤ w3 ∧ w3 < g_pm (dv g0)) (Z : y_Hp) (eZ : y_sI (x_fb h b (g_wf (dv g0) w1 w3) (g_wf (dv g0) w2 w3) w2) 19 4 (U + 1) = Z) : XS c b n T p Z ∧ MS t n T p (y_sI g 94 25 (U + 1)) ∧ FXX b h0 Z ∧ FMM g0 (y_sI g 94 25 (U + 1)) ∧ DR Z b (y_sI g 94 25 (U + 1)) := by
  obtain ⟨X, G1, G2, n1, n2⟩ := D
  have hb := X.1
  have knm := G1.2.2.2.1
  have kwm := G1.2.2.1
  have krm := G1.2.1
  have hfo : ∀ a k, ¬ (a = b + 13 ∧ k = Int.toNat (g_wf (dv g0) w1 w3)) → ¬ (a = b + 14 ∧ k = Int.toNat (g_wf (dv g0) w1 w3)) → y_I (x_fb h b (g_wf (dv g0) w1 w3) (g_wf (dv g0) w2 w3) w2) a k = y_I h a k := fun a k q r => by
    unfold x_fb
    split
    · rfl
    · rw [yI_sI_o r, yI_sI_o q]
  have ef2 : (x_fb h b (g_wf (dv g0) w1 w3) (g_wf (dv g0) w2 w3) w2).2 = h.2 := by
    unfold x_fb
    split <;> rfl
  have ho : ∀ a k, ¬ (a = 19 ∧ k = 4) → a ≠ b + 13 → a ≠ b + 14 → y_I Z a k = y_I h a k := fun a k q r s => by
    rw [← eZ, yI_sI_o q, hfo _ _ (fun z => r z.1) (fun z => s z.1)]
  have eZ2 : Z.2 = h.2 := by rw [← eZ]; exact ef2
  have hF : y_F Z = y_F h := by unfold y_F; rw [eZ2]
  have hJ : y_J Z = y_J h := by unfold y_J; rw [eZ2]
  have S' : XS c b n T p Z := ⟨by rw [hF]; exact S.1, by rw [hF]; exact S.2.1, by rw [ho _ _ (by omega) (by omega) (by omega)]; exact S.2.2.1, by rw [ho _ _ (by omega) (by omega) (by omega)]; exact S.2.2.2.1, fun i i1 i2 => by rw [ho _ _ (by omega) (by omega) (by omega)]; exact S.2.2.2.2 i i1 i2⟩
  have M' : MS t n T p (y_sI g 94 25 (U + 1)) := ⟨by rw [yI_sI_o (by omega)]; exact M.1, by rw [yI_sI_o (by omega)]; exact M.2.1, fun i i1 i2 => by rw [yI_sI_o (by omega)]; exact M.2.2 i i1 i2⟩
  refine ⟨S', M', eh.xx.trans ⟨fun a k q r => ho a k (by omega) (by omega) (by omega), hF, fun a k q => by rw [hJ]⟩, (eg.mm (by omega)).trans ⟨fun a k q r => yI_sI_o (by omega), rfl⟩, ?_⟩
  have ga : ∀ a k, ¬ (a = 94 ∧ k = 12) → ¬ (a = 104 ∧ Int.toNat (3 * U) ≤ k ∧ k ≤ Int.toNat (3 * U) + 2) → dv (y_sI g 94 25 (U + 1)) a k = dv g0 a k := fun a k q r => dv_pt a k (fun e e1 e2 => by rw [yI_sI_o (by omega), eg.2 _ _ (by omega) (by omega)]) (fun e => by rw [yI_sI_o (by omega), eg.2 _ _ (by omega) (by omega)]) (fun e => by rw [yI_sI_o (by omega), eg.2 _ _ (by omega) (by omega)])
  have nm : g_nm (dv (y_sI g 94 25 (U + 1))) = U + 1 := yI_sI_e ⟨rfl, rfl⟩
  have t1 : dv (y_sI g 94 25 (U + 1)) 104 (Int.toNat (3 * U)) = w1 := by
    show (if Int.toNat (3 * U) < 24 then y_I (y_sI g 94 25 (U + 1)) 109 (Int.toNat (3 * U)) else _) = w1
    rw [if_pos (by omega), yI_sI_o (by omega), g1]
  have t2 : dv (y_sI g 94 25 (U + 1)) 104 (Int.toNat (3 * U + 1)) = w2 := by
    show (if Int.toNat (3 * U + 1) < 24 then y_I (y_sI g 94 25 (U + 1)) 109 (Int.toNat (3 * U + 1)) else _) = w2
    rw [if_pos (by omega), yI_sI_o (by omega), g2]
  have t3 : dv (y_sI g 94 25 (U + 1)) 104 (Int.toNat (3 * U + 2)) = w3 := by
    show (if Int.toNat (3 * U + 2) < 24 then y_I (y_sI g 94 25 (U + 1)) 109 (Int.toNat (3 * U + 2)) else _) = w3
    rw [if_pos (by omega), yI_sI_o (by omega), g3]
  generalize eG : dv (y_sI g 94 25 (U + 1)) = G at ga nm t1 t2 t3
  generalize dv g0 = G0 at ga X G1 G2 n1 n2 hU knm kwm krm b1 b2 b3 eZ hfo ef2
  have la : g_la G = g_la G0 := ga _ _ (by omega) (by omega)
  have pm : g_pm G = g_pm G0 := ga _ _ (by omega) (by omega)
  have rm : g_rm G = g_rm G0 := ga _ _ (by omega) (by omega)
  have wm : g_wm G = g_wm G0 := ga _ _ (by omega) (by omega)
  have um : g_um G = g_um G0 := ga _ _ (by omega) (by omega)
  have r1 : G 101 = G0 101 := funext fun k => ga _ _ (by omega) (by omega)
  have r2 : G 102 = G0 102 := funext fun k => ga _ _ (by omega) (by omega)
  have r3 : G 103 = G0 103 := funext fun k => ga _ _ (by omega) (by omega)
  have r5 : G 105 = G0 105 := funext fun k => ga _ _ (by omega) (by omega)
  have old : ∀ k j, 0 ≤ k → k < U → 0 ≤ j → j ≤ 2 → G 104 (Int.toNat (3 * k + j)) = G0 104 (Int.toNat (3 * k + j)) := fun k j k1 k2 j1 j2 => ga _ _ (by omega) (by omega)
  have old0 : ∀ k, 0 ≤ k → k < U → G 104 (Int.toNat (3 * k)) = G0 104 (Int.toNat (3 * k)) := fun k k1 k2 => ga _ _ (by omega) (by omega)
  have na : ∀ r q p, g_na G r q p ↔ (g_na G0 r q p ∨ (r = w1 ∧ q = w2 ∧ p = w3)) := fun r q p => by
    unfold g_na
    rw [u_any_iff, u_any_iff, nm, hU]
    constructor
    · rintro ⟨k, k1, k2, e1, e2, e3⟩
      by_cases e : k = U
      · subst e
        rw [t1] at e1; rw [t2] at e2; rw [t3] at e3
        exact Or.inr ⟨e1.symm, e2.symm, e3.symm⟩
      · rw [old0 k k1 (by omega)] at e1
        rw [old k 1 k1 (by omega) (by omega) (by omega)] at e2
        rw [old k 2 k1 (by omega) (by omega) (by omega)] at e3
        exact Or.inl ⟨k, k1, by omega, e1, e2, e3⟩
    · rintro (⟨k, k1, k2, e1, e2, e3⟩ | ⟨e1, e2, e3⟩)
      · refine ⟨k, k1, by omega, ?_, ?_, ?_⟩
        · rw [old0 k k1 (by omega)]; exact e1
        · rw [old k 1 k1 (by omega) (by omega) (by omega)]; exact e2
        · rw [old k 2 k1 (by omega) (by omega) (by omega)]; exact e3
      · exact ⟨U, by omega, by omega, by rw [t1]; exact e1.symm, by rw [t2]; exact e2.symm, by rw [t3]; exact e3.symm⟩
  have cv : ∀ p t, g_cv G p t = g_cv G0 p t := fun p t => by unfold g_cv; rw [um, r5]
  have cp : ∀ r, g_cp G r = g_cp G0 r := fun r => by unfold g_cp; rw [r1]
  have cm : ∀ r, g_cm G r = g_cm G0 r := fun r => by unfold g_cm; rw [r1]
  have sl : ∀ r, g_sl G r = g_sl G0 r := fun r => by unfold g_sl; rw [r1]
  have fr : ∀ r, g_fr G r = g_fr G0 r := fun r => by unfold g_fr; rw [r2]
  have ti : ∀ r, g_ti G r = g_ti G0 r := fun r => by unfold g_ti; rw [r2]
  have or : ∀ r, g_or G r = g_or G0 r := fun r => by unfold g_or; rw [r2]
  have rd : ∀ r, g_rd G r = g_rd G0 r := fun r => by unfold g_rd; rw [r3]
  have pt : ∀ r, g_pt G r = g_pt G0 r := fun r => by unfold g_pt; rw [r3]
  have mn : ∀ r, g_mn G r = g_mn G0 r := fun r => by unfold g_mn; rw [r3]
  have wo : ∀ r, g_wo G r = g_wo G0 r := fun r => by unfold g_wo; rw [r3]
  obtain ⟨-, x0, x1, x2, x3, x4, x5, x6, x7, x8, x9, x10, x11, x12, x13, x14, x15, x16, x17, x18⟩ := X
  obtain ⟨k1, k2, k3, k4, k5, k6, k7, k8, k9, k10, k11⟩ := G1
  have hh : ∀ a k, b ≤ a → a ≠ b + 13 → a ≠ b + 14 → y_I Z a k = y_I h0 a k := fun a k q r s => (ho a k (by omega) r s).trans (eh.2 a k (by omega))
  have xi : ∀ i k, i ≠ 13 → i ≠ 14 → y_I Z (b + i) k = y_I h0 (b + i) k := fun i k q r => hh _ _ (by omega) (by omega) (by omega)
  have xb : ∀ k, y_I Z b k = y_I h0 b k := fun k => hh _ _ (by omega) (by omega) (by omega)
  -- the waiting want
  have F1 := u_find_cs (p := fun w => g_rd G0 w = w1 ∧ g_pt G0 w = w3) (n := (g_wm G0).toNat) (k := 0) (by omega)
  have F2 := u_find_cs (p := fun w => g_rd G0 w = w2 ∧ g_pt G0 w = w3) (n := (g_wm G0).toNat) (k := 0) (by omega)
  have only : ∀ r w, 0 ≤ w → w < g_wm G0 → (g_rd G0 w = r ∧ g_pt G0 w = w3 ↔ w = g_wf G0 r w3) := fun r w w1 w2 => by
    have F := u_find_cs (p := fun w => g_rd G0 w = r ∧ g_pt G0 w = w3) (n := (g_wm G0).toNat) (k := 0) (by omega)
    unfold g_wf
    constructor
    · intro e
      rcases F with z | z
      · exact absurd e (z.2 w w1 (by omega))
      · exact k10 _ _ w1 w2 z.1 (by omega) (e.1.trans z.2.2.1.symm) (e.2.trans z.2.2.2.symm)
    · intro e
      rcases F with z | z
      · omega
      · rw [e]; exact z.2.2
  have q13 : ∀ w, 0 ≤ w → w < g_wm G0 → y_I Z (b + 13) (Int.toNat w) = if w = g_wf G0 w1 w3 then y_or (y_I h0 (b + 13) (Int.toNat w)) (y_shl 1 w2) else y_I h0 (b + 13) (Int.toNat w) := fun w w1' w2' => by
    rw [← eZ, yI_sI_o (by omega)]
    by_cases e : w = g_wf G0 w1 w3
    · unfold x_fb
      rw [if_pos e, if_neg (by omega), yI_sI_o (by omega), yI_sI_e (by rw [e]; exact ⟨rfl, rfl⟩), ← e, eh.2 _ _ (by omega)]
    · rw [if_neg e]
      unfold x_fb
      split
      · exact eh.2 _ _ (by omega)
      · have := F1
        unfold g_wf at *
        rw [yI_sI_o (by omega), yI_sI_o (by omega), eh.2 _ _ (by omega)]
  have q14 : ∀ w, 0 ≤ w → w < g_wm G0 → y_I Z (b + 14) (Int.toNat w) = if w = g_wf G0 w1 w3 then y_or (y_I h0 (b + 14) (Int.toNat w)) (if g_wf G0 w2 w3 = -9 then 0 else y_shl 1 (g_wf G0 w2 w3)) else y_I h0 (b + 14) (Int.toNat w) := fun w w1' w2' => by
    rw [← eZ, yI_sI_o (by omega)]
    by_cases e : w = g_wf G0 w1 w3
    · unfold x_fb
      rw [if_pos e, if_neg (by omega), yI_sI_e (by rw [e]; exact ⟨rfl, rfl⟩), ← e, eh.2 _ _ (by omega)]
    · rw [if_neg e]
      unfold x_fb
      split
      · exact eh.2 _ _ (by omega)
      · have := F1
        unfold g_wf at *
        rw [yI_sI_o (by omega), yI_sI_o (by omega), eh.2 _ _ (by omega)]
  unfold DR
  rw [eG]
  refine ⟨?_, ?_, ?_, by rw [← eZ, yI_sI_e ⟨rfl, rfl⟩, nm], by rw [ho _ _ (by omega) (by omega) (by omega), eh.2 _ _ (by omega), um]; exact n2⟩
  · unfold xmg
    simp only [xi 1 _ (by omega) (by omega), xi 2 _ (by omega) (by omega), xi 3 _ (by omega) (by omega), xi 5 _ (by omega) (by omega), xi 6 _ (by omega) (by omega), xi 7 _ (by omega) (by omega), xi 8 _ (by omega) (by omega), xi 9 _ (by omega) (by omega), xi 10 _ (by omega) (by omega), xi 11 _ (by omega) (by omega), xi 12 _ (by omega) (by omega), xi 15 _ (by omega) (by omega), xb, hJ, la, pm, rm, wm, cp, cm, sl, fr, ti, or, rd, pt, mn, wo, cv]
    refine ⟨hb, x0, x1, x2, x3, x4, x5, x6, fun q q1 q2 s s1 s2 => ?_, x8, x9, x10, x11, x12, x13, x14, x15, fun w u1 u2 => ?_, fun w u1 u2 => ?_, x18⟩
    · have e0 : y_J h (b + 4) (Int.toNat q) = y_J h0 (b + 4) (Int.toNat q) := by unfold y_J; rw [eh.1]
      rw [e0]
      exact x7 q q1 q2 s s1 s2
    · rw [q13 w u1 u2]
      obtain ⟨o1, o2⟩ := x16 w u1 u2
      have on := only w1 w u1 u2
      by_cases e : w = g_wf G0 w1 w3
      · rw [if_pos e]
        have on := on.mpr e
        refine ⟨y_or_r, fun q s1 s2 => ?_⟩
        rw [ub_or, o2 q s1 s2, ub_shl (by omega) (by omega), na, on.1, on.2]
        constructor
        · rintro (z | z)
          · exact ⟨z.1, Or.inl z.2⟩
          · exact ⟨by omega, Or.inr ⟨rfl, z, rfl⟩⟩
        · rintro ⟨z1, z | z⟩
          · exact Or.inl ⟨z1, z⟩
          · exact Or.inr z.2.1
      · rw [if_neg e]
        refine ⟨o1, fun q s1 s2 => ?_⟩
        rw [o2 q s1 s2, na]
        exact ⟨fun z => ⟨z.1, Or.inl z.2⟩, fun z => ⟨z.1, z.2.elim id fun y => absurd (on.mp ⟨y.1, y.2.2⟩) e⟩⟩
    · rw [q14 w u1 u2]
      obtain ⟨o1, o2⟩ := x17 w u1 u2
      have on := only w1 w u1 u2
      by_cases e : w = g_wf G0 w1 w3
      · rw [if_pos e]
        have on := on.mpr e
        refine ⟨y_or_r, fun v s1 s2 => ?_⟩
        have hbit : u_bs (if g_wf G0 w2 w3 = -9 then 0 else y_shl 1 (g_wf G0 w2 w3)) v ↔ (v < g_wm G0 ∧ g_pt G0 v = w3 ∧ g_rd G0 v = w2) := by
          by_cases z : g_wf G0 w2 w3 = -9
          · rw [if_pos z]
            refine ⟨fun y => absurd y ub_0, fun y => ?_⟩
            have := (only w2 v s1 y.1).mp ⟨y.2.2, y.2.1⟩
            omega
          · rw [if_neg z]
            rcases F2 with y | y
            · exact absurd y.1 z
            · have y' : 0 ≤ g_wf G0 w2 w3 ∧ g_wf G0 w2 w3 < g_wm G0 := by unfold g_wf; omega
              rw [ub_shl (by omega) (by omega)]
              constructor
              · intro q
                have := (only w2 v s1 (by omega)).mpr q
                exact ⟨by omega, this.2, this.1⟩
              · intro q
                exact (only w2 v s1 q.1).mp ⟨q.2.2, q.2.1⟩
        rw [ub_or, o2 v s1 s2, hbit, na, on.1, on.2]
        constructor
        · rintro (z | z)
          · exact ⟨z.1, z.2.1, Or.inl z.2.2⟩
          · exact ⟨z.1, z.2.1, Or.inr ⟨rfl, z.2.2, rfl⟩⟩
        · rintro ⟨z1, z2, z | z⟩
          · exact Or.inl ⟨z1, z2, z⟩
          · exact Or.inr ⟨z1, z2, z.2.1⟩
      · rw [if_neg e]
        refine ⟨o1, fun v s1 s2 => ?_⟩
        rw [o2 v s1 s2, na]
        exact ⟨fun z => ⟨z.1, z.2.1, Or.inl z.2.2⟩, fun z => ⟨z.1, z.2.1, z.2.2.elim id fun y => absurd (on.mp ⟨y.1, y.2.2⟩) e⟩⟩
  · unfold g_ok
    simp only [la, pm, rm, wm, nm, um, cp, cm, sl, fr, ti, or, rd, pt, mn, wo, r5]
    exact ⟨k1, k2, k3, by omega, k5, k6, k7, k8, k9, k10, k11⟩
  · unfold g_di at G2 ⊢
    rw [pm, rm, nm, um, r5]
    refine ⟨fun k q1 q2 => ?_, G2.2⟩
    by_cases e : k = U
    · subst e
      rw [t1, t2, t3]; exact ⟨b1, b2, b3⟩
    · rw [old0 k q1 (by omega), old k 1 q1 (by omega) (by omega) (by omega), old k 2 q1 (by omega) (by omega) (by omega)]
      exact G2.1 k q1 (by omega)
end IT
