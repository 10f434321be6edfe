/-! what is equal where plans are equal; worth, losses, who, can -/
theorem u_any_cg {p q : Int → Prop} {n : Nat} {k : Int} (h : ∀ j, k ≤ j → j < k + n → (p j ↔ q j)) : u_any p k n ↔ u_any q k n := by
  rw [u_any_iff, u_any_iff]
  exact ⟨fun ⟨j, h1, h2, h3⟩ => ⟨j, h1, h2, (h j h1 h2).mp h3⟩, fun ⟨j, h1, h2, h3⟩ => ⟨j, h1, h2, (h j h1 h2).mpr h3⟩⟩
theorem u_all_cg {p q : Int → Prop} {n : Nat} {k : Int} (h : ∀ j, k ≤ j → j < k + n → (p j ↔ q j)) : u_all p k n ↔ u_all q k n := by
  rw [u_all_iff, u_all_iff]
  exact ⟨fun g j h1 h2 => (h j h1 h2).mp (g j h1 h2), fun g j h1 h2 => (h j h1 h2).mpr (g j h1 h2)⟩
theorem u_find_cg {p q : Int → Prop} : ∀ {n : Nat} {k : Int}, (∀ j, k ≤ j → j < k + n → (p j ↔ q j)) → u_find p k n = u_find q k n
  | 0, _, _ => rfl
  | n + 1, k, h => by
    have h1 := h k (Int.le_refl _) (by omega)
    by_cases g : p k
    · rw [u_find_t g, u_find_t (h1.mp g)]
    · rw [u_find_f g, u_find_f (fun q => g (h1.mpr q)), u_find_cg fun j h2 h3 => h j (by omega) (by omega)]
def p_eq (G : u_G) (P Q : u_P) : Prop := ∀ w, 0 ≤ w → w < g_wm G → P w = Q w
section CG
variable {G : u_G} {P Q : u_P}
theorem p_eq.symm (e : p_eq G P Q) : p_eq G Q P := fun w h1 h2 => (e w h1 h2).symm
theorem p_eq.trans {R : u_P} (e : p_eq G P Q) (f : p_eq G Q R) : p_eq G P R := fun w h1 h2 => (e w h1 h2).trans (f w h1 h2)
theorem p_ok.cg (e : p_eq G P Q) (h : p_ok G P) : p_ok G Q := fun w h1 h2 => by rw [← e w h1 h2]; exact h w h1 h2
theorem g_rg_cg (e : p_eq G P Q) {w t : Int} (h1 : 0 ≤ w) (h2 : w < g_wm G) : g_rg G P w t ↔ g_rg G Q w t := by
  unfold g_rg
  rw [e w h1 h2]
theorem g_many_cg (e : p_eq G P Q) {p t : Int} : g_many G P p t = g_many G Q p t := u_sum_cg fun j h1 h2 => bi_cg (by rw [g_rg_cg e h1 (by omega)])
theorem g_does_cg (e : p_eq G P Q) {r t b : Int} : g_does G P r t b ↔ g_does G Q r t b := u_any_cg fun j h1 h2 => by rw [g_rg_cg e h1 (by omega)]
theorem g_due_cg (e : p_eq G P Q) {w t : Int} (hw : w < g_wm G) : g_due G P w t ↔ g_due G Q w t := by
  unfold g_due
  refine imp_congr Iff.rfl (u_all_cg fun j h1 h2 => ?_)
  rw [e j h1 (by omega)]
theorem g_spo_cg (e : p_eq G P Q) {w t : Int} : g_spo G P w t ↔ g_spo G Q w t := u_any_cg fun j h1 h2 => by rw [e j h1 (by omega)]
theorem g_well_cg (e : p_eq G P Q) {w t : Int} (h1 : 0 ≤ w) (h2 : w < g_wm G) : g_well G P w t ↔ g_well G Q w t := by
  unfold g_well g_free
  rw [g_many_cg e, g_does_cg e, g_due_cg e h2, g_spo_cg e, e w h1 h2]
theorem g_bad_cg (e : p_eq G P Q) : g_bad G P = g_bad G Q := u_find_cg fun j _ _ => u_any_cg fun w h1 h2 => by rw [g_rg_cg e h1 (by omega), g_well_cg e h1 (by omega)]
theorem g_ls_cg (e : p_eq G P Q) {w : Int} (h1 : 0 ≤ w) (h2 : w < g_wm G) : g_ls G P w = g_ls G Q w := by
  unfold g_ls
  rw [e w h1 h2]
theorem g_ms_cg (e : p_eq G P Q) {r : Int} : g_ms G P r = g_ms G Q r := u_sum_cg fun j h1 h2 => by
  rw [g_ls_cg e h1 (by omega)]
end CG
theorem g_wa_bd {G : u_G} (hg : g_ok G) {w t : Int} (hw : 0 ≤ w ∧ w < g_wm G) (ht : 0 ≤ t) : 0 ≤ g_wa G w t ∧ g_wa G w t ≤ g_wo G w := by
  obtain ⟨k1, k2, k3, k4, k5, k6, k7, k8, k9, k10, k11⟩ := g_ok_w hg hw
  have h0 : 0 ≤ Int.tdiv t 10 := Int.tdiv_nonneg ht (by omega)
  have h1 : 0 ≤ g_sl G (g_pt G w) * Int.tdiv t 10 := Int.mul_nonneg k10.1 h0
  unfold g_wa
  omega
theorem g_ls_bd {G : u_G} {P : u_P} (hg : g_ok G) (hp : p_ok G P) {w : Int} (hw : 0 ≤ w ∧ w < g_wm G) : 0 ≤ g_ls G P w ∧ g_ls G P w ≤ 9 := by
  have k5 := (g_ok_w hg hw).2.2.2.2.1
  unfold g_ls
  split
  · omega
  · rename_i q
    have := (hp w hw.1 hw.2).resolve_left q
    have := g_wa_bd hg hw this.1
    omega
section MQ
variable {sc : z_Sc} {h : y_Hp}
theorem s202 (d : Nat) (hd : 2 ≤ d) (w t : Int) (hg : g_ok (hv h)) (hw : 0 ≤ w ∧ w < g_wm (hv h)) (ht : 0 ≤ t ∧ t ≤ 1000) : y_se z_pg sc d 202 [y_vr 94, y_vi w, y_vi t] h = some (some (y_vi (g_wa (hv h) w t)), h) := by
  rcases d with _ | d
  · omega
  obtain ⟨k1, k2, k3, k4, k5, k6, k7, k8, k9, k10, k11⟩ := g_ok_w hg hw
  have h0 : 0 ≤ Int.tdiv t 10 ∧ Int.tdiv t 10 ≤ 100 := by
    rw [Int.tdiv_eq_ediv_of_nonneg ht.1]
    omega
  have e1 : y_I h 103 (Int.toNat (4 * w + 3)) = g_wo (hv h) w := rfl
  have e2 : y_I h 101 (Int.toNat (3 * g_pt (hv h) w + 2)) = g_sl (hv h) (g_pt (hv h) w) := rfl
  have h1 : 0 ≤ g_sl (hv h) (g_pt (hv h) w) * Int.tdiv t 10 ∧ g_sl (hv h) (g_pt (hv h) w) * Int.tdiv t 10 ≤ 900 := by
    constructor
    · exact Int.mul_nonneg k10.1 h0.1
    · calc g_sl (hv h) (g_pt (hv h) w) * Int.tdiv t 10 ≤ 9 * Int.tdiv t 10 := Int.mul_le_mul_of_nonneg_right k10.2 h0.1
        _ ≤ 900 := by omega
  rw [e202, b202_0]
  simp (disch := first | omega | assumption) only [yci_s, yr_t, yi_t, yz_t, s174, s139, e1, e2]
  rfl
theorem l203 (d : Nat) (hd : 3 ≤ d) (r : Int) (hg : g_ok (hv h)) (hp : p_ok (hv h) (pl h 111)) : ∀ (n : Nat) (k a : Int) (o : Option y_V), 0 ≤ k → k + n = g_wm (hv h) → (0 ≤ a ∧ a ≤ 9 * k) → y_ev z_pg sc d pgX8_missedOf 4 [some (y_vr 94), some (y_vi r), some (y_vi a), some (y_vi k), o] [] h = some (some (y_vi (a + u_sum (fun w => if r = -9 ∨ g_rd (hv h) w = r then g_ls (hv h) (pl h 111) w else 0) k n)), h)
  | 0, k, a, o, hk, hn, ha => by
    rw [b203_4, hvwm, if_neg (by omega)]
    exact av_cg (by simp [u_sum])
  | n + 1, k, a, o, hk, hn, ha => by
    have h1 := hg.2.2.1
    have ih := fun a o ha => l203 d hd r hg hp n (k + 1) a o (by omega) (by omega) ha
    have e1 : y_I h 103 (Int.toNat (4 * k + 3)) = g_wo (hv h) k := rfl
    have e2 : y_I h 111 (Int.toNat k) = pl h 111 k := rfl
    obtain ⟨k1, k2, k3, k4, k5, k6, k7, k8, k9, k10, k11⟩ := g_ok_w hg (w := k) (by omega)
    have hl := g_ls_bd hg hp (w := k) (by omega)
    have step : ∀ (o : Option y_V), (if y_bi (pl h 111 k ≠ -9) = 0 then y_ev z_pg sc d pgX8_missedOf 4 [some (y_vr 94), some (y_vi r), some (y_vi (a + (g_wo (hv h) k - 0))), some (y_vi (k + 1)), o] [] h else y_ci (y_se z_pg sc d 202 [y_vr 94, y_vi k, y_vi (pl h 111 k)] h) (fun u4 g3 => y_rg (g_wo (hv h) k - u4) (y_rg (a + (g_wo (hv h) k - u4)) (y_ev z_pg sc d pgX8_missedOf 4 [some (y_vr 94), some (y_vi r), some (y_vi (a + (g_wo (hv h) k - u4))), some (y_vi (k + 1)), o] [] g3)))) = some (some (y_vi (a + g_ls (hv h) (pl h 111) k + u_sum (fun w => if r = -9 ∨ g_rd (hv h) w = r then g_ls (hv h) (pl h 111) w else 0) (k + 1) n)), h) := by
      intro o
      by_cases q : pl h 111 k = -9
      · rw [if_pos (bi_f (fun g => g q))]
        have e3 : g_ls (hv h) (pl h 111) k = g_wo (hv h) k - 0 := by unfold g_ls; rw [if_pos q]
        rw [ih _ _ (by omega), e3]
      · rw [if_neg (by rw [bi_t q]; omega)]
        have hpk := (hp k hk (by omega)).resolve_left q
        have hb := g_wa_bd hg (w := k) (t := pl h 111 k) (by omega) hpk.1
        have e3 : g_ls (hv h) (pl h 111) k = g_wo (hv h) k - g_wa (hv h) k (pl h 111 k) := by unfold g_ls; rw [if_neg q]
        rw [s202 d (by omega) k _ hg (by omega) (by omega), yci_s]
        simp (disch := omega) only [yr_t]
        rw [ih _ _ (by omega), e3]
    rw [b203_4, hvwm, if_pos (by omega)]
    simp (disch := first | omega | assumption) only [yci_s, yr_t, yi_t, s173, s191, e1, e2]
    rw [u_sum_s]
    by_cases q1 : r = -9
    · rw [if_pos q1, step, if_pos (Or.inl q1)]
      exact av_cg (by omega)
    · rw [if_neg q1]
      by_cases q2 : g_rd (hv h) k = r
      · rw [if_pos q2, step, if_pos (Or.inr q2)]
        exact av_cg (by omega)
      · rw [if_neg q2, ih _ _ (by omega), if_neg (fun g => g.elim q1 q2)]
        exact av_cg (by omega)
theorem s203 (d : Nat) (hd : 4 ≤ d) (r : Int) (hg : g_ok (hv h)) (hp : p_ok (hv h) (pl h 111)) : y_se z_pg sc d 203 [y_vr 94, y_vi r] h = some (some (y_vi (g_ms (hv h) (pl h 111) r)), h) := by
  rcases d with _ | d
  · omega
  have h1 := hg.2.2.1
  rw [e203, b203_0, l203 d (by omega) r hg hp (g_wm (hv h)).toNat 0 0 none (by omega) (by omega) (by omega)]
  exact av_cg (by unfold g_ms; omega)
theorem s204 (d : Nat) (hd : 5 ≤ d) (r : Int) (hg : g_ok (hv h)) (hp : p_ok (hv h) (pl h 111)) : y_se z_pg sc d 204 [y_vr 94, y_vi r] h = some (some (y_vi (if r = -9 ∨ (0 ≤ r ∧ r < g_rm (hv h)) then g_ms (hv h) (pl h 111) r else -1)), h) := by
  rcases d with _ | d
  · omega
  rw [e204, b204_0]
  simp (disch := first | omega | assumption) only [yci_s, s203, s171]
  by_cases q1 : r = -9
  · rw [if_pos q1, if_pos (Or.inl q1)]
  · rw [if_neg q1]
    by_cases q2 : 0 ≤ r ∧ r < g_rm (hv h)
    · rw [if_neg (by rw [bi_t q2]; omega), if_pos (Or.inr q2)]
    · rw [if_pos (bi_f q2), if_neg (fun g => g.elim q1 q2)]
noncomputable def g_who (G : u_G) (P : u_P) (p t : Int) : Int := u_fold (fun s w => @ite _ (g_pt G w = p ∧ g_rg G P w t) (Classical.propDecidable _) (y_or s (y_shl 1 (g_rd G w))) s) 0 0 (g_wm G).toNat
theorem l205 (d : Nat) (hd : 3 ≤ d) (p t : Int) (hg : g_ok (hv h)) (hp : p_ok (hv h) (pl h 111)) : ∀ (n : Nat) (k a : Int), 0 ≤ k → k + n = g_wm (hv h) → y_inr a → y_ev z_pg sc d pgX8_who 25 [some (y_vr 94), some (y_vi p), some (y_vi t), some (y_vi a), some (y_vi k)] [] h = some (some (y_vi (u_fold (fun s w => @ite _ (g_pt (hv h) w = p ∧ g_rg (hv h) (pl h 111) w t) (Classical.propDecidable _) (y_or s (y_shl 1 (g_rd (hv h) w))) s) a k n)), h)
  | 0, k, a, hk, hn, ha => by
    rw [b205_25, hvwm, if_neg (by omega)]
    rfl
  | n + 1, k, a, hk, hn, ha => by
    have h1 := hg.2.2.1
    have ih := fun a ha => l205 d hd p t hg hp n (k + 1) a (by omega) (by omega) ha
    rw [b205_25, hvwm, if_pos (by omega)]
    simp (disch := first | omega | assumption) only [yci_s, yr_t, s173, s174, s193]
    rw [u_fold_s]
    by_cases c1 : g_pt (hv h) k = p
    · rw [if_pos c1]
      by_cases c2 : g_rg (hv h) (pl h 111) k t
      · rw [if_neg (by rw [bi_t c2]; omega), ih _ y_or_r, if_pos ⟨c1, c2⟩]
      · rw [if_pos (bi_f c2), ih _ y_or_r, if_neg (fun g => c2 g.2), y_or0 ha]
    · rw [if_neg c1, ih _ y_or_r, if_neg (fun g => c1 g.1), y_or0 ha]
theorem s205 (d : Nat) (hd : 4 ≤ d) (p t : Int) (hg : g_ok (hv h)) (hp : p_ok (hv h) (pl h 111)) : y_se z_pg sc d 205 [y_vr 94, y_vi p, y_vi t] h = some (some (y_vi (if (0 ≤ p ∧ p < g_pm (hv h)) ∧ (0 ≤ t ∧ t ≤ 60) then g_who (hv h) (pl h 111) p t else -1)), h) := by
  rcases d with _ | d
  · omega
  have h1 := hg.2.2.1
  rw [e205, b205_0]
  simp (disch := first | omega | assumption) only [yci_s, s170, s136]
  by_cases q1 : 0 ≤ p ∧ p < g_pm (hv h)
  · rw [if_neg (by rw [bi_t q1]; omega)]
    by_cases q2 : 0 ≤ t ∧ t ≤ 60
    · rw [if_neg (by rw [bi_t q2]; omega), if_pos ⟨q1, q2⟩, l205 d (by omega) p t hg hp (g_wm (hv h)).toNat 0 0 (by omega) (by omega) (by unfold y_inr; omega)]
      rfl
    · rw [if_pos (bi_f q2), if_neg (fun g => q2 g.2)]
  · rw [if_pos (bi_f q1), if_neg (fun g => q1 g.1)]
end MQ
