/-! THE PAPER GOES ROUND BY A RULE: x begins a reading -/
section XR
variable {sc : z_Sc} {h : y_Hp} {a rl bg : Nat} {kd t : Int} {G : u_G} {P : u_P} {κ : Int → Int}
theorem l56 (r : Int) (hr : 0 ≤ r ∧ r < 8) : ∀ (n : Nat) (k : Int) (h : y_Hp), 0 ≤ k → k + n = 12 → ∃ h', (∀ d, y_ev z_pg sc d pgX3_letGo 2 [some (y_vr 39), some (y_vi r), some (y_vi k)] [] h = some (none, h')) ∧ (∀ c, Int.toNat k ≤ c → c < 12 → y_I h' 41 c = if y_I h 42 c = r then y_I h 40 (Int.toNat r) else y_I h 41 c) ∧ (∀ b j, ¬ (b = 41 ∧ Int.toNat k ≤ j ∧ j < 12) → y_I h' b j = y_I h b j) ∧ h'.2 = h.2
  | 0, k, h, hk, hn => by
    refine ⟨h, fun d => ?_, fun c h1 h2 => by omega, fun _ _ _ => rfl, rfl⟩
    rw [b56_2, if_neg (by omega)]
  | n + 1, k, h, hk, hn => by
    by_cases c : y_I h 42 (Int.toNat k) = r
    · obtain ⟨h', i1, i2, i3, i4⟩ := l56 r hr n (k + 1) (y_sI h 41 (Int.toNat k) (y_I h 40 (Int.toNat r))) (by omega) (by omega)
      refine ⟨h', fun d => ?_, fun j h1 h2 => ?_, fun b j q => ?_, i4⟩
      · rw [b56_2, if_pos (by omega), yi_t (by omega), if_pos c, yi_t (by omega), yi_t (by omega), yr_t (by omega), i1]
      · by_cases e : j = Int.toNat k
        · subst e
          rw [i3 _ _ (by omega), yI_sI_e ⟨rfl, rfl⟩, if_pos c]
        · rw [i2 j (by omega) h2, yI_sI_o (by omega), yI_sI_o (by omega), yI_sI_o (by omega)]
      · rw [i3 b j (by omega), yI_sI_o (by omega)]
    · obtain ⟨h', i1, i2, i3, i4⟩ := l56 r hr n (k + 1) h (by omega) (by omega)
      refine ⟨h', fun d => ?_, fun j h1 h2 => ?_, fun b j q => ?_, i4⟩
      · rw [b56_2, if_pos (by omega), yi_t (by omega), if_neg c, yr_t (by omega), i1]
      · by_cases e : j = Int.toNat k
        · subst e
          rw [i3 _ _ (by omega), if_neg c]
        · exact i2 j (by omega) h2
      · exact i3 b j (by omega)
theorem s53b (d : Nat) (hd : 1 ≤ d) (f0 : y_F h 39 0 = a) (X : xm h a) (hg : g_ok (hv h)) (b2 : ∀ w, 0 ≤ w → w < 32 → (u_bs (y_I h 39 3) w ↔ (w < g_wm (hv h) ∧ P w ≠ -9))) (r : Int) (hr : 0 ≤ r ∧ r < g_rm (hv h)) : y_se z_pg sc d 53 [y_vr 39, y_vi r] h = some (some (y_vi (y_bi (g_thr (hv h) P r))), h) := by
  rcases d with _ | d
  · omega
  obtain ⟨ha, x0, x1, x2, x3, x4, x5, x6, x7, x8, x9, x10, x11, x12, x13, x14, x15, x16, x17, x18⟩ := X
  have kr := hg.2.1
  have kw := hg.2.2.1
  obtain ⟨y1, y2⟩ := x10 r hr.1 hr.2
  have key : (y_and (y_I h (a + 7) (Int.toNat r)) (y_xor (y_I h 39 3) (-1)) = 0) ↔ g_thr (hv h) P r := by
    rw [ub_sub]
    constructor
    · intro q w h1 h2 h3
      exact ((b2 w h1 (by omega)).mp (q w h1 (by omega) ((y2 w h1 (by omega)).mpr ⟨h2, h3⟩))).2
    · intro q w h1 h2 h3
      have := (y2 w h1 h2).mp h3
      exact (b2 w h1 h2).mpr ⟨this.1, q w h1 this.1 this.2⟩
  rw [e53, b53_0, f0, yH0 ha, yH7 ha, lH7 ha, yi_t (by omega)]
  by_cases c : y_and (y_I h (a + 7) (Int.toNat r)) (y_xor (y_I h 39 3) (-1)) = 0
  · rw [if_pos c]; exact ab_t (key.mp c)
  · rw [if_neg c]; exact ab_f (fun q => c (key.mpr q))
/-- what a beginning writes, but for who lets go -/
def x_bg (h : y_Hp) (bg : Nat) (w t r e c v : Int) : y_Hp := y_sI (y_sI (y_sI (y_sI (y_sI h bg (Int.toNat w) t) 39 3 (y_or (y_I (y_sI h bg (Int.toNat w) t) 39 3) (y_shl 1 w))) 40 (Int.toNat r) e) 42 (Int.toNat c) r) 41 (Int.toNat c) v
theorem XR_bg (X : XR h a rl bg kd G P κ t) (hbg : bg = 21 ∨ bg = 23) (hrl : y_rl rl) (ht : 0 ≤ t ∧ t ≤ 59) {w : Int} (hw : 0 ≤ w ∧ w < g_wm G) (m : g_may G P (if kd = 2 then 1 else 0) w t) {h' : y_Hp} (F1 : ∀ j, y_I h' bg j = if j = Int.toNat w then t else y_I h bg j) (F2 : y_I h' 39 3 = y_or (y_I h 39 3) (y_shl 1 w)) (F3 : ∀ j, y_I h' 40 j = if j = Int.toNat (g_rd G w) then t + g_mn G w else y_I h 40 j) (F4 : ∀ j, y_I h' 42 j = if j = Int.toNat (x_fc G (fun c => y_I h 41 (Int.toNat c)) (g_pt G w) t) then g_rd G w else y_I h 42 j) (F5 : ∀ c, c < 12 → y_I h' 41 c = @ite _ (((if kd = 2 then (1 : Int) else 0) = 1 ∧ g_thr G (u_up P w t) (g_rd G w)) ∧ y_I h' 42 c = g_rd G w) (Classical.propDecidable _) (t + g_mn G w) (if c = Int.toNat (x_fc G (fun c => y_I h 41 (Int.toNat c)) (g_pt G w) t) then (if (if kd = 2 then (1 : Int) else 0) = 1 then g_ti G (g_rd G w) else t + g_mn G w) else y_I h 41 c)) (F6 : ∀ b k, ¬ (b = bg ∨ (b = 39 ∧ k = 3) ∨ b = 40 ∨ b = 41 ∨ b = 42) → y_I h' b k = y_I h b k) (F7 : h'.2 = h.2) : XR h' a rl bg kd G (u_up P w t) (fun c => if c = x_fc G (fun c => y_I h 41 (Int.toNat c)) (g_pt G w) t then w else κ c) t := by
  have fc := XR_fc (p := g_pt G w) X ht.1 (X.2.1.2.2.2.2.2.2.2.2.2.2.1 w hw.1 hw.2).2.1
  obtain ⟨⟨f0, f1, f2⟩, ⟨eG, X, hg⟩, ⟨k1, k2, hpi⟩, ⟨b1, b2⟩, w40, C⟩ := X
  have ha := X.1
  have kp := hg.1
  have kr := hg.2.1
  have kw := hg.2.2.1
  obtain ⟨kr1, kp1, km1, -⟩ := hg.2.2.2.2.2.2.2.2.1 w hw.1 hw.2
  have cpk := (hg.2.2.2.2.2.2.1 _ kp1.1 kp1.2).1
  obtain ⟨⟨m1, m2, m3, m4, m5⟩, e, m6, m7, m8, m9⟩ := m
  have hf := (ws_free (G := G) (P := P) (r := g_rd G w) kw.1 hpi).mpr ⟨m1, m6⟩
  have eF : ∀ b k, y_F h' b k = y_F h b k := fun b k => by unfold y_F; rw [F7]
  have eg : hv h' = hv h := hv_cg fun b k q => F6 b k (by unfold RG at q; omega)
  have rl2 : ¬ (rl = bg ∨ rl = 39 ∨ rl = 40 ∨ rl = 41 ∨ rl = 42) := by unfold y_rl at hrl; omega
  have nfc : ¬ x_fc G (fun c => y_I h 41 (Int.toNat c)) (g_pt G w) t = -9 := fun q => fc.mp q m7
  have c0r : (2 * g_pt G w ≤ x_fc G (fun c => y_I h 41 (Int.toNat c)) (g_pt G w) t ∧ x_fc G (fun c => y_I h 41 (Int.toNat c)) (g_pt G w) t < 2 * g_pt G w + g_cp G (g_pt G w)) ∧ y_I h 41 (Int.toNat (x_fc G (fun c => y_I h 41 (Int.toNat c)) (g_pt G w) t)) ≤ t := by
    revert nfc
    unfold x_fc
    show ¬ (if y_I h 41 (Int.toNat (2 * g_pt G w)) ≤ t then 2 * g_pt G w else if g_cp G (g_pt G w) = 2 ∧ y_I h 41 (Int.toNat (2 * g_pt G w + 1)) ≤ t then 2 * g_pt G w + 1 else -9) = -9 → _
    by_cases z1 : y_I h 41 (Int.toNat (2 * g_pt G w)) ≤ t
    · rw [if_pos z1]
      exact fun _ => ⟨by omega, z1⟩
    · rw [if_neg z1]
      by_cases z2 : g_cp G (g_pt G w) = 2 ∧ y_I h 41 (Int.toNat (2 * g_pt G w + 1)) ≤ t
      · rw [if_pos z2]
        exact fun _ => ⟨by omega, z2.2⟩
      · rw [if_neg z2]
        exact fun q => absurd rfl q
  generalize x_fc G (fun c => y_I h 41 (Int.toNat c)) (g_pt G w) t = c0 at *
  refine ⟨⟨by rw [eF]; exact f0, by rw [eF]; exact f1, by rw [eF]; exact f2⟩, ⟨eg.trans eG, xm_cg (h := h) (fun b k q => F6 b k (by unfold RX RG at q; omega)) (fun p => by unfold y_J; rw [F7]) X, hg⟩, ⟨by rw [F6 _ _ (by omega)]; exact k1, fun v h1 h2 => ?_, pi_up hpi hw ⟨ht.1, m1⟩ m2⟩, ⟨by rw [F2]; exact y_inr_to _, fun v h1 h2 => ?_⟩, fun r h1 h2 => ?_, KC_up C hg hw e ht.1 hf m2 c0r.1 c0r.2 (fun c h1 h2 => ?_) (fun c h1 h2 => ?_)⟩
  · show y_I h' bg (Int.toNat v) = _
    rw [F1]
    by_cases c : v = w
    · rw [if_pos (by omega), c, up_e]
    · rw [if_neg (by omega), up_o h1 hw.1 c]
      exact k2 v h1 h2
  · rw [F2, ub_or, b2 v h1 h2, ub_shl (by omega) ⟨h1, h2⟩]
    by_cases c : v = w
    · rw [c, up_e]
      exact ⟨fun _ => ⟨hw.2, by omega⟩, fun _ => Or.inr rfl⟩
    · rw [up_o h1 hw.1 c]
      exact ⟨fun q => q.elim id (fun q => absurd q c), Or.inl⟩
  · rw [F3, ws_up hg hw e ht.1 hf]
    by_cases c : r = g_rd G w
    · rw [if_pos c, if_pos (by omega)]
    · rw [if_neg c, if_neg (by omega), w40 r h1 h2]
  · show y_I h' 42 (Int.toNat c) = _
    rw [F4]
    by_cases z : c = c0
    · rw [if_pos z, if_pos (by omega)]
    · rw [if_neg z, if_neg (by omega)]
  · show y_I h' 41 (Int.toNat c) = @ite _ ((_ ∧ _) ∧ y_I h' 42 (Int.toNat c) = g_rd G w) (Classical.propDecidable _) _ _
    rw [F5 _ (by omega)]
    by_cases z : c = c0
    · rw [if_pos z, if_pos (show Int.toNat c = Int.toNat c0 by omega)]
    · rw [if_neg z, if_neg (show ¬ Int.toNat c = Int.toNat c0 by omega)]
end XR
