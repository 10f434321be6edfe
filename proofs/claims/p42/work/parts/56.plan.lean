/-! CALLS: who, image, on -/
def u_isb (v : Int) : Prop := v = -9 ∨ (0 ≤ v ∧ v ≤ 59)
/-- a plan's calls look at no more of the house than how many wants -/
def RQ (a k : Nat) : Prop := (a = 94 ∧ k = 11) ∨ a = 21 ∨ a = 111
theorem hv_wm {h h' : y_Hp} (e : y_I h' 94 11 = y_I h 94 11) : g_wm (hv h') = g_wm (hv h) := e
theorem p_ok_w {G G' : u_G} {P : u_P} (e : g_wm G' = g_wm G) (hp : p_ok G P) : p_ok G' P := by unfold p_ok at hp ⊢; rw [e]; exact hp
theorem p_eq_w {G G' : u_G} {P Q : u_P} (e : g_wm G' = g_wm G) (hp : p_eq G P Q) : p_eq G' P Q := by unfold p_eq at hp ⊢; rw [e]; exact hp
theorem g_who_cg {G : u_G} {P Q : u_P} (e : p_eq G P Q) {p t : Int} : g_who G P p t = g_who G Q p t := u_fold_cg fun s w w1 w2 => by rw [g_rg_cg e w1 (by omega)]
section PL
variable {sc : z_Sc} {h : y_Hp} {N : Nat} {a : Nat}
theorem s127 (d : Nat) (hd : 1 ≤ d) (v : Int) : y_se z_pg sc d 127 [y_vi v] h = some (some (y_vi (y_bi (u_isb v))), h) := by
  rcases d with _ | d
  · omega
  rw [e127, b127_0]
  unfold u_isb
  by_cases c1 : v = -9
  · rw [if_pos c1]; exact ab_t (Or.inl c1)
  rw [if_neg c1]
  by_cases c2 : v < 0
  · rw [if_pos c2]; exact ab_f (by omega)
  rw [if_neg c2]
  by_cases c3 : 59 < v
  · rw [if_pos c3]; exact ab_f (by omega)
  · rw [if_neg c3]; exact ab_t (by omega)
theorem l106 (d : Nat) (hd : 3 ≤ d) (hF : y_F h 2 10 = a) (X : xm h a) (hg : g_ok (hv h)) (hp : p_ok (hv h) (pl h 21)) (p t : Int) : ∀ (n : Nat) (k s : Int), 0 ≤ k → k + n = g_wm (hv h) → y_ev z_pg sc d pgX7_who 28 [some (y_vr 2), some (y_vi p), some (y_vi t), some (y_vi s), some (y_vi k)] [] h = some (some (y_vi (u_fold (fun s w => @ite _ (g_pt (hv h) w = p ∧ g_rg (hv h) (pl h 21) w t) (Classical.propDecidable _) (y_or s (y_shl 1 (g_rd (hv h) w))) s) s k n)), h)
  | 0, k, s, hk, hn => by
    obtain ⟨ha, x0, x1, x2, x3, -⟩ := X
    rw [b106_28, hF, yH0 ha, x3, if_neg (by omega)]
    rfl
  | n + 1, k, s, hk, hn => by
    have kw := hg.2.2.1
    have ih := fun s => l106 d hd hF X hg hp p t n (k + 1) s (by omega) (by omega)
    have XX := X
    obtain ⟨ha, x0, x1, x2, x3, x4, x5, x6, x7, x8, x9, x10, x11, x12, x13, x14, x15, x16, x17, x18⟩ := X
    rw [b106_28, hF, yH0 ha, x3, if_pos (by omega), yH0 ha, yH10 ha, lH10 ha, yi_t (by omega), x13 k hk (by omega), u_fold_s]
    by_cases c1 : g_pt (hv h) k = p
    · rw [if_pos c1, s36 d (by omega) (Or.inl rfl) XX hg hp k t (by omega), yci_s]
      by_cases c2 : g_rg (hv h) (pl h 21) k t
      · rw [if_neg (by rw [bi_t c2]; omega), if_pos ⟨c1, c2⟩, hF, yH0 ha, yH9 ha, lH9 ha, yi_t (by omega), yr_t (by omega), x12 k hk (by omega), ih]
      · rw [if_pos (bi_f c2), if_neg (fun g => c2 g.2), yr_t (by omega), ih]
    · rw [if_neg c1, if_neg (fun g => c1 g.1), yr_t (by omega), ih]
theorem o_who (I : INV N h) (p t : Int) : OP sc 106 205 [y_vr 2, y_vi p, y_vi t] [y_vr 94, y_vi p, y_vi t] N h := by
  have II := I
  obtain ⟨a, ⟨hF, hD, X, hg⟩, -, -, ⟨hp, pe⟩, -⟩ := I
  have kw := hg.2.2.1
  refine OP_same II (if (0 ≤ p ∧ p < g_pm (hv h)) ∧ (0 ≤ t ∧ t ≤ 60) then g_who (hv h) (pl h 111) p t else -1) (fun d hd => ?_) (fun d hd => s205 (d + 1) (by omega) p t hg hp)
  rw [e106, b106_0, hF, yH0 X.1, s2 d (by omega) X, yci_s]
  by_cases c1 : 0 ≤ p ∧ p < g_pm (hv h)
  · rw [if_neg (by rw [bi_t c1]; omega)]
    by_cases c2 : t < 0
    · rw [if_pos c2, if_neg (by omega)]
    rw [if_neg c2]
    by_cases c3 : 60 < t
    · rw [if_pos c3, if_neg (by omega)]
    rw [if_neg c3, if_pos (by omega), l106 d (by omega) hF X hg (p_ok_cg pe hp) p t (g_wm (hv h)).toNat 0 0 (by omega) (by omega)]
    exact congrArg (fun v => some (some (y_vi v), h)) (g_who_cg pe).symm
  · rw [if_pos (bi_f c1), if_neg (fun q => c1 q.1)]
theorem l207 (d : Nat) (r : Int) (g : y_Hp) (hr : 0 ≤ r ∧ r < 6) (hw : 0 ≤ y_I g 94 11 ∧ y_I g 94 11 ≤ 24) : ∀ (m : Nat) (k : Int), 0 ≤ k → k + m = 48 → y_ev z_pg sc d pgX8_image 21 [some (y_vr 94), some (y_vi r), some (y_vi k)] [] (y_fill g 97 (Int.toNat (48 * r)) (Int.toNat (48 * r + k)) (fun q => if (q : Int) - 48 * r < y_I g 94 11 then y_I g 111 (q - Int.toNat (48 * r)) else 0)) = some (some (y_vi (y_I g 94 11)), y_fill g 97 (Int.toNat (48 * r)) (Int.toNat (48 * r + 48)) (fun q => if (q : Int) - 48 * r < y_I g 94 11 then y_I g 111 (q - Int.toNat (48 * r)) else 0))
  | 0, k, hk, hm => by
    have e : k = 48 := by omega
    subst e
    rw [b207_21, if_neg (by omega), yI_fill_o (by omega)]
  | m + 1, k, hk, hm => by
    have := l207 d r g hr hw m (k + 1) (by omega) (by omega)
    rw [show Int.toNat (48 * r + (k + 1)) = Int.toNat (48 * r + k) + 1 by omega] at this
    rw [b207_21, if_pos (by omega), yr_t (by omega), yr_t (by omega), yI_fill_o (by omega)]
    by_cases c : k < y_I g 94 11
    · rw [if_pos c, yi_t (by omega), yi_t (by omega), yr_t (by omega), yI_fill_o (by omega), y_fill_s (by omega) (by rw [if_pos (by omega), show Int.toNat (48 * r + k) - Int.toNat (48 * r) = Int.toNat k by omega]), this]
    · rw [if_neg c, yi_t (by omega), yr_t (by omega), y_fill_s (by omega) (by rw [if_neg (by omega)]), this]
theorem o_image (I : INV N h) (r : Int) : OP sc 108 207 [y_vr 2, y_vi r] [y_vr 94, y_vi r] N h := by
  have II := I
  obtain ⟨a, ⟨hF, hD, X, hg⟩, i2, i3, ⟨hp, pe⟩, -⟩ := I
  have kw := hg.2.2.1
  by_cases c1 : 0 ≤ r ∧ r ≤ 5
  · have ha := X.1
    have x3 := X.2.2.2.2.1
    generalize eg : y_fill (y_sI h 11 (Int.toNat r) (g_wm (hv h))) (5 + Int.toNat r) 0 (Int.toNat (g_wm (hv h))) (fun _ => -9) = g
    generalize eh : y_cpI g 21 0 (5 + Int.toNat r) 0 (Int.toNat (g_wm (hv h))) = h1
    have gF : y_F g 2 10 = a := by rw [← eg]; exact hF
    have g3 : y_I g a 3 = g_wm (hv h) := by rw [← eg, yI_fill_o (by omega), yI_sI_o (by omega)]; exact x3
    have hF1 : y_F h1 2 10 = a := by rw [← eh]; exact gF
    have h13 : y_I h1 a 3 = g_wm (hv h) := by rw [← eh, yI_cpI, if_neg (by omega)]; exact g3
    have ho : ∀ b k, ¬ (5 ≤ b ∧ b ≤ 11) → y_I h1 b k = y_I h b k := fun b k q => by rw [← eh, yI_cpI, if_neg (by omega), ← eg, yI_fill_o (by omega), yI_sI_o (by omega)]
    have h1w : y_I h1 94 11 = g_wm (hv h) := ho _ _ (by omega)
    refine OP_do (g_wm (hv h)) h1 (y_fill (y_sI h1 96 (Int.toNat r) (g_wm (hv h))) 97 (Int.toNat (48 * r)) (Int.toNat (48 * r + 48)) (fun q => if (q : Int) - 48 * r < g_wm (hv h) then y_I h 111 (q - Int.toNat (48 * r)) else 0)) (fun d hd => ?_) (fun d hd => ?_) ?_
    · rw [e108, b108_0, s79a d (by omega), yci_s, if_neg (by rw [bi_t c1]; omega), hF, yH0 ha, x3, s83a d (by omega) r (g_wm (hv h)) (-9) (by omega) (by omega), eg, ycv_s, yi_t (by omega), gF, yH0 ha, g3, yR (by omega), lR (by omega), ycg_t (by omega), show Int.toNat 0 = 0 from rfl, eh, yhb_s, hF1, yH0 ha, h13]
    · have := l207 (sc := sc) d r (y_sI h1 96 (Int.toNat r) (g_wm (hv h))) (by omega) (by rw [yI_sI_o (by omega), h1w]; omega) 48 0 (by omega) (by omega)
      rw [Int.add_zero, y_fill_0] at this
      simp only [yI_sI_o (show ¬ ((94 : Nat) = 96 ∧ (11 : Nat) = Int.toNat r) by omega), h1w] at this
      rw [e207, b207_0, s145 d (by omega), yci_s, if_neg (by rw [bi_t c1]; omega), yi_t (by omega), h1w, this]
      refine congrArg (fun f => some (some (y_vi (g_wm (hv h))), y_fill (y_sI h1 96 (Int.toNat r) (g_wm (hv h))) 97 (Int.toNat (48 * r)) (Int.toNat (48 * r + 48)) f)) (funext fun q => ?_)
      rw [yI_sI_o (by omega), ho _ _ (by omega)]
    · refine INV_tr II (fun b k => (5 ≤ b ∧ b ≤ 11) ∨ b = 96 ∨ b = 97) (fun b k q => ?_) (by rw [← eh, ← eg]; rfl) (fun a ha b k q => ?_) (Or.inr fun s s1 s2 => ?_) (Or.inl fun b k q => ?_) (Or.inl fun b k q => ?_) (Or.inl fun b k q => ?_) (Or.inl fun b k q => ?_)
      · rw [yI_fill_o (by omega), yI_sI_o (by omega), ho _ _ (by omega)]
      · unfold RX RG at q; omega
      · obtain ⟨j1, j2, j3⟩ := i2 s s1 s2
        by_cases e : s = r
        · subst e
          rw [yI_fill_o (by omega), yI_sI_o (by omega), yI_fill_o (by omega), yI_sI_e (by omega)]
          refine ⟨?_, by omega, fun i q1 q2 => ?_⟩
          · rw [← eh, yI_cpI, if_neg (by omega), ← eg, yI_fill_o (by omega), yI_sI_e (by omega)]
          · rw [yI_fill_o (by omega), yI_sI_o (by omega), yI_fill_e (by omega), if_pos (by omega), ← eh, yI_cpI, if_pos (by omega), ← eg, yI_fill_o (by omega), yI_sI_o (by omega)]
            have := pe i q1 q2
            unfold pl at this
            rw [show 0 + (Int.toNat i - 0) = Int.toNat i by omega, ← this]
            congr 1
            omega
        · have h5 : ∀ k, y_I h1 (5 + Int.toNat s) k = y_I h (5 + Int.toNat s) k := fun k => by rw [← eh, yI_cpI, if_neg (by omega), ← eg, yI_fill_o (by omega), yI_sI_o (by omega)]
          have h11 : y_I h1 11 (Int.toNat s) = y_I h 11 (Int.toNat s) := by rw [← eh, yI_cpI, if_neg (by omega), ← eg, yI_fill_o (by omega), yI_sI_o (by omega)]
          rw [yI_fill_o (by omega), yI_sI_o (by omega), yI_fill_o (by omega), yI_sI_o (by omega), h11, ho _ _ (by omega)]
          refine ⟨j1, j2, fun i q1 q2 => ?_⟩
          rw [yI_fill_o (by omega), yI_sI_o (by omega), yI_fill_o (by omega), yI_sI_o (by omega), h5, ho _ _ (by omega)]
          exact j3 i q1 q2
      · unfold RT at q; omega
      · unfold RP RG at q; omega
      · unfold RV RG at q; omega
      · unfold RE at q; omega
  · refine OP_same II (-1) (fun d hd => ?_) (fun d hd => ?_)
    · rw [e108, b108_0, s79a d (by omega), yci_s, if_pos (bi_f c1)]
    · rw [e207, b207_0, s145 d (by omega), yci_s, if_pos (bi_f c1)]
/-- become: what a plan takes from a row -/
theorem l33 (d : Nat) (r n : Int) (g : y_Hp) (hr : 0 ≤ r ∧ r < 6) (hn : n ≤ 24) : ∀ (m : Nat) (k : Int), 0 ≤ k → k + m = max k n → y_ev z_pg sc d pgX2_become 2 [some (y_vr 20), some (y_vr (5 + Int.toNat r)), some (y_vi n), some (y_vi k)] [] (y_fill g 21 0 (Int.toNat k) (fun q => y_I g (5 + Int.toNat r) q)) = some (none, y_fill g 21 0 (Int.toNat (k + m)) (fun q => y_I g (5 + Int.toNat r) q))
  | 0, k, hk, hm => by
    rw [b33_2, if_neg (by omega), show k + ((0 : Nat) : Int) = k by omega]
  | m + 1, k, hk, hm => by
    have := l33 d r n g hr hn m (k + 1) (by omega) (by omega)
    rw [show Int.toNat (k + 1) = Int.toNat k + 1 by omega] at this
    rw [b33_2, if_pos (by omega), if_pos (by omega), yR hr, lR hr, if_pos (by omega), yP0 (Or.inl rfl), yR hr, yi_t (by omega), yP1 (Or.inl rfl), lP1 (Or.inl rfl), yi_t (by omega), yr_t (by omega), yI_fill_o (by omega), y_fill_s (Nat.zero_le _) rfl, this, show k + 1 + (m : Int) = k + ((m + 1 : Nat) : Int) by omega]
theorem s33 (d : Nat) (hd : 1 ≤ d) (r n : Int) (hr : 0 ≤ r ∧ r < 6) (hn : 0 ≤ n ∧ n ≤ 24) : y_se z_pg sc d 33 [y_vr 20, y_vr (5 + Int.toNat r), y_vi n] h = some (none, y_fill h 21 0 (Int.toNat n) (fun q => y_I h (5 + Int.toNat r) q)) := by
  rcases d with _ | d
  · omega
  have := l33 (sc := sc) d r n h hr hn.2 n.toNat 0 (by omega) (by omega)
  rw [show Int.toNat 0 = 0 from rfl, y_fill_0, show (0 : Int) + (n.toNat : Int) = n by omega] at this
  rw [e33, b33_0, this]
end PL
