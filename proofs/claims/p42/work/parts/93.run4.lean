/-! THE PAPER GOES ROUND BY A RULE: x picks -/
theorem u_fold_id {F : Int → Int → Int} {a k : Int} {n : Nat} (h : ∀ j, F a j = a) : u_fold F a k n = a := u_fold_inv (I := fun b => b = a) rfl fun b j _ _ e => by
  rw [e]; exact h j
theorem c3_stay {G : u_G} {P : u_P} {kd t b i : Int} {cd : Int → Int} (h3 : kd ≠ 3) (hb : b ≠ -9) : g_c3 G P kd cd t b i = b := by
  unfold g_c3
  generalize g_fst G P (if kd = 2 then 1 else 0) (if kd = 3 then i else cd i) t = f
  by_cases c : f = -9
  · rw [if_pos c]
  · rw [if_neg c, if_neg (fun q => q.elim hb (fun q => h3 q.1))]
theorem g_fst_none {G : u_G} {P : u_P} {K r t : Int} (hw : 0 ≤ g_wm G) (h : ∀ w, 0 ≤ w → w < g_wm G → g_rd G w = r → ¬ g_may G P K w t) : g_fst G P K r t = -9 := by
  unfold g_fst
  rw [u_find_none (by omega)]
  exact fun j h1 h2 q => h j h1 (by omega) q.1 q.2
section XR
variable {sc : z_Sc} {h : y_Hp} {a rl bg : Nat} {kd t : Int} {G : u_G} {P : u_P} {κ : Int → Int}
theorem l51 (d : Nat) (hd : 2 ≤ d) (X : XR h a rl bg kd G P κ t) (hbg : bg = 21 ∨ bg = 23) (ht : 0 ≤ t ∧ t ≤ 60) (r : Int) : ∀ (n : Nat) (k : Int), 0 ≤ k → k + n = g_wm G → y_ev z_pg sc d pgX3_firstOf 34 [some (y_vr 39), some (y_vi r), some (y_vi t), some (y_vi k)] [] h = some (some (y_vi (u_find (fun w => g_rd G w = r ∧ g_may G P (if kd = 2 then 1 else 0) w t) k n)), h)
  | 0, k, hk, hn => by
    obtain ⟨⟨f0, f1, f2⟩, ⟨rfl, X, hg⟩, -⟩ := X
    obtain ⟨ha, x0, x1, x2, x3, -⟩ := X
    rw [b51_34, f0, yH0 ha, x3, if_neg (by omega)]
    rfl
  | n + 1, k, hk, hn => by
    have XX := X
    have ih := l51 d hd X hbg ht r n (k + 1) (by omega) (by omega)
    obtain ⟨⟨f0, f1, f2⟩, ⟨rfl, X, hg⟩, -⟩ := X
    obtain ⟨ha, x0, x1, x2, x3, x4, x5, x6, x7, x8, x9, x10, x11, x12, x13, x14, x15, x16, x17, x18⟩ := X
    have kw := hg.2.2.1
    rw [b51_34, f0, yH0 ha, x3, if_pos (by omega), yH0 ha, yH9 ha, lH9 ha, yi_t (by omega), x12 k hk (by omega)]
    by_cases c1 : g_rd (hv h) k = r
    · rw [if_pos c1, s52 d hd XX hbg ht k (by omega), yci_s]
      by_cases c2 : g_may (hv h) P (if kd = 2 then 1 else 0) k t
      · rw [if_neg (by rw [bi_t c2]; omega), u_find_t ⟨c1, c2⟩]
      · rw [if_pos (bi_f c2), yr_t (by omega), ih, u_find_f (fun q => c2 q.2)]
    · rw [if_neg c1, yr_t (by omega), ih, u_find_f (fun q => c1 q.1)]
theorem s51 (d : Nat) (hd : 3 ≤ d) (X : XR h a rl bg kd G P κ t) (hbg : bg = 21 ∨ bg = 23) (ht : 0 ≤ t ∧ t ≤ 60) (r : Int) : y_se z_pg sc d 51 [y_vr 39, y_vi r, y_vi t] h = some (some (y_vi (g_fst G P (if kd = 2 then 1 else 0) r t)), h) := by
  rcases d with _ | d
  · omega
  have XX := X
  have lo := l51 (sc := sc) d (by omega) X hbg ht r
  obtain ⟨⟨f0, f1, f2⟩, ⟨rfl, X, hg⟩, ⟨k1, k2, hpi⟩, ⟨b1, b2⟩, w40, C⟩ := X
  have kr := hg.2.1
  have kw := hg.2.2.1
  have hw8 := hg.2.2.2.2.2.2.2.2.1
  have X0 := X
  obtain ⟨ha, x0, x1, x2, x3, -⟩ := X
  rw [e51, b51_0, f0, yH0 ha, s3 d (by omega) X0, yci_s]
  by_cases c1 : 0 ≤ r ∧ r < g_rm (hv h)
  · rw [if_neg (by rw [bi_t c1]; omega), yi_t (by omega), w40 r c1.1 c1.2]
    by_cases c2 : t < g_ws (hv h) P r
    · rw [if_pos c2, g_fst_none kw.1 (fun w h1 h2 h3 q => by
        have := (ws_free (r := g_rd (hv h) w) kw.1 hpi).mpr ⟨q.1.1, q.2.2.1⟩
        rw [h3] at this
        omega)]
    · rw [if_neg c2, s53 d (by omega) XX r c1, yci_s]
      by_cases c3 : g_thr (hv h) P r
      · rw [if_neg (by rw [bi_t c3]; omega), g_fst_none kw.1 (fun w h1 h2 h3 q => c3 w h1 h2 h3 q.2.1)]
      · rw [if_pos (bi_f c3), lo (g_wm (hv h)).toNat 0 (by omega) (by omega)]
        rfl
  · rw [if_pos (bi_f c1), g_fst_none kw.1 (fun w h1 h2 h3 q => by have := (hw8 w h1 h2).1; omega)]
theorem l47 (d : Nat) (hd : 3 ≤ d) (X : XR h a rl bg kd G P κ t) (hbg : bg = 21 ∨ bg = 23) (hrl : y_rl rl) (ht : 0 ≤ t ∧ t ≤ 60) (h3 : kd ≠ 3) : ∀ (n : Nat) (k : Int) (o : Option y_V), 0 ≤ k → k + n = g_rm G → y_ev z_pg sc d pgX3_pickByCard 2 [some (y_vr 39), some (y_vi t), some (y_vi k), o] [] h = some (some (y_vi (u_fold (g_c3 G P kd (pl h (rl + 1)) t) (-9) k n)), h)
  | 0, k, o, hk, hn => by
    obtain ⟨⟨f0, f1, f2⟩, ⟨rfl, X, hg⟩, -⟩ := X
    obtain ⟨ha, x0, x1, x2, x3, -⟩ := X
    rw [b47_2, f0, yH0 ha, x2, if_neg (by omega)]
    rfl
  | n + 1, k, o, hk, hn => by
    have XX := X
    have ih := fun o => l47 d hd X hbg hrl ht h3 n (k + 1) o (by omega) (by omega)
    obtain ⟨⟨f0, f1, f2⟩, ⟨rfl, X, hg⟩, -⟩ := X
    obtain ⟨ha, x0, x1, x2, x3, -⟩ := X
    have kr := hg.2.1
    rw [b47_2, f0, yH0 ha, x2, if_pos (by omega), f1, yK0 hrl, yK1 hrl, lK1 hrl, yi_t (by omega), s51 d hd XX hbg ht, yci_s, u_fold_s]
    have ec : g_c3 (hv h) P kd (pl h (rl + 1)) t (-9) k = g_fst (hv h) P (if kd = 2 then 1 else 0) (y_I h (rl + 1) (Int.toNat k)) t := by
      unfold g_c3
      rw [if_neg h3]
      show (if g_fst (hv h) P (if kd = 2 then 1 else 0) (y_I h (rl + 1) (Int.toNat k)) t = -9 then _ else if _ then g_fst (hv h) P (if kd = 2 then 1 else 0) (y_I h (rl + 1) (Int.toNat k)) t else _) = _
      generalize g_fst (hv h) P (if kd = 2 then 1 else 0) (y_I h (rl + 1) (Int.toNat k)) t = f
      by_cases c : f = -9
      · rw [if_pos c, c]
      · rw [if_neg c, if_pos (Or.inl rfl)]
    rw [← ec]
    by_cases c : g_c3 (hv h) P kd (pl h (rl + 1)) t (-9) k = -9
    · rw [if_pos c, yr_t (by omega), ih, c]
    · rw [if_neg c, u_fold_id (fun j => c3_stay h3 c)]
theorem l48 (d : Nat) (hd : 3 ≤ d) (X : XR h a rl bg 3 G P κ t) (hbg : bg = 21 ∨ bg = 23) (ht : 0 ≤ t ∧ t ≤ 60) {cd : Int → Int} : ∀ (n : Nat) (k b s : Int) (o : Option y_V), 0 ≤ k → k + n = g_rm G → (b ≠ -9 → s = g_ws G P (g_rd G b)) → y_ev z_pg sc d pgX3_pickNext 8 [some (y_vr 39), some (y_vi t), some (y_vi b), some (y_vi s), some (y_vi k), o] [] h = some (some (y_vi (u_fold (g_c3 G P 3 cd t) b k n)), h)
  | 0, k, b, s, o, hk, hn, hs => by
    obtain ⟨⟨f0, f1, f2⟩, ⟨rfl, X, hg⟩, -⟩ := X
    obtain ⟨ha, x0, x1, x2, x3, -⟩ := X
    rw [b48_8, f0, yH0 ha, x2, if_neg (by omega)]
    rfl
  | n + 1, k, b, s, o, hk, hn, hs => by
    have XX := X
    have ih := fun b s o hs => l48 d hd X hbg ht (cd := cd) n (k + 1) b s o (by omega) (by omega) hs
    obtain ⟨⟨f0, f1, f2⟩, ⟨rfl, X, hg⟩, -, -, w40, -⟩ := X
    obtain ⟨ha, x0, x1, x2, x3, -⟩ := X
    have kr := hg.2.1
    have kw := hg.2.2.1
    have fin := g_fst_in (G := hv h) (P := P) (K := 0) (r := k) (t := t) kw.1
    have ec : g_c3 (hv h) P 3 cd t b k = if g_fst (hv h) P 0 k t = -9 then b else if b = -9 ∨ ((3 : Int) = 3 ∧ g_ws (hv h) P k < g_ws (hv h) P (g_rd (hv h) b)) then g_fst (hv h) P 0 k t else b := rfl
    rw [b48_8, f0, yH0 ha, x2, if_pos (by omega), s51 d hd XX hbg ht, yci_s, u_fold_s, ec, show (if (3 : Int) = 2 then (1 : Int) else 0) = 0 from rfl, w40 k hk (by omega)]
    generalize g_fst (hv h) P 0 k t = f at fin
    by_cases c1 : f = -9
    · rw [if_pos c1, if_pos c1, yr_t (by omega), ih b s _ hs]
    · have rf : g_rd (hv h) f = k := by
        rcases fin with q | q
        · exact absurd q c1
        · exact q.2.1
      rw [if_neg c1, if_neg c1]
      by_cases c2 : b = -9
      · rw [if_pos c2, if_pos (Or.inl c2), yi_t (by omega), yr_t (by omega), ih f _ _ (fun _ => by rw [rf])]
      · rw [if_neg c2, yi_t (by omega), hs c2]
        by_cases c3 : g_ws (hv h) P k < g_ws (hv h) P (g_rd (hv h) b)
        · rw [if_pos c3, if_pos (Or.inr ⟨rfl, c3⟩), yi_t (by omega), yr_t (by omega), ih f _ _ (fun _ => by rw [rf])]
        · rw [if_neg c3, if_neg (fun q => q.elim c2 (fun q => c3 q.2)), yr_t (by omega), ← hs c2, ih b s _ hs]
theorem l49 (d : Nat) (hd : 2 ≤ d) (X : XR h a rl bg 4 G P κ t) (hbg : bg = 21 ∨ bg = 23) (ht : 0 ≤ t ∧ t ≤ 60) : ∀ (n : Nat) (k b s : Int), 0 ≤ k → k + n = g_wm G → (b ≠ -9 → s = g_wa G b t) → y_ev z_pg sc d pgX3_pickDear 8 [some (y_vr 39), some (y_vi t), some (y_vi b), some (y_vi s), some (y_vi k)] [] h = some (some (y_vi (u_fold (g_c4 G P 4 t) b k n)), h)
  | 0, k, b, s, hk, hn, hs => by
    obtain ⟨⟨f0, f1, f2⟩, ⟨rfl, X, hg⟩, -⟩ := X
    obtain ⟨ha, x0, x1, x2, x3, -⟩ := X
    rw [b49_8, f0, yH0 ha, x3, if_neg (by omega)]
    rfl
  | n + 1, k, b, s, hk, hn, hs => by
    have XX := X
    have ih := fun b s hs => l49 d hd X hbg ht n (k + 1) b s (by omega) (by omega) hs
    have may := s52 (sc := sc) d (by omega) X hbg ht k (by omega)
    rw [show (if (4 : Int) = 2 then (1 : Int) else 0) = 0 from rfl] at may
    obtain ⟨⟨f0, f1, f2⟩, ⟨rfl, X, hg⟩, -, -, w40, -⟩ := X
    have X0 := X
    obtain ⟨ha, x0, x1, x2, x3, -⟩ := X
    have kw := hg.2.2.1
    have s14' := s14 (sc := sc) d (by omega) X0 hg k t (by omega) (by omega)
    rw [b49_8, f0, yH0 ha, x3, if_pos (by omega), may, yci_s, u_fold_s]
    by_cases c1 : g_may (hv h) P 0 k t
    · rw [if_neg (by rw [bi_t c1]; omega)]
      by_cases c2 : b = -9
      · have ec : g_c4 (hv h) P 4 t b k = k := if_pos ⟨c1, Or.inl c2⟩
        rw [if_pos c2, f0, yH0 ha, s14', yci_s, yr_t (by omega), ec, ih k _ (fun _ => rfl)]
      · rw [if_neg c2, f0, yH0 ha, s14', yci_s, hs c2]
        by_cases c3 : g_wa (hv h) b t < g_wa (hv h) k t
        · have ec : g_c4 (hv h) P 4 t b k = k := if_pos ⟨c1, Or.inr (Or.inl ⟨rfl, c3⟩)⟩
          rw [if_pos c3, f0, yH0 ha, s14', yci_s, yr_t (by omega), ec, ih k _ (fun _ => rfl)]
        · have ec : g_c4 (hv h) P 4 t b k = b := if_neg (fun q => q.2.elim c2 (fun q => q.elim (fun q => c3 q.2) (fun q => q.1 rfl)))
          rw [if_neg c3, yr_t (by omega), ec, ← hs c2, ih b s hs]
    · have ec : g_c4 (hv h) P 4 t b k = b := if_neg (fun q => c1 q.1)
      rw [if_pos (bi_f c1), yr_t (by omega), ec, ih b s hs]
theorem l50 (d : Nat) (hd : 2 ≤ d) (X : XR h a rl bg 5 G P κ t) (hbg : bg = 21 ∨ bg = 23) (ht : 0 ≤ t ∧ t ≤ 60) : ∀ (n : Nat) (k b s : Int), 0 ≤ k → k + n = g_wm G → (b ≠ -9 → s = g_mn G b) → y_ev z_pg sc d pgX3_pickShort 8 [some (y_vr 39), some (y_vi t), some (y_vi b), some (y_vi s), some (y_vi k)] [] h = some (some (y_vi (u_fold (g_c4 G P 5 t) b k n)), h)
  | 0, k, b, s, hk, hn, hs => by
    obtain ⟨⟨f0, f1, f2⟩, ⟨rfl, X, hg⟩, -⟩ := X
    obtain ⟨ha, x0, x1, x2, x3, -⟩ := X
    rw [b50_8, f0, yH0 ha, x3, if_neg (by omega)]
    rfl
  | n + 1, k, b, s, hk, hn, hs => by
    have XX := X
    have ih := fun b s hs => l50 d hd X hbg ht n (k + 1) b s (by omega) (by omega) hs
    have may := s52 (sc := sc) d (by omega) X hbg ht k (by omega)
    rw [show (if (5 : Int) = 2 then (1 : Int) else 0) = 0 from rfl] at may
    obtain ⟨⟨f0, f1, f2⟩, ⟨rfl, X, hg⟩, -, -, w40, -⟩ := X
    obtain ⟨ha, x0, x1, x2, x3, x4, x5, x6, x7, x8, x9, x10, x11, x12, x13, x14, x15, x16, x17, x18⟩ := X
    have kw := hg.2.2.1
    have e11 := x14 k hk (by omega)
    rw [b50_8, f0, yH0 ha, x3, if_pos (by omega), may, yci_s, u_fold_s]
    by_cases c1 : g_may (hv h) P 0 k t
    · rw [if_neg (by rw [bi_t c1]; omega)]
      by_cases c2 : b = -9
      · have ec : g_c4 (hv h) P 5 t b k = k := if_pos ⟨c1, Or.inl c2⟩
        rw [if_pos c2, f0, yH0 ha, yH11 ha, lH11 ha, yi_t (by omega), yr_t (by omega), e11, ec, ih k _ (fun _ => rfl)]
      · rw [if_neg c2, f0, yH0 ha, yH11 ha, lH11 ha, yi_t (by omega), e11, hs c2]
        by_cases c3 : g_mn (hv h) k < g_mn (hv h) b
        · have ec : g_c4 (hv h) P 5 t b k = k := if_pos ⟨c1, Or.inr (Or.inr ⟨by omega, c3⟩)⟩
          rw [if_pos c3, yH0 ha, yH11 ha, yi_t (by omega), yr_t (by omega), ec, ih k _ (fun _ => rfl)]
        · have ec : g_c4 (hv h) P 5 t b k = b := if_neg (fun q => q.2.elim c2 (fun q => q.elim (fun q => by omega) (fun q => c3 q.2)))
          rw [if_neg c3, yr_t (by omega), ec, ← hs c2, ih b s hs]
    · have ec : g_c4 (hv h) P 5 t b k = b := if_neg (fun q => c1 q.1)
      rw [if_pos (bi_f c1), yr_t (by omega), ec, ih b s hs]
theorem s46 (d : Nat) (hd : 5 ≤ d) (X : XR h a rl bg kd G P κ t) (hbg : bg = 21 ∨ bg = 23) (hrl : y_rl rl) (hkd : 1 ≤ kd ∧ kd ≤ 5) (ht : 0 ≤ t ∧ t ≤ 60) : y_se z_pg sc d 46 [y_vr 39, y_vi t] h = some (some (y_vi (g_cho G P kd (pl h (rl + 1)) t)), h) := by
  obtain ⟨d, rfl⟩ : ∃ e, d = e + 2 := ⟨d - 2, by omega⟩
  have XX := X
  obtain ⟨⟨f0, f1, f2⟩, ⟨eG, X, hg⟩, ⟨k1, -⟩, -⟩ := X
  have kr := hg.2.1
  have kw := hg.2.2.1
  rw [e46, b46_0, f1, yK0 hrl, k1]
  unfold g_cho
  rcases (show kd = 3 ∨ kd = 4 ∨ kd = 5 ∨ kd = 1 ∨ kd = 2 by omega) with rfl | rfl | rfl | rfl | rfl
  · rw [if_pos rfl, e48, b48_0, l48 d (by omega) XX hbg ht (cd := pl h (rl + 1)) (g_rm G).toNat 0 (-9) 0 none (by omega) (by omega) (fun q => absurd rfl q), yci_s, if_neg (by omega)]
  · rw [if_neg (by omega), if_pos rfl, e49, b49_0, l49 d (by omega) XX hbg ht (g_wm G).toNat 0 (-9) 0 (by omega) (by omega) (fun q => absurd rfl q), yci_s, if_pos (by omega)]
  · rw [if_neg (by omega), if_neg (by omega), if_pos rfl, e50, b50_0, l50 d (by omega) XX hbg ht (g_wm G).toNat 0 (-9) 0 (by omega) (by omega) (fun q => absurd rfl q), yci_s, if_pos (by omega)]
  · rw [if_neg (by omega), if_neg (by omega), if_neg (by omega), e47, b47_0, l47 d (by omega) XX hbg hrl ht (by omega) (g_rm G).toNat 0 none (by omega) (by omega), yci_s, if_neg (by omega)]
  · rw [if_neg (by omega), if_neg (by omega), if_neg (by omega), e47, b47_0, l47 d (by omega) XX hbg hrl ht (by omega) (g_rm G).toNat 0 none (by omega) (by omega), yci_s, if_neg (by omega)]
end XR
