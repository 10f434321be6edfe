/-! THE FIRST WRONG MINUTE: what shows at the readings is what a look minute by minute finds -/
theorem u_sum_le {f g : Int → Int} : ∀ {n : Nat} {k : Int}, (∀ j, k ≤ j → j < k + n → f j ≤ g j) → u_sum f k n ≤ u_sum g k n
  | 0, _, _ => Int.le_refl _
  | n + 1, k, h => by
    have h1 := h k (Int.le_refl _) (by omega)
    have h2 := u_sum_le (f := f) (g := g) (n := n) (k := k + 1) fun j g1 g2 => h j (by omega) (by omega)
    rw [u_sum_s, u_sum_s]
    omega
theorem bi_le {p q : Prop} (h : p → q) : y_bi p ≤ y_bi q := by
  by_cases g : p
  · rw [bi_t g, bi_t (h g)]; omega
  · rw [bi_f g]; have := bi_rng (p := q); omega
theorem u_cnt_nn {p : Int → Prop} {n : Nat} {k : Int} : 0 ≤ u_sum (fun j => y_bi (p j)) k n := by
  have := (u_sum_bd (f := fun j => y_bi (p j)) (lo := 0) (hi := 1) (n := n) (k := k) fun j _ _ => bi_rng).1
  omega
theorem u_cnt_0 {p : Int → Prop} {n : Nat} {k : Int} (h : ∀ j, k ≤ j → j < k + n → ¬ p j) : u_sum (fun j => y_bi (p j)) k n = 0 := by
  have := (u_sum_bd (f := fun j => y_bi (p j)) (lo := 0) (hi := 0) (n := n) (k := k) fun j h1 h2 => by rw [bi_f (h j h1 h2)]; omega)
  omega
theorem u_cnt_1 {p : Int → Prop} {i : Int} : ∀ {n : Nat} {k : Int}, k ≤ i → i < k + n → p i → 1 ≤ u_sum (fun j => y_bi (p j)) k n
  | 0, k, h1, h2, _ => by omega
  | n + 1, k, h1, h2, h3 => by
    rw [u_sum_s]
    by_cases e : k = i
    · subst e
      have := u_cnt_nn (p := p) (n := n) (k := k + 1)
      rw [bi_t h3]
      omega
    · have := u_cnt_1 (p := p) (i := i) (n := n) (k := k + 1) (by omega) (by omega) h3
      have := bi_rng (p := p k)
      omega
theorem u_cnt_2 {p : Int → Prop} {i l : Int} : ∀ {n : Nat} {k : Int}, k ≤ i → i < l → l < k + n → p i → p l → 2 ≤ u_sum (fun j => y_bi (p j)) k n
  | 0, k, h1, h2, h3, _, _ => by omega
  | n + 1, k, h1, h2, h3, h4, h5 => by
    rw [u_sum_s]
    by_cases e : k = i
    · subst e
      have := u_cnt_1 (p := p) (i := l) (n := n) (k := k + 1) (by omega) (by omega) h5
      rw [bi_t h4]
      omega
    · have := u_cnt_2 (p := p) (i := i) (l := l) (n := n) (k := k + 1) (by omega) h2 (by omega) h4 h5
      have := bi_rng (p := p k)
      omega
theorem u_cnt_le1 {p : Int → Prop} {w : Int} : ∀ {n : Nat} {k : Int}, (∀ j, k ≤ j → j < k + n → p j → j = w) → u_sum (fun j => y_bi (p j)) k n ≤ 1
  | 0, k, _ => by rw [u_sum_0]; omega
  | n + 1, k, h => by
    rw [u_sum_s]
    by_cases g : p k
    · have e := h k (Int.le_refl _) (by omega) g
      rw [bi_t g, u_cnt_0 fun j h1 h2 h3 => by have := h j (by omega) (by omega) h3; omega]
      omega
    · have := u_cnt_le1 (p := p) (w := w) (n := n) (k := k + 1) fun j h1 h2 h3 => h j (by omega) (by omega) h3
      rw [bi_f g]
      omega
theorem u_max {q : Int → Prop} {P : Int → Int} : ∀ {n : Nat} {k : Int}, (∃ j, k ≤ j ∧ j < k + n ∧ q j) → ∃ v, k ≤ v ∧ v < k + n ∧ q v ∧ ∀ u, k ≤ u → u < k + n → q u → P u ≤ P v
  | 0, k, ⟨j, h1, h2, _⟩ => by omega
  | n + 1, k, ⟨j, h1, h2, h3⟩ => by
    by_cases g : ∃ j, k + 1 ≤ j ∧ j < k + 1 + n ∧ q j
    · obtain ⟨v, g1, g2, g3, g4⟩ := u_max (q := q) (P := P) g
      by_cases g5 : q k ∧ P v < P k
      · refine ⟨k, Int.le_refl _, by omega, g5.1, fun u u1 u2 u3 => ?_⟩
        by_cases e : u = k
        · subst e; exact Int.le_refl _
        · have := g4 u (by omega) (by omega) u3
          omega
      · refine ⟨v, by omega, by omega, g3, fun u u1 u2 u3 => ?_⟩
        by_cases e : u = k
        · subst e
          by_cases q1 : P v < P u
          · exact absurd ⟨u3, q1⟩ g5
          · omega
        · exact g4 u (by omega) (by omega) u3
    · refine ⟨j, h1, h2, h3, fun u u1 u2 u3 => ?_⟩
      have e1 : u = k := Classical.byContradiction fun e => g ⟨u, by omega, by omega, u3⟩
      have e2 : j = k := Classical.byContradiction fun e => g ⟨j, by omega, by omega, h3⟩
      rw [e1, e2]
      exact Int.le_refl _
theorem u_fmin_le {c : Int → Prop} [DecidablePred c] {f : Int → Int} : ∀ {n : Nat} {k a : Int}, u_fold (fun s w => if c w then s else min s (f w)) a k n ≤ a ∧ ∀ j, k ≤ j → j < k + n → ¬ c j → u_fold (fun s w => if c w then s else min s (f w)) a k n ≤ f j
  | 0, k, a => ⟨Int.le_refl _, fun j h1 h2 => by omega⟩
  | n + 1, k, a => by
    have ih := u_fmin_le (c := c) (f := f) (n := n) (k := k + 1) (a := if c k then a else min a (f k))
    rw [u_fold_s]
    refine ⟨?_, fun j h1 h2 h3 => ?_⟩
    · have := ih.1
      by_cases g : c k
      · rw [if_pos g] at this ⊢; exact this
      · rw [if_neg g] at this ⊢; omega
    · by_cases e : j = k
      · subst e
        have := ih.1
        rw [if_neg h3] at this ⊢
        omega
      · exact ih.2 j (by omega) (by omega) h3
theorem u_fmin_at {c : Int → Prop} [DecidablePred c] {f : Int → Int} : ∀ {n : Nat} {k a : Int}, u_fold (fun s w => if c w then s else min s (f w)) a k n = a ∨ ∃ j, k ≤ j ∧ j < k + n ∧ ¬ c j ∧ u_fold (fun s w => if c w then s else min s (f w)) a k n = f j
  | 0, k, a => Or.inl rfl
  | n + 1, k, a => by
    rw [u_fold_s]
    rcases u_fmin_at (c := c) (f := f) (n := n) (k := k + 1) (a := if c k then a else min a (f k)) with h | ⟨j, h1, h2, h3, h4⟩
    · rw [h]
      by_cases g : c k
      · rw [if_pos g]; exact Or.inl rfl
      · rw [if_neg g]
        rcases (show min a (f k) = a ∨ min a (f k) = f k by omega) with e | e
        · exact Or.inl e
        · exact Or.inr ⟨k, Int.le_refl _, by omega, g, e⟩
    · exact Or.inr ⟨j, by omega, by omega, h3, h4⟩
theorem u_find_val {p : Int → Prop} {n : Nat} {k : Int} (hk : 0 ≤ k) (h : u_find p k n ≠ -9) : k ≤ u_find p k n ∧ u_find p k n < k + n ∧ p (u_find p k n) ∧ ∀ j, k ≤ j → j < u_find p k n → ¬ p j := by
  induction n generalizing k with
  | zero => exact absurd rfl h
  | succ n ih =>
    by_cases g : p k
    · rw [u_find_t g]
      exact ⟨Int.le_refl _, by omega, g, fun j h1 h2 => by omega⟩
    · rw [u_find_f g] at h ⊢
      obtain ⟨h1, h2, h3, h4⟩ := ih (by omega) h
      refine ⟨by omega, by omega, h3, fun j q1 q2 => ?_⟩
      by_cases e : j = k
      · subst e; exact g
      · exact h4 j (by omega) q2
section FW
variable {G : u_G} {P : u_P}
theorem g_un_cv {p t : Int} : g_un G p t 1 ↔ g_cv G p t := u_any_cg fun j _ _ => by
  constructor
  · rintro ⟨h1, h2, h3⟩; exact ⟨h1, by omega, h3⟩
  · rintro ⟨h1, h2, h3⟩; exact ⟨h1, by omega, h3⟩
theorem g_cv_60 (hg : g_ok G) {p t : Int} (h : g_cv G p t) : 0 ≤ t ∧ t ≤ 60 := by
  have h1 := hg.2.2.2.2.1
  obtain ⟨k, h2, h3, h4⟩ := u_any_iff.mp h
  have := hg.2.2.2.2.2.2.2.2.2.2 k h2 (by omega)
  omega
theorem g_cf_val {w t : Int} (ht : 0 ≤ t) (h : g_cf G w t ≠ -9) : t ≤ g_cf G w t ∧ g_cf G w t < t + g_mn G w ∧ g_cf G w t ≤ 60 ∧ g_cv G (g_pt G w) (g_cf G w t) := by
  obtain ⟨h1, h2, h3, h4⟩ := u_find_val ht h
  have e : g_cf G w t = u_find (fun m => g_cv G (g_pt G w) m) t (g_cn G w t) := rfl
  rw [← e] at h1 h2 h3
  have : (g_cn G w t : Int) = max t (min 61 (t + g_mn G w)) - t := by unfold g_cn; omega
  exact ⟨h1, by omega, by omega, h3⟩
theorem g_cf_le {w t m : Int} (ht : 0 ≤ t) (h1 : t ≤ m) (h2 : m < t + g_mn G w) (h3 : m ≤ 60) (h4 : g_cv G (g_pt G w) m) : g_cf G w t ≠ -9 ∧ g_cf G w t ≤ m := by
  have e : g_cf G w t = u_find (fun m => g_cv G (g_pt G w) m) t (g_cn G w t) := rfl
  have hn : (g_cn G w t : Int) = max t (min 61 (t + g_mn G w)) - t := by unfold g_cn; omega
  have hne : g_cf G w t ≠ -9 := fun q => by
    rw [e] at q
    exact (u_find_none ht).mp q m h1 (by omega) h4
  refine ⟨hne, ?_⟩
  have := (u_find_val ht (by rw [← e]; exact hne)).2.2.2
  rw [← e] at this
  rcases Int.lt_or_le m (g_cf G w t) with q | q
  · exact absurd h4 (this m h1 q)
  · exact q
/-- wrong in minute t -/
def g_wr (G : u_G) (P : u_P) (t : Int) : Prop := ∃ w, 0 ≤ w ∧ w < g_wm G ∧ g_rg G P w t ∧ ¬ g_well G P w t
theorem g_fo_wr (hg : g_ok G) (hp : p_ok G P) {w : Int} (hw : 0 ≤ w ∧ w < g_wm G) (hr : P w ≠ -9) (h60 : g_fo G P w ≤ 60) : g_wr G P (g_fo G P w) := by
  obtain ⟨k1, k2, k3, k4, k5, k6, k7, k8, k9, k10, k11⟩ := g_ok_w hg hw
  have h1 := hg.2.2.1
  have hpw := (hp w hw.1 hw.2).resolve_left hr
  unfold g_fo at h60 ⊢
  split at h60
  · rename_i c
    rw [if_pos c]
    refine ⟨w, hw.1, hw.2, ⟨hr, Int.le_refl _, by omega⟩, fun W => ?_⟩
    obtain ⟨w1, w2, w3⟩ := W
    rcases c with c | c | c | c | c
    · have := w1.1; omega
    · have := w1.2.2.1; omega
    · rcases c with c | c
      · refine w2.2 (u_any_iff.mpr ?_)
        refine Classical.byContradiction fun q => ?_
        have := u_cnt_le1 (p := fun v => g_rd G v = g_rd G w ∧ g_rg G P v (P w)) (w := w) (n := (g_wm G).toNat) (k := 0) fun j j1 j2 j3 => Classical.byContradiction fun e => q ⟨j, j1, j2, e, j3.1, j3.2⟩
        unfold g_rmany at c
        omega
      · have := w2.1; omega
    · exact c (w3 rfl).1
    · exact (w3 rfl).2 c
  · rename_i c
    rw [if_neg c]
    have base : ∀ b, b = (if min (g_ti G (g_rd G w)) (g_la G) - g_mn G w < P w then max (P w) (min (g_ti G (g_rd G w)) (g_la G)) else 61) → b ≤ 60 → g_wr G P b := by
      intro b hb h6
      split at hb
      · refine ⟨w, hw.1, hw.2, ⟨hr, by omega, by omega⟩, fun W => ?_⟩
        have := W.1.1.2
        have := W.1.2.1
        omega
      · omega
    split at h60
    · rename_i q
      rw [if_pos q]
      exact base _ rfl h60
    · rename_i q
      rw [if_neg q]
      obtain ⟨v1, v2, v3, v4⟩ := g_cf_val hpw.1 q
      rcases Int.le_total (if min (g_ti G (g_rd G w)) (g_la G) - g_mn G w < P w then max (P w) (min (g_ti G (g_rd G w)) (g_la G)) else 61) (g_cf G w (P w)) with z | z
      · rw [Int.min_eq_left z] at h60 ⊢
        exact base _ rfl h60
      · rw [Int.min_eq_right z] at h60 ⊢
        exact ⟨w, hw.1, hw.2, ⟨hr, v1, v2⟩, fun W => W.1.2.2.2 (g_un_cv.mpr v4)⟩
theorem g_fo_crowd {w : Int} (h : g_crowd G P w) : g_fo G P w = P w := if_pos (Or.inr (Or.inr (Or.inl h)))
theorem g_wr_fo (hg : g_ok G) (hp : p_ok G P) {t : Int} (h : g_wr G P t) : ∃ w, 0 ≤ w ∧ w < g_wm G ∧ P w ≠ -9 ∧ g_fo G P w ≤ t ∧ g_fo G P w ≤ 60 := by
  obtain ⟨w, hw1, hw2, ⟨hr1, hr2, hr3⟩, hb⟩ := h
  have h1 := hg.2.2.1
  obtain ⟨k1, k2, k3, k4, k5, k6, k7, k8, k9, k10, k11⟩ := g_ok_w hg ⟨hw1, hw2⟩
  have hla := hg.2.2.2.2.2.1
  have hpw := (hp w hw1 hw2).resolve_left hr1
  -- what is true of w itself
  have self : (P w < g_fr G (g_rd G w) ∨ P w < g_cm G (g_pt G w) ∨ g_crowd G P w ∨ ¬ g_due G P w (P w) ∨ g_spo G P w (P w)) → ∃ w, 0 ≤ w ∧ w < g_wm G ∧ P w ≠ -9 ∧ g_fo G P w ≤ t ∧ g_fo G P w ≤ 60 := by
    intro c
    have e : g_fo G P w = P w := if_pos c
    exact ⟨w, hw1, hw2, hr1, by omega, by omega⟩
  by_cases c : P w < g_fr G (g_rd G w) ∨ P w < g_cm G (g_pt G w) ∨ g_crowd G P w ∨ ¬ g_due G P w (P w) ∨ g_spo G P w (P w)
  · exact self c
  by_cases hth : g_there G w t
  · by_cases hfr : g_free G P w t
    · -- at its beginning
      have hbg : ¬ (P w = t → g_due G P w t ∧ ¬ g_spo G P w t) := fun q => hb ⟨hth, hfr, q⟩
      by_cases e : P w = t
      · subst e
        by_cases q1 : g_due G P w (P w)
        · by_cases q2 : g_spo G P w (P w)
          · exact absurd (Or.inr (Or.inr (Or.inr (Or.inr q2)))) c
          · exact absurd (fun _ => ⟨q1, q2⟩) hbg
        · exact absurd (Or.inr (Or.inr (Or.inr (Or.inl q1)))) c
      · exact absurd (fun q => absurd q e) hbg
    · by_cases q1 : g_many G P (g_pt G w) t ≤ g_cp G (g_pt G w)
      · -- the reader reads two
        have q2 : g_does G P (g_rd G w) t w := Classical.byContradiction fun q => hfr ⟨q1, q⟩
        obtain ⟨v, v1, v2, v3, v4, v5⟩ := u_any_iff.mp q2
        have v2 : v < g_wm G := by omega
        have two : ∀ u x : Int, 0 ≤ u → u < g_wm G → 0 ≤ x → x < g_wm G → u ≠ x → g_rd G u = g_rd G x → g_rg G P u t → g_rg G P x t → P x ≤ P u → ∃ w, 0 ≤ w ∧ w < g_wm G ∧ P w ≠ -9 ∧ g_fo G P w ≤ t ∧ g_fo G P w ≤ 60 := by
          intro u x u1 u2 x1 x2 ne er ru rx le
          have pu := (hp u u1 u2).resolve_left ru.1
          have mu := (g_ok_w hg ⟨u1, u2⟩).2.2.2.1
          have cr : g_crowd G P u := Or.inl (by
            have a1 : g_rd G u = g_rd G u ∧ g_rg G P u (P u) := ⟨rfl, ru.1, Int.le_refl _, by omega⟩
            have a2 : g_rd G x = g_rd G u ∧ g_rg G P x (P u) := ⟨er.symm, rx.1, le, by have := rx.2.2; have := ru.2.1; omega⟩
            unfold g_rmany
            rcases Int.lt_or_gt_of_ne ne with z | z
            · have := u_cnt_2 (p := fun v => g_rd G v = g_rd G u ∧ g_rg G P v (P u)) (i := u) (l := x) (n := (g_wm G).toNat) (k := 0) u1 z (by omega) a1 a2
              omega
            · have := u_cnt_2 (p := fun v => g_rd G v = g_rd G u ∧ g_rg G P v (P u)) (i := x) (l := u) (n := (g_wm G).toNat) (k := 0) x1 z (by omega) a2 a1
              omega)
          have e := g_fo_crowd cr
          exact ⟨u, u1, u2, ru.1, by have := ru.2.1; omega, by omega⟩
        rcases Int.le_total (P v) (P w) with z | z
        · exact two w v hw1 hw2 v1 v2 (fun e => v3 e.symm) v4.symm ⟨hr1, hr2, hr3⟩ v5 z
        · exact two v w v1 v2 hw1 hw2 v3 v4 v5 ⟨hr1, hr2, hr3⟩ z
      · -- too many read the part
        obtain ⟨v, v1, v2, ⟨v3, v4⟩, v5⟩ := u_max (q := fun v => g_pt G v = g_pt G w ∧ g_rg G P v t) (P := P) (n := (g_wm G).toNat) (k := 0) ⟨w, hw1, by omega, rfl, hr1, hr2, hr3⟩
        have v2 : v < g_wm G := by omega
        have pv := (hp v v1 v2).resolve_left v4.1
        have le : g_many G P (g_pt G w) t ≤ g_many G P (g_pt G v) (P v) := by
          rw [v3]
          refine u_sum_le fun j j1 j2 => bi_le fun q => ⟨q.1, q.2.1, v5 j j1 j2 q, ?_⟩
          have := q.2.2.2
          have := v4.2.1
          omega
        have cr : g_crowd G P v := Or.inr (by rw [v3] at le ⊢; omega)
        have e := g_fo_crowd cr
        exact ⟨v, v1, v2, v4.1, by have := v4.2.1; omega, by omega⟩
  · -- he or the part isn't there
    have e : g_fo G P w = (if g_cf G w (P w) = -9 then (if min (g_ti G (g_rd G w)) (g_la G) - g_mn G w < P w then max (P w) (min (g_ti G (g_rd G w)) (g_la G)) else 61)
      else min (if min (g_ti G (g_rd G w)) (g_la G) - g_mn G w < P w then max (P w) (min (g_ti G (g_rd G w)) (g_la G)) else 61) (g_cf G w (P w))) := if_neg c
    by_cases c1 : t < g_fr G (g_rd G w)
    · exact absurd (Or.inl (by omega)) c
    by_cases c2 : t < g_cm G (g_pt G w)
    · exact absurd (Or.inr (Or.inl (by omega))) c
    by_cases c3 : g_ti G (g_rd G w) ≤ t ∨ g_la G ≤ t
    · refine ⟨w, hw1, hw2, hr1, ?_⟩
      rw [e]
      have : min (g_ti G (g_rd G w)) (g_la G) - g_mn G w < P w := by omega
      rw [if_pos this]
      split <;> omega
    · have c4 : g_un G (g_pt G w) t 1 := Classical.byContradiction fun q => hth ⟨⟨by omega, by omega⟩, by omega, by omega, q⟩
      have c5 := g_un_cv.mp c4
      have c6 := g_cv_60 hg c5
      obtain ⟨f1, f2⟩ := g_cf_le hpw.1 hr2 hr3 c6.2 c5
      have f3 := (g_cf_val hpw.1 f1).2.2.1
      refine ⟨w, hw1, hw2, hr1, ?_⟩
      rw [e, if_neg f1]
      split <;> omega
theorem g_fi_bad (hg : g_ok G) (hp : p_ok G P) : (if 60 < g_fi G P then -9 else g_fi G P) = g_bad G P := by
  have h1 := hg.2.2.1
  have hle := u_fmin_le (c := fun w => P w = -9) (f := g_fo G P) (n := (g_wm G).toNat) (k := 0) (a := 61)
  have hat := u_fmin_at (c := fun w => P w = -9) (f := g_fo G P) (n := (g_wm G).toNat) (k := 0) (a := 61)
  have e : g_fi G P = u_fold (fun s w => if P w = -9 then s else min s (g_fo G P w)) 61 0 (g_wm G).toNat := rfl
  rw [← e] at hle hat
  have hwr : ∀ t, u_any (fun w => g_rg G P w t ∧ ¬ g_well G P w t) 0 (g_wm G).toNat ↔ g_wr G P t := by
    intro t
    rw [u_any_iff]
    exact ⟨fun ⟨j, j1, j2, j3⟩ => ⟨j, j1, by omega, j3⟩, fun ⟨j, j1, j2, j3⟩ => ⟨j, j1, by omega, j3⟩⟩
  have hlow : ∀ t, g_wr G P t → g_fi G P ≤ t ∧ g_fi G P ≤ 60 := by
    intro t ht
    obtain ⟨w, w1, w2, w3, w4, w5⟩ := g_wr_fo hg hp ht
    have := hle.2 w w1 (by omega) w3
    omega
  by_cases c : 60 < g_fi G P
  · rw [if_pos c]
    refine ((u_find_none (Int.le_refl _)).mpr fun j j1 j2 j3 => ?_).symm
    have := hlow j ((hwr j).mp j3)
    omega
  · rw [if_neg c]
    rcases hat with q | ⟨w, w1, w2, w3, w4⟩
    · omega
    · have hb := g_fo_wr hg hp ⟨w1, by omega⟩ w3 (by omega)
      rw [← w4] at hb
      obtain ⟨v, v1, v2, v3, -⟩ := id hb
      have pv := (hp v v1 v2).resolve_left v3.1
      refine (u_find_some (t := g_fi G P) (Int.le_refl _) (by have := v3.2.1; omega) (by omega) ((hwr _).mpr hb) fun j j1 j2 j3 => ?_).symm
      have := hlow j ((hwr j).mp j3)
      omega
end FW
