/-! THE BEST OF ALL, x's: a row weighed, what can be hoped -/
def q_gl (wt : Int) : Int := if wt = 1 then 2 else if wt = 2 then 1 else wt
theorem u_sum_sub {f g : Int → Int} : ∀ {n : Nat} {k : Int}, u_sum (fun j => f j - g j) k n = u_sum f k n - u_sum g k n
  | 0, _ => rfl
  | n + 1, k => by
    rw [u_sum_s, u_sum_s, u_sum_s, u_sum_sub]
    omega
theorem q_ct_0 {TD : Int → Prop} : q_ct TD 0 = 0 := rfl
theorem q_ct_s {TD : Int → Prop} {w : Int} (hw : 0 ≤ w) : q_ct TD (w + 1) = q_ct TD w + y_bi (TD w) := by
  unfold q_ct
  rw [show (w + 1).toNat = w.toNat + 1 by omega, u_sum_last, show (0 : Int) + (w.toNat : Int) = w by omega]
theorem q_ct_bd {TD : Int → Prop} {w : Int} : 0 ≤ q_ct TD w := by
  have := (u_sum_bd (f := fun j => y_bi (TD j)) (lo := 0) (hi := 1) (n := w.toNat) (k := 0) fun j _ _ => bi_bd).1
  unfold q_ct
  omega
theorem q_ct_mn {TD : Int → Prop} : ∀ (n : Nat) (w : Int), 0 ≤ w → q_ct TD w ≤ q_ct TD (w + n)
  | 0, w, h => by rw [show w + ((0 : Nat) : Int) = w by omega]; exact Int.le_refl _
  | n + 1, w, h => by
    have a := q_ct_s (TD := TD) h
    have b := q_ct_mn (TD := TD) n (w + 1) (by omega)
    have c := bi_rng (p := TD w)
    rw [show w + ((n + 1 : Nat) : Int) = w + 1 + (n : Int) by omega]
    omega
theorem q_ct_le {TD : Int → Prop} {w v : Int} (h : 0 ≤ w) (e : w ≤ v) : q_ct TD w ≤ q_ct TD v := by
  have := q_ct_mn (TD := TD) (v - w).toNat w h
  rwa [show w + ((v - w).toNat : Int) = v by omega] at this
theorem q_ct_lt {TD : Int → Prop} {w v : Int} (h : 0 ≤ w) (e : w < v) (t : TD w) : q_ct TD w + 1 ≤ q_ct TD v := by
  have := q_ct_le (TD := TD) (w := w + 1) (v := v) (by omega) (by omega)
  rwa [q_ct_s h, bi_t t] at this
theorem yNx {k : Int} {x : y_O} (hk : 0 ≤ k ∧ k < 9) : y_kt (47 + Int.toNat k) 10 x = x := by
  rcases (show k = 0 ∨ k = 1 ∨ k = 2 ∨ k = 3 ∨ k = 4 ∨ k = 5 ∨ k = 6 ∨ k = 7 ∨ k = 8 by omega) with rfl | rfl | rfl | rfl | rfl | rfl | rfl | rfl | rfl <;> rfl
theorem lNx {k : Int} (hk : 0 ≤ k ∧ k < 9) : (z_kd (47 + Int.toNat k)).2 = 8 := by
  rcases (show k = 0 ∨ k = 1 ∨ k = 2 ∨ k = 3 ∨ k = 4 ∨ k = 5 ∨ k = 6 ∨ k = 7 ∨ k = 8 by omega) with rfl | rfl | rfl | rfl | rfl | rfl | rfl | rfl | rfl <;> rfl
noncomputable def q_wq (G : u_G) (b0 : Int) (P : u_P) (E : Int → Int) (w : Int) : Int := if q_t G b0 P E w = -9 then 0 else g_wa G w (q_t G b0 P E w)
noncomputable def q_f1 (G : u_G) (TD : Int → Prop) (b0 : Int) (P : u_P) (E : Int → Int) (w : Int) : Int := @ite _ (TD w ∧ P w = -9) (Classical.propDecidable _) (q_wq G b0 P E w) 0
noncomputable def q_f2 (G : u_G) (TD : Int → Prop) (b0 : Int) (P : u_P) (E : Int → Int) (r w : Int) : Int := @ite _ ((TD w ∧ P w = -9) ∧ g_rd G w = r) (Classical.propDecidable _) (q_wq G b0 P E w) 0
noncomputable def q_f3 (G : u_G) (TD : Int → Prop) (b0 : Int) (P : u_P) (E : Int → Int) (s w : Int) : Int := @ite _ (TD w ∧ P w = -9) (Classical.propDecidable _) (max s (q_t G b0 P E w + g_mn G w)) s
section XS
variable {sc : z_Sc} {h : y_Hp} {a : Nat} {G : u_G} {L TD : Int → Prop} {b0 oc wt : Int} {P : u_P} {E : Int → Int} {A : q_A}
theorem l69 (d : Nat) (v1 v2 : Int) (g : y_Hp) : ∀ (m : Nat) (k : Int), 0 ≤ k → k + m = 24 → y_ev z_pg sc d pgX5_weigh 113 [some (y_vr 43), some (y_vi v1), some (y_vi v2), some (y_vi k)] [] (y_fill g 44 0 (Int.toNat k) (fun j => y_I g 58 j)) = some (none, y_fill g 44 0 24 (fun j => y_I g 58 j))
  | 0, k, hk, hm => by
    have e : k = 24 := by omega
    subst e
    rw [b69_113, if_neg (by omega)]
    rfl
  | m + 1, k, hk, hm => by
    have := l69 d v1 v2 g m (k + 1) (by omega) (by omega)
    rw [show Int.toNat (k + 1) = Int.toNat k + 1 by omega] at this
    rw [b69_113, if_pos (by omega), yi_t (by omega), yi_t (by omega), yr_t (by omega), yI_fill_o (by omega), y_fill_s (Nat.zero_le _) rfl, this]
theorem s69 (Q : XQ h a G L b0 oc P E) (XAh : XA h G A) (gd : q_good G A) (hg : g_ok G) (I : q_in G P E) (hwt : 0 ≤ wt ∧ wt ≤ 3) (eg : y_I h 43 3 = q_gl wt) (len : Int) (n : Nat) (en : y_I h 43 9 = len + n) : ∃ h', (∀ d, 2 ≤ d → y_se z_pg sc d 69 [y_vr 43, y_vi len] h = some (none, h')) ∧ XA h' G (q_vis G L wt (q_lk G L) n P A) ∧ (∀ b k, ¬ ((b = 43 ∧ (k = 0 ∨ k = 6)) ∨ b = 44) → y_I h' b k = y_I h b k) ∧ h'.2 = h.2 := by
  have kw := hg.2.2.1
  obtain ⟨⟨f2, X⟩, ⟨e4, e5⟩, e7, e8, e56, e58, e59, e60⟩ := Q
  have vb := q_v_bd (L := L) (wt := wt) hg I
  have ba : q_best A ≤ 1000000 := by
    unfold q_best
    rcases gd with g | g
    · rw [if_pos (by omega)]; omega
    · rw [if_neg (by omega)]; omega
  have lt : q_v G L wt P < q_best A ↔ (A.1 < 0 ∨ q_v G L wt P < A.1) := by
    unfold q_best
    by_cases z : A.1 < 0
    · rw [if_pos z]; exact ⟨fun _ => Or.inl z, fun _ => by omega⟩
    · rw [if_neg z]; exact ⟨fun q => Or.inr q, fun q => q.elim (fun q => absurd q z) id⟩
  have e6 := XAh.1
  -- a better one
  have up : q_v G L wt P < q_best A → ¬ ((wt = 1 ∨ wt = 3) ∧ n ≠ 0) → (∀ d, 1 ≤ d → y_se z_pg sc (d + 1) 69 [y_vr 43, y_vi len] h = y_ev z_pg sc d pgX5_weigh 113 [some (y_vr 43), some (y_vi len), some (y_vi (q_v G L wt P)), some (y_vi 0)] [] (y_sI (y_sI h 43 6 (q_v G L wt P)) 43 0 (y_I (y_sI h 43 6 (q_v G L wt P)) 43 7))) → ∃ h', (∀ d, 2 ≤ d → y_se z_pg sc d 69 [y_vr 43, y_vi len] h = some (none, h')) ∧ XA h' G (q_vis G L wt (q_lk G L) n P A) ∧ (∀ b k, ¬ ((b = 43 ∧ (k = 0 ∨ k = 6)) ∨ b = 44) → y_I h' b k = y_I h b k) ∧ h'.2 = h.2 := fun c1 c2 r => by
    have ev : q_vis G L wt (q_lk G L) n P A = (q_v G L wt P, q_lk G L P, P) := by
      unfold q_vis
      rw [if_neg c2, if_pos (lt.mp c1)]
    refine ⟨y_fill (y_sI (y_sI h 43 6 (q_v G L wt P)) 43 0 (y_I h 43 7)) 44 0 24 (fun j => y_I h 58 j), fun d hd => ?_, ?_, fun b k q => ?_, rfl⟩
    · obtain ⟨d, rfl⟩ : ∃ e, d = e + 1 := ⟨d - 1, by omega⟩
      have l := l69 (sc := sc) d len (q_v G L wt P) (y_sI (y_sI h 43 6 (q_v G L wt P)) 43 0 (y_I (y_sI h 43 6 (q_v G L wt P)) 43 7)) 24 0 (by omega) (by omega)
      rw [show Int.toNat 0 = 0 from rfl, y_fill_0] at l
      rw [r d (by omega), l, yI_sI_o (by omega)]
      rfl
    · rw [ev]
      refine ⟨?_, fun _ => ⟨?_, fun w w1 w2 => ?_⟩⟩
      · rw [yI_fill_o (by omega), yI_sI_o (by omega), yI_sI_e ⟨rfl, rfl⟩]
        exact (if_neg (show ¬ q_v G L wt P < 0 by omega)).symm
      · rw [yI_fill_o (by omega), yI_sI_e ⟨rfl, rfl⟩]; exact e7
      · exact (yI_fill_e (by omega)).trans (e58 w w1 w2)
    · rw [yI_fill_o (by omega), yI_sI_o (by omega), yI_sI_o (by omega)]
  -- no better one
  have no : q_vis G L wt (q_lk G L) n P A = A → (∀ d, 1 ≤ d → y_se z_pg sc (d + 1) 69 [y_vr 43, y_vi len] h = some (none, h)) → ∃ h', (∀ d, 2 ≤ d → y_se z_pg sc d 69 [y_vr 43, y_vi len] h = some (none, h')) ∧ XA h' G (q_vis G L wt (q_lk G L) n P A) ∧ (∀ b k, ¬ ((b = 43 ∧ (k = 0 ∨ k = 6)) ∨ b = 44) → y_I h' b k = y_I h b k) ∧ h'.2 = h.2 := fun c1 r => by
    refine ⟨h, fun d hd => ?_, by rw [c1]; exact XAh, fun _ _ _ => rfl, rfl⟩
    obtain ⟨d, rfl⟩ : ∃ e, d = e + 1 := ⟨d - 1, by omega⟩
    exact r d (by omega)
  have nv : ¬ ((wt = 1 ∨ wt = 3) ∧ n ≠ 0) → ¬ q_v G L wt P < q_best A → q_vis G L wt (q_lk G L) n P A = A := fun c1 c2 => by
    unfold q_vis
    rw [if_neg c1, if_neg (fun q => c2 (lt.mpr q))]
  rcases (show wt = 0 ∨ wt = 1 ∨ wt = 2 ∨ wt = 3 by omega) with rfl | rfl | rfl | rfl
  · have ev : q_v G L 0 P = y_I h 43 7 := by rw [e7]; rfl
    have g3 : y_I h 43 3 = 0 := eg
    by_cases c : q_v G L 0 P < q_best A
    · refine up c (by omega) fun d hd => ?_
      rw [e69, b69_0, if_pos g3, e6, ← ev, if_pos c]
    · refine no (nv (by omega) c) fun d hd => ?_
      rw [e69, b69_0, if_pos g3, e6, ← ev, if_neg c]
  · have g3 : y_I h 43 3 = 2 := eg
    have r71 : ∀ d, 1 ≤ d → y_se z_pg sc d 71 [y_vr 59] h = some (some (y_vi (q_v G L 1 P)), h) := fun d hd => by
      rw [s71 d hd (Or.inr (Or.inr rfl)), q_mx_cg (g := q_re G P) (fun r r1 r2 => e59 r r1 (by omega))]
      rfl
    by_cases n0 : n = 0
    · by_cases c : q_v G L 1 P < q_best A
      · refine up c (by omega) fun d hd => ?_
        rw [e69, b69_0, if_neg (by omega), if_neg (by omega), if_pos g3, if_pos (by omega), r71 d hd, yci_s, e6, if_pos c]
      · refine no (nv (by omega) c) fun d hd => ?_
        rw [e69, b69_0, if_neg (by omega), if_neg (by omega), if_pos g3, if_pos (by omega), r71 d hd, yci_s, e6, if_neg c]
    · refine no (by unfold q_vis; rw [if_pos ⟨Or.inl rfl, n0⟩]) fun d hd => ?_
      rw [e69, b69_0, if_neg (by omega), if_neg (by omega), if_pos g3, if_neg (by omega), e6, if_neg (by omega)]
  · have g3 : y_I h 43 3 = 1 := eg
    have r71 : ∀ d, 1 ≤ d → y_se z_pg sc d 71 [y_vr 56] h = some (some (y_vi (q_v G L 2 P)), h) := fun d hd => by
      rw [s71 d hd (Or.inl rfl), q_mx_cg (g := q_lr G L P) (fun r r1 r2 => e56 r r1 (by omega))]
      rfl
    by_cases c : q_v G L 2 P < q_best A
    · refine up c (by omega) fun d hd => ?_
      rw [e69, b69_0, if_neg (by omega), if_pos g3, r71 d hd, yci_s, e6, if_pos c]
    · refine no (nv (by omega) c) fun d hd => ?_
      rw [e69, b69_0, if_neg (by omega), if_pos g3, r71 d hd, yci_s, e6, if_neg c]
  · have g3 : y_I h 43 3 = 3 := eg
    by_cases n0 : n = 0
    · by_cases c : q_v G L 3 P < q_best A
      · have c' : (0 : Int) < q_best A := c
        refine up c (by omega) fun d hd => ?_
        rw [e69, b69_0, if_neg (by omega), if_neg (by omega), if_neg (by omega), if_pos (by omega), e6, if_pos c']
        rfl
      · have c' : ¬ (0 : Int) < q_best A := c
        refine no (nv (by omega) c) fun d hd => ?_
        rw [e69, b69_0, if_neg (by omega), if_neg (by omega), if_neg (by omega), if_pos (by omega), e6, if_neg c']
    · refine no (by unfold q_vis; rw [if_pos ⟨Or.inr rfl, n0⟩]) fun d hd => ?_
      rw [e69, b69_0, if_neg (by omega), if_neg (by omega), if_neg (by omega), if_neg (by omega), e6, if_neg (by omega)]
end XS
