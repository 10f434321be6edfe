/-! THE BEST OF ALL, the model's: a row looked at -/
def MSA (h : y_Hp) (G : u_G) (A : q_A) : Prop := y_I h 94 43 = A.1 ∧ (0 ≤ A.1 → y_I h 94 44 = A.2.1 ∧ p_eq G (pl h 116) A.2.2)
noncomputable def m_mu (G : u_G) (P : u_P) : Int := g_ms G P (-9)
section MS
variable {sc : z_Sc} {h : y_Hp} {G : u_G} {L : Int → Prop} {b0 oc wt : Int} {P : u_P} {E : Int → Int} {A : q_A}
theorem l230 (d : Nat) (hd : 2 ≤ d) (hg : g_ok G) (I : q_in G P E) (Q : MSQ h G L b0 oc P E) : ∀ (n : Nat) (k a : Int), 0 ≤ k → k + n = g_wm G → (0 ≤ a ∧ a ≤ 9 * k) → y_ev z_pg sc d pgX8_missedLooked 4 [some (y_vr 94), some (y_vi a), some (y_vi k)] [] h = some (some (y_vi (a + u_sum (fun w => @ite _ (L w) (Classical.propDecidable _) (g_ls G P w) 0) k n)), h)
  | 0, k, a, hk, hn, ha => by
    obtain ⟨⟨rfl, e39⟩, -⟩ := Q
    rw [b230_4, hvwm, if_neg (by omega)]
    exact av_cg (by rw [u_sum_0]; omega)
  | n + 1, k, a, hk, hn, ha => by
    have ih := fun a ha => l230 d hd hg I Q n (k + 1) a (by omega) (by omega) ha
    have lb := g_ls_bd hg (q_in_ok hg I) (w := k) ⟨hk, by omega⟩
    obtain ⟨⟨rfl, e39⟩, ⟨e40, e41⟩, e111, ce⟩ := Q
    have kw := hg.2.2.1
    obtain ⟨k1, k2, k3, k4⟩ := hg.2.2.2.2.2.2.2.2.1 k hk (by omega)
    have pk : pl h 111 k = P k := e111 k hk (by omega)
    have pk' : y_I h 111 (Int.toNat k) = P k := pk
    have wo : y_I h 103 (Int.toNat (4 * k + 3)) = g_wo (hv h) k := rfl
    have lk := e39 k hk (by omega)
    rw [b230_4, hvwm, if_pos (by omega), s137 d (by omega) _ _ (by omega), yci_s]
    by_cases c : L k
    · rw [if_neg (by rw [bi_t (lk.mpr c)]; omega), yr_t (by omega), yr_t (by omega), yi_t (by omega), s191 d (by omega) k (by omega), yci_s, pk, wo]
      by_cases c2 : P k = -9
      · have ls : g_ls (hv h) P k = g_wo (hv h) k - 0 := by unfold g_ls; rw [if_pos c2]
        rw [if_pos (bi_f (fun q => q c2)), yr_t (by omega), yr_t (by omega), yr_t (by omega), ih _ (by omega)]
        exact av_cg (by rw [u_sum_s, if_pos c, ls]; omega)
      · have ik := I.1 k hk (by omega) c2
        have ls : g_ls (hv h) P k = g_wo (hv h) k - g_wa (hv h) k (P k) := by unfold g_ls; rw [if_neg c2]
        have wb := g_wa_bd hg (w := k) (t := P k) ⟨hk, by omega⟩ ik.1
        rw [if_neg (by rw [bi_t c2]; omega), yi_t (by omega), pk', s202 d hd k (P k) hg ⟨hk, by omega⟩ (by omega), yci_s, yr_t (by omega), yr_t (by omega), yr_t (by omega), ih _ (by omega)]
        exact av_cg (by rw [u_sum_s, if_pos c, ls]; omega)
    · rw [if_pos (bi_f (fun q => c (lk.mp q))), yr_t (by omega), yr_t (by omega), ih _ (by omega)]
      exact av_cg (by rw [u_sum_s, if_neg c]; omega)
theorem s230 (d : Nat) (hd : 3 ≤ d) (hg : g_ok G) (I : q_in G P E) (Q : MSQ h G L b0 oc P E) : y_se z_pg sc d 230 [y_vr 94] h = some (some (y_vi (q_lk G L P)), h) := by
  rcases d with _ | d
  · omega
  have kw := hg.2.2.1
  rw [e230, b230_0, l230 d (by omega) hg I Q (g_wm G).toNat 0 0 (by omega) (by omega) (by omega)]
  exact av_cg (by unfold q_lk; omega)
theorem l231 (d : Nat) (hd : 4 ≤ d) (hg : g_ok (hv h)) (hp : p_ok (hv h) (pl h 111)) : ∀ (n : Nat) (k a : Int), 0 ≤ k → k + n = g_rm (hv h) → y_ev z_pg sc d pgX8_worst 4 [some (y_vr 94), some (y_vi a), some (y_vi k)] [] h = some (some (y_vi (u_fold (fun s r => max s (g_ms (hv h) (pl h 111) r)) a k n)), h)
  | 0, k, a, hk, hn => by
    rw [b231_4, hvrm, if_neg (by omega)]
    rfl
  | n + 1, k, a, hk, hn => by
    have kr := hg.2.1
    have ih := fun a => l231 d hd hg hp n (k + 1) a (by omega) (by omega)
    rw [b231_4, hvrm, if_pos (by omega), s203 d (by omega) k hg hp, yci_s, s139 d (by omega), yci_s, yr_t (by omega), ih, u_fold_s]
theorem s231 (d : Nat) (hd : 5 ≤ d) (hg : g_ok G) (I : q_in G P E) (Q : MSQ h G L b0 oc P E) (hL : ∀ w, 0 ≤ w → w < g_wm G → L w) : y_se z_pg sc d 231 [y_vr 94] h = some (some (y_vi (q_mx (q_lr G L P) 8)), h) := by
  rcases d with _ | d
  · omega
  obtain ⟨⟨rfl, e39⟩, ⟨e40, e41⟩, e111, ce⟩ := Q
  have kw := hg.2.2.1
  have kr := hg.2.1
  have ok : p_ok (hv h) (pl h 111) := p_ok.cg (p_eq.symm e111) (q_in_ok hg I)
  rw [e231, b231_0, l231 d (by omega) hg ok (g_rm (hv h)).toNat 0 0 (by omega) (by omega)]
  have lr : ∀ r, 0 ≤ r → q_lr (hv h) L P r = g_ms (hv h) (pl h 111) r := fun r r1 => by
    rw [g_ms_cg e111]
    refine u_sum_cg fun j j1 j2 => ?_
    by_cases c : g_rd (hv h) j = r
    · rw [if_pos ⟨hL j j1 (by omega), c⟩, if_pos (Or.inr c)]
    · rw [if_neg (fun q => c q.2), if_neg (fun q => q.elim (fun q => by omega) c)]
  have l0 : ∀ r, g_rm (hv h) ≤ r → q_lr (hv h) L P r = 0 := fun r r1 => by
    unfold q_lr
    rw [u_sum_cg (g := fun _ => 0) fun j j1 j2 => ?_, u_sum_z]
    have := (hg.2.2.2.2.2.2.2.2.1 j j1 (by omega)).1
    exact if_neg (fun q => by have := q.2; omega)
  have key : ∀ T, u_fold (fun s r => max s (g_ms (hv h) (pl h 111) r)) 0 0 (g_rm (hv h)).toNat ≤ T ↔ q_mx (q_lr (hv h) L P) 8 ≤ T := fun T => by
    rw [mx_le, q_mx_le]
    refine and_congr_right fun t0 => ⟨fun q r r1 r2 => ?_, fun q r r1 r2 => ?_⟩
    · by_cases c : r < g_rm (hv h)
      · rw [lr r r1]; exact q r r1 (by omega)
      · rw [l0 r (by omega)]; exact t0
    · rw [← lr r r1]; exact q r r1 (by omega)
  exact av_cg (Int.le_antisymm ((key _).mpr (Int.le_refl _)) ((key _).mp (Int.le_refl _)))
def m_le (G : u_G) (P : u_P) (s w : Int) : Int := if P w ≠ -9 then max s (P w + g_mn G w) else s
theorem m_le_le {T : Int} : ∀ {n : Nat} {k s : Int}, u_fold (m_le G P) s k n ≤ T ↔ (s ≤ T ∧ ∀ w, k ≤ w → w < k + n → P w ≠ -9 → P w + g_mn G w ≤ T)
  | 0, k, s => ⟨fun h => ⟨h, fun w h1 h2 => by omega⟩, fun h => h.1⟩
  | n + 1, k, s => by
    rw [u_fold_s, m_le_le]
    unfold m_le
    by_cases c : P k = -9
    · rw [if_neg (fun q => q c)]
      refine and_congr Iff.rfl ⟨fun q w h1 h2 h3 => ?_, fun q w h1 h2 => q w (by omega) (by omega)⟩
      have : w ≠ k := fun e => h3 (by rw [e]; exact c)
      exact q w (by omega) (by omega) h3
    · rw [if_pos c]
      constructor
      · rintro ⟨a, b⟩
        refine ⟨by omega, fun w h1 h2 h3 => ?_⟩
        by_cases e : w = k
        · subst e; omega
        · exact b w (by omega) (by omega) h3
      · rintro ⟨a, b⟩
        have := b k (by omega) (by omega) c
        exact ⟨by omega, fun w h1 h2 => b w (by omega) (by omega)⟩
theorem l232 (d : Nat) (hd : 2 ≤ d) (hg : g_ok (hv h)) (hp : p_ok (hv h) (pl h 111)) : ∀ (n : Nat) (k a : Int), 0 ≤ k → k + n = g_wm (hv h) → y_ev z_pg sc d pgX8_lastEnd 4 [some (y_vr 94), some (y_vi a), some (y_vi k)] [] h = some (some (y_vi (u_fold (m_le (hv h) (pl h 111)) a k n)), h)
  | 0, k, a, hk, hn => by
    rw [b232_4, hvwm, if_neg (by omega)]
    rfl
  | n + 1, k, a, hk, hn => by
    have kw := hg.2.2.1
    have ih := fun a => l232 d hd hg hp n (k + 1) a (by omega) (by omega)
    rw [b232_4, hvwm, if_pos (by omega), s191 d (by omega) k (by omega), yci_s, u_fold_s]
    by_cases c : pl h 111 k = -9
    · rw [if_pos (bi_f (fun q => q c)), yr_t (by omega), ih, show m_le (hv h) (pl h 111) a k = a from if_neg (fun q => q c)]
    · rw [if_neg (by rw [bi_t c]; omega), s192 d hd k hg hp (by omega), yci_s, s139 d (by omega), yci_s, yr_t (by omega), ih, show m_le (hv h) (pl h 111) a k = _ from if_pos c]
theorem s232 (d : Nat) (hd : 3 ≤ d) (hg : g_ok G) (I : q_in G P E) (Q : MSQ h G L b0 oc P E) : y_se z_pg sc d 232 [y_vr 94] h = some (some (y_vi (q_end G P)), h) := by
  rcases d with _ | d
  · omega
  obtain ⟨⟨rfl, e39⟩, ⟨e40, e41⟩, e111, ce⟩ := Q
  have kw := hg.2.2.1
  have ok : p_ok (hv h) (pl h 111) := p_ok.cg (p_eq.symm e111) (q_in_ok hg I)
  rw [e232, b232_0, l232 d (by omega) hg ok (g_wm (hv h)).toNat 0 0 (by omega) (by omega)]
  have key : ∀ T, u_fold (m_le (hv h) (pl h 111)) 0 0 (g_wm (hv h)).toNat ≤ T ↔ q_end (hv h) P ≤ T := fun T => by
    rw [m_le_le, q_end_le hg]
    refine and_congr Iff.rfl ⟨fun q w w1 w2 w3 => ?_, fun q w w1 w2 w3 => ?_⟩
    · have := q w w1 (by omega) (by rw [e111 w w1 w2]; exact w3)
      rwa [e111 w w1 w2] at this
    · rw [e111 w w1 (by omega)] at w3 ⊢
      exact q w w1 (by omega) w3
  exact av_cg (Int.le_antisymm ((key _).mpr (Int.le_refl _)) ((key _).mp (Int.le_refl _)))
theorem s233 (hg : g_ok G) (I : q_in G P E) (Q : MSQ h G L b0 oc P E) (M : MSA h G A) (gd : q_good G A) (hwt : 0 ≤ wt ∧ wt ≤ 3) (hL : wt = 2 → ∀ w, 0 ≤ w → w < g_wm G → L w) (e42 : y_I h 94 42 = wt) (dl : Int) (n : Nat) (e45 : y_I h 94 45 = dl + n) : ∃ h', (∀ d, 7 ≤ d → y_se z_pg sc d 233 [y_vr 94, y_vi dl] h = some (none, h')) ∧ MSA h' G (q_vis G L wt (m_mu G) n P A) ∧ (∀ b k, ¬ ((b = 94 ∧ (k = 43 ∨ k = 44)) ∨ b = 116) → y_I h' b k = y_I h b k) ∧ h'.2 = h.2 := by
  have kw := hg.2.2.1
  have r35 : ∀ d v, 5 ≤ d → y_ev z_pg sc d pgX8_visit 35 [some (y_vr 94), some (y_vi dl), some (y_vi v), none] [] h = y_ev z_pg sc d pgX8_visit 80 [some (y_vr 94), some (y_vi dl), some (y_vi v), none] [y_vi (q_v G L wt P)] h := fun d v hd => by
    rw [b233_35, e42]
    rcases (show wt = 0 ∨ wt = 1 ∨ wt = 2 ∨ wt = 3 by omega) with rfl | rfl | rfl | rfl
    · rw [if_pos rfl, s230 d (by omega) hg I Q, yci_s]
      rfl
    · rw [if_neg (by omega), if_pos rfl, s232 d (by omega) hg I Q, yci_s]
      rfl
    · rw [if_neg (by omega), if_neg (by omega), if_pos rfl, s231 d (by omega) hg I Q (hL rfl), yci_s]
      rfl
    · rw [if_neg (by omega), if_neg (by omega), if_neg (by omega)]
      rfl
  have st : ∀ d, 5 ≤ d → y_se z_pg sc (d + 1) 233 [y_vr 94, y_vi dl] h = if (wt = 1 ∨ wt = 3) ∧ n ≠ 0 then some (none, h) else y_ev z_pg sc d pgX8_visit 80 [some (y_vr 94), some (y_vi dl), some (y_vi (if n = 0 then 1 else 0)), none] [y_vi (q_v G L wt P)] h := fun d hd => by
    have a13 : y_se z_pg sc (d + 1) 233 [y_vr 94, y_vi dl] h = y_ev z_pg sc d pgX8_visit 13 [some (y_vr 94), some (y_vi dl), none, none] [y_vi (if n = 0 then 1 else 0)] h := by
      rw [e233, b233_0, e45]
      by_cases c : n = 0
      · rw [if_pos (by omega), if_pos c]
      · rw [if_neg (by omega), if_neg c]
    rw [a13, b233_13, e42]
    have a30 : y_ev z_pg sc d pgX8_visit 30 [some (y_vr 94), some (y_vi dl), some (y_vi (if n = 0 then 1 else 0)), none] [] h = if n ≠ 0 then some (none, h) else y_ev z_pg sc d pgX8_visit 80 [some (y_vr 94), some (y_vi dl), some (y_vi (if n = 0 then 1 else 0)), none] [y_vi (q_v G L wt P)] h := by
      rw [b233_30]
      by_cases c : n = 0
      · rw [if_pos c, if_neg (by omega), if_neg (fun q => q c), r35 d _ hd]
      · rw [if_neg c, if_pos rfl, if_pos c]
    by_cases c1 : wt = 1
    · rw [if_pos c1, a30]
      by_cases c : n = 0
      · rw [if_neg (show ¬ n ≠ 0 from fun q => q c), if_neg (show ¬ ((wt = 1 ∨ wt = 3) ∧ n ≠ 0) from fun q => q.2 c)]
      · rw [if_pos c, if_pos ⟨Or.inl c1, c⟩]
    · rw [if_neg c1]
      by_cases c3 : wt = 3
      · rw [if_pos c3, a30]
        by_cases c : n = 0
        · rw [if_neg (show ¬ n ≠ 0 from fun q => q c), if_neg (show ¬ ((wt = 1 ∨ wt = 3) ∧ n ≠ 0) from fun q => q.2 c)]
        · rw [if_pos c, if_pos ⟨Or.inr c3, c⟩]
      · rw [if_neg c3, if_neg (show ¬ ((wt = 1 ∨ wt = 3) ∧ n ≠ 0) from fun q => q.1.elim c1 c3), r35 d _ hd]
  unfold q_vis
  by_cases c : (wt = 1 ∨ wt = 3) ∧ n ≠ 0
  · rw [if_pos c]
    refine ⟨h, fun d hd => ?_, M, fun _ _ _ => rfl, rfl⟩
    obtain ⟨d, rfl⟩ : ∃ e, d = e + 1 := ⟨d - 1, by omega⟩
    rw [st d (by omega), if_pos c]
  · rw [if_neg c]
    by_cases z : A.1 < 0 ∨ q_v G L wt P < A.1
    · rw [if_pos z]
      have QQ := Q
      obtain ⟨⟨rfl, e39⟩, ⟨e40, e41⟩, e111, ce⟩ := Q
      have e1 : hv (y_sI h 94 43 (q_v (hv h) L wt P)) = hv h := hv_cg fun b k q => yI_sI_o (by unfold RG at q; omega)
      have e2 : pl (y_sI h 94 43 (q_v (hv h) L wt P)) 111 = pl h 111 := pl_o (by omega)
      have ok : p_ok (hv h) (pl h 111) := p_ok.cg (p_eq.symm e111) (q_in_ok hg I)
      have s203' := fun d hd => s203 (sc := sc) (h := y_sI h 94 43 (q_v (hv h) L wt P)) d hd (-9) (by rw [e1]; exact hg) (by rw [e1, e2]; exact ok)
      rw [e1, e2, g_ms_cg e111] at s203'
      have vb := q_v_bd (L := L) (wt := wt) hg I
      refine ⟨y_fill (y_sI (y_sI h 94 43 (q_v (hv h) L wt P)) 94 44 (g_ms (hv h) P (-9))) 116 0 24 (fun j => y_I h 111 j), fun d hd => ?_, ⟨?_, fun _ => ⟨?_, fun w w1 w2 => ?_⟩⟩, fun b k q => ?_, rfl⟩
      · obtain ⟨d, rfl⟩ : ∃ e, d = e + 1 := ⟨d - 1, by omega⟩
        have s221' := s221 (sc := sc) (h := y_sI (y_sI h 94 43 (q_v (hv h) L wt P)) 94 44 (g_ms (hv h) P (-9))) d (by omega) 116 (Or.inr rfl)
        have e111' : (fun j => y_I (y_sI (y_sI h 94 43 (q_v (hv h) L wt P)) 94 44 (g_ms (hv h) P (-9))) 111 j) = fun j => y_I h 111 j := funext fun j => by rw [yI_sI_o (by omega), yI_sI_o (by omega)]
        rw [e111'] at s221'
        have r96 : ∀ v, y_ev z_pg sc d pgX8_visit 96 [some (y_vr 94), some (y_vi dl), some (y_vi v), some (y_vi (q_v (hv h) L wt P))] [] h = some (none, y_fill (y_sI (y_sI h 94 43 (q_v (hv h) L wt P)) 94 44 (g_ms (hv h) P (-9))) 116 0 24 (fun j => y_I h 111 j)) := fun v => by
          rw [b233_96, s203' d (by omega), yci_s, s221', ycv_s, b233_119]
        rw [st d (by omega), if_neg c, b233_80, M.1]
        by_cases n9 : A.1 < 0
        · rw [if_pos n9, r96]
        · rw [if_neg n9, if_pos (z.resolve_left n9), r96]
      · rw [yI_fill_o (by omega), yI_sI_o (by omega), yI_sI_e ⟨rfl, rfl⟩]
      · rw [yI_fill_o (by omega), yI_sI_e ⟨rfl, rfl⟩]
        rfl
      · exact (yI_fill_e (by omega)).trans (e111 w w1 w2)
      · rw [yI_fill_o (by omega), yI_sI_o (by omega), yI_sI_o (by omega)]
    · rw [if_neg z]
      refine ⟨h, fun d hd => ?_, M, fun _ _ _ => rfl, rfl⟩
      obtain ⟨d, rfl⟩ : ∃ e, d = e + 1 := ⟨d - 1, by omega⟩
      rw [st d (by omega), if_neg c, b233_80, M.1, if_neg (fun q => z (Or.inl q)), if_neg (fun q => z (Or.inr q)), b233_119]
theorem MSQ_cg {h' : y_Hp} (Q : MSQ h G L b0 oc P E) (e : ∀ b k, (RG b k ∨ (b = 94 ∧ 39 ≤ k ∧ k ≤ 41) ∨ b = 111 ∨ b = 117) → y_I h' b k = y_I h b k) : MSQ h' G L b0 oc P E := by
  obtain ⟨⟨e0, e39⟩, ⟨e40, e41⟩, e111, ce⟩ := Q
  have p1 : pl h' 111 = pl h 111 := funext fun w => e _ _ (Or.inr (Or.inr (Or.inl rfl)))
  have p2 : pl h' 117 = pl h 117 := funext fun w => e _ _ (Or.inr (Or.inr (Or.inr rfl)))
  refine ⟨⟨(hv_cg fun b k q => e b k (Or.inl q)).trans e0, fun w w1 w2 => ?_⟩, ⟨?_, ?_⟩, by rw [p1]; exact e111, by rw [p2]; exact ce⟩
  · rw [e _ _ (Or.inr (Or.inl ⟨rfl, by omega, by omega⟩))]; exact e39 w w1 w2
  · rw [e _ _ (Or.inr (Or.inl ⟨rfl, by omega, by omega⟩))]; exact e40
  · rw [e _ _ (Or.inr (Or.inl ⟨rfl, by omega, by omega⟩))]; exact e41
end MS
