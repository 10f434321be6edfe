/-! PLANS THAT GO, where nobody minds after whom -/
def g_tm (G : u_G) (w t : Int) : Prop := (g_fr G (g_rd G w) ≤ t ∧ t + g_mn G w ≤ g_ti G (g_rd G w)) ∧ t + g_mn G w ≤ g_la G ∧ g_cm G (g_pt G w) ≤ t ∧ ¬ g_un G (g_pt G w) t (g_mn G w)
def g_go (G : u_G) (oc : Int) (P : u_P) : Prop :=
  (∀ w, 0 ≤ w → w < g_wm G → P w ≠ -9 → g_tm G w (P w)) ∧
  (∀ v w, 0 ≤ v → v < g_wm G → 0 ≤ w → w < g_wm G → v ≠ w → g_rd G v = g_rd G w → P v ≠ -9 → P w ≠ -9 → P v + g_mn G v ≤ P w ∨ P w + g_mn G w ≤ P v) ∧
  (oc = 1 → ∀ v w, 0 ≤ v → v < w → w < g_wm G → g_rd G v = g_rd G w → g_or G (g_rd G w) = 1 → P w ≠ -9 → P v ≠ -9 ∧ P v + g_mn G v ≤ P w) ∧
  (∀ w t, 0 ≤ w → w < g_wm G → g_rg G P w t → g_many G P (g_pt G w) t ≤ g_cp G (g_pt G w))
section GO
variable {G : u_G} {P Q : u_P} {L : Int → Prop} {E : Int → Int} {b0 oc wt : Int} {m : u_P → Int}
theorem un_iff (hg : g_ok G) {p t n : Int} (hn : 1 ≤ n) : g_un G p t n ↔ ∃ m, t ≤ m ∧ m < t + n ∧ g_un G p m 1 := by
  have ku := hg.2.2.2.2.1
  have kc := hg.2.2.2.2.2.2.2.2.2.2
  unfold g_un
  constructor
  · intro q
    obtain ⟨k, k1, k2, k3, k4, k5⟩ := u_any_iff.mp q
    have c := kc k k1 (by omega)
    rcases Int.le_total t (G 105 (Int.toNat ((3 * k) + 1))) with z | z
    · exact ⟨G 105 (Int.toNat ((3 * k) + 1)), z, k4, u_any_iff.mpr ⟨k, k1, k2, k3, by omega, by omega⟩⟩
    · exact ⟨t, by omega, by omega, u_any_iff.mpr ⟨k, k1, k2, k3, by omega, by omega⟩⟩
  · rintro ⟨m, m1, m2, q⟩
    obtain ⟨k, k1, k2, k3, k4, k5⟩ := u_any_iff.mp q
    exact u_any_iff.mpr ⟨k, k1, k2, k3, by omega, by omega⟩
theorem na_0 (hn : g_nm G = 0) {r q p : Int} : ¬ g_na G r q p := fun h => by
  unfold g_na at h
  rw [hn] at h
  exact h
theorem spo_0 (hn : g_nm G = 0) {w t : Int} : ¬ g_spo G P w t := fun h => by
  obtain ⟨v, -, -, -, -, -, q⟩ := u_any_iff.mp h
  exact na_0 hn q
theorem let_0 (hn : g_nm G = 0) {w t : Int} : q_let G P w t := ⟨spo_0 hn, fun _ _ _ _ _ _ q => na_0 hn q⟩
theorem go_bad (hg : g_ok G) (hn : g_nm G = 0) (g : g_go G 1 P) : g_bad G P = -9 := by
  have kw := hg.2.2.1
  obtain ⟨g1, g2, g3, g4⟩ := g
  unfold g_bad
  rw [u_find_none (by omega)]
  intro t t0 t1 q
  obtain ⟨w, w1, w2, r, q⟩ := u_any_iff.mp q
  have hw : w < g_wm G := by omega
  obtain ⟨⟨a1, a2⟩, a3, a4, a5⟩ := g1 w w1 hw r.1
  obtain ⟨k1, k2, k3, k4⟩ := hg.2.2.2.2.2.2.2.2.1 w w1 hw
  obtain ⟨r1, r2, r3⟩ := r
  refine q ⟨⟨⟨by omega, by omega⟩, by omega, by omega, fun z => a5 ((un_iff hg k3.1).mpr ⟨t, r2, r3, z⟩)⟩, ⟨g4 w t w1 hw ⟨r1, r2, r3⟩, fun z => ?_⟩, fun e => ⟨fun o => u_all_iff.mpr fun v v1 v2 ev => ?_, spo_0 hn⟩⟩
  · obtain ⟨v, v1, v2, v3, v4, v5, v6, v7⟩ := u_any_iff.mp z
    have := g2 v w v1 (by omega) w1 hw v3 v4 v5 r1
    omega
  · have := g3 rfl v w v1 (by omega) hw ev o r1
    omega
theorem bad_go (hg : g_ok G) (hp : p_ok G P) (hb : g_bad G P = -9) : g_go G 1 P := by
  have kw := hg.2.2.1
  have W : ∀ w t, 0 ≤ w → w < g_wm G → g_rg G P w t → g_well G P w t := fun w t w1 w2 r => by
    have p := hp w w1 w2
    obtain ⟨k1, k2, k3, k4⟩ := hg.2.2.2.2.2.2.2.2.1 w w1 w2
    obtain ⟨r1, r2, r3⟩ := r
    exact well_of hb hg w1 w2 (by omega) (by omega) ⟨r1, r2, r3⟩
  refine ⟨fun w w1 w2 z => ?_, fun v w v1 v2 w1 w2 vw e z y => ?_, fun _ v w v1 vw w2 e o z => ?_, fun w t w1 w2 r => (W w t w1 w2 r).2.1.1⟩
  · obtain ⟨k1, k2, k3, k4⟩ := hg.2.2.2.2.2.2.2.2.1 w w1 w2
    have a := (W w (P w) w1 w2 ⟨z, by omega, by omega⟩).1
    have b := (W w (P w + g_mn G w - 1) w1 w2 ⟨z, by omega, by omega⟩).1
    refine ⟨⟨a.1.1, by have := b.1.2; omega⟩, by have := b.2.1; omega, a.2.2.1, fun q => ?_⟩
    obtain ⟨m, m1, m2, m3⟩ := (un_iff hg k3.1).mp q
    exact (W w m w1 w2 ⟨z, m1, m2⟩).1.2.2.2 m3
  · obtain ⟨-, -, k3, -⟩ := hg.2.2.2.2.2.2.2.2.1 w w1 w2
    obtain ⟨-, -, l3, -⟩ := hg.2.2.2.2.2.2.2.2.1 v v1 v2
    refine Classical.byContradiction fun q => ?_
    rcases Int.le_total (P v) (P w) with le | le
    · exact (W w (P w) w1 w2 ⟨y, by omega, by omega⟩).2.1.2 (u_any_iff.mpr ⟨v, v1, by omega, vw, e, z, by omega, by omega⟩)
    · exact (W v (P v) v1 v2 ⟨z, by omega, by omega⟩).2.1.2 (u_any_iff.mpr ⟨w, w1, by omega, fun q => vw q.symm, e.symm, y, by omega, by omega⟩)
  · obtain ⟨-, -, k3, -⟩ := hg.2.2.2.2.2.2.2.2.1 w (by omega) w2
    have := ((W w (P w) (by omega) w2 ⟨z, by omega, by omega⟩).2.2 rfl).1 o
    exact u_all_iff.mp this v v1 (by omega) e
/-- what is reached from a row, by k more -/
def q_rc (G : u_G) (L : Int → Prop) (b0 oc : Int) : Nat → u_P → (Int → Int) → u_P → (Int → Int) → Prop
  | 0, P, E, P', E' => P' = P ∧ E' = E
  | k + 1, P, E, P', E' => ∃ w, (0 ≤ w ∧ w < g_wm G) ∧ q_ch G L b0 oc P E w ∧ q_rc G L b0 oc k (u_up P w (q_t G b0 P E w)) (q_up G E w (q_t G b0 P E w)) P' E'
theorem rc_in (hg : g_ok G) (hb : 0 ≤ b0) : ∀ {k : Nat} {P : u_P} {E : Int → Int} {P' : u_P} {E' : Int → Int}, q_rc G L b0 oc k P E P' E' → q_in G P E → q_in G P' E'
  | 0, _, _, _, _, ⟨e1, e2⟩, I => by rw [e1, e2]; exact I
  | k + 1, _, _, _, _, ⟨w, hw, c, r⟩, I => rc_in hg hb r (q_in_up hg hb I hw c.2.2)
theorem rc_lf : ∀ {k : Nat} {P : u_P} {E : Int → Int} {P' : u_P} {E' : Int → Int}, q_rc G L b0 oc k P E P' E' → q_lf G L P' + k = q_lf G L P
  | 0, _, _, _, _, ⟨e1, e2⟩ => by rw [e1]; omega
  | k + 1, _, _, _, _, ⟨w, hw, c, r⟩ => by
    have a := rc_lf r
    have b := q_lf_up (L := L) hw c.1.1 c.1.2 c.2.2
    omega
theorem q_lf_nn : 0 ≤ q_lf G L P := u_cnt_nn
/-- the walk never makes it worse -/
theorem tr_mono (hg : g_ok G) (hb : 0 ≤ b0) : ∀ (n : Nat) (P : u_P) (E : Int → Int) (A : q_A), q_in G P E → 0 ≤ A.1 → 0 ≤ (q_tr G L b0 oc wt m n P E A).1 ∧ (q_tr G L b0 oc wt m n P E A).1 ≤ A.1 := by
  have vis : ∀ (n : Nat) (P : u_P) (E : Int → Int) (A : q_A), q_in G P E → 0 ≤ A.1 → 0 ≤ (q_vis G L wt m n P A).1 ∧ (q_vis G L wt m n P A).1 ≤ A.1 := fun n P E A I h => by
    have b := q_v_bd (L := L) (wt := wt) hg I
    unfold q_vis
    by_cases c : (wt = 1 ∨ wt = 3) ∧ n ≠ 0
    · rw [if_pos c]; omega
    · rw [if_neg c]
      by_cases c2 : A.1 < 0 ∨ q_v G L wt P < A.1
      · rw [if_pos c2]
        show 0 ≤ q_v G L wt P ∧ q_v G L wt P ≤ A.1
        omega
      · rw [if_neg c2]; omega
  intro n
  induction n with
  | zero => exact vis 0
  | succ n ih =>
    intro P E A I h
    have v := vis (n + 1) P E A I h
    unfold q_tr
    refine u_fold_iv (I := fun B : q_A => 0 ≤ B.1 ∧ B.1 ≤ A.1) v fun B w w1 w2 hB => ?_
    by_cases c : q_ch G L b0 oc P E w
    · have kw := hg.2.2.1
      rw [if_pos c]
      have := ih _ _ B (q_in_up hg hb I ⟨w1, by omega⟩ c.2.2) hB.1
      omega
    · rw [if_neg c]; exact hB
theorem fold_hit {α : Type} {F : α → Int → α} {J : α → Prop} {w : Int} (hw : ∀ b, J (F b w)) : ∀ {n : Nat} {k : Int} {a : α}, (∀ b j, k ≤ j → j < k + n → J b → J (F b j)) → k ≤ w → w < k + n → J (u_fold F a k n)
  | 0, k, a, hj, h1, h2 => by omega
  | n + 1, k, a, hj, h1, h2 => by
    rw [u_fold_s]
    by_cases e : k = w
    · subst e
      exact u_fold_iv (hw a) fun b j z1 z2 hb => hj b j (by omega) (by omega) hb
    · exact fold_hit hw (fun b j z1 z2 hb => hj b j (by omega) (by omega) hb) (by omega) (by omega)
/-- as good as all that is reached -/
theorem tr_le (hg : g_ok G) (hb : 0 ≤ b0) : ∀ (n k : Nat) (P : u_P) (E : Int → Int) (A : q_A) (P' : u_P) (E' : Int → Int), q_in G P E → q_rc G L b0 oc k P E P' E' → k ≤ n → ((wt = 1 ∨ wt = 3) → k = n) → 0 ≤ (q_tr G L b0 oc wt m n P E A).1 ∧ (q_tr G L b0 oc wt m n P E A).1 ≤ q_v G L wt P' := by
  have kw := hg.2.2.1
  intro n k
  induction k generalizing n with
  | zero =>
    intro P E A P' E' I r hk hf
    obtain ⟨rfl, rfl⟩ := r
    have bv := q_v_bd (L := L) (wt := wt) hg I
    have v : 0 ≤ (q_vis G L wt m n P' A).1 ∧ (q_vis G L wt m n P' A).1 ≤ q_v G L wt P' := by
      unfold q_vis
      rw [if_neg (fun c => c.2 (hf c.1).symm)]
      by_cases c2 : A.1 < 0 ∨ q_v G L wt P' < A.1
      · rw [if_pos c2]
        show 0 ≤ q_v G L wt P' ∧ q_v G L wt P' ≤ q_v G L wt P'
        omega
      · rw [if_neg c2]; omega
    cases n with
    | zero => exact v
    | succ n =>
      unfold q_tr
      refine u_fold_iv (I := fun B : q_A => 0 ≤ B.1 ∧ B.1 ≤ q_v G L wt P') v fun B w w1 w2 hB => ?_
      by_cases c : q_ch G L b0 oc P' E' w
      · rw [if_pos c]
        have := tr_mono (L := L) (oc := oc) (wt := wt) (m := m) hg hb n _ _ B (q_in_up hg hb I ⟨w1, by omega⟩ c.2.2) hB.1
        omega
      · rw [if_neg c]; exact hB
  | succ k ih =>
    intro P E A P' E' I r hk hf
    obtain ⟨w, hw, c, r⟩ := r
    cases n with
    | zero => omega
    | succ n =>
      unfold q_tr
      have Iw := q_in_up hg hb I hw c.2.2
      refine (fold_hit (J := fun B : q_A => 0 ≤ B.1 ∧ B.1 ≤ q_v G L wt P') (w := w) (fun B => ?_) (n := (g_wm G).toNat) (k := 0) (fun B j j1 j2 hB => ?_) hw.1 (by omega))
      · rw [if_pos c]
        exact ih n _ _ B P' E' Iw r (by omega) (fun q => by have := hf q; omega)
      · by_cases cj : q_ch G L b0 oc P E j
        · rw [if_pos cj]
          have := tr_mono (L := L) (oc := oc) (wt := wt) (m := m) hg hb n _ _ B (q_in_up hg hb I ⟨j1, by omega⟩ cj.2.2) hB.1
          omega
        · rw [if_neg cj]; exact hB
/-- it is what it was, or a row's that is reached -/
theorem tr_or (hg : g_ok G) : ∀ (n : Nat) (P : u_P) (E : Int → Int) (A : q_A), q_tr G L b0 oc wt m n P E A = A ∨ ∃ k P' E', q_rc G L b0 oc k P E P' E' ∧ k ≤ n ∧ ((wt = 1 ∨ wt = 3) → k = n) ∧ q_tr G L b0 oc wt m n P E A = (q_v G L wt P', m P', P') := by
  have kw := hg.2.2.1
  have vis : ∀ (n : Nat) (P : u_P) (A : q_A), q_vis G L wt m n P A = A ∨ (((wt = 1 ∨ wt = 3) → n = 0) ∧ q_vis G L wt m n P A = (q_v G L wt P, m P, P)) := fun n P A => by
    unfold q_vis
    by_cases c : (wt = 1 ∨ wt = 3) ∧ n ≠ 0
    · rw [if_pos c]; exact Or.inl rfl
    · rw [if_neg c]
      by_cases c2 : A.1 < 0 ∨ q_v G L wt P < A.1
      · rw [if_pos c2]
        exact Or.inr ⟨fun q => Classical.byContradiction fun z => c ⟨q, z⟩, rfl⟩
      · rw [if_neg c2]; exact Or.inl rfl
  intro n
  induction n with
  | zero =>
    intro P E A
    rcases vis 0 P A with e | ⟨-, e⟩
    · exact Or.inl e
    · exact Or.inr ⟨0, P, E, ⟨rfl, rfl⟩, Nat.le_refl _, fun _ => rfl, e⟩
  | succ n ih =>
    intro P E A
    unfold q_tr
    refine u_fold_iv (I := fun B => B = A ∨ ∃ k P' E', q_rc G L b0 oc k P E P' E' ∧ k ≤ n + 1 ∧ ((wt = 1 ∨ wt = 3) → k = n + 1) ∧ B = (q_v G L wt P', m P', P')) ?_ fun B w w1 w2 hB => ?_
    · rcases vis (n + 1) P A with e | ⟨h, e⟩
      · exact Or.inl e
      · exact Or.inr ⟨0, P, E, ⟨rfl, rfl⟩, by omega, fun q => absurd (h q) (by omega), e⟩
    · by_cases c : q_ch G L b0 oc P E w
      · rw [if_pos c]
        rcases ih (u_up P w (q_t G b0 P E w)) (q_up G E w (q_t G b0 P E w)) B with e | ⟨k, P', E', r, k1, k2, e⟩
        · rw [e]; exact hB
        · exact Or.inr ⟨k + 1, P', E', ⟨w, ⟨w1, by omega⟩, c, r⟩, by omega, fun q => by have := k2 q; omega, e⟩
      · rw [if_neg c]; exact hB
end GO
