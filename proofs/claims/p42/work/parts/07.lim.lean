/-! the runs grow with their steps; the limit's equation -/
def z_leC (C D : z_C) : Prop := ∀ M as h r, C M as h = some r → D M as h = some r
def z_leK (C D : z_K) : Prop := ∀ pc ls st h r, C pc ls st h = some r → D pc ls st h = some r
theorem z_rt_le {q pc : Nat} {o o' : z_O} {K K' : z_K} {ls : z_Ls} {st : List z_V} (ho : ∀ r, o = some r → o' = some r) (hK : z_leK K K') {r : z_R} (h : z_rt q o K pc ls st = some r) : z_rt q o' K' pc ls st = some r := by
  unfold z_rt z_ci z_cl z_cv at h ⊢
  rcases o with _ | ⟨_ | x | x | x, h1⟩
  · split at h <;> cases h
  · rw [ho _ rfl]
    split at h
    · cases h
    · cases h
    · exact hK _ _ _ _ _ h
  · rw [ho _ rfl]
    split at h
    · exact hK _ _ _ _ _ h
    · cases h
    · cases h
  · rw [ho _ rfl]
    split at h <;> cases h
  · rw [ho _ rfl]
    split at h
    · cases h
    · exact hK _ _ _ _ _ h
    · cases h
theorem z_do_le {a : z_A} {C C' : z_C} {K K' : z_K} (hC : z_leC C C') (hK : z_leK K K') {r : z_R} (h : z_do a C K = some r) : z_do a C' K' = some r := by
  rcases a with _ | ⟨s | s | s⟩
  · exact h
  · exact hK _ _ _ _ _ h
  · exact h
  · exact z_rt_le (fun r hr => hC _ _ _ _ hr) hK h
theorem z_st_le {sc : z_Sc} {en : Option z_En} {C C' : z_C} {K K' : z_K} (hC : z_leC C C') (hK : z_leK K K') {pc : Nat} {ls : z_Ls} {st : List z_V} {h : z_Hp} {r : z_R} (hr : z_st sc C K en pc ls st h = some r) : z_st sc C' K' en pc ls st h = some r := by
  obtain ⟨a, ha, -⟩ := z_fm sc en pc ls st h
  have h1 := ha C K
  have h2 := ha C' K'
  dsimp only at h1 h2
  rw [h1] at hr
  rw [h2]
  exact z_do_le hC hK hr
theorem z_rn_C {sc : z_Sc} {C C' : z_C} (hC : z_leC C C') (L : z_Pg) : ∀ n, z_leK (z_rn sc C L n) (z_rn sc C' L n)
  | 0 => fun _ _ _ _ _ h => h
  | n + 1 => fun _ _ _ _ _ h => z_st_le hC (z_rn_C hC L n) h
theorem z_rn_s {sc : z_Sc} {C : z_C} (L : z_Pg) : ∀ n, z_leK (z_rn sc C L n) (z_rn sc C L (n + 1))
  | 0 => fun _ _ _ _ _ h => by cases h
  | n + 1 => fun _ _ _ _ _ h => z_st_le (fun _ _ _ _ h => h) (z_rn_s L n) h
theorem z_ca_s {P : Nat → z_Pg} {sc : z_Sc} (n : Nat) : ∀ d, z_leC (z_ca P sc n d) (z_ca P sc (n + 1) d)
  | 0 => fun _ _ _ _ h => h
  | d + 1 => fun M as _ _ h => by
    unfold z_ca at h ⊢
    cases hb : Nat.ble (z_lay as).length (z_ml M)
    · rw [hb] at h
      cases h
    · rw [hb] at h
      exact z_rn_C (z_ca_s n d) _ _ _ _ _ _ _ (z_rn_s _ n _ _ _ _ _ h)
theorem z_run_s {P : Nat → z_Pg} {sc : z_Sc} {d : Nat} {L : z_Pg} (n : Nat) : z_leK (z_rn sc (z_ca P sc n d) L n) (z_rn sc (z_ca P sc (n + 1) d) L (n + 1)) := fun _ _ _ _ _ h => z_rn_C (z_ca_s n d) L _ _ _ _ _ _ (z_rn_s L n _ _ _ _ _ h)
theorem z_se_iff {P : Nat → z_Pg} {sc : z_Sc} {d M : Nat} {as : List z_V} {h : z_Hp} {r : z_R} : z_se P sc d M as h = some r ↔ ∃ n, z_ca P sc n d M as h = some r := z_lim_some (fun n r hr => z_ca_s n d _ _ _ _ hr) r
theorem z_ev_iff {P : Nat → z_Pg} {sc : z_Sc} {d : Nat} {L : z_Pg} {pc : Nat} {ls : z_Ls} {st : List z_V} {h : z_Hp} {r : z_R} : z_ev P sc d L pc ls st h = some r ↔ ∃ n, z_rn sc (z_ca P sc n d) L n pc ls st h = some r := z_lim_some (fun n r hr => z_run_s n _ _ _ _ _ hr) r
theorem z_o_ext {a b : z_O} (h : ∀ r, a = some r ↔ b = some r) : a = b := by
  rcases a with _ | a
  · rcases b with _ | b
    · rfl
    · exact ((h b).mpr rfl)
  · exact ((h a).mp rfl).symm
theorem z_ca_le {P : Nat → z_Pg} {sc : z_Sc} {n k d : Nat} (hk : n ≤ k) : z_leC (z_ca P sc n d) (z_ca P sc k d) := fun M as h r hr => z_mono_le (f := fun n => z_ca P sc n d M as h) (fun n r hr => z_ca_s n d _ _ _ _ hr) hk hr
theorem z_rn_le {P : Nat → z_Pg} {sc : z_Sc} {L : z_Pg} {n k d : Nat} (hk : n ≤ k) : z_leK (z_rn sc (z_ca P sc n d) L n) (z_rn sc (z_ca P sc k d) L k) := fun pc ls st h r hr => z_mono_le (f := fun n => z_rn sc (z_ca P sc n d) L n pc ls st h) (fun n r hr => z_run_s n _ _ _ _ _ hr) hk hr
/-- what is reached in the limit of the calls and of what goes on is reached at some number of steps -/
theorem z_do_lim {P : Nat → z_Pg} {sc : z_Sc} {d : Nat} {L : z_Pg} {a : z_A} {r : z_R} (h : z_do a (z_se P sc d) (z_ev P sc d L) = some r) : ∃ n, z_do a (z_ca P sc n d) (z_rn sc (z_ca P sc n d) L n) = some r := by
  rcases a with _ | ⟨s | s | s⟩
  · cases h
  · exact z_ev_iff.mp h
  · exact ⟨0, h⟩
  · obtain ⟨x, as, h0, q, pc, ls, st⟩ := s
    show ∃ n, z_rt q (z_ca P sc n d x as h0) (z_rn sc (z_ca P sc n d) L n) pc ls st = some r
    have h' : z_rt q (z_se P sc d x as h0) (z_ev P sc d L) pc ls st = some r := h
    rcases ho : z_se P sc d x as h0 with _ | ⟨v, h1⟩
    · rw [ho] at h'
      unfold z_rt z_ci z_cl z_cv at h'
      split at h' <;> cases h'
    · obtain ⟨n1, hn1⟩ := z_se_iff.mp ho
      rw [ho] at h'
      have key : ∃ n2, z_rt q (some (v, h1)) (z_rn sc (z_ca P sc n2 d) L n2) pc ls st = some r := by
        unfold z_rt z_ci z_cl z_cv at h' ⊢
        split at h' <;> split at h' <;> first | exact z_ev_iff.mp h' | cases h' | skip
        all_goals (rename_i he; cases he; exact z_ev_iff.mp h')
      obtain ⟨n2, hn2⟩ := key
      refine ⟨max n1 n2, ?_⟩
      refine z_rt_le (o := some (v, h1)) (fun r hr => ?_) (z_rn_le (Nat.le_max_right n1 n2)) hn2
      rw [← hr]
      exact z_ca_le (Nat.le_max_left n1 n2) _ _ _ _ hn1
/-- THE EQUATION -/
theorem z_ev_eq (P : Nat → z_Pg) (sc : z_Sc) (d : Nat) (L : z_Pg) (pc : Nat) (ls : z_Ls) (st : List z_V) (h : z_Hp) : z_ev P sc d L pc ls st h = z_st sc (z_se P sc d) (z_ev P sc d L) (z_gt L pc) pc ls st h := by
  obtain ⟨a, ha, -⟩ := z_fm sc (z_gt L pc) pc ls st h
  have e : ∀ C K, z_st sc C K (z_gt L pc) pc ls st h = z_do a C K := ha
  refine z_o_ext fun r => ⟨fun hr => ?_, fun hr => ?_⟩
  · obtain ⟨n, hn⟩ := z_ev_iff.mp hr
    cases n with
    | zero => cases hn
    | succ n =>
      have h1 : z_st sc (z_ca P sc (n + 1) d) (z_rn sc (z_ca P sc (n + 1) d) L n) (z_gt L pc) pc ls st h = some r := hn
      refine z_st_le (fun _ _ _ _ q => z_se_iff.mpr ⟨_, q⟩) (fun pc ls st h r q => z_ev_iff.mpr ⟨n + 1, z_rn_s L n _ _ _ _ _ q⟩) h1
  · rw [e] at hr
    obtain ⟨n, hn⟩ := z_do_lim hr
    refine z_ev_iff.mpr ⟨n + 1, ?_⟩
    show z_st sc (z_ca P sc (n + 1) d) (z_rn sc (z_ca P sc (n + 1) d) L n) (z_gt L pc) pc ls st h = some r
    rw [e]
    exact z_do_le (z_ca_s n d) (z_rn_C (z_ca_s n d) L n) hn
theorem z_se_eq (P : Nat → z_Pg) (sc : z_Sc) (d M : Nat) (as : List z_V) (h : z_Hp) (hb : Nat.ble (z_lay as).length (z_ml M) = true) : z_se P sc (d + 1) M as h = z_ev P sc d (P M) 0 (z_ent as (z_ml M)) [] h := by
  show z_lim (fun n => z_gd (Nat.ble (z_lay as).length (z_ml M)) (z_rn sc (z_ca P sc n d) (P M) n 0 (z_ent as (z_ml M)) [] h)) = _
  rw [hb]
  rfl
/-- so many steps unfolded, but not beyond the places that are named -/
def z_has (l : List Nat) (k : Nat) : Bool := match l with
  | [] => false
  | x :: r => match Nat.beq x k with
    | true => true
    | false => z_has r k
def z_un (sc : z_Sc) (C : z_C) (E : z_K) (L : z_Pg) (stops : List Nat) : Nat → z_K
  | 0 => E
  | k + 1 => fun pc ls st h => z_st sc C (fun pc' ls' st' h' => match z_has stops pc' with
    | true => E pc' ls' st' h'
    | false => z_un sc C E L stops k pc' ls' st' h') (z_gt L pc) pc ls st h
theorem z_un_eq (P : Nat → z_Pg) (sc : z_Sc) (d : Nat) (L : z_Pg) (stops : List Nat) : ∀ (k pc : Nat) (ls : z_Ls) (st : List z_V) (h : z_Hp), z_ev P sc d L pc ls st h = z_un sc (z_se P sc d) (z_ev P sc d L) L stops k pc ls st h
  | 0, _, _, _, _ => rfl
  | k + 1, pc, ls, st, h => by
    rw [z_ev_eq]
    unfold z_un
    congr 1
    funext pc' ls' st' h'
    split
    · rfl
    · exact z_un_eq P sc d L stops k pc' ls' st' h'
/-- the cells' number never falls -/
theorem z_do_ge {h0 : z_Hp} {a : z_A} (hg : z_ge h0 a) {C : z_C} {K : z_K} (hC : ∀ M as h r, C M as h = some r → h.1 ≤ r.2.1) (hK : ∀ pc ls st h r, K pc ls st h = some r → h.1 ≤ r.2.1) {r : z_R} (h : z_do a C K = some r) : h0.1 ≤ r.2.1 := by
  rcases a with _ | ⟨s | s | s⟩
  · cases h
  · exact Nat.le_trans hg (hK _ _ _ _ _ h)
  · cases h
    exact hg
  · obtain ⟨x, as, h1, q, pc, ls, st⟩ := s
    have h' : z_rt q (C x as h1) K pc ls st = some r := h
    have hg' : h0.1 ≤ h1.1 := hg
    rcases ho : C x as h1 with _ | ⟨v, h2⟩
    · rw [ho] at h'
      unfold z_rt z_ci z_cl z_cv at h'
      split at h' <;> cases h'
    · have h3 : h1.1 ≤ h2.1 := hC _ _ _ _ ho
      rw [ho] at h'
      have h4 : h2.1 ≤ r.2.1 := by
        unfold z_rt z_ci z_cl z_cv at h'
        split at h' <;> split at h' <;> first | exact hK _ _ _ _ _ h' | cases h' | skip
        all_goals (rename_i he; cases he; exact hK _ _ _ _ _ h')
      omega
theorem z_rn_ge {sc : z_Sc} {C : z_C} {L : z_Pg} (hC : ∀ M as h r, C M as h = some r → h.1 ≤ r.2.1) : ∀ n pc ls st h r, z_rn sc C L n pc ls st h = some r → h.1 ≤ r.2.1
  | 0, _, _, _, _, _, q => by cases q
  | n + 1, pc, ls, st, h, r, q => by
    obtain ⟨a, ha, hg⟩ := z_fm sc (z_gt L pc) pc ls st h
    have e : ∀ C K, z_st sc C K (z_gt L pc) pc ls st h = z_do a C K := ha
    have q' : z_st sc C (z_rn sc C L n) (z_gt L pc) pc ls st h = some r := q
    rw [e] at q'
    exact z_do_ge hg hC (z_rn_ge hC n) q'
theorem z_ca_ge {P : Nat → z_Pg} {sc : z_Sc} {n : Nat} : ∀ d M as h r, z_ca P sc n d M as h = some r → h.1 ≤ r.2.1
  | 0, _, _, _, _, q => by cases q
  | d + 1, M, as, _, _, q => by
    unfold z_ca at q
    cases hb : Nat.ble (z_lay as).length (z_ml M)
    · rw [hb] at q
      cases q
    · rw [hb] at q
      exact z_rn_ge (z_ca_ge d) _ _ _ _ _ _ q
