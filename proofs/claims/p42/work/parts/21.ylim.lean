theorem y_mono_add {f : Nat → y_O} (hm : ∀ n r, f n = some r → f (n + 1) = some r) : ∀ (k n : Nat) (r : y_R), f n = some r → f (n + k) = some r
  | 0, _, _, h => h
  | k + 1, n, r, h => hm _ _ (y_mono_add hm k n r h)
theorem y_mono_le {f : Nat → y_O} (hm : ∀ n r, f n = some r → f (n + 1) = some r) {n k : Nat} {r : y_R} (hk : n ≤ k) (h : f n = some r) : f k = some r := by
  have := y_mono_add hm (k - n) n r h
  rwa [show n + (k - n) = k by omega] at this
theorem y_lim_some {f : Nat → y_O} (hm : ∀ n r, f n = some r → f (n + 1) = some r) (r : y_R) : y_lim f = some r ↔ ∃ n, f n = some r := by
  unfold y_lim
  by_cases h : ∃ n r, f n = some r
  · rw [dif_pos h]
    have h1 := h.choose_spec.choose_spec
    constructor
    · intro e
      cases e
      exact ⟨_, h1⟩
    · rintro ⟨n, hn⟩
      have a := y_mono_le hm (Nat.le_max_left n h.choose) hn
      have b := y_mono_le hm (Nat.le_max_right n h.choose) h1
      rw [a] at b
      cases b
      rfl
  · rw [dif_neg h]
    constructor
    · intro e
      cases e
    · rintro ⟨n, hn⟩
      exact absurd ⟨n, r, hn⟩ h
/-! what an instruction does, whatever goes on behind it -/
abbrev y_A : Type := Option ((Nat × y_Ls × List y_V × y_Hp) ⊕ (y_R ⊕ (Nat × List y_V × y_Hp × Nat × Nat × y_Ls × List y_V)))
def y_do (a : y_A) (C : y_C) (K : y_K) : y_O := match a with
  | none => none
  | some (.inl s) => K s.1 s.2.1 s.2.2.1 s.2.2.2
  | some (.inr (.inl r)) => some r
  | some (.inr (.inr s)) => y_rt s.2.2.2.1 (C s.1 s.2.1 s.2.2.1) K s.2.2.2.2.1 s.2.2.2.2.2.1 s.2.2.2.2.2.2
def y_Fm (f : y_C → y_K → y_O) : Prop := ∃ a : y_A, ∀ C K, f C K = y_do a C K
theorem yf_none : y_Fm (fun _ _ => none) := ⟨none, fun _ _ => rfl⟩
theorem yf_some {r : y_R} : y_Fm (fun _ _ => some r) := ⟨some (.inr (.inl r)), fun _ _ => rfl⟩
theorem yf_K {h' : y_Hp} {pc : Nat} {ls : y_Ls} {st : List y_V} : y_Fm (fun _ K => K pc ls st h') := ⟨some (.inl (pc, ls, st, h')), fun _ _ => rfl⟩
theorem yf_rt {h' : y_Hp} {q x pc : Nat} {as : List y_V} {ls : y_Ls} {r : List y_V} : y_Fm (fun C K => y_rt q (C x as h') K pc ls r) := ⟨some (.inr (.inr (x, as, h', q, pc, ls, r))), fun _ _ => rfl⟩
theorem yf_ite {c : Prop} [i : Decidable c] {f g : y_C → y_K → y_O} (hf : y_Fm f) (hg : y_Fm g) : y_Fm (fun C K => if c then f C K else g C K) := by
  by_cases q : c
  · simp only [if_pos q]
    exact hf
  · simp only [if_neg q]
    exact hg
theorem yf_in {i : Int} {n : Nat} {f : y_C → y_K → y_O} (hf : y_Fm f) : y_Fm (fun C K => y_in i n (f C K)) := yf_ite hf yf_none
theorem yf_rg {v : Int} {f : y_C → y_K → y_O} (hf : y_Fm f) : y_Fm (fun C K => y_rg v (f C K)) := yf_ite hf yf_none
theorem yf_b1 {v : Int} {f : y_C → y_K → y_O} (hf : y_Fm f) : y_Fm (fun C K => y_b1 v (f C K)) := yf_ite hf yf_none
theorem yf_nz {v : Int} {f : y_C → y_K → y_O} (hf : y_Fm f) : y_Fm (fun C K => y_nz v (f C K)) := yf_ite yf_none hf
theorem yf_nl {v : Int64} {f : y_C → y_K → y_O} (hf : y_Fm f) : y_Fm (fun C K => y_nl v (f C K)) := yf_ite yf_none hf
theorem yf_cg {sp dp n : Int} {p q : Nat} {f : y_C → y_K → y_O} (hf : y_Fm f) : y_Fm (fun C K => y_cg sp dp n p q (f C K)) := yf_ite hf yf_none
theorem yf_sg {b : Bool} {f : y_C → y_K → y_O} (hf : y_Fm f) : y_Fm (fun C K => y_sg b (f C K)) := by
  cases b
  · exact yf_none
  · exact hf
theorem yf_kt {a t : Nat} {f : y_C → y_K → y_O} (hf : y_Fm f) : y_Fm (fun C K => y_kt a t (f C K)) := by
  unfold y_kt
  cases Nat.beq (z_kd a).1 t
  · exact yf_none
  · exact hf
theorem yf_ldi {ls : y_Ls} {k : Nat} {f : Int → y_C → y_K → y_O} (hf : ∀ x, y_Fm (f x)) : y_Fm (fun C K => y_ldi ls k (fun x => f x C K)) := by
  unfold y_ldi
  rcases ls[k]? with _ | _ | x | x | x
  all_goals first | exact yf_none | exact hf x
theorem yf_ldr {ls : y_Ls} {k : Nat} {f : Nat → y_C → y_K → y_O} (hf : ∀ x, y_Fm (f x)) : y_Fm (fun C K => y_ldr ls k (fun x => f x C K)) := by
  unfold y_ldr
  rcases ls[k]? with _ | _ | x | x | x
  all_goals first | exact yf_none | exact hf x
theorem yf_ldl {ls : y_Ls} {k : Nat} {f : Int64 → y_C → y_K → y_O} (hf : ∀ x, y_Fm (f x)) : y_Fm (fun C K => y_ldl ls k (fun x => f x C K)) := by
  unfold y_ldl
  rcases ls[k]? with _ | _ | x | x | x
  all_goals first | exact yf_none | exact hf x
theorem yf_pi {st : List y_V} {f : Int → List y_V → y_C → y_K → y_O} (hf : ∀ x r, y_Fm (f x r)) : y_Fm (fun C K => y_pi st (fun x r => f x r C K)) := by
  unfold y_pi
  rcases st with _ | ⟨x | x | x, r⟩
  all_goals first | exact yf_none | exact hf x r
theorem yf_pr {st : List y_V} {f : Nat → List y_V → y_C → y_K → y_O} (hf : ∀ x r, y_Fm (f x r)) : y_Fm (fun C K => y_pr st (fun x r => f x r C K)) := by
  unfold y_pr
  rcases st with _ | ⟨x | x | x, r⟩
  all_goals first | exact yf_none | exact hf x r
theorem yf_pl {st : List y_V} {f : Int64 → List y_V → y_C → y_K → y_O} (hf : ∀ x r, y_Fm (f x r)) : y_Fm (fun C K => y_pl st (fun x r => f x r C K)) := by
  unfold y_pl
  rcases st with _ | ⟨x | x | x, r⟩
  all_goals first | exact yf_none | exact hf x r
theorem yf_rc {as : List y_V} {c : Nat} {f : y_C → y_K → y_O} (hf : y_Fm f) : y_Fm (fun C K => y_rc as c (f C K)) := by
  unfold y_rc
  rcases as with _ | ⟨x | x | x, r⟩
  all_goals first | exact yf_none | exact yf_kt hf
theorem yf_br {c : Jvm.ClassFile.Cond} {x y : Int} {f g : y_C → y_K → y_O} (hf : y_Fm f) (hg : y_Fm g) : y_Fm (fun C K => y_br c x y (f C K) (g C K)) := by
  unfold y_br
  cases c
  · exact yf_ite hf hg
  · exact yf_ite hg hf
  · exact yf_ite hf hg
  · exact yf_ite hg hf
  · exact yf_ite hf hg
  · exact yf_ite hg hf
theorem yf_sw {h : y_Hp} {ls : y_Ls} {st : List y_V} {pc : Nat} {x : Int} {d : Int} : ∀ l : List (Int × Int), y_Fm (fun _ K => y_sw (fun p => K p ls st h) pc x d l)
  | [] => yf_K
  | q :: r => by
    unfold y_sw
    exact yf_ite yf_K (yf_sw r)
theorem y_fm0 (ins : Jvm.ClassFile.Instr) (x y pc : Nat) (ls : y_Ls) (st : List y_V) (h : y_Hp) : y_Fm (fun _ K => y_i0 K ins x y pc ls st h) := by
  unfold y_i0
  split
  all_goals first
    | exact yf_none
    | exact yf_K
    | exact yf_ldi fun _ => yf_K
    | exact yf_ldi fun _ => yf_sg (yf_rg yf_K)
    | exact yf_ldr fun _ => yf_K
    | exact yf_ldl fun _ => yf_K
    | exact yf_pi fun _ _ => yf_sg yf_K
    | exact yf_pr fun _ _ => yf_sg yf_K
    | exact yf_pl fun _ _ => yf_sg yf_K
    | (split <;> first | exact yf_none | exact yf_K | exact yf_sg yf_K)
theorem y_fm1 (ins : Jvm.ClassFile.Instr) (pc : Nat) (ls : y_Ls) (st : List y_V) (h : y_Hp) : y_Fm (fun _ K => y_i1 K ins pc ls st h) := by
  unfold y_i1
  split
  all_goals first
    | exact yf_none
    | exact yf_pi fun _ _ => yf_K
    | exact yf_pi fun _ _ => yf_rg yf_K
    | exact yf_pl fun _ _ => yf_K
    | exact yf_pi fun _ _ => yf_pi fun _ _ => yf_K
    | exact yf_pi fun _ _ => yf_pi fun _ _ => yf_rg yf_K
    | exact yf_pi fun _ _ => yf_pi fun _ _ => yf_nz (yf_rg yf_K)
    | exact yf_pi fun _ _ => yf_pi fun _ _ => yf_nz (yf_rg (yf_rg yf_K))
    | exact yf_pl fun _ _ => yf_pl fun _ _ => yf_K
    | exact yf_pl fun _ _ => yf_pl fun _ _ => yf_nl yf_K
    | exact yf_pi fun _ _ => yf_pl fun _ _ => yf_K
theorem y_fm2 (ins : Jvm.ClassFile.Instr) (z pc : Nat) (ls : y_Ls) (st : List y_V) (h : y_Hp) : y_Fm (fun _ K => y_i2 K ins z pc ls st h) := by
  unfold y_i2
  split
  all_goals first
    | exact yf_none
    | exact yf_K
    | exact yf_pi fun _ _ => yf_pi fun _ _ => yf_br yf_K yf_K
    | exact yf_pi fun _ _ => yf_br yf_K yf_K
    | exact yf_pi fun _ _ => yf_sw _
    | (split <;> first | exact yf_none | exact yf_some | (split <;> first | exact yf_b1 yf_some | exact yf_some))
theorem y_fm3 (sc : z_Sc) (ins : Jvm.ClassFile.Instr) (x y z pc : Nat) (ls : y_Ls) (st : List y_V) (h : y_Hp) : y_Fm (fun _ K => y_i3 sc K ins x y z pc ls st h) := by
  unfold y_i3
  split
  all_goals first
    | exact yf_none
    | exact yf_pr fun _ _ => yf_kt yf_K
    | exact yf_pi fun _ _ => yf_pr fun _ _ => yf_kt (yf_in yf_K)
    | exact yf_pi fun _ _ => yf_pi fun _ _ => yf_pr fun _ _ => yf_kt (yf_in yf_K)
    | exact yf_pl fun _ _ => yf_pi fun _ _ => yf_pr fun _ _ => yf_kt (yf_in yf_K)
    | (split <;> first
        | exact yf_pi fun _ _ => yf_pr fun _ _ => yf_kt yf_K
        | exact yf_pi fun _ _ => yf_pr fun _ _ => yf_kt (yf_b1 yf_K)
        | exact yf_pr fun _ _ => yf_pr fun _ _ => yf_kt (yf_sg yf_K)
        | exact yf_pl fun _ _ => yf_pr fun _ _ => yf_kt yf_K
        | exact yf_pi fun _ _ => yf_pr fun _ _ => yf_sg (yf_in yf_K)
        | exact yf_pi fun _ _ => yf_pr fun _ _ => yf_kt (yf_in yf_K)
        | exact yf_pi fun _ _ => yf_pi fun _ _ => yf_pr fun _ _ => yf_kt (yf_in yf_K)
        | exact yf_pi fun _ _ => yf_pi fun _ _ => yf_pr fun _ _ => yf_kt (yf_in (yf_b1 yf_K))
        | exact yf_pr fun _ _ => yf_sg (yf_rg yf_K)
        | exact yf_pr fun _ _ => yf_kt yf_K)
theorem y_fm4 (x y z pc : Nat) (ls : y_Ls) (st : List y_V) (h : y_Hp) : y_Fm (fun C K => y_i4 C K x y z pc ls st h) := by
  unfold y_i4
  split
  · exact yf_sg yf_rt
  · exact yf_pi fun _ _ => yf_pi fun _ _ => yf_sg yf_K
  · exact yf_pi fun _ _ => yf_pi fun _ _ => yf_sg yf_K
  · exact yf_pi fun _ _ => yf_pi fun _ _ => yf_pr fun _ _ => yf_pi fun _ _ => yf_pr fun _ _ => yf_sg (yf_kt (yf_kt (yf_cg yf_K)))
  · exact yf_pr fun _ _ => yf_sg (yf_sg yf_K)
  · exact yf_sg (yf_rc yf_rt)
theorem y_fm (sc : z_Sc) (en : Option z_En) (pc : Nat) (ls : y_Ls) (st : List y_V) (h : y_Hp) : y_Fm (fun C K => y_st sc C K en pc ls st h) := by
  unfold y_st
  rcases en with _ | ⟨g, ins, x, y, z, t, i⟩
  · exact yf_none
  · dsimp only
    split
    · exact y_fm0 ins x y pc ls st h
    · exact y_fm1 ins pc ls st h
    · exact y_fm2 ins z pc ls st h
    · exact y_fm3 sc ins x y z pc ls st h
    · exact y_fm4 x y z pc ls st h
/-! the runs grow with their steps; the limit's equation -/
def y_leC (C D : y_C) : Prop := ∀ M as h r, C M as h = some r → D M as h = some r
def y_leK (C D : y_K) : Prop := ∀ pc ls st h r, C pc ls st h = some r → D pc ls st h = some r
theorem y_rt_le {q pc : Nat} {o o' : y_O} {K K' : y_K} {ls : y_Ls} {st : List y_V} (ho : ∀ r, o = some r → o' = some r) (hK : y_leK K K') {r : y_R} (h : y_rt q o K pc ls st = some r) : y_rt q o' K' pc ls st = some r := by
  unfold y_rt y_ci y_cl y_cv at h ⊢
  rcases o with _ | ⟨_ | x | x | x, h1⟩
  · split at h <;> cases h
  · rw [ho _ rfl]
    split at h
    · cases h
    · cases h
    · exact hK _ _ _ _ _ h
  · rw [ho _ rfl]
    split at h
    · exact hK _ _ _ _ _ h
    · cases h
    · cases h
  · rw [ho _ rfl]
    split at h <;> cases h
  · rw [ho _ rfl]
    split at h
    · cases h
    · exact hK _ _ _ _ _ h
    · cases h
theorem y_do_le {a : y_A} {C C' : y_C} {K K' : y_K} (hC : y_leC C C') (hK : y_leK K K') {r : y_R} (h : y_do a C K = some r) : y_do a C' K' = some r := by
  rcases a with _ | ⟨s | s | s⟩
  · exact h
  · exact hK _ _ _ _ _ h
  · exact h
  · exact y_rt_le (fun r hr => hC _ _ _ _ hr) hK h
theorem y_st_le {sc : z_Sc} {en : Option z_En} {C C' : y_C} {K K' : y_K} (hC : y_leC C C') (hK : y_leK K K') {pc : Nat} {ls : y_Ls} {st : List y_V} {h : y_Hp} {r : y_R} (hr : y_st sc C K en pc ls st h = some r) : y_st sc C' K' en pc ls st h = some r := by
  obtain ⟨a, ha⟩ := y_fm sc en pc ls st h
  have h1 := ha C K
  have h2 := ha C' K'
  dsimp only at h1 h2
  rw [h1] at hr
  rw [h2]
  exact y_do_le hC hK hr
theorem y_rn_C {sc : z_Sc} {C C' : y_C} (hC : y_leC C C') (L : z_Pg) : ∀ n, y_leK (y_rn sc C L n) (y_rn sc C' L n)
  | 0 => fun _ _ _ _ _ h => h
  | n + 1 => fun _ _ _ _ _ h => y_st_le hC (y_rn_C hC L n) h
theorem y_rn_s {sc : z_Sc} {C : y_C} (L : z_Pg) : ∀ n, y_leK (y_rn sc C L n) (y_rn sc C L (n + 1))
  | 0 => fun _ _ _ _ _ h => by cases h
  | n + 1 => fun _ _ _ _ _ h => y_st_le (fun _ _ _ _ h => h) (y_rn_s L n) h
theorem y_ca_s {P : Nat → z_Pg} {sc : z_Sc} (n : Nat) : ∀ d, y_leC (y_ca P sc n d) (y_ca P sc (n + 1) d)
  | 0 => fun _ _ _ _ h => h
  | d + 1 => fun M as _ _ h => by
    unfold y_ca at h ⊢
    cases hb : Nat.ble (y_lay as).length (z_ml M)
    · rw [hb] at h
      cases h
    · rw [hb] at h
      exact y_rn_C (y_ca_s n d) _ _ _ _ _ _ _ (y_rn_s _ n _ _ _ _ _ h)
theorem y_run_s {P : Nat → z_Pg} {sc : z_Sc} {d : Nat} {L : z_Pg} (n : Nat) : y_leK (y_rn sc (y_ca P sc n d) L n) (y_rn sc (y_ca P sc (n + 1) d) L (n + 1)) := fun _ _ _ _ _ h => y_rn_C (y_ca_s n d) L _ _ _ _ _ _ (y_rn_s L n _ _ _ _ _ h)
theorem y_se_iff {P : Nat → z_Pg} {sc : z_Sc} {d M : Nat} {as : List y_V} {h : y_Hp} {r : y_R} : y_se P sc d M as h = some r ↔ ∃ n, y_ca P sc n d M as h = some r := y_lim_some (fun n r hr => y_ca_s n d _ _ _ _ hr) r
theorem y_ev_iff {P : Nat → z_Pg} {sc : z_Sc} {d : Nat} {L : z_Pg} {pc : Nat} {ls : y_Ls} {st : List y_V} {h : y_Hp} {r : y_R} : y_ev P sc d L pc ls st h = some r ↔ ∃ n, y_rn sc (y_ca P sc n d) L n pc ls st h = some r := y_lim_some (fun n r hr => y_run_s n _ _ _ _ _ hr) r
theorem y_o_ext {a b : y_O} (h : ∀ r, a = some r ↔ b = some r) : a = b := by
  rcases a with _ | a
  · rcases b with _ | b
    · rfl
    · exact ((h b).mpr rfl)
  · exact ((h a).mp rfl).symm
theorem y_ca_le {P : Nat → z_Pg} {sc : z_Sc} {n k d : Nat} (hk : n ≤ k) : y_leC (y_ca P sc n d) (y_ca P sc k d) := fun M as h r hr => y_mono_le (f := fun n => y_ca P sc n d M as h) (fun n r hr => y_ca_s n d _ _ _ _ hr) hk hr
theorem y_rn_le {P : Nat → z_Pg} {sc : z_Sc} {L : z_Pg} {n k d : Nat} (hk : n ≤ k) : y_leK (y_rn sc (y_ca P sc n d) L n) (y_rn sc (y_ca P sc k d) L k) := fun pc ls st h r hr => y_mono_le (f := fun n => y_rn sc (y_ca P sc n d) L n pc ls st h) (fun n r hr => y_run_s n _ _ _ _ _ hr) hk hr
/-- what is reached in the limit of the calls and of what goes on is reached at some number of steps -/
theorem y_do_lim {P : Nat → z_Pg} {sc : z_Sc} {d : Nat} {L : z_Pg} {a : y_A} {r : y_R} (h : y_do a (y_se P sc d) (y_ev P sc d L) = some r) : ∃ n, y_do a (y_ca P sc n d) (y_rn sc (y_ca P sc n d) L n) = some r := by
  rcases a with _ | ⟨s | s | s⟩
  · cases h
  · exact y_ev_iff.mp h
  · exact ⟨0, h⟩
  · obtain ⟨x, as, h0, q, pc, ls, st⟩ := s
    show ∃ n, y_rt q (y_ca P sc n d x as h0) (y_rn sc (y_ca P sc n d) L n) pc ls st = some r
    have h' : y_rt q (y_se P sc d x as h0) (y_ev P sc d L) pc ls st = some r := h
    rcases ho : y_se P sc d x as h0 with _ | ⟨v, h1⟩
    · rw [ho] at h'
      unfold y_rt y_ci y_cl y_cv at h'
      split at h' <;> cases h'
    · obtain ⟨n1, hn1⟩ := y_se_iff.mp ho
      rw [ho] at h'
      have key : ∃ n2, y_rt q (some (v, h1)) (y_rn sc (y_ca P sc n2 d) L n2) pc ls st = some r := by
        unfold y_rt y_ci y_cl y_cv at h' ⊢
        split at h' <;> split at h' <;> first | exact y_ev_iff.mp h' | cases h' | skip
        all_goals (rename_i he; cases he; exact y_ev_iff.mp h')
      obtain ⟨n2, hn2⟩ := key
      refine ⟨max n1 n2, ?_⟩
      refine y_rt_le (o := some (v, h1)) (fun r hr => ?_) (y_rn_le (Nat.le_max_right n1 n2)) hn2
      rw [← hr]
      exact y_ca_le (Nat.le_max_left n1 n2) _ _ _ _ hn1
/-- THE EQUATION -/
theorem y_ev_eq (P : Nat → z_Pg) (sc : z_Sc) (d : Nat) (L : z_Pg) (pc : Nat) (ls : y_Ls) (st : List y_V) (h : y_Hp) : y_ev P sc d L pc ls st h = y_st sc (y_se P sc d) (y_ev P sc d L) (z_gt L pc) pc ls st h := by
  obtain ⟨a, ha⟩ := y_fm sc (z_gt L pc) pc ls st h
  have e : ∀ C K, y_st sc C K (z_gt L pc) pc ls st h = y_do a C K := ha
  refine y_o_ext fun r => ⟨fun hr => ?_, fun hr => ?_⟩
  · obtain ⟨n, hn⟩ := y_ev_iff.mp hr
    cases n with
    | zero => cases hn
    | succ n =>
      have h1 : y_st sc (y_ca P sc (n + 1) d) (y_rn sc (y_ca P sc (n + 1) d) L n) (z_gt L pc) pc ls st h = some r := hn
      refine y_st_le (fun _ _ _ _ q => y_se_iff.mpr ⟨_, q⟩) (fun pc ls st h r q => y_ev_iff.mpr ⟨n + 1, y_rn_s L n _ _ _ _ _ q⟩) h1
  · rw [e] at hr
    obtain ⟨n, hn⟩ := y_do_lim hr
    refine y_ev_iff.mpr ⟨n + 1, ?_⟩
    show y_st sc (y_ca P sc (n + 1) d) (y_rn sc (y_ca P sc (n + 1) d) L n) (z_gt L pc) pc ls st h = some r
    rw [e]
    exact y_do_le (y_ca_s n d) (y_rn_C (y_ca_s n d) L n) hn
theorem y_se_eq (P : Nat → z_Pg) (sc : z_Sc) (d M : Nat) (as : List y_V) (h : y_Hp) (hb : Nat.ble (y_lay as).length (z_ml M) = true) : y_se P sc (d + 1) M as h = y_ev P sc d (P M) 0 (y_ent as (z_ml M)) [] h := by
  show y_lim (fun n => y_sg (Nat.ble (y_lay as).length (z_ml M)) (y_rn sc (y_ca P sc n d) (P M) n 0 (y_ent as (z_ml M)) [] h)) = _
  rw [hb]
  rfl
/-- so many steps unfolded, but not beyond the places that are named -/
def y_un (sc : z_Sc) (C : y_C) (E : y_K) (L : z_Pg) (stops : List Nat) : Nat → y_K
  | 0 => E
  | k + 1 => fun pc ls st h => y_st sc C (fun pc' ls' st' h' => match z_has stops pc' with
    | true => E pc' ls' st' h'
    | false => y_un sc C E L stops k pc' ls' st' h') (z_gt L pc) pc ls st h
theorem y_un_eq (P : Nat → z_Pg) (sc : z_Sc) (d : Nat) (L : z_Pg) (stops : List Nat) : ∀ (k pc : Nat) (ls : y_Ls) (st : List y_V) (h : y_Hp), y_ev P sc d L pc ls st h = y_un sc (y_se P sc d) (y_ev P sc d L) L stops k pc ls st h
  | 0, _, _, _, _ => rfl
  | k + 1, pc, ls, st, h => by
    rw [y_ev_eq]
    unfold y_un
    congr 1
    funext pc' ls' st' h'
    split
    · rfl
    · exact y_un_eq P sc d L stops k pc' ls' st' h'
