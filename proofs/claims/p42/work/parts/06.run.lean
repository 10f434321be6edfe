/-! RUNS: so many steps, calls so deep; their limit; its equation; unfolding by a bounded number of steps -/
abbrev z_Pg : Type := List (Nat × Nat × z_En)
def z_gt : z_Pg → Nat → Option z_En
  | [], _ => none
  | q :: r, pc => match Nat.beq q.1 pc with
    | true => some q.2.2
    | false => z_gt r pc
def z_rn (sc : z_Sc) (C : z_C) (L : z_Pg) : Nat → z_K
  | 0 => fun _ _ _ _ => none
  | n + 1 => fun pc ls st h => z_st sc C (z_rn sc C L n) (z_gt L pc) pc ls st h
def z_lay : List z_V → z_Ls
  | [] => []
  | .inr (.inr v) :: r => some (z_vl v) :: none :: z_lay r
  | v :: r => some v :: z_lay r
def z_ent (as : List z_V) (n : Nat) : z_Ls := z_lay as ++ List.replicate (n - (z_lay as).length) none
def z_ca (P : Nat → z_Pg) (sc : z_Sc) (n : Nat) : Nat → z_C
  | 0 => fun _ _ _ => none
  | d + 1 => fun M as h => z_gd (Nat.ble (z_lay as).length (z_ml M)) (z_rn sc (z_ca P sc n d) (P M) n 0 (z_ent as (z_ml M)) [] h)
noncomputable def z_lim (f : Nat → z_O) : z_O := @dite _ (∃ n r, f n = some r) (Classical.propDecidable _) (fun h => some h.choose_spec.choose) (fun _ => none)
/-- what a call so deep answers; what a run of a method's rows, its calls so deep, comes to -/
noncomputable def z_se (P : Nat → z_Pg) (sc : z_Sc) (d : Nat) : z_C := fun M as h => z_lim (fun n => z_ca P sc n d M as h)
noncomputable def z_ev (P : Nat → z_Pg) (sc : z_Sc) (d : Nat) (L : z_Pg) : z_K := fun pc ls st h => z_lim (fun n => z_rn sc (z_ca P sc n d) L n pc ls st h)
theorem z_mono_add {f : Nat → z_O} (hm : ∀ n r, f n = some r → f (n + 1) = some r) : ∀ (k n : Nat) (r : z_R), f n = some r → f (n + k) = some r
  | 0, _, _, h => h
  | k + 1, n, r, h => hm _ _ (z_mono_add hm k n r h)
theorem z_mono_le {f : Nat → z_O} (hm : ∀ n r, f n = some r → f (n + 1) = some r) {n k : Nat} {r : z_R} (hk : n ≤ k) (h : f n = some r) : f k = some r := by
  have := z_mono_add hm (k - n) n r h
  rwa [show n + (k - n) = k by omega] at this
theorem z_lim_some {f : Nat → z_O} (hm : ∀ n r, f n = some r → f (n + 1) = some r) (r : z_R) : z_lim f = some r ↔ ∃ n, f n = some r := by
  unfold z_lim
  by_cases h : ∃ n r, f n = some r
  · rw [dif_pos h]
    have h1 := h.choose_spec.choose_spec
    constructor
    · intro e
      cases e
      exact ⟨_, h1⟩
    · rintro ⟨n, hn⟩
      have a := z_mono_le hm (Nat.le_max_left n h.choose) hn
      have b := z_mono_le hm (Nat.le_max_right n h.choose) h1
      rw [a] at b
      cases b
      rfl
  · rw [dif_neg h]
    constructor
    · intro e
      cases e
    · rintro ⟨n, hn⟩
      exact absurd ⟨n, r, hn⟩ h
/-! what an instruction does, whatever goes on behind it -/
abbrev z_A : Type := Option ((Nat × z_Ls × List z_V × z_Hp) ⊕ (z_R ⊕ (Nat × List z_V × z_Hp × Nat × Nat × z_Ls × List z_V)))
def z_do (a : z_A) (C : z_C) (K : z_K) : z_O := match a with
  | none => none
  | some (.inl s) => K s.1 s.2.1 s.2.2.1 s.2.2.2
  | some (.inr (.inl r)) => some r
  | some (.inr (.inr s)) => z_rt s.2.2.2.1 (C s.1 s.2.1 s.2.2.1) K s.2.2.2.2.1 s.2.2.2.2.2.1 s.2.2.2.2.2.2
def z_ge (h : z_Hp) (a : z_A) : Prop := match a with
  | none => True
  | some (.inl s) => h.1 ≤ s.2.2.2.1
  | some (.inr (.inl r)) => h.1 ≤ r.2.1
  | some (.inr (.inr s)) => h.1 ≤ s.2.2.1.1
def z_Fm (h : z_Hp) (f : z_C → z_K → z_O) : Prop := ∃ a : z_A, (∀ C K, f C K = z_do a C K) ∧ z_ge h a
theorem fm_none {h : z_Hp} : z_Fm h (fun _ _ => none) := ⟨none, fun _ _ => rfl, trivial⟩
theorem fm_some {h : z_Hp} {r : z_R} (hr : h.1 ≤ r.2.1) : z_Fm h (fun _ _ => some r) := ⟨some (.inr (.inl r)), fun _ _ => rfl, hr⟩
theorem fm_K {h h' : z_Hp} {pc : Nat} {ls : z_Ls} {st : List z_V} (hh : h.1 ≤ h'.1) : z_Fm h (fun _ K => K pc ls st h') := ⟨some (.inl (pc, ls, st, h')), fun _ _ => rfl, hh⟩
theorem fm_rt {h h' : z_Hp} {q x pc : Nat} {as : List z_V} {ls : z_Ls} {r : List z_V} (hh : h.1 ≤ h'.1) : z_Fm h (fun C K => z_rt q (C x as h') K pc ls r) := ⟨some (.inr (.inr (x, as, h', q, pc, ls, r))), fun _ _ => rfl, hh⟩
theorem fm_gd {h : z_Hp} {b : Bool} {f : z_C → z_K → z_O} (hf : z_Fm h f) : z_Fm h (fun C K => z_gd b (f C K)) := by
  cases b
  · exact fm_none
  · exact hf
theorem fm_sg {h : z_Hp} {b : Bool} {f : z_C → z_K → z_O} (hf : z_Fm h f) : z_Fm h (fun C K => z_sg b (f C K)) := by
  cases b
  · exact fm_none
  · exact hf
theorem fm_ite {h : z_Hp} {c : Prop} [i : Decidable c] {f g : z_C → z_K → z_O} (hf : z_Fm h f) (hg : z_Fm h g) : z_Fm h (fun C K => if c then f C K else g C K) := by
  by_cases q : c
  · simp only [if_pos q]
    exact hf
  · simp only [if_neg q]
    exact hg
theorem fm_ldi {h : z_Hp} {ls : z_Ls} {k : Nat} {f : Int32 → z_C → z_K → z_O} (hf : ∀ x, z_Fm h (f x)) : z_Fm h (fun C K => z_ldi ls k (fun x => f x C K)) := by
  unfold z_ldi
  rcases ls[k]? with _ | _ | x | x | x
  · exact fm_none
  · exact fm_none
  · exact hf x
  · exact fm_none
  · exact fm_none
theorem fm_ldr {h : z_Hp} {ls : z_Ls} {k : Nat} {f : Nat → z_C → z_K → z_O} (hf : ∀ x, z_Fm h (f x)) : z_Fm h (fun C K => z_ldr ls k (fun x => f x C K)) := by
  unfold z_ldr
  rcases ls[k]? with _ | _ | x | x | x
  · exact fm_none
  · exact fm_none
  · exact fm_none
  · exact hf x
  · exact fm_none
theorem fm_ldl {h : z_Hp} {ls : z_Ls} {k : Nat} {f : Int64 → z_C → z_K → z_O} (hf : ∀ x, z_Fm h (f x)) : z_Fm h (fun C K => z_ldl ls k (fun x => f x C K)) := by
  unfold z_ldl
  rcases ls[k]? with _ | _ | x | x | x
  · exact fm_none
  · exact fm_none
  · exact fm_none
  · exact fm_none
  · exact hf x
theorem fm_pi {h : z_Hp} {st : List z_V} {f : Int32 → List z_V → z_C → z_K → z_O} (hf : ∀ x r, z_Fm h (f x r)) : z_Fm h (fun C K => z_pi st (fun x r => f x r C K)) := by
  unfold z_pi
  rcases st with _ | ⟨x | x | x, r⟩
  · exact fm_none
  · exact hf x r
  · exact fm_none
  · exact fm_none
theorem fm_pr {h : z_Hp} {st : List z_V} {f : Nat → List z_V → z_C → z_K → z_O} (hf : ∀ x r, z_Fm h (f x r)) : z_Fm h (fun C K => z_pr st (fun x r => f x r C K)) := by
  unfold z_pr
  rcases st with _ | ⟨x | x | x, r⟩
  · exact fm_none
  · exact fm_none
  · exact hf x r
  · exact fm_none
theorem fm_pl {h : z_Hp} {st : List z_V} {f : Int64 → List z_V → z_C → z_K → z_O} (hf : ∀ x r, z_Fm h (f x r)) : z_Fm h (fun C K => z_pl st (fun x r => f x r C K)) := by
  unfold z_pl
  rcases st with _ | ⟨x | x | x, r⟩
  · exact fm_none
  · exact fm_none
  · exact fm_none
  · exact hf x r
theorem fm_rc {h h' : z_Hp} {as : List z_V} {c : Nat} {f : z_C → z_K → z_O} (hf : z_Fm h f) : z_Fm h (fun C K => z_rc h' as c (f C K)) := by
  unfold z_rc
  rcases as with _ | ⟨x | x | x, r⟩
  · exact fm_none
  · exact fm_none
  · exact fm_gd hf
  · exact fm_none
theorem fm_br {h : z_Hp} {c : Jvm.ClassFile.Cond} {x y : Int32} {f g : z_C → z_K → z_O} (hf : z_Fm h f) (hg : z_Fm h g) : z_Fm h (fun C K => z_br c x y (f C K) (g C K)) := by
  unfold z_br
  cases c
  · exact fm_ite hf hg
  · exact fm_ite hg hf
  · exact fm_ite hf hg
  · exact fm_ite hg hf
  · exact fm_ite hf hg
  · exact fm_ite hg hf
theorem fm_sw {h : z_Hp} {ls : z_Ls} {st : List z_V} {pc : Nat} {x : Int32} {d : Int} : ∀ l : List (Int × Int), z_Fm h (fun _ K => z_sw (fun p => K p ls st h) pc x d l)
  | [] => fm_K (Nat.le_refl _)
  | q :: r => by
    unfold z_sw
    exact fm_ite (fm_K (Nat.le_refl _)) (fm_sw r)
theorem z_fm0 (ins : Jvm.ClassFile.Instr) (x y pc : Nat) (ls : z_Ls) (st : List z_V) (h : z_Hp) : z_Fm h (fun _ K => z_i0 K ins x y pc ls st h) := by
  unfold z_i0
  split
  all_goals first
    | exact fm_none
    | exact fm_K (Nat.le_refl _)
    | exact fm_ldi fun _ => fm_K (Nat.le_refl _)
    | exact fm_ldi fun _ => fm_sg (fm_K (Nat.le_refl _))
    | exact fm_ldr fun _ => fm_K (Nat.le_refl _)
    | exact fm_ldl fun _ => fm_K (Nat.le_refl _)
    | exact fm_pi fun _ _ => fm_sg (fm_K (Nat.le_refl _))
    | exact fm_pr fun _ _ => fm_sg (fm_K (Nat.le_refl _))
    | exact fm_pl fun _ _ => fm_sg (fm_K (Nat.le_refl _))
    | (split <;> first | exact fm_none | exact fm_K (Nat.le_refl _) | exact fm_sg (fm_K (Nat.le_refl _)))
theorem z_fm1 (ins : Jvm.ClassFile.Instr) (pc : Nat) (ls : z_Ls) (st : List z_V) (h : z_Hp) : z_Fm h (fun _ K => z_i1 K ins pc ls st h) := by
  unfold z_i1
  split
  all_goals first
    | exact fm_none
    | exact fm_pi fun _ _ => fm_K (Nat.le_refl _)
    | exact fm_pl fun _ _ => fm_K (Nat.le_refl _)
    | exact fm_pi fun _ _ => fm_pi fun _ _ => fm_K (Nat.le_refl _)
    | exact fm_pi fun _ _ => fm_pi fun _ _ => fm_gd (fm_K (Nat.le_refl _))
    | exact fm_pl fun _ _ => fm_pl fun _ _ => fm_K (Nat.le_refl _)
    | exact fm_pl fun _ _ => fm_pl fun _ _ => fm_gd (fm_K (Nat.le_refl _))
    | exact fm_pi fun _ _ => fm_pl fun _ _ => fm_K (Nat.le_refl _)
theorem z_fm2 (ins : Jvm.ClassFile.Instr) (z pc : Nat) (ls : z_Ls) (st : List z_V) (h : z_Hp) : z_Fm h (fun _ K => z_i2 K ins z pc ls st h) := by
  unfold z_i2
  split
  all_goals first
    | exact fm_none
    | exact fm_K (Nat.le_refl _)
    | exact fm_pi fun _ _ => fm_pi fun _ _ => fm_br (fm_K (Nat.le_refl _)) (fm_K (Nat.le_refl _))
    | exact fm_pi fun _ _ => fm_br (fm_K (Nat.le_refl _)) (fm_K (Nat.le_refl _))
    | exact fm_pi fun _ _ => fm_sw _
    | (split <;> first | exact fm_none | exact fm_some (Nat.le_refl _) | (split <;> first | exact fm_gd (fm_some (Nat.le_refl _)) | exact fm_some (Nat.le_refl _)))
theorem z_fm3 (sc : z_Sc) (ins : Jvm.ClassFile.Instr) (x y z pc : Nat) (ls : z_Ls) (st : List z_V) (h : z_Hp) : z_Fm h (fun _ K => z_i3 sc K ins x y z pc ls st h) := by
  have hn : h.1 ≤ (z_nw h).1 := Nat.le_succ _
  have hm : ∀ n, h.1 ≤ (z_nwm h n).1 := fun n => by show h.1 ≤ h.1 + 1 + n; omega
  unfold z_i3
  split
  all_goals first
    | exact fm_none
    | exact fm_gd (fm_K hn)
    | exact fm_pr fun _ _ => fm_gd (fm_K (Nat.le_refl _))
    | exact fm_pi fun _ _ => fm_gd (fm_K hn)
    | exact fm_pi fun _ _ => fm_pr fun _ _ => fm_gd (fm_K (Nat.le_refl _))
    | exact fm_pi fun _ _ => fm_pi fun _ _ => fm_pr fun _ _ => fm_gd (fm_K (Nat.le_refl _))
    | exact fm_pl fun _ _ => fm_pi fun _ _ => fm_pr fun _ _ => fm_gd (fm_K (Nat.le_refl _))
    | exact fm_pr fun _ _ => fm_pi fun _ _ => fm_pr fun _ _ => fm_gd (fm_K (Nat.le_refl _))
    | exact fm_pi fun _ _ => fm_pi fun _ _ => fm_gd (fm_K (hm _))
    | (split <;> first
        | exact fm_pi fun _ _ => fm_pr fun _ _ => fm_gd (fm_K (Nat.le_refl _))
        | exact fm_pr fun _ _ => fm_pr fun _ _ => fm_gd (fm_K (Nat.le_refl _))
        | exact fm_pl fun _ _ => fm_pr fun _ _ => fm_gd (fm_K (Nat.le_refl _))
        | exact fm_pi fun _ _ => fm_pi fun _ _ => fm_pr fun _ _ => fm_gd (fm_K (Nat.le_refl _))
        | exact fm_pr fun _ _ => fm_gd (fm_K (Nat.le_refl _)))
theorem z_fm4 (x y z pc : Nat) (ls : z_Ls) (st : List z_V) (h : z_Hp) : z_Fm h (fun C K => z_i4 C K x y z pc ls st h) := by
  unfold z_i4
  split
  · exact fm_sg (fm_rt (Nat.le_refl _))
  · exact fm_pi fun _ _ => fm_pi fun _ _ => fm_sg (fm_K (Nat.le_refl _))
  · exact fm_pi fun _ _ => fm_pi fun _ _ => fm_sg (fm_K (Nat.le_refl _))
  · exact fm_pi fun _ _ => fm_pi fun _ _ => fm_pr fun _ _ => fm_pi fun _ _ => fm_pr fun _ _ => fm_sg (fm_gd (fm_K (Nat.le_refl _)))
  · exact fm_pr fun _ _ => fm_sg (fm_gd (fm_K (Nat.le_refl _)))
  · exact fm_sg (fm_rc (fm_rt (Nat.le_refl _)))
theorem z_fm (sc : z_Sc) (en : Option z_En) (pc : Nat) (ls : z_Ls) (st : List z_V) (h : z_Hp) : z_Fm h (fun C K => z_st sc C K en pc ls st h) := by
  unfold z_st
  rcases en with _ | ⟨g, ins, x, y, z, t, i⟩
  · exact fm_none
  · dsimp only
    split
    · exact z_fm0 ins x y pc ls st h
    · exact z_fm1 ins pc ls st h
    · exact z_fm2 ins z pc ls st h
    · exact z_fm3 sc ins x y z pc ls st h
    · exact z_fm4 x y z pc ls st h
