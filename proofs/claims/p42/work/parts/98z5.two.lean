/-! THE BEGINNING, whatever the script -/
def z_nsc (en : z_En) : Bool := (Nat.ble en.1 3 || Nat.blt en.2.2.1 250) && (match en.2.1 with
  | .iaload => !(Nat.beq en.2.2.1 1)
  | .arraylength => !(Nat.beq en.2.2.1 1)
  | _ => true)
theorem z_nsc_all : ((List.range 250).all fun M => (z_pg M).all fun q => z_nsc q.2.2) = true := by decide +kernel
theorem z_nsc_pre : (lPre.all fun q => z_nsc q.2.2) = true := by decide +kernel
section SC
variable {sc sc' : z_Sc} {C C' : z_C} {K : z_K} {pc : Nat} {ls : z_Ls} {st : List z_V} {h : z_Hp}
theorem z_i3_sc {ins : Jvm.ClassFile.Instr} {x y z : Nat} (hn : (match ins with
  | .iaload => !(Nat.beq x 1)
  | .arraylength => !(Nat.beq x 1)
  | _ => true) = true) : z_i3 sc K ins x y z pc ls st h = z_i3 sc' K ins x y z pc ls st h := by
  cases ins <;> first
    | rfl
    | (rcases x with _ | _ | x <;> first | rfl | cases hn)
theorem z_i4_sc {x y z : Nat} (hC : C x = C' x) : z_i4 C K x y z pc ls st h = z_i4 C' K x y z pc ls st h := by
  unfold z_i4
  rw [hC]
theorem z_st_sc {en : z_En} (hn : z_nsc en = true) (hC : ∀ x, x < 250 → C x = C' x) : z_st sc C K (some en) pc ls st h = z_st sc' C' K (some en) pc ls st h := by
  obtain ⟨g, ins, x, y, z, t, i⟩ := en
  unfold z_nsc at hn
  simp only [Bool.and_eq_true, Bool.or_eq_true] at hn
  obtain ⟨h1, h2⟩ := hn
  rcases g with _ | _ | _ | _ | g
  · rfl
  · rfl
  · rfl
  · exact z_i3_sc h2
  · have : x < 250 := by
      rcases h1 with q | q
      · have := Nat.le_of_ble_eq_true q
        omega
      · exact Nat.blt_eq.mp q
    exact z_i4_sc (hC x this)
theorem z_rn_sc {L : z_Pg} (hL : (L.all fun q => z_nsc q.2.2) = true) (hC : ∀ x, x < 250 → C x = C' x) : ∀ n, z_rn sc C L n = z_rn sc' C' L n
  | 0 => rfl
  | n + 1 => by
    funext pc ls st h
    show z_st sc C (z_rn sc C L n) (z_gt L pc) pc ls st h = z_st sc' C' (z_rn sc' C' L n) (z_gt L pc) pc ls st h
    rw [z_rn_sc hL hC n]
    rcases hg : z_gt L pc with _ | en
    · rfl
    · obtain ⟨len, hm⟩ := z_gt_mem hg
      exact z_st_sc (List.all_eq_true.mp hL _ hm) hC
theorem z_rs_sc {L : z_Pg} (hL : (L.all fun q => z_nsc q.2.2) = true) (hC : ∀ x, x < 250 → C x = C' x) : ∀ n, z_rs sc C L n = z_rs sc' C' L n
  | 0 => rfl
  | n + 1 => by
    funext pc ls st h
    show (match Nat.beq pc 27 with
      | true => z_stp ls st h
      | false => z_st sc C (z_rs sc C L n) (z_gt L pc) pc ls st h) = (match Nat.beq pc 27 with
      | true => z_stp ls st h
      | false => z_st sc' C' (z_rs sc' C' L n) (z_gt L pc) pc ls st h)
    rw [z_rs_sc hL hC n]
    rcases hg : z_gt L pc with _ | en
    · rfl
    · obtain ⟨len, hm⟩ := z_gt_mem hg
      rw [z_st_sc (sc := sc) (sc' := sc') (List.all_eq_true.mp hL _ hm) hC]
theorem z_ca_sc {n : Nat} : ∀ d M, M < 250 → z_ca z_pg sc n d M = z_ca z_pg sc' n d M
  | 0, _, _ => rfl
  | d + 1, M, hM => by
    funext as h
    show z_gd (Nat.ble (z_lay as).length (z_ml M)) (z_rn sc (z_ca z_pg sc n d) (z_pg M) n 0 (z_ent as (z_ml M)) [] h) = z_gd (Nat.ble (z_lay as).length (z_ml M)) (z_rn sc' (z_ca z_pg sc' n d) (z_pg M) n 0 (z_ent as (z_ml M)) [] h)
    rw [z_rn_sc (sc := sc) (sc' := sc') (List.all_eq_true.mp z_nsc_all M (List.mem_range.mpr hM)) (fun x hx => z_ca_sc d x hx)]
theorem z_run0_sc {H : z_Hp} (e : z_run0 = some (none, H)) : z_rs sc (z_ca z_pg sc 2000 6) lPre 40 0 (z_ent [z_vr 1] 19) [] z_h0 = some (none, H) := by
  rw [z_rs_sc (sc := sc) (sc' := z_sc0) (C' := z_ca z_pg z_sc0 2000 6) z_nsc_pre (fun x hx => z_ca_sc 6 x hx) 40]
  exact e
theorem z_stp_some {r : z_R} (q : z_stp ls st h = some r) : ls = z_ls0 ∧ st = [] ∧ r = (none, h) := by
  unfold z_stp at q
  by_cases e : ls = z_ls0 ∧ st = []
  · rw [if_pos e] at q
    cases q
    exact ⟨e.1, e.2, rfl⟩
  · rw [if_neg e] at q
    cases q
theorem z_rs_ge {L : z_Pg} (hC : ∀ M as h r, C M as h = some r → h.1 ≤ r.2.1) : ∀ n pc ls st h r, z_rs sc C L n pc ls st h = some r → h.1 ≤ r.2.1
  | 0, _, _, _, _, _, q => by cases q
  | n + 1, pc, ls, st, h, r, q => by
    have q : (match Nat.beq pc 27 with
      | true => z_stp ls st h
      | false => z_st sc C (z_rs sc C L n) (z_gt L pc) pc ls st h) = some r := q
    rcases hb : Nat.beq pc 27
    · rw [hb] at q
      obtain ⟨a, ha, hg⟩ := z_fm sc (z_gt L pc) pc ls st h
      have e : ∀ C K, z_st sc C K (z_gt L pc) pc ls st h = z_do a C K := ha
      have q' : z_st sc C (z_rs sc C L n) (z_gt L pc) pc ls st h = some r := q
      rw [e] at q'
      exact z_do_ge hg hC (z_rs_ge hC n) q'
    · rw [hb] at q
      obtain ⟨-, -, e⟩ := z_stp_some q
      rw [e]
      exact Nat.le_refl _
end SC
theorem lPre_in : ∀ q ∈ lPre, q ∈ z_pg 250 := fun q hq => List.mem_append_left _ (List.mem_of_mem_take hq)
section RUNS
variable {p : Program} {l : Launch} {e : Env} {R : Room} {s : State} {m : MethodId} {args : Array Value} {below : List Frame} {meth : Method} {c : Code} {Q : State → Prop} {D : va_G} {cy : Nat → ClassId} {base b n0 : Nat} {sc : z_Sc} {C9 : z_C} {d : Nat} {H9 : z_Hp}
theorem z_runS (X : z_Cx p s m args meth c D cy base b sc 250) (hC : ∀ x as h0 r0, z_lk x = true → C9 x as h0 = some r0 → z_Met l D cy base b sc d x as h0 r0) (hCge : ∀ x as h0 r0, C9 x as h0 = some r0 → h0.1 ≤ r0.2.1) (hRc : H9.1 - n0 ≤ R.cells) (hRs : z_sz H9.1 - z_sz n0 ≤ R.slots) (hRf : d + 1 ≤ R.frames) (hRl : 64 * (d + 1) ≤ R.locals)
    (hst : z_at p l e R s m args below meth c Q D cy base b n0 27 z_ls0 [] H9) :
    ∀ n pc ls st h, z_rs sc C9 lPre n pc ls st h = some (none, H9) → z_at p l e R s m args below meth c Q D cy base b n0 pc ls st h
  | 0, _, _, _, _, q => by cases q
  | n + 1, pc, ls, st, h, q => by
    have hge : ∀ pc' ls' st' h', z_rs sc C9 lPre n pc' ls' st' h' = some ((none, H9) : z_R) → h'.1 ≤ ((none, H9) : z_R).2.1 := fun pc' ls' st' h' q => z_rs_ge hCge n pc' ls' st' h' _ q
    have hK := z_runS X hC hCge hRc hRs hRf hRl hst n
    have q : (match Nat.beq pc 27 with
      | true => z_stp ls st h
      | false => z_st sc C9 (z_rs sc C9 lPre n) (z_gt lPre pc) pc ls st h) = some (none, H9) := q
    rcases hb : Nat.beq pc 27
    · rw [hb] at q
      have q : z_st sc C9 (z_rs sc C9 lPre n) (z_gt lPre pc) pc ls st h = some (none, H9) := q
      rcases hg : z_gt lPre pc with _ | ⟨g, ins, x, y, z, t, i⟩
      · rw [hg] at q
        cases q
      · rw [hg] at q
        obtain ⟨len, hm0⟩ := z_gt_mem hg
        have hm := lPre_in _ hm0
        have hck := List.all_eq_true.mp (z_ckA 250 (Or.inr rfl)) _ hm
        unfold z_eck at hck
        simp only [Bool.and_eq_true, decide_eq_true_eq] at hck
        obtain ⟨h1, h2, h3⟩ := hck
        have hg4 := z_g_le h2
        rcases (show g = 0 ∨ g = 1 ∨ g = 2 ∨ g = 3 ∨ g = 4 by omega) with rfl | rfl | rfl | rfl | rfl
        · exact z_sn0 X h1 h2 h3 q hK
        · exact z_sn1 X h1 h2 q hK
        · exact z_sn2 X h1 h2 q hK (fun _ _ _ _ z => by cases z) (fun _ _ _ _ z => by cases z) (fun _ _ _ _ _ z => absurd z (by decide +kernel))
        · exact z_sn3 X h1 h2 h3 q hK hge hRc hRs
        · exact z_sn4 X h1 h2 h3 q hK hC hCge hge hRc hRs hRf hRl
    · rw [hb] at q
      have q : z_stp ls st h = some (none, H9) := q
      obtain ⟨e1, e2, e3⟩ := z_stp_some q
      rw [z_beq hb, e1, e2, show h = H9 from (congrArg Prod.snd e3).symm]
      exact hst
end RUNS
