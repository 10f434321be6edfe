/-! THE BEGINNING: the two objects made, by the kernel -/
def z_sc0 : z_Sc := (0, fun _ => 0)
def lPre : z_Pg := pgL_law_0.take 10
def z_stp (ls : z_Ls) (st : List z_V) (h : z_Hp) : z_O := match ls, st with
  | [some (.inr (.inl 1)), some (.inr (.inl 2)), some (.inr (.inl 94)), some (.inl i)], [] => if i = 0 then some (none, h) else none
  | _, _ => none
def z_rs (sc : z_Sc) (C : z_C) (L : z_Pg) : Nat → z_K
  | 0 => fun _ _ _ _ => none
  | n + 1 => fun pc ls st h => match Nat.beq pc 18 with
    | true => z_stp ls st h
    | false => z_st sc C (z_rs sc C L n) (z_gt L pc) pc ls st h
def z_run0 : z_O := z_rs z_sc0 (z_ca z_pg z_sc0 2000 6) lPre 30 0 (z_ent [z_vr 1] 4) [] z_h0
/-- ints that are told of the beginning -/
def z_iL : List (Nat × Nat × Int) := [(94, 8, 60), (94, 0, 0), (94, 2, 0), (94, 9, 0), (94, 10, 0), (94, 11, 0), (94, 12, 0), (94, 13, 0), (62, 0, 60), (62, 1, 0), (62, 2, 0), (62, 3, 0), (2, 12, 0), (2, 13, 0), (11, 0, (-1)), (96, 0, (-1)), (11, 1, (-1)), (96, 1, (-1)), (11, 2, (-1)), (96, 2, (-1)), (11, 3, (-1)), (96, 3, (-1)), (11, 4, (-1)), (96, 4, (-1)), (11, 5, (-1)), (96, 5, (-1)), (18, 0, (-1)), (99, 0, (-1)), (18, 1, (-1)), (99, 1, (-1)), (18, 2, (-1)), (99, 2, (-1)), (18, 3, (-1)), (99, 3, (-1)), (25, 0, 0), (112, 0, 0), (27, 0, 0), (112, 1, 0), (29, 0, 0), (112, 2, 0), (31, 0, 0), (112, 3, 0), (33, 0, 0), (112, 4, 0), (35, 0, 0), (112, 5, 0), (61, 1, 0), (95, 1, 0), (61, 2, 0), (95, 2, 0), (61, 3, 0), (95, 3, 0), (61, 4, 0), (95, 4, 0), (61, 5, 0), (95, 5, 0)]
def z_vis (t n k : Nat) : Bool := (Nat.blt t 9 && Nat.beq (z_fk t k) 1) || ((Nat.beq t 14 || Nat.beq t 15) && Nat.blt k n)
def z_vck (H : z_Hp) (a k : Nat) : Bool := !(z_vis (z_kd a).1 (z_kd a).2 k) || (z_dy (z_kd a).1 k || Nat.beq (z_F H a k) (z_of (z_kd a).1 k a))
def z_ck0 (H : z_Hp) : Bool := Nat.beq H.1 117 && ((Nat.beq (z_F H 2 10) 62 && Nat.beq (z_F H 2 11) 78) && ((z_iL.all fun q => decide (z_I H q.1 q.2.1 = Int32.ofInt q.2.2)) && ((List.range 119).all fun a => (List.range 48).all fun k => z_vck H a k)))
theorem z_run0_1 : (match z_run0 with
  | some (none, H) => z_ck0 H
  | _ => false) = true := by decide +kernel
theorem z_run0_2 : ∃ H, z_run0 = some (none, H) ∧ z_ck0 H = true := by
  have h := z_run0_1
  generalize z_run0 = o at *
  rcases o with _ | ⟨_ | v, H⟩
  · cases h
  · exact ⟨H, rfl, h⟩
  · cases h
/-- the same over whole numbers -/
def y_0 (H : z_Hp) : y_Hp := (fun a k => (z_I H a k).toInt, fun a k => z_F H a k, fun a k => z_J H a k)
section IN0
variable {H : z_Hp}
theorem y_0_ok : y_okH (y_0 H) := fun a k => y_inr_to _
theorem z_ck0_all (h : z_ck0 H = true) : H.1 = 117 ∧ (z_F H 2 10 = 62 ∧ z_F H 2 11 = 78) ∧ (∀ q ∈ z_iL, z_I H q.1 q.2.1 = Int32.ofInt q.2.2) ∧ ∀ a k, a < 119 → k < 48 → z_vck H a k = true := by
  unfold z_ck0 at h
  simp only [Bool.and_eq_true] at h
  obtain ⟨h1, ⟨h2, h3⟩, h4, h5⟩ := h
  exact ⟨z_beq h1, ⟨z_beq h2, z_beq h3⟩, fun q hq => of_decide_eq_true (List.all_eq_true.mp h4 q hq), fun a k ha hk => List.all_eq_true.mp (List.all_eq_true.mp h5 a (List.mem_range.mpr ha)) k (List.mem_range.mpr hk)⟩
theorem y_0_I (hc : z_ck0 H = true) {a k : Nat} {v : Int} (h : (a, k, v) ∈ z_iL) (hv : y_inr v) : y_I (y_0 H) a k = v := by
  have := (z_ck0_all hc).2.2.1 _ h
  show (z_I H a k).toInt = v
  rw [this, y_toInt hv]
theorem INV_0 (hc : z_ck0 H = true) : INV 0 (y_0 H) := by
  have e : ∀ a k v, (a, k, v) ∈ z_iL → y_inr v → y_I (y_0 H) a k = v := fun a k v h hv => y_0_I hc h hv
  have la : g_la (hv (y_0 H)) = 60 := e 94 8 60 (by decide) (by unfold y_inr; omega)
  have pm : g_pm (hv (y_0 H)) = 0 := e 94 9 0 (by decide) (by unfold y_inr; omega)
  have rm : g_rm (hv (y_0 H)) = 0 := e 94 10 0 (by decide) (by unfold y_inr; omega)
  have wm : g_wm (hv (y_0 H)) = 0 := e 94 11 0 (by decide) (by unfold y_inr; omega)
  have nm : g_nm (hv (y_0 H)) = 0 := e 94 12 0 (by decide) (by unfold y_inr; omega)
  have um : g_um (hv (y_0 H)) = 0 := e 94 13 0 (by decide) (by unfold y_inr; omega)
  have ok : g_ok (hv (y_0 H)) := ⟨by omega, by omega, by omega, by omega, by omega, by omega, fun p p1 p2 => by omega, fun r r1 r2 => by omega, fun w w1 w2 => by omega, fun v w v1 v2 => by omega, fun k k1 k2 => by omega⟩
  have X : xm (y_0 H) 62 := by
    refine ⟨Or.inl rfl, ?_, ?_, ?_, ?_, fun p p1 p2 => by omega, fun p p1 p2 => by omega, fun p p1 p2 => by omega, fun p p1 p2 => by omega, fun r p1 p2 => by omega, fun r p1 p2 => by omega, fun r p1 p2 => by omega, fun r p1 p2 => by omega, fun w p1 p2 => by omega, fun w p1 p2 => by omega, fun w p1 p2 => by omega, fun w p1 p2 => by omega, fun w p1 p2 => by omega, fun w p1 p2 => by omega, fun w p1 p2 => by omega⟩
    · rw [la]; exact e 62 0 60 (by decide) (by unfold y_inr; omega)
    · rw [pm]; exact e 62 1 0 (by decide) (by unfold y_inr; omega)
    · rw [rm]; exact e 62 2 0 (by decide) (by unfold y_inr; omega)
    · rw [wm]; exact e 62 3 0 (by decide) (by unfold y_inr; omega)
  refine ⟨62, ⟨(z_ck0_all hc).2.1.1, (z_ck0_all hc).2.1.2, X, ok⟩, fun r r1 r2 => ?_, fun t t1 t2 => ?_, ⟨fun w w1 w2 => by omega, fun w w1 w2 => by omega⟩, fun k k1 k2 => ?_, ?_, ?_, fun f f1 f2 => ?_⟩
  · have h1 : ∀ j : Nat, j < 6 → (11, j, (-1 : Int)) ∈ z_iL ∧ (96, j, (-1 : Int)) ∈ z_iL := by decide
    obtain ⟨m1, m2⟩ := h1 (Int.toNat r) (by omega)
    have a1 := e _ _ _ m1 (by unfold y_inr; omega)
    have a2 := e _ _ _ m2 (by unfold y_inr; omega)
    rw [a1, a2]
    exact ⟨rfl, by omega, fun i i1 i2 => by omega⟩
  · have h1 : ∀ j : Nat, j < 4 → (18, j, (-1 : Int)) ∈ z_iL ∧ (99, j, (-1 : Int)) ∈ z_iL := by decide
    obtain ⟨m1, m2⟩ := h1 (Int.toNat t) (by omega)
    have a1 := e _ _ _ m1 (by unfold y_inr; omega)
    have a2 := e _ _ _ m2 (by unfold y_inr; omega)
    rw [a1, a2]
    exact ⟨rfl, by omega, fun i i1 i2 => by omega⟩
  · have h1 : ∀ j : Nat, j < 6 → (25 + 2 * j, 0, (0 : Int)) ∈ z_iL ∧ (112, j, (0 : Int)) ∈ z_iL := by decide
    obtain ⟨m1, m2⟩ := h1 (Int.toNat k) (by omega)
    have a1 := e _ _ _ m1 (by unfold y_inr; omega)
    have a2 := e _ _ _ m2 (by unfold y_inr; omega)
    rw [a1, a2]
    refine ⟨rfl, by omega, fun q => by omega⟩
  · rw [e 2 13 0 (by decide) (by unfold y_inr; omega), e 94 2 0 (by decide) (by unfold y_inr; omega)]
  · rw [e 2 12 0 (by decide) (by unfold y_inr; omega), e 94 0 0 (by decide) (by unfold y_inr; omega)]
  · have h1 : ∀ j : Nat, j < 5 → (61, j + 1, (0 : Int)) ∈ z_iL ∧ (95, j + 1, (0 : Int)) ∈ z_iL := by decide
    obtain ⟨m1, m2⟩ := h1 (Int.toNat f - 1) (by omega)
    rw [show Int.toNat f - 1 + 1 = Int.toNat f by omega] at m1 m2
    have a1 := e _ _ _ m1 (by unfold y_inr; omega)
    have a2 := e _ _ _ m2 (by unfold y_inr; omega)
    rw [a1, a2]
    exact ⟨rfl, by omega, by omega⟩
end IN0
