/-! THE BEGINNING: two x and two rows made, by the kernel -/
def z_sc0 : z_Sc := (0, fun _ => 0)
def lPre : z_Pg := pgL_law_0.take 14
def z_ls0 : z_Ls := [some (z_vr 1), some (z_vr 2), some (z_vr 94), some (z_vr 186), some (z_vr 187), none, none, none, none, none, none, none, none, none, none, none, none, none, none]
def z_stp (ls : z_Ls) (st : List z_V) (h : z_Hp) : z_O := if ls = z_ls0 ∧ st = [] then some (none, h) else none
def z_rs (sc : z_Sc) (C : z_C) (L : z_Pg) : Nat → z_K
  | 0 => fun _ _ _ _ => none
  | n + 1 => fun pc ls st h => match Nat.beq pc 27 with
    | true => z_stp ls st h
    | false => z_st sc C (z_rs sc C L n) (z_gt L pc) pc ls st h
def z_run0 : z_O := z_rs z_sc0 (z_ca z_pg z_sc0 2000 6) lPre 40 0 (z_ent [z_vr 1] 19) [] z_h0
/-- ints that are told of the beginning: of x, of its ghost -/
def z_iL : List (Nat × Nat × Int) := [(94, 8, 60), (94, 0, 0), (94, 2, 0), (94, 9, 0), (94, 10, 0), (94, 11, 0), (94, 12, 0), (94, 13, 0), (62, 0, 60), (62, 1, 0), (62, 2, 0), (62, 3, 0), (2, 12, 0), (2, 13, 0), (11, 0, (-1)), (96, 0, (-1)), (11, 1, (-1)), (96, 1, (-1)), (11, 2, (-1)), (96, 2, (-1)), (11, 3, (-1)), (96, 3, (-1)), (11, 4, (-1)), (96, 4, (-1)), (11, 5, (-1)), (96, 5, (-1)), (18, 0, (-1)), (99, 0, (-1)), (18, 1, (-1)), (99, 1, (-1)), (18, 2, (-1)), (99, 2, (-1)), (18, 3, (-1)), (99, 3, (-1)), (25, 0, 0), (112, 0, 0), (27, 0, 0), (112, 1, 0), (29, 0, 0), (112, 2, 0), (31, 0, 0), (112, 3, 0), (33, 0, 0), (112, 4, 0), (35, 0, 0), (112, 5, 0), (61, 1, 0), (95, 1, 0), (61, 2, 0), (95, 2, 0), (61, 3, 0), (95, 3, 0), (61, 4, 0), (95, 4, 0), (61, 5, 0), (95, 5, 0)]
/-- a ghost's own beginning -/
def z_m0 (a k : Nat) : Int := if a = 94 ∧ k = 8 then 60 else if a = 96 ∨ a = 99 then -1 else 0
def z_vis (t n k : Nat) : Bool := (Nat.blt t 8 && Nat.beq (z_fk t k) 1) || ((Nat.beq t 14 || Nat.beq t 15) && Nat.blt k n)
def z_vck (H : z_Hp) (a k : Nat) : Bool := !(z_vis (w_kd a).1 (w_kd a).2 k) || (z_dy (z_kd (c_u a)).1 k || Nat.beq (z_F H a k) (c_t (z_of (z_kd (c_u a)).1 k (c_u a))))
def z_dck (H : z_Hp) (a k : Nat) : Bool := !(z_dy (z_kd (c_u a)).1 k) || (Nat.beq (z_F H a k) 0 || (match Nat.blt a 94 with
  | true => Nat.blt (z_F H a k) 94
  | false => Nat.ble 94 (z_F H a k) && Nat.blt (z_F H a k) 186))
def z_ick (H : z_Hp) (q : Nat × Nat × Int) : Bool := Nat.ble 94 q.1 || (decide (z_I H q.1 q.2.1 = Int32.ofInt q.2.2) && decide (z_I H (q.1 + 92) q.2.1 = Int32.ofInt q.2.2))
def z_ck0 (H : z_Hp) : Bool := Nat.beq H.1 186 && ((Nat.beq (z_F H 2 10) 62 && Nat.beq (z_F H 2 11) 78) && ((Nat.beq (z_F H 94 10) 154 && Nat.beq (z_F H 94 11) 170) && ((z_iL.all fun q => z_ick H q) && (((List.range 188).all fun a => (List.range 12).all fun k => z_dck H a k) && ((List.range 188).all fun a => (List.range 48).all fun k => z_vck H a k)))))
theorem z_run0_1 : (match z_run0 with
  | some (none, H) => z_ck0 H
  | _ => false) = true := by decide +kernel
theorem z_run0_2 : ∃ H, z_run0 = some (none, H) ∧ z_ck0 H = true := by
  have h := z_run0_1
  generalize z_run0 = o at *
  rcases o with _ | ⟨_ | v, H⟩
  · cases h
  · exact ⟨H, rfl, h⟩
  · cases h
/-- the same over whole numbers -/
def y_h0 (H : z_Hp) : y_Hp := (fun a k => match g_gh a with
  | true => 0
  | false => (z_I H (c_t a) k).toInt, fun a k => match g_gh a with
  | true => 0
  | false => (match z_dy (z_kd a).1 k with
    | true => c_u (z_F H (c_t a) k)
    | false => 0), fun a k => z_J H (c_t a) k)
theorem c_tu0 {b : Nat} : c_t (c_u b) = b := by
  rw [c_u_eq, c_t_eq]
  (repeat' split) <;> omega
theorem z_dy_lt {c k : Nat} (h : z_dy c k = true) : k < 12 ∧ c < 8 := by
  have b : ∀ {x y : Nat}, Nat.beq x y = true → x = y := fun h => z_beq h
  unfold z_dy at h
  split at h
  · simp only [Bool.or_eq_true] at h
    rcases h with e | e
    · have := b e; omega
    · have := b e; omega
  · simp only [Bool.or_eq_true] at h
    rcases h with e | e
    · have := b e; omega
    · have := b e; omega
  · have := Nat.le_of_ble_eq_true h; omega
  · have := b h; omega
  · cases h
section IN0
variable {H : z_Hp}
theorem z_ck0_all (h : z_ck0 H = true) : H.1 = 186 ∧ (z_F H 2 10 = 62 ∧ z_F H 2 11 = 78) ∧ (z_F H 94 10 = 154 ∧ z_F H 94 11 = 170) ∧ (∀ q ∈ z_iL, z_ick H q = true) ∧ (∀ a k, a < 188 → k < 12 → z_dck H a k = true) ∧ ∀ a k, a < 188 → k < 48 → z_vck H a k = true := by
  unfold z_ck0 at h
  simp only [Bool.and_eq_true] at h
  obtain ⟨h1, ⟨h2, h3⟩, ⟨h4, h5⟩, h6, h7, h8⟩ := h
  exact ⟨z_beq h1, ⟨z_beq h2, z_beq h3⟩, ⟨z_beq h4, z_beq h5⟩, fun q hq => List.all_eq_true.mp h6 q hq, fun a k ha hk => List.all_eq_true.mp (List.all_eq_true.mp h7 a (List.mem_range.mpr ha)) k (List.mem_range.mpr hk), fun a k ha hk => List.all_eq_true.mp (List.all_eq_true.mp h8 a (List.mem_range.mpr ha)) k (List.mem_range.mpr hk)⟩
theorem z_kd_big {a : Nat} (h : 240 ≤ a) : z_kd a = (99, 0) := by
  have : z_kdl.length ≤ 240 := by decide +kernel
  unfold z_kd
  rw [List.getElem?_eq_none (by omega)]
theorem z_kd_row {a : Nat} (h : 236 ≤ a) : z_kd a = (10, 64) ∨ z_kd a = (99, 0) := by
  rcases Nat.lt_or_ge a 240 with c | c
  · rcases (show a = 236 ∨ a = 237 ∨ a = 238 ∨ a = 239 by omega) with rfl | rfl | rfl | rfl <;> exact Or.inl rfl
  · exact Or.inr (z_kd_big c)
/-- where a field may lead -/
theorem y_h0_F (hc : z_ck0 H = true) {a k : Nat} : (y_h0 H).2.1 a k = 0 ∨ (a < 94 ∧ (y_h0 H).2.1 a k < 94) ∨ ((118 < a ∧ a < 211) ∧ 118 < (y_h0 H).2.1 a k ∧ (y_h0 H).2.1 a k < 211) := by
  have dck := (z_ck0_all hc).2.2.2.2.1
  show (match g_gh a with
    | true => 0
    | false => (match z_dy (z_kd a).1 k with
      | true => c_u (z_F H (c_t a) k)
      | false => 0)) = 0 ∨ _
  cases q : g_gh a
  · cases y : z_dy (z_kd a).1 k
    · exact Or.inl rfl
    · have kk := z_dy_lt y
      have a240 : a < 236 := by
        rcases Nat.lt_or_ge a 236 with c | c
        · exact c
        · rcases z_kd_row c with e | e <;> (rw [e] at kk; have := kk.2; omega)
      have e : (y_h0 H).2.1 a k = c_u (z_F H (c_t a) k) := by
        show (match g_gh a with
          | true => 0
          | false => (match z_dy (z_kd a).1 k with
            | true => c_u (z_F H (c_t a) k)
            | false => 0)) = _
        rw [q, y]
      rw [e]
      have gq := g_gh_f.mp q
      have ct := c_t_eq (a := a)
      have ut : c_u (c_t a) = a := by
        rw [c_u_eq, ct]
        (repeat' split) <;> omega
      have d := dck (c_t a) k (by rw [ct]; (repeat' split) <;> omega) kk.1
      unfold z_dck at d
      rw [ut, y] at d
      have cu := c_u_eq (b := z_F H (c_t a) k)
      by_cases z : Nat.beq (z_F H (c_t a) k) 0 = true
      · left
        show c_u (z_F H (c_t a) k) = 0
        rw [z_beq z]
        rfl
      · have z : Nat.beq (z_F H (c_t a) k) 0 = false := by
          cases x : Nat.beq (z_F H (c_t a) k) 0
          · rfl
          · exact absurd x z
        rw [z] at d
        by_cases x : a < 94
        · have e2 : c_t a = a := by rw [ct, if_pos x]
          rw [e2] at d cu ⊢
          rw [Nat.blt_eq.mpr x] at d
          have d : Nat.blt (z_F H a k) 94 = true := d
          have := Nat.blt_eq.mp d
          rw [if_pos this] at cu
          exact Or.inr (Or.inl ⟨x, by omega⟩)
        · have e2 : 94 ≤ c_t a := by rw [ct, if_neg x]; (repeat' split) <;> omega
          rw [blt_f (show ¬ c_t a < 94 by omega)] at d
          have d : (Nat.ble 94 (z_F H (c_t a) k) && Nat.blt (z_F H (c_t a) k) 186) = true := d
          rw [Bool.and_eq_true] at d
          have d1 := Nat.le_of_ble_eq_true d.1
          have d2 := Nat.blt_eq.mp d.2
          rw [if_neg (by omega), if_pos d2] at cu
          exact Or.inr (Or.inr ⟨by omega, by omega, by omega⟩)
  · exact Or.inl rfl
theorem INV_of {g : y_Hp} (e : ∀ a k v, (a, k, v) ∈ z_iL → y_I g a k = v) (f1 : y_F g 2 10 = 62) (f2 : y_F g 2 11 = 78) : INV 0 g := by
  have la : g_la (hv g) = 60 := e 94 8 60 (by decide)
  have pm : g_pm (hv g) = 0 := e 94 9 0 (by decide)
  have rm : g_rm (hv g) = 0 := e 94 10 0 (by decide)
  have wm : g_wm (hv g) = 0 := e 94 11 0 (by decide)
  have nm : g_nm (hv g) = 0 := e 94 12 0 (by decide)
  have um : g_um (hv g) = 0 := e 94 13 0 (by decide)
  have ok : g_ok (hv g) := ⟨by omega, by omega, by omega, by omega, by omega, by omega, fun p p1 p2 => by omega, fun r r1 r2 => by omega, fun w w1 w2 => by omega, fun v w v1 v2 => by omega, fun k k1 k2 => by omega⟩
  have X : xm g 62 := by
    refine ⟨Or.inl rfl, ?_, ?_, ?_, ?_, fun p p1 p2 => by omega, fun p p1 p2 => by omega, fun p p1 p2 => by omega, fun p p1 p2 => by omega, fun r p1 p2 => by omega, fun r p1 p2 => by omega, fun r p1 p2 => by omega, fun r p1 p2 => by omega, fun w p1 p2 => by omega, fun w p1 p2 => by omega, fun w p1 p2 => by omega, fun w p1 p2 => by omega, fun w p1 p2 => by omega, fun w p1 p2 => by omega, fun w p1 p2 => by omega⟩
    · rw [la]; exact e 62 0 60 (by decide)
    · rw [pm]; exact e 62 1 0 (by decide)
    · rw [rm]; exact e 62 2 0 (by decide)
    · rw [wm]; exact e 62 3 0 (by decide)
  refine ⟨62, ⟨f1, f2, X, ok⟩, fun r r1 r2 => ?_, fun t t1 t2 => ?_, ⟨fun w w1 w2 => by omega, fun w w1 w2 => by omega⟩, fun k k1 k2 => ?_, ?_, ?_, fun f f1 f2 => ?_⟩
  · have h1 : ∀ j : Nat, j < 6 → (11, j, (-1 : Int)) ∈ z_iL ∧ (96, j, (-1 : Int)) ∈ z_iL := by decide
    obtain ⟨m1, m2⟩ := h1 (Int.toNat r) (by omega)
    rw [e _ _ _ m1, e _ _ _ m2]
    exact ⟨rfl, by omega, fun i i1 i2 => by omega⟩
  · have h1 : ∀ j : Nat, j < 4 → (18, j, (-1 : Int)) ∈ z_iL ∧ (99, j, (-1 : Int)) ∈ z_iL := by decide
    obtain ⟨m1, m2⟩ := h1 (Int.toNat t) (by omega)
    rw [e _ _ _ m1, e _ _ _ m2]
    exact ⟨rfl, by omega, fun i i1 i2 => by omega⟩
  · have h1 : ∀ j : Nat, j < 6 → (25 + 2 * j, 0, (0 : Int)) ∈ z_iL ∧ (112, j, (0 : Int)) ∈ z_iL := by decide
    obtain ⟨m1, m2⟩ := h1 (Int.toNat k) (by omega)
    rw [e _ _ _ m1, e _ _ _ m2]
    refine ⟨rfl, by omega, fun q => by omega⟩
  · rw [e 2 13 0 (by decide), e 94 2 0 (by decide)]
  · rw [e 2 12 0 (by decide), e 94 0 0 (by decide)]
  · have h1 : ∀ j : Nat, j < 5 → (61, j + 1, (0 : Int)) ∈ z_iL ∧ (95, j + 1, (0 : Int)) ∈ z_iL := by decide
    obtain ⟨m1, m2⟩ := h1 (Int.toNat f - 1) (by omega)
    rw [show Int.toNat f - 1 + 1 = Int.toNat f by omega] at m1 m2
    rw [e _ _ _ m1, e _ _ _ m2]
    exact ⟨rfl, by omega, by omega⟩
theorem z_iL_m0 : (z_iL.all fun q => (Nat.blt 1 q.1 && Nat.blt q.1 94) || (Nat.ble 94 q.1 && decide (z_m0 q.1 q.2.1 = q.2.2))) = true := by decide
theorem z_iL_in : (z_iL.all fun q => decide (-100 ≤ q.2.2 ∧ q.2.2 ≤ 100)) = true := by decide
/-- the two ghosts -/
def y_g1 (H : z_Hp) : y_Hp := (fun a k => if a < 94 then (y_h0 H).1 a k else z_m0 a k, fun a k => if a < 94 then (y_h0 H).2.1 a k else 0, fun a k => (y_h0 H).2.2 a k)
def y_g2 (H : z_Hp) : y_Hp := (fun a k => if a < 94 then (y_h0 H).1 (s_w a) k else z_m0 a k, fun a k => if a < 94 then s_w ((y_h0 H).2.1 (s_w a) k) else 0, fun a k => if a < 94 then (y_h0 H).2.2 (s_w a) k else 0)
theorem s_w_lo {a : Nat} (h1 : 1 < a) (h2 : a < 94) : s_w a = a + 117 := by
  rw [s_w_eq]
  (repeat' split) <;> omega
theorem s_w_01 {a : Nat} (h : a ≤ 1) : s_w a = a := by
  rw [s_w_eq]
  (repeat' split) <;> omega
theorem y_h0_I {a k : Nat} (h : g_gh a = false) : (y_h0 H).1 a k = (z_I H (c_t a) k).toInt := by
  show (match g_gh a with
    | true => 0
    | false => (z_I H (c_t a) k).toInt) = _
  rw [h]
theorem GI_1 (hc : z_ck0 H = true) : GI 0 (y_g1 H) := by
  have all := z_ck0_all hc
  refine ⟨INV_of (fun a k v m => ?_) ?_ ?_, fun a k ha => ?_, fun a k ha => ?_⟩
  · have m0 := List.all_eq_true.mp z_iL_m0 _ m
    have mi := of_decide_eq_true (List.all_eq_true.mp z_iL_in _ m)
    have mc := all.2.2.2.1 _ m
    unfold z_ick at mc
    dsimp only at m0 mi mc
    show (if a < 94 then (y_h0 H).1 a k else z_m0 a k) = v
    by_cases z : a < 94
    · rw [if_pos z, y_h0_I (by rw [g_gh_f]; omega), c_t_eq, if_pos z]
      have nb : Nat.ble 94 a = false := by
        cases x : Nat.ble 94 a
        · rfl
        · have := Nat.le_of_ble_eq_true x; omega
      rw [nb, Bool.false_or, Bool.and_eq_true] at mc
      rw [of_decide_eq_true mc.1, y_toInt (show y_inr v by unfold y_inr; omega)]
    · rw [if_neg z]
      rw [blt_f z, Bool.and_false, Bool.false_or, Bool.and_eq_true] at m0
      exact of_decide_eq_true m0.2
  · show (if 2 < 94 then (y_h0 H).2.1 2 10 else 0) = 62
    rw [if_pos (by omega)]
    show c_u (z_F H 2 10) = 62
    rw [all.2.1.1]
    rfl
  · show (if 2 < 94 then (y_h0 H).2.1 2 11 else 0) = 78
    rw [if_pos (by omega)]
    show c_u (z_F H 2 11) = 78
    rw [all.2.1.2]
    rfl
  · have z := s_O_iff.mp ha
    show s_O (if a < 94 then (y_h0 H).2.1 a k else 0) = true
    rw [if_pos z]
    rcases y_h0_F hc (a := a) (k := k) with e | e | e
    · rw [e]; rfl
    · exact s_O_iff.mpr e.2
    · omega
  · show s_G (if a < 94 then (y_h0 H).2.1 a k else 0) = true
    rcases s_G_iff.mp ha with z | z
    · rw [z, if_pos (by omega)]
      have e : (y_h0 H).2.1 0 k = 0 := rfl
      rw [e]
      rfl
    · rw [if_neg (by omega)]
      rfl
theorem GI_2 (hc : z_ck0 H = true) : GI 0 (y_g2 H) := by
  have all := z_ck0_all hc
  refine ⟨INV_of (fun a k v m => ?_) ?_ ?_, fun a k ha => ?_, fun a k ha => ?_⟩
  · have m0 := List.all_eq_true.mp z_iL_m0 _ m
    have mi := of_decide_eq_true (List.all_eq_true.mp z_iL_in _ m)
    have mc := all.2.2.2.1 _ m
    unfold z_ick at mc
    dsimp only at m0 mi mc
    show (if a < 94 then (y_h0 H).1 (s_w a) k else z_m0 a k) = v
    by_cases z : a < 94
    · have nb : Nat.ble 94 a = false := by
        cases x : Nat.ble 94 a
        · rfl
        · have := Nat.le_of_ble_eq_true x; omega
      rw [nb, Bool.false_and, Bool.or_false, Bool.and_eq_true] at m0
      have h1 := Nat.blt_eq.mp m0.1
      rw [if_pos z, s_w_lo h1 z, y_h0_I (by rw [g_gh_f]; omega), c_t_eq, if_neg (by omega), if_pos (by omega), show a + 117 - 25 = a + 92 by omega]
      rw [nb, Bool.false_or, Bool.and_eq_true] at mc
      rw [of_decide_eq_true mc.2, y_toInt (show y_inr v by unfold y_inr; omega)]
    · rw [if_neg z]
      rw [blt_f z, Bool.and_false, Bool.false_or, Bool.and_eq_true] at m0
      exact of_decide_eq_true m0.2
  · show (if 2 < 94 then s_w ((y_h0 H).2.1 (s_w 2) 10) else 0) = 62
    rw [if_pos (by omega)]
    show s_w (c_u (z_F H 94 10)) = 62
    rw [all.2.2.1.1]
    rfl
  · show (if 2 < 94 then s_w ((y_h0 H).2.1 (s_w 2) 11) else 0) = 78
    rw [if_pos (by omega)]
    show s_w (c_u (z_F H 94 11)) = 78
    rw [all.2.2.1.2]
    rfl
  · have z := s_O_iff.mp ha
    show s_O (if a < 94 then s_w ((y_h0 H).2.1 (s_w a) k) else 0) = true
    rw [if_pos z]
    rcases y_h0_F hc (a := s_w a) (k := k) with e | e | e
    · rw [e]; rfl
    · have h1 : a ≤ 1 := by
        rcases Nat.lt_or_ge 1 a with c | c
        · rw [s_w_lo c z] at e; omega
        · exact c
      rw [s_w_01 h1]
      have e2 : (y_h0 H).2.1 a k = 0 := by
        rcases (show a = 0 ∨ a = 1 by omega) with rfl | rfl <;> rfl
      rw [e2]
      rfl
    · refine s_O_iff.mpr ?_
      rw [s_w_eq]
      (repeat' split) <;> omega
  · show s_G (if a < 94 then s_w ((y_h0 H).2.1 (s_w a) k) else 0) = true
    rcases s_G_iff.mp ha with z | z
    · rw [z, if_pos (by omega)]
      have e : s_w ((y_h0 H).2.1 (s_w 0) k) = 0 := rfl
      rw [e]
      rfl
    · rw [if_neg (by omega)]
      rfl
/-- THE STATE AT THE BEGINNING -/
theorem LS_0 (hc : z_ck0 H = true) : LSt 186 0 0 (fun _ => True) (fun _ => True) (fun a k => y_I (y_h0 H) a k) (y_h0 H) := by
  refine ⟨⟨fun a k => ?_, fun a k => ?_⟩, ⟨y_g1 H, fun a ha k => ?_, GI_1 hc, trivial⟩, ⟨y_g2 H, fun a ha k => ?_, GI_2 hc, trivial⟩, fun _ _ _ _ => rfl, fun a k z1 z2 => ?_⟩
  · show y_inr (g_z 0 (y_h0 H).1 a k)
    cases q : g_gh a
    · rw [gz_o q, y_h0_I q]; exact y_inr_to _
    · rw [gz_g q]; unfold y_inr; omega
  · show y_ng 186 (g_z 0 (y_h0 H).2.1 a k) = true
    cases q : g_gh a
    · rw [gz_o q]
      rcases y_h0_F hc (a := a) (k := k) with e | e | e
      · rw [e]; rfl
      · exact y_ng_iff.mpr (by omega)
      · exact y_ng_iff.mpr (by omega)
    · rw [gz_g q]; rfl
  · have z := s_O_iff.mp ha
    have e1 : (y_g1 H).1 a k = (y_h0 H).1 a k := if_pos z
    have e2 : (y_g1 H).2.1 a k = (y_h0 H).2.1 a k := if_pos z
    exact ⟨e1.symm, e2.symm, rfl⟩
  · have z := s_O_iff.mp ha
    have e1 : (y_g2 H).1 a k = (y_h0 H).1 (s_w a) k := if_pos z
    have e2 : (y_g2 H).2.1 a k = s_w ((y_h0 H).2.1 (s_w a) k) := if_pos z
    have e3 : (y_g2 H).2.2 a k = (y_h0 H).2.2 (s_w a) k := if_pos z
    exact ⟨e1.symm, by rw [e2, s_ww], e3.symm⟩
  · rcases y_h0_F hc (a := a) (k := k) with e | e | e
    · exact e
    · omega
    · omega
end IN0
