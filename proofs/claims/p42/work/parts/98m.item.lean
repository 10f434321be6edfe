/-! items are read: last, parts, cushions -/
section TK
variable {sc : z_Sc} {g : y_Hp} {L R : List Int} {p : Int} {H W : Nat → Int}
theorem k_sign (M : MT L p g) (hL : L.length ≤ 110) {v : Int} (h : RS L p (v :: R)) : ∃ g', (∀ d, 3 ≤ d → y_se z_pg sc d 157 [y_vr 94, y_vi 3, y_vi v] g = some (some (y_vi 1), g')) ∧ MT L (p + 1) g' ∧ FM g g' ∧ RS L (p + 1) R := ⟨_, fun d hd => t_sign d hd M hL h, M.at _, FM.p, (RS_nx h).2⟩
theorem k_fig (M : MT L p g) (hL : L.length ≤ 110) {x lo hi : Int} (hx : 0 ≤ x ∧ x ≤ 9) (hb : lo ≤ x ∧ x ≤ hi) (h : RS L p ((48 + x) :: R)) : ∃ g', (∀ d, 4 ≤ d → y_se z_pg sc d 158 [y_vr 94, y_vi 3, y_vi lo, y_vi hi] g = some (some (y_vi 1), g')) ∧ MT L (p + 1) g' ∧ FM g g' ∧ y_I g' 94 20 = x ∧ RS L (p + 1) R := ⟨_, fun d hd => t_fig d hd M hL hx hb h, M.vl.at _, FM.v.trans FM.p, by rw [yI_sI_o (by omega), yI_sI_e ⟨rfl, rfl⟩], (RS_nx h).2⟩
theorem k_min (M : MT L p g) (hL : L.length ≤ 110) {x lo hi : Int} (hx : 0 ≤ x ∧ x ≤ 99) (hb : lo ≤ x ∧ x ≤ hi) (h : RS L p (rnum x ++ R)) (hR : x < 10 → nfg (R.headD 32)) : ∃ g', (∀ d, 4 ≤ d → y_se z_pg sc d 159 [y_vr 94, y_vi 3, y_vi lo, y_vi hi] g = some (some (y_vi 1), g')) ∧ MT L (p + (rnum x).length) g' ∧ FM g g' ∧ y_I g' 94 20 = x ∧ RS L (p + (rnum x).length) R := ⟨_, fun d hd => (t_min (sc := sc) d hd M hL hx hb h hR).1, (M.at _).vl, FM.p.trans FM.v, yI_sI_e ⟨rfl, rfl⟩, (t_min (sc := sc) (g := g) 4 (by omega) M hL hx hb h hR).2⟩
theorem MT_w {g' : y_Hp} {q : Int} (M : MT L p g) (e : ∀ a k, (a = 99 ∨ a = 100) → y_I g' a k = y_I g a k) (e9 : y_I g' 94 19 = q) : MT L q g' := ⟨by rw [e _ _ (Or.inl rfl)]; exact M.1, e9, fun i i1 i2 => by rw [e _ _ (Or.inr rfl)]; exact M.2.2 i i1 i2⟩
def qP (H : Nat → Int) (j : Int) (g : y_Hp) : Prop := ∀ q, 0 ≤ q → q < j → y_I g 106 (Int.toNat (3 * q)) = H (Int.toNat (8 + 3 * q)) ∧ y_I g 106 (Int.toNat (3 * q + 1)) = H (Int.toNat (9 + 3 * q)) ∧ y_I g 106 (Int.toNat (3 * q + 2)) = H (Int.toNat (10 + 3 * q))
def qR (H : Nat → Int) (j : Int) (g : y_Hp) : Prop := ∀ q, 0 ≤ q → q < j → y_I g 107 (Int.toNat (3 * q)) = H (Int.toNat (20 + 3 * q)) ∧ y_I g 107 (Int.toNat (3 * q + 1)) = H (Int.toNat (21 + 3 * q)) ∧ y_I g 107 (Int.toNat (3 * q + 2)) = H (Int.toNat (22 + 3 * q))
def qW (W : Nat → Int) (j : Int) (g : y_Hp) : Prop := ∀ q, 0 ≤ q → q < j → y_I g 108 (Int.toNat (4 * q)) = W (Int.toNat (4 * q)) ∧ y_I g 108 (Int.toNat (4 * q + 1)) = W (Int.toNat (4 * q + 1)) ∧ y_I g 108 (Int.toNat (4 * q + 2)) = W (Int.toNat (4 * q + 2)) ∧ y_I g 108 (Int.toNat (4 * q + 3)) = W (Int.toNat (4 * q + 3))
def qC (H : Nat → Int) (j : Int) (g : y_Hp) : Prop := ∀ q, 0 ≤ q → q < j → y_I g 110 (Int.toNat (3 * q)) = H (Int.toNat (40 + 3 * q)) ∧ y_I g 110 (Int.toNat (3 * q + 1)) = H (Int.toNat (41 + 3 * q)) ∧ y_I g 110 (Int.toNat (3 * q + 2)) = H (Int.toNat (42 + 3 * q))
/-- what is read so far -/
def QS (L : List Int) (H W : Nat → Int) (p la pm rm wm um : Int) (g : y_Hp) : Prop := MT L p g ∧ (y_I g 94 21 = la ∧ y_I g 94 22 = pm ∧ y_I g 94 23 = rm ∧ y_I g 94 24 = wm ∧ y_I g 94 25 = 0 ∧ y_I g 94 26 = um) ∧ qP H pm g ∧ qR H rm g ∧ qW W wm g ∧ qC H um g
theorem qP_cg {g' : y_Hp} {j : Int} (e : ∀ k, y_I g' 106 k = y_I g 106 k) (q : qP H j g) : qP H j g' := by unfold qP at q ⊢; simp only [e]; exact q
theorem qR_cg {g' : y_Hp} {j : Int} (e : ∀ k, y_I g' 107 k = y_I g 107 k) (q : qR H j g) : qR H j g' := by unfold qR at q ⊢; simp only [e]; exact q
theorem qW_cg {g' : y_Hp} {j : Int} (e : ∀ k, y_I g' 108 k = y_I g 108 k) (q : qW W j g) : qW W j g' := by unfold qW at q ⊢; simp only [e]; exact q
theorem qC_cg {g' : y_Hp} {j : Int} (e : ∀ k, y_I g' 110 k = y_I g 110 k) (q : qC H j g) : qC H j g' := by unfold qC at q ⊢; simp only [e]; exact q
/-- a place told, another item stands there -/
def okh (b : Int) : Prop := b = 112 ∨ b = 114 ∨ b = 99 ∨ b = 32
theorem okh_n {b : Int} (h : okh b) : nfg b ∧ b ≠ 58 ∧ b ≠ 115 := by unfold okh at h; unfold nfg; omega
theorem FM.o {g' : y_Hp} (F : FM g g') {a k : Nat} (q : ¬ (a = 94 ∧ (k = 19 ∨ k = 20))) : y_I g' a k = y_I g a k := F.2 a k q
theorem FMM.s {a k : Nat} {v : Int} (q : (a = 94 ∧ 19 ≤ k ∧ k ≤ 26) ∨ (106 ≤ a ∧ a ≤ 110)) : FMM g (y_sI g a k v) := ⟨fun b j q1 q2 => yI_sI_o (by omega), rfl⟩
theorem FMM.rf : FMM g g := ⟨fun _ _ _ _ => rfl, rfl⟩
/-- LAST -/
theorem i_last {x pm rm wm um la : Int} (S : QS L H W p la pm rm wm um g) (hL : L.length ≤ 110) (hx : 1 ≤ x ∧ x ≤ 60) (h : RS L p (109 :: (rnum x ++ R))) (hR : nfg (R.headD 32)) : ∃ g' q, (∀ d, 20 ≤ d → y_se z_pg sc d 160 [y_vr 94, y_vi 3] g = some (some (y_vi 1), g')) ∧ QS L H W q x pm rm wm um g' ∧ FMM g g' ∧ RS L q R := by
  obtain ⟨M, ⟨e1, e2, e3, e4, e5, e6⟩, sP, sR, sW, sC⟩ := S
  have m2 := M.2.1
  have h1 := (RS_nx h).2
  obtain ⟨g1, a1, a2, a3, a4, a5⟩ := k_min (sc := sc) (M.at (p + 1)) hL (lo := 1) (hi := 60) (by omega) hx h1 (fun _ => hR)
  have F : FM g g1 := FM.p.trans a3
  refine ⟨y_sI g1 94 21 x, _, fun d hd => ?_, ⟨MT_w a2 (fun a k q => yI_sI_o (by omega)) (by rw [yI_sI_o (by omega)]; exact a2.2.1), ⟨yI_sI_e ⟨rfl, rfl⟩, ?_, ?_, ?_, ?_, ?_⟩, qP_cg (fun k => ?_) sP, qR_cg (fun k => ?_) sR, qW_cg (fun k => ?_) sW, qC_cg (fun k => ?_) sC⟩, F.mm.trans (FMM.s (by omega)), a5⟩
  · obtain ⟨d, rfl⟩ : ∃ e, d = e + 1 := ⟨d - 1, by omega⟩
    have a1 := a1 d (by omega)
    rw [e160, b160_0, m2, yr_t (by have := RS_bd h1; omega), a1, yci_s, yb_t (Or.inr rfl), a4]
  all_goals (rw [yI_sI_o (by omega), F.o (by omega)]; try assumption)
/-- a PART -/
theorem i_part {rm wm um la k : Int} (S : QS L H W p la k rm wm um g) (hL : L.length ≤ 110) (hk : 0 ≤ k ∧ k < 6) (c1 : 1 ≤ H (Int.toNat (8 + 3 * k)) ∧ H (Int.toNat (8 + 3 * k)) ≤ 2) (c2 : 0 ≤ H (Int.toNat (9 + 3 * k)) ∧ H (Int.toNat (9 + 3 * k)) ≤ 8) (c3 : 0 ≤ H (Int.toNat (10 + 3 * k)) ∧ H (Int.toNat (10 + 3 * k)) ≤ 3) (h : RS L p (rpart H k ++ R)) (hR : okh (R.headD 32)) : ∃ g' q, (∀ d, 20 ≤ d → y_se z_pg sc d 161 [y_vr 94, y_vi 3] g = some (some (y_vi 1), g')) ∧ QS L H W q la (k + 1) rm wm um g' ∧ FMM g g' ∧ RS L q R := by
  obtain ⟨M, ⟨e1, e2, e3, e4, e5, e6⟩, sP, sR, sW, sC⟩ := S
  have m2 := M.2.1
  obtain ⟨hR1, hR2, hR3⟩ := okh_n hR
  have er : rpart H k = 112 :: (48 + H (Int.toNat (8 + 3 * k))) :: ((if 0 < H (Int.toNat (9 + 3 * k)) then 58 :: rnum (H (Int.toNat (9 + 3 * k))) else []) ++ (if 0 < H (Int.toNat (10 + 3 * k)) then [115, 48 + H (Int.toNat (10 + 3 * k))] else [])) := rfl
  have fin : ∀ (a b c : Int) (g' : y_Hp) (q : Int), H (Int.toNat (8 + 3 * k)) = a → H (Int.toNat (9 + 3 * k)) = b → H (Int.toNat (10 + 3 * k)) = c → MT L q g' → y_I g' 94 22 = k + 1 → (∀ i, i = 21 ∨ i = 23 ∨ i = 24 ∨ i = 25 ∨ i = 26 → y_I g' 94 i = y_I g 94 i) → y_I g' 106 (Int.toNat (3 * k)) = a → y_I g' 106 (Int.toNat (3 * k + 1)) = b → y_I g' 106 (Int.toNat (3 * k + 2)) = c → (∀ j : Int, 0 ≤ j → j < 3 * k → y_I g' 106 (Int.toNat j) = y_I g 106 (Int.toNat j)) → (∀ a i, a = 107 ∨ a = 108 ∨ a = 110 → y_I g' a i = y_I g a i) → QS L H W q la (k + 1) rm wm um g' := by
    intro a b c g' q ea eb ec M' q22 qo x1 x2 x3 xo yo
    refine ⟨M', ⟨(qo 21 (by omega)).trans e1, q22, (qo 23 (by omega)).trans e3, (qo 24 (by omega)).trans e4, (qo 25 (by omega)).trans e5, (qo 26 (by omega)).trans e6⟩, fun t t1 t2 => ?_, qR_cg (fun i => yo _ i (by omega)) sR, qW_cg (fun i => yo _ i (by omega)) sW, qC_cg (fun i => yo _ i (by omega)) sC⟩
    by_cases et : t = k
    · subst et
      rw [x1, x2, x3, ea, eb, ec]
      exact ⟨rfl, rfl, rfl⟩
    · rw [xo _ (by omega) (by omega), xo _ (by omega) (by omega), xo _ (by omega) (by omega)]
      exact sP t t1 (by omega)
  rw [er] at h
  generalize ea : H (Int.toNat (8 + 3 * k)) = a at c1 h fin
  generalize eb : H (Int.toNat (9 + 3 * k)) = b at c2 h fin
  generalize ec : H (Int.toNat (10 + 3 * k)) = c at c3 h fin
  have h1 := (RS_nx h).2
  obtain ⟨g1, a1, a2, a3, a4, a5⟩ := k_fig (sc := sc) (M.at (p + 1)) hL (lo := 1) (hi := 2) (by omega) c1 h1
  have F1 : FM g g1 := FM.p.trans a3
  have k1 : y_I g1 94 22 = k := (F1.o (by omega)).trans e2
  have hp := RS_bd h1
  generalize eg4 : y_sI (y_sI (y_sI g1 106 (Int.toNat (3 * k)) a) 106 (Int.toNat (3 * k + 1)) 0) 106 (Int.toNat (3 * k + 2)) 0 = g4
  have M4 : MT L (p + 1 + 1) g4 := MT_w a2 (fun x y q => by rw [← eg4]; simp (disch := omega) only [yI_sI_o]) (by rw [← eg4]; simp (disch := omega) only [yI_sI_o]; exact a2.2.1)
  have o4 : ∀ x i, x ≠ 106 → y_I g4 x i = y_I g1 x i := fun x i q => by rw [← eg4]; simp (disch := omega) only [yI_sI_o]
  have p4 : ∀ j : Int, 0 ≤ j → j < 3 * k → y_I g4 106 (Int.toNat j) = y_I g 106 (Int.toNat j) := fun j j1 j2 => by
    rw [← eg4]
    simp (disch := omega) only [yI_sI_o]
    exact F1.o (by omega)
  have q4 : y_I g4 106 (Int.toNat (3 * k)) = a ∧ y_I g4 106 (Int.toNat (3 * k + 1)) = 0 ∧ y_I g4 106 (Int.toNat (3 * k + 2)) = 0 := by
    rw [← eg4]
    simp (disch := omega) only [yI_sI_o, yI_sI_e]
    trivial
  have X4 : FMM g g4 := F1.mm.trans (by
    rw [← eg4]
    exact (FMM.s (by omega)).trans ((FMM.s (by omega)).trans (FMM.s (by omega))))
  have start : ∀ d, 20 ≤ d + 1 → y_se z_pg sc (d + 1) 161 [y_vr 94, y_vi 3] g = y_ci (y_se z_pg sc d 157 [y_vr 94, y_vi 3, y_vi 58] g4) _ := fun d hd => by
    rw [e161, b161_0, e2, if_neg (by omega), m2, yr_t (by omega), a1 d (by omega), yci_s, if_neg (by omega), k1, a4, yr_t (by omega), yi_t (by omega), yr_t (by omega), yi_t (by omega), yhb_s, yr_t (by omega), yi_t (by omega), eg4]
  have Go : ∀ {g5 : y_Hp}, FM g4 g5 → (∀ x i, x ≠ 106 → ¬ (x = 94 ∧ (i = 19 ∨ i = 20)) → y_I g5 x i = y_I g x i) := fun f x i q1 q2 => (f.o q2).trans ((o4 x i q1).trans (F1.o q2))
  by_cases cb : 0 < b
  · rw [if_pos cb] at a5
    have a5 : RS L (p + 1 + 1) (58 :: ((rnum b ++ (if 0 < c then [115, 48 + c] else [])) ++ R)) := a5
    obtain ⟨g5, b1, b2, b3, b4⟩ := k_sign (sc := sc) M4 hL a5
    rw [List.append_assoc] at b4
    have nh : nfg (((if 0 < c then [115, 48 + c] else []) ++ R).headD 32) := by
      by_cases cc : 0 < c
      · rw [if_pos cc]
        exact Or.inr (by show (57 : Int) < 115; omega)
      · rw [if_neg cc]; exact hR1
    obtain ⟨g6, d1, d2, d3, d4, d5⟩ := k_min (sc := sc) b2 hL (lo := 0) (hi := 59) (by omega) (by omega) b4 (fun _ => nh)
    have F6 : FM g4 g6 := b3.trans d3
    generalize eg7 : y_sI g6 106 (Int.toNat (3 * k + 1)) b = g7
    have M7 : MT L (p + 1 + 1 + 1 + (rnum b).length) g7 := MT_w d2 (fun x y q => by rw [← eg7]; exact yI_sI_o (by omega)) (by rw [← eg7, yI_sI_o (by omega)]; exact d2.2.1)
    have X7 : FMM g g7 := X4.trans (F6.mm.trans (by rw [← eg7]; exact FMM.s (by omega)))
    have o7 : ∀ x i, x ≠ 106 → ¬ (x = 94 ∧ (i = 19 ∨ i = 20)) → y_I g7 x i = y_I g x i := fun x i q1 q2 => by
      rw [← eg7, yI_sI_o (by omega)]
      exact Go F6 x i q1 q2
    have k7 : y_I g7 94 22 = k := (o7 94 22 (by omega) (by omega)).trans e2
    have z7 : y_I g7 106 (Int.toNat (3 * k)) = a ∧ y_I g7 106 (Int.toNat (3 * k + 1)) = b ∧ y_I g7 106 (Int.toNat (3 * k + 2)) = 0 := by
      rw [← eg7]
      refine ⟨by rw [yI_sI_o (by omega), F6.o (by omega)]; exact q4.1, yI_sI_e ⟨rfl, rfl⟩, by rw [yI_sI_o (by omega), F6.o (by omega)]; exact q4.2.2⟩
    have w7 : ∀ j : Int, 0 ≤ j → j < 3 * k → y_I g7 106 (Int.toNat j) = y_I g 106 (Int.toNat j) := fun j j1 j2 => by
      rw [← eg7, yI_sI_o (by omega), F6.o (by omega)]
      exact p4 j j1 j2
    have st7 : ∀ d, 20 ≤ d + 1 → y_se z_pg sc (d + 1) 161 [y_vr 94, y_vi 3] g = y_ci (y_se z_pg sc d 157 [y_vr 94, y_vi 3, y_vi 115] g7) _ := fun d hd => by
      rw [start d hd, b1 d (by omega), yci_s, if_neg (by omega), d1 d (by omega), yci_s, if_neg (by omega), yr_t (by omega), yi_t (by omega), d4, eg7]
    by_cases cc : 0 < c
    · rw [if_pos cc] at d5
      have d5 : RS L (p + 1 + 1 + 1 + (rnum b).length) (115 :: (48 + c) :: R) := d5
      obtain ⟨g8, f1, f2, f3, f4⟩ := k_sign (sc := sc) M7 hL d5
      obtain ⟨g9, j1, j2, j3, j4, j5⟩ := k_fig (sc := sc) f2 hL (lo := 0) (hi := 9) (by omega) (by omega) f4
      have F9 : FM g7 g9 := f3.trans j3
      have k9 : y_I (y_sI g9 106 (Int.toNat (3 * k + 2)) c) 94 22 = k := by rw [yI_sI_o (by omega), F9.o (by omega)]; exact k7
      refine ⟨y_sI (y_sI g9 106 (Int.toNat (3 * k + 2)) c) 94 22 (k + 1), _, fun d hd => ?_, fin _ _ _ _ _ rfl rfl rfl (MT_w j2 (fun x y q => by simp (disch := omega) only [yI_sI_o]) (by simp (disch := omega) only [yI_sI_o]; exact j2.2.1)) (yI_sI_e ⟨rfl, rfl⟩) (fun i hi => ?_) ?_ ?_ ?_ (fun j j1 j2 => ?_) (fun x i hx => ?_), X7.trans (F9.mm.trans ((FMM.s (by omega)).trans (FMM.s (by omega)))), j5⟩
      · obtain ⟨d, rfl⟩ : ∃ e, d = e + 1 := ⟨d - 1, by omega⟩
        rw [st7 d hd, f1 d (by omega), yci_s, if_neg (by omega), j1 d (by omega), yci_s, if_neg (by omega), yr_t (by omega), yi_t (by omega), j4, k9, yr_t (by omega), yhb_s]
      · simp (disch := omega) only [yI_sI_o]
        rw [F9.o (by omega)]; exact o7 94 i (by omega) (by omega)
      · simp (disch := omega) only [yI_sI_o]
        rw [F9.o (by omega)]; exact z7.1
      · simp (disch := omega) only [yI_sI_o]
        rw [F9.o (by omega)]; exact z7.2.1
      · simp (disch := omega) only [yI_sI_o, yI_sI_e]
      · simp (disch := omega) only [yI_sI_o]
        rw [F9.o (by omega)]; exact w7 j j1 j2
      · simp (disch := omega) only [yI_sI_o]
        rw [F9.o (by omega)]; exact o7 x i (by omega) (by omega)
    · rw [if_neg cc] at d5
      have f1 := fun d hd => t_nos (sc := sc) (v := 115) d hd M7 hL d5 hR3
      refine ⟨y_sI g7 94 22 (k + 1), _, fun d hd => ?_, fin _ _ _ _ _ rfl rfl rfl (MT_w M7 (fun x y q => yI_sI_o (by omega)) (by rw [yI_sI_o (by omega)]; exact M7.2.1)) (yI_sI_e ⟨rfl, rfl⟩) (fun i hi => ?_) ?_ ?_ ?_ (fun j j1 j2 => ?_) (fun x i hx => ?_), X7.trans (FMM.s (by omega)), d5⟩
      · obtain ⟨d, rfl⟩ : ∃ e, d = e + 1 := ⟨d - 1, by omega⟩
        rw [st7 d hd, f1 d (by omega), yci_s, if_pos rfl, k7, yr_t (by omega)]
      · rw [yI_sI_o (by omega)]; exact o7 94 i (by omega) (by omega)
      · rw [yI_sI_o (by omega)]; exact z7.1
      · rw [yI_sI_o (by omega)]; exact z7.2.1
      · rw [yI_sI_o (by omega), z7.2.2]; omega
      · rw [yI_sI_o (by omega)]; exact w7 j j1 j2
      · rw [yI_sI_o (by omega)]; exact o7 x i (by omega) (by omega)
  · rw [if_neg cb] at a5
    have a5 : RS L (p + 1 + 1) ((if 0 < c then [115, 48 + c] else []) ++ R) := a5
    have nh : ((if 0 < c then [115, 48 + c] else []) ++ R).headD 32 ≠ 58 := by
      by_cases cc : 0 < c
      · rw [if_pos cc]
        show (115 : Int) ≠ 58
        omega
      · rw [if_neg cc]; exact hR2
    have b1 := fun d hd => t_nos (sc := sc) (v := 58) d hd M4 hL a5 nh
    have o7 : ∀ x i, x ≠ 106 → ¬ (x = 94 ∧ (i = 19 ∨ i = 20)) → y_I g4 x i = y_I g x i := Go FM.refl
    have k7 : y_I g4 94 22 = k := (o7 94 22 (by omega) (by omega)).trans e2
    by_cases cc : 0 < c
    · rw [if_pos cc] at a5
      have a5 : RS L (p + 1 + 1) (115 :: (48 + c) :: R) := a5
      obtain ⟨g8, f1, f2, f3, f4⟩ := k_sign (sc := sc) M4 hL a5
      obtain ⟨g9, j1, j2, j3, j4, j5⟩ := k_fig (sc := sc) f2 hL (lo := 0) (hi := 9) (by omega) (by omega) f4
      have F9 : FM g4 g9 := f3.trans j3
      have k9 : y_I (y_sI g9 106 (Int.toNat (3 * k + 2)) c) 94 22 = k := by rw [yI_sI_o (by omega), F9.o (by omega)]; exact k7
      refine ⟨y_sI (y_sI g9 106 (Int.toNat (3 * k + 2)) c) 94 22 (k + 1), _, fun d hd => ?_, fin _ _ _ _ _ rfl rfl rfl (MT_w j2 (fun x y q => by simp (disch := omega) only [yI_sI_o]) (by simp (disch := omega) only [yI_sI_o]; exact j2.2.1)) (yI_sI_e ⟨rfl, rfl⟩) (fun i hi => ?_) ?_ ?_ ?_ (fun j j1 j2 => ?_) (fun x i hx => ?_), X4.trans (F9.mm.trans ((FMM.s (by omega)).trans (FMM.s (by omega)))), j5⟩
      · obtain ⟨d, rfl⟩ : ∃ e, d = e + 1 := ⟨d - 1, by omega⟩
        rw [start d hd, b1 d (by omega), yci_s, if_pos rfl, f1 d (by omega), yci_s, if_neg (by omega), j1 d (by omega), yci_s, if_neg (by omega), yr_t (by omega), yi_t (by omega), j4, k9, yr_t (by omega), yhb_s]
      · simp (disch := omega) only [yI_sI_o]
        rw [F9.o (by omega)]; exact o7 94 i (by omega) (by omega)
      · simp (disch := omega) only [yI_sI_o]
        rw [F9.o (by omega)]; exact q4.1
      · simp (disch := omega) only [yI_sI_o]
        rw [F9.o (by omega), q4.2.1]; omega
      · simp (disch := omega) only [yI_sI_o, yI_sI_e]
      · simp (disch := omega) only [yI_sI_o]
        rw [F9.o (by omega)]; exact p4 j j1 j2
      · simp (disch := omega) only [yI_sI_o]
        rw [F9.o (by omega)]; exact o7 x i (by omega) (by omega)
    · rw [if_neg cc] at a5
      have a5 : RS L (p + 1 + 1) R := a5
      have f1 := fun d hd => t_nos (sc := sc) (v := 115) d hd M4 hL a5 hR3
      refine ⟨y_sI g4 94 22 (k + 1), _, fun d hd => ?_, fin _ _ _ _ _ rfl rfl rfl (MT_w M4 (fun x y q => yI_sI_o (by omega)) (by rw [yI_sI_o (by omega)]; exact M4.2.1)) (yI_sI_e ⟨rfl, rfl⟩) (fun i hi => ?_) ?_ ?_ ?_ (fun j j1 j2 => ?_) (fun x i hx => ?_), X4.trans (FMM.s (by omega)), a5⟩
      · obtain ⟨d, rfl⟩ : ∃ e, d = e + 1 := ⟨d - 1, by omega⟩
        rw [start d hd, b1 d (by omega), yci_s, if_pos rfl, f1 d (by omega), yci_s, if_pos rfl, k7, yr_t (by omega)]
      · rw [yI_sI_o (by omega)]; exact o7 94 i (by omega) (by omega)
      · rw [yI_sI_o (by omega)]; exact q4.1
      · rw [yI_sI_o (by omega), q4.2.1]; omega
      · rw [yI_sI_o (by omega), q4.2.2]; omega
      · rw [yI_sI_o (by omega)]; exact p4 j j1 j2
      · rw [yI_sI_o (by omega)]; exact o7 x i (by omega) (by omega)
end TK
