/-! THE LAW'S BODY over whole numbers, written by wip/whole/gen/genlaw.py -/
section LW
variable {sc : z_Sc} {h : y_Hp} {N : Nat} {i : Int} {d : Nat}
def lA (sc : z_Sc) (j : Int) : Int := (sc.2 j.toNat).toInt
theorem lA_in {j : Int} : y_inr (lA sc j) := y_inr_to _
/-- the next round of the law -/
def LQ (sc : z_Sc) (d N : Nat) (i : Int) (t : y_O) : Prop := ∃ h2, INV (N + 1) h2 ∧ t = y_ev z_pg sc d pgL_law 18 [some (y_vr 1), some (y_vr 2), some (y_vr 94), some (y_vi (i + 6))] [] h2
theorem LQ_if {c : Prop} [Decidable c] {a b : y_O} (ha : LQ sc d N i a) (hb : LQ sc d N i b) : LQ sc d N i (if c then a else b) := by
  by_cases q : c
  · rw [if_pos q]; exact ha
  · rw [if_neg q]; exact hb
set_option maxRecDepth 20000 in
theorem b250_204 (sc : z_Sc) (d : Nat) (i : Int) (h : y_Hp) : y_ev z_pg sc d pgL_law 204 [some (y_vr 1), some (y_vr 2), some (y_vr 94), some (y_vi i)] [] h = y_rg (i + 1) (y_in (i + 1) sc.1 (y_rg (i + 2) (y_in (i + 2) sc.1 (y_ci (y_se z_pg sc d 87 [y_vr 2, y_vi (lA sc (i + 1)), y_vi (lA sc (i + 2))] h) (fun u1 g1 => y_rg (i + 1) (y_in (i + 1) sc.1 (y_rg (i + 2) (y_in (i + 2) sc.1 (y_ci (y_se z_pg sc d 147 [y_vr 94, y_vi (lA sc (i + 1)), y_vi (lA sc (i + 2))] g1) (fun u2 g2 => (if u1 = u2 then y_rg (i + 6) (y_ev z_pg sc d pgL_law 18 [some (y_vr 1), some (y_vr 2), some (y_vr 94), some (y_vi (i + 6))] [] g2) else some (some (y_vi 0), g2)))))))))))) := (y_un_eq z_pg sc d pgL_law [18, 204, 237, 280, 313, 336, 399, 422, 455, 498, 521, 544, 577, 610, 643, 676, 719, 762, 795, 808, 831, 864, 897, 920, 943, 986, 1019, 1042, 1065, 1078, 1101, 1114, 1127, 1140, 1153, 1166, 1179, 1202, 1215, 1238] 48 _ _ _ _).trans rfl
set_option maxRecDepth 20000 in
theorem b250_237 (sc : z_Sc) (d : Nat) (i : Int) (h : y_Hp) : y_ev z_pg sc d pgL_law 237 [some (y_vr 1), some (y_vr 2), some (y_vr 94), some (y_vi i)] [] h = y_rg (i + 1) (y_in (i + 1) sc.1 (y_rg (i + 2) (y_in (i + 2) sc.1 (y_rg (i + 3) (y_in (i + 3) sc.1 (y_ci (y_se z_pg sc d 88 [y_vr 2, y_vi (lA sc (i + 1)), y_vi (lA sc (i + 2)), y_vi (lA sc (i + 3))] h) (fun u1 g1 => y_rg (i + 1) (y_in (i + 1) sc.1 (y_rg (i + 2) (y_in (i + 2) sc.1 (y_rg (i + 3) (y_in (i + 3) sc.1 (y_ci (y_se z_pg sc d 148 [y_vr 94, y_vi (lA sc (i + 1)), y_vi (lA sc (i + 2)), y_vi (lA sc (i + 3))] g1) (fun u2 g2 => (if u1 = u2 then y_rg (i + 6) (y_ev z_pg sc d pgL_law 18 [some (y_vr 1), some (y_vr 2), some (y_vr 94), some (y_vi (i + 6))] [] g2) else some (some (y_vi 0), g2)))))))))))))))) := (y_un_eq z_pg sc d pgL_law [18, 204, 237, 280, 313, 336, 399, 422, 455, 498, 521, 544, 577, 610, 643, 676, 719, 762, 795, 808, 831, 864, 897, 920, 943, 986, 1019, 1042, 1065, 1078, 1101, 1114, 1127, 1140, 1153, 1166, 1179, 1202, 1215, 1238] 62 _ _ _ _).trans rfl
set_option maxRecDepth 20000 in
theorem b250_280 (sc : z_Sc) (d : Nat) (i : Int) (h : y_Hp) : y_ev z_pg sc d pgL_law 280 [some (y_vr 1), some (y_vr 2), some (y_vr 94), some (y_vi i)] [] h = y_rg (i + 1) (y_in (i + 1) sc.1 (y_rg (i + 2) (y_in (i + 2) sc.1 (y_ci (y_se z_pg sc d 89 [y_vr 2, y_vi (lA sc (i + 1)), y_vi (lA sc (i + 2))] h) (fun u1 g1 => y_rg (i + 1) (y_in (i + 1) sc.1 (y_rg (i + 2) (y_in (i + 2) sc.1 (y_ci (y_se z_pg sc d 149 [y_vr 94, y_vi (lA sc (i + 1)), y_vi (lA sc (i + 2))] g1) (fun u2 g2 => (if u1 = u2 then y_rg (i + 6) (y_ev z_pg sc d pgL_law 18 [some (y_vr 1), some (y_vr 2), some (y_vr 94), some (y_vi (i + 6))] [] g2) else some (some (y_vi 0), g2)))))))))))) := (y_un_eq z_pg sc d pgL_law [18, 204, 237, 280, 313, 336, 399, 422, 455, 498, 521, 544, 577, 610, 643, 676, 719, 762, 795, 808, 831, 864, 897, 920, 943, 986, 1019, 1042, 1065, 1078, 1101, 1114, 1127, 1140, 1153, 1166, 1179, 1202, 1215, 1238] 48 _ _ _ _).trans rfl
set_option maxRecDepth 20000 in
theorem b250_313 (sc : z_Sc) (d : Nat) (i : Int) (h : y_Hp) : y_ev z_pg sc d pgL_law 313 [some (y_vr 1), some (y_vr 2), some (y_vr 94), some (y_vi i)] [] h = y_rg (i + 1) (y_in (i + 1) sc.1 (y_ci (y_se z_pg sc d 90 [y_vr 2, y_vi (lA sc (i + 1))] h) (fun u1 g1 => y_rg (i + 1) (y_in (i + 1) sc.1 (y_ci (y_se z_pg sc d 150 [y_vr 94, y_vi (lA sc (i + 1))] g1) (fun u2 g2 => (if u1 = u2 then y_rg (i + 6) (y_ev z_pg sc d pgL_law 18 [some (y_vr 1), some (y_vr 2), some (y_vr 94), some (y_vi (i + 6))] [] g2) else some (some (y_vi 0), g2)))))))) := (y_un_eq z_pg sc d pgL_law [18, 204, 237, 280, 313, 336, 399, 422, 455, 498, 521, 544, 577, 610, 643, 676, 719, 762, 795, 808, 831, 864, 897, 920, 943, 986, 1019, 1042, 1065, 1078, 1101, 1114, 1127, 1140, 1153, 1166, 1179, 1202, 1215, 1238] 34 _ _ _ _).trans rfl
set_option maxRecDepth 20000 in
theorem b250_336 (sc : z_Sc) (d : Nat) (i : Int) (h : y_Hp) : y_ev z_pg sc d pgL_law 336 [some (y_vr 1), some (y_vr 2), some (y_vr 94), some (y_vi i)] [] h = y_rg (i + 1) (y_in (i + 1) sc.1 (y_rg (i + 2) (y_in (i + 2) sc.1 (y_rg (i + 3) (y_in (i + 3) sc.1 (y_rg (i + 4) (y_in (i + 4) sc.1 (y_rg (i + 5) (y_in (i + 5) sc.1 (y_ci (y_se z_pg sc d 91 [y_vr 2, y_vi (lA sc (i + 1)), y_vi (lA sc (i + 2)), y_vi (lA sc (i + 3)), y_vi (lA sc (i + 4)), y_vi (lA sc (i + 5))] h) (fun u1 g1 => y_rg (i + 1) (y_in (i + 1) sc.1 (y_rg (i + 2) (y_in (i + 2) sc.1 (y_rg (i + 3) (y_in (i + 3) sc.1 (y_rg (i + 4) (y_in (i + 4) sc.1 (y_rg (i + 5) (y_in (i + 5) sc.1 (y_ci (y_se z_pg sc d 151 [y_vr 94, y_vi (lA sc (i + 1)), y_vi (lA sc (i + 2)), y_vi (lA sc (i + 3)), y_vi (lA sc (i + 4)), y_vi (lA sc (i + 5))] g1) (fun u2 g2 => (if u1 = u2 then y_rg (i + 6) (y_ev z_pg sc d pgL_law 18 [some (y_vr 1), some (y_vr 2), some (y_vr 94), some (y_vi (i + 6))] [] g2) else some (some (y_vi 0), g2)))))))))))))))))))))))) := (y_un_eq z_pg sc d pgL_law [18, 204, 237, 280, 313, 336, 399, 422, 455, 498, 521, 544, 577, 610, 643, 676, 719, 762, 795, 808, 831, 864, 897, 920, 943, 986, 1019, 1042, 1065, 1078, 1101, 1114, 1127, 1140, 1153, 1166, 1179, 1202, 1215, 1238] 90 _ _ _ _).trans rfl
set_option maxRecDepth 20000 in
theorem b250_399 (sc : z_Sc) (d : Nat) (i : Int) (h : y_Hp) : y_ev z_pg sc d pgL_law 399 [some (y_vr 1), some (y_vr 2), some (y_vr 94), some (y_vi i)] [] h = y_rg (i + 1) (y_in (i + 1) sc.1 (y_ci (y_se z_pg sc d 92 [y_vr 2, y_vi (lA sc (i + 1))] h) (fun u1 g1 => y_rg (i + 1) (y_in (i + 1) sc.1 (y_ci (y_se z_pg sc d 152 [y_vr 94, y_vi (lA sc (i + 1))] g1) (fun u2 g2 => (if u1 = u2 then y_rg (i + 6) (y_ev z_pg sc d pgL_law 18 [some (y_vr 1), some (y_vr 2), some (y_vr 94), some (y_vi (i + 6))] [] g2) else some (some (y_vi 0), g2)))))))) := (y_un_eq z_pg sc d pgL_law [18, 204, 237, 280, 313, 336, 399, 422, 455, 498, 521, 544, 577, 610, 643, 676, 719, 762, 795, 808, 831, 864, 897, 920, 943, 986, 1019, 1042, 1065, 1078, 1101, 1114, 1127, 1140, 1153, 1166, 1179, 1202, 1215, 1238] 34 _ _ _ _).trans rfl
set_option maxRecDepth 20000 in
theorem b250_422 (sc : z_Sc) (d : Nat) (i : Int) (h : y_Hp) : y_ev z_pg sc d pgL_law 422 [some (y_vr 1), some (y_vr 2), some (y_vr 94), some (y_vi i)] [] h = y_rg (i + 1) (y_in (i + 1) sc.1 (y_rg (i + 2) (y_in (i + 2) sc.1 (y_ci (y_se z_pg sc d 93 [y_vr 2, y_vi (lA sc (i + 1)), y_vi (lA sc (i + 2))] h) (fun u1 g1 => y_rg (i + 1) (y_in (i + 1) sc.1 (y_rg (i + 2) (y_in (i + 2) sc.1 (y_ci (y_se z_pg sc d 154 [y_vr 94, y_vi (lA sc (i + 1)), y_vi (lA sc (i + 2))] g1) (fun u2 g2 => (if u1 = u2 then y_rg (i + 6) (y_ev z_pg sc d pgL_law 18 [some (y_vr 1), some (y_vr 2), some (y_vr 94), some (y_vi (i + 6))] [] g2) else some (some (y_vi 0), g2)))))))))))) := (y_un_eq z_pg sc d pgL_law [18, 204, 237, 280, 313, 336, 399, 422, 455, 498, 521, 544, 577, 610, 643, 676, 719, 762, 795, 808, 831, 864, 897, 920, 943, 986, 1019, 1042, 1065, 1078, 1101, 1114, 1127, 1140, 1153, 1166, 1179, 1202, 1215, 1238] 48 _ _ _ _).trans rfl
set_option maxRecDepth 20000 in
theorem b250_455 (sc : z_Sc) (d : Nat) (i : Int) (h : y_Hp) : y_ev z_pg sc d pgL_law 455 [some (y_vr 1), some (y_vr 2), some (y_vr 94), some (y_vi i)] [] h = y_rg (i + 1) (y_in (i + 1) sc.1 (y_rg (i + 2) (y_in (i + 2) sc.1 (y_rg (i + 3) (y_in (i + 3) sc.1 (y_ci (y_se z_pg sc d 94 [y_vr 2, y_vi (lA sc (i + 1)), y_vi (lA sc (i + 2)), y_vi (lA sc (i + 3))] h) (fun u1 g1 => y_rg (i + 1) (y_in (i + 1) sc.1 (y_rg (i + 2) (y_in (i + 2) sc.1 (y_rg (i + 3) (y_in (i + 3) sc.1 (y_ci (y_se z_pg sc d 155 [y_vr 94, y_vi (lA sc (i + 1)), y_vi (lA sc (i + 2)), y_vi (lA sc (i + 3))] g1) (fun u2 g2 => (if u1 = u2 then y_rg (i + 6) (y_ev z_pg sc d pgL_law 18 [some (y_vr 1), some (y_vr 2), some (y_vr 94), some (y_vi (i + 6))] [] g2) else some (some (y_vi 0), g2)))))))))))))))) := (y_un_eq z_pg sc d pgL_law [18, 204, 237, 280, 313, 336, 399, 422, 455, 498, 521, 544, 577, 610, 643, 676, 719, 762, 795, 808, 831, 864, 897, 920, 943, 986, 1019, 1042, 1065, 1078, 1101, 1114, 1127, 1140, 1153, 1166, 1179, 1202, 1215, 1238] 62 _ _ _ _).trans rfl
set_option maxRecDepth 20000 in
theorem b250_498 (sc : z_Sc) (d : Nat) (i : Int) (h : y_Hp) : y_ev z_pg sc d pgL_law 498 [some (y_vr 1), some (y_vr 2), some (y_vr 94), some (y_vi i)] [] h = y_rg (i + 1) (y_in (i + 1) sc.1 (y_ci (y_se z_pg sc d 95 [y_vr 2, y_vi (lA sc (i + 1))] h) (fun u1 g1 => y_rg (i + 1) (y_in (i + 1) sc.1 (y_ci (y_se z_pg sc d 168 [y_vr 94, y_vi (lA sc (i + 1))] g1) (fun u2 g2 => (if u1 = u2 then y_rg (i + 6) (y_ev z_pg sc d pgL_law 18 [some (y_vr 1), some (y_vr 2), some (y_vr 94), some (y_vi (i + 6))] [] g2) else some (some (y_vi 0), g2)))))))) := (y_un_eq z_pg sc d pgL_law [18, 204, 237, 280, 313, 336, 399, 422, 455, 498, 521, 544, 577, 610, 643, 676, 719, 762, 795, 808, 831, 864, 897, 920, 943, 986, 1019, 1042, 1065, 1078, 1101, 1114, 1127, 1140, 1153, 1166, 1179, 1202, 1215, 1238] 34 _ _ _ _).trans rfl
set_option maxRecDepth 20000 in
theorem b250_521 (sc : z_Sc) (d : Nat) (i : Int) (h : y_Hp) : y_ev z_pg sc d pgL_law 521 [some (y_vr 1), some (y_vr 2), some (y_vr 94), some (y_vi i)] [] h = y_rg (i + 1) (y_in (i + 1) sc.1 (y_ci (y_se z_pg sc d 96 [y_vr 2, y_vi (lA sc (i + 1))] h) (fun u1 g1 => y_rg (i + 1) (y_in (i + 1) sc.1 (y_ci (y_se z_pg sc d 169 [y_vr 94, y_vi (lA sc (i + 1))] g1) (fun u2 g2 => (if u1 = u2 then y_rg (i + 6) (y_ev z_pg sc d pgL_law 18 [some (y_vr 1), some (y_vr 2), some (y_vr 94), some (y_vi (i + 6))] [] g2) else some (some (y_vi 0), g2)))))))) := (y_un_eq z_pg sc d pgL_law [18, 204, 237, 280, 313, 336, 399, 422, 455, 498, 521, 544, 577, 610, 643, 676, 719, 762, 795, 808, 831, 864, 897, 920, 943, 986, 1019, 1042, 1065, 1078, 1101, 1114, 1127, 1140, 1153, 1166, 1179, 1202, 1215, 1238] 34 _ _ _ _).trans rfl
set_option maxRecDepth 20000 in
theorem b250_544 (sc : z_Sc) (d : Nat) (i : Int) (h : y_Hp) : y_ev z_pg sc d pgL_law 544 [some (y_vr 1), some (y_vr 2), some (y_vr 94), some (y_vi i)] [] h = y_rg (i + 1) (y_in (i + 1) sc.1 (y_rg (i + 2) (y_in (i + 2) sc.1 (y_ci (y_se z_pg sc d 97 [y_vr 2, y_vi (lA sc (i + 1)), y_vi (lA sc (i + 2))] h) (fun u1 g1 => y_rg (i + 1) (y_in (i + 1) sc.1 (y_rg (i + 2) (y_in (i + 2) sc.1 (y_ci (y_se z_pg sc d 183 [y_vr 94, y_vi (lA sc (i + 1)), y_vi (lA sc (i + 2))] g1) (fun u2 g2 => (if u1 = u2 then y_rg (i + 6) (y_ev z_pg sc d pgL_law 18 [some (y_vr 1), some (y_vr 2), some (y_vr 94), some (y_vi (i + 6))] [] g2) else some (some (y_vi 0), g2)))))))))))) := (y_un_eq z_pg sc d pgL_law [18, 204, 237, 280, 313, 336, 399, 422, 455, 498, 521, 544, 577, 610, 643, 676, 719, 762, 795, 808, 831, 864, 897, 920, 943, 986, 1019, 1042, 1065, 1078, 1101, 1114, 1127, 1140, 1153, 1166, 1179, 1202, 1215, 1238] 48 _ _ _ _).trans rfl
set_option maxRecDepth 20000 in
theorem b250_577 (sc : z_Sc) (d : Nat) (i : Int) (h : y_Hp) : y_ev z_pg sc d pgL_law 577 [some (y_vr 1), some (y_vr 2), some (y_vr 94), some (y_vi i)] [] h = y_rg (i + 1) (y_in (i + 1) sc.1 (y_rg (i + 2) (y_in (i + 2) sc.1 (y_ci (y_se z_pg sc d 98 [y_vr 2, y_vi (lA sc (i + 1)), y_vi (lA sc (i + 2))] h) (fun u1 g1 => y_rg (i + 1) (y_in (i + 1) sc.1 (y_rg (i + 2) (y_in (i + 2) sc.1 (y_ci (y_se z_pg sc d 185 [y_vr 94, y_vi (lA sc (i + 1)), y_vi (lA sc (i + 2))] g1) (fun u2 g2 => (if u1 = u2 then y_rg (i + 6) (y_ev z_pg sc d pgL_law 18 [some (y_vr 1), some (y_vr 2), some (y_vr 94), some (y_vi (i + 6))] [] g2) else some (some (y_vi 0), g2)))))))))))) := (y_un_eq z_pg sc d pgL_law [18, 204, 237, 280, 313, 336, 399, 422, 455, 498, 521, 544, 577, 610, 643, 676, 719, 762, 795, 808, 831, 864, 897, 920, 943, 986, 1019, 1042, 1065, 1078, 1101, 1114, 1127, 1140, 1153, 1166, 1179, 1202, 1215, 1238] 48 _ _ _ _).trans rfl
set_option maxRecDepth 20000 in
theorem b250_610 (sc : z_Sc) (d : Nat) (i : Int) (h : y_Hp) : y_ev z_pg sc d pgL_law 610 [some (y_vr 1), some (y_vr 2), some (y_vr 94), some (y_vi i)] [] h = y_rg (i + 1) (y_in (i + 1) sc.1 (y_rg (i + 2) (y_in (i + 2) sc.1 (y_ci (y_se z_pg sc d 99 [y_vr 2, y_vi (lA sc (i + 1)), y_vi (lA sc (i + 2))] h) (fun u1 g1 => y_rg (i + 1) (y_in (i + 1) sc.1 (y_rg (i + 2) (y_in (i + 2) sc.1 (y_ci (y_se z_pg sc d 187 [y_vr 94, y_vi (lA sc (i + 1)), y_vi (lA sc (i + 2))] g1) (fun u2 g2 => (if u1 = u2 then y_rg (i + 6) (y_ev z_pg sc d pgL_law 18 [some (y_vr 1), some (y_vr 2), some (y_vr 94), some (y_vi (i + 6))] [] g2) else some (some (y_vi 0), g2)))))))))))) := (y_un_eq z_pg sc d pgL_law [18, 204, 237, 280, 313, 336, 399, 422, 455, 498, 521, 544, 577, 610, 643, 676, 719, 762, 795, 808, 831, 864, 897, 920, 943, 986, 1019, 1042, 1065, 1078, 1101, 1114, 1127, 1140, 1153, 1166, 1179, 1202, 1215, 1238] 48 _ _ _ _).trans rfl
set_option maxRecDepth 20000 in
theorem b250_643 (sc : z_Sc) (d : Nat) (i : Int) (h : y_Hp) : y_ev z_pg sc d pgL_law 643 [some (y_vr 1), some (y_vr 2), some (y_vr 94), some (y_vi i)] [] h = y_rg (i + 1) (y_in (i + 1) sc.1 (y_rg (i + 2) (y_in (i + 2) sc.1 (y_ci (y_se z_pg sc d 100 [y_vr 2, y_vi (lA sc (i + 1)), y_vi (lA sc (i + 2))] h) (fun u1 g1 => y_rg (i + 1) (y_in (i + 1) sc.1 (y_rg (i + 2) (y_in (i + 2) sc.1 (y_ci (y_se z_pg sc d 188 [y_vr 94, y_vi (lA sc (i + 1)), y_vi (lA sc (i + 2))] g1) (fun u2 g2 => (if u1 = u2 then y_rg (i + 6) (y_ev z_pg sc d pgL_law 18 [some (y_vr 1), some (y_vr 2), some (y_vr 94), some (y_vi (i + 6))] [] g2) else some (some (y_vi 0), g2)))))))))))) := (y_un_eq z_pg sc d pgL_law [18, 204, 237, 280, 313, 336, 399, 422, 455, 498, 521, 544, 577, 610, 643, 676, 719, 762, 795, 808, 831, 864, 897, 920, 943, 986, 1019, 1042, 1065, 1078, 1101, 1114, 1127, 1140, 1153, 1166, 1179, 1202, 1215, 1238] 48 _ _ _ _).trans rfl
set_option maxRecDepth 20000 in
theorem b250_676 (sc : z_Sc) (d : Nat) (i : Int) (h : y_Hp) : y_ev z_pg sc d pgL_law 676 [some (y_vr 1), some (y_vr 2), some (y_vr 94), some (y_vi i)] [] h = y_rg (i + 1) (y_in (i + 1) sc.1 (y_rg (i + 2) (y_in (i + 2) sc.1 (y_rg (i + 3) (y_in (i + 3) sc.1 (y_ci (y_se z_pg sc d 101 [y_vr 2, y_vi (lA sc (i + 1)), y_vi (lA sc (i + 2)), y_vi (lA sc (i + 3))] h) (fun u1 g1 => y_rg (i + 1) (y_in (i + 1) sc.1 (y_rg (i + 2) (y_in (i + 2) sc.1 (y_rg (i + 3) (y_in (i + 3) sc.1 (y_ci (y_se z_pg sc d 189 [y_vr 94, y_vi (lA sc (i + 1)), y_vi (lA sc (i + 2)), y_vi (lA sc (i + 3))] g1) (fun u2 g2 => (if u1 = u2 then y_rg (i + 6) (y_ev z_pg sc d pgL_law 18 [some (y_vr 1), some (y_vr 2), some (y_vr 94), some (y_vi (i + 6))] [] g2) else some (some (y_vi 0), g2)))))))))))))))) := (y_un_eq z_pg sc d pgL_law [18, 204, 237, 280, 313, 336, 399, 422, 455, 498, 521, 544, 577, 610, 643, 676, 719, 762, 795, 808, 831, 864, 897, 920, 943, 986, 1019, 1042, 1065, 1078, 1101, 1114, 1127, 1140, 1153, 1166, 1179, 1202, 1215, 1238] 62 _ _ _ _).trans rfl
set_option maxRecDepth 20000 in
theorem b250_719 (sc : z_Sc) (d : Nat) (i : Int) (h : y_Hp) : y_ev z_pg sc d pgL_law 719 [some (y_vr 1), some (y_vr 2), some (y_vr 94), some (y_vi i)] [] h = y_rg (i + 1) (y_in (i + 1) sc.1 (y_rg (i + 2) (y_in (i + 2) sc.1 (y_rg (i + 3) (y_in (i + 3) sc.1 (y_ci (y_se z_pg sc d 102 [y_vr 2, y_vi (lA sc (i + 1)), y_vi (lA sc (i + 2)), y_vi (lA sc (i + 3))] h) (fun u1 g1 => y_rg (i + 1) (y_in (i + 1) sc.1 (y_rg (i + 2) (y_in (i + 2) sc.1 (y_rg (i + 3) (y_in (i + 3) sc.1 (y_ci (y_se z_pg sc d 190 [y_vr 94, y_vi (lA sc (i + 1)), y_vi (lA sc (i + 2)), y_vi (lA sc (i + 3))] g1) (fun u2 g2 => (if u1 = u2 then y_rg (i + 6) (y_ev z_pg sc d pgL_law 18 [some (y_vr 1), some (y_vr 2), some (y_vr 94), some (y_vi (i + 6))] [] g2) else some (some (y_vi 0), g2)))))))))))))))) := (y_un_eq z_pg sc d pgL_law [18, 204, 237, 280, 313, 336, 399, 422, 455, 498, 521, 544, 577, 610, 643, 676, 719, 762, 795, 808, 831, 864, 897, 920, 943, 986, 1019, 1042, 1065, 1078, 1101, 1114, 1127, 1140, 1153, 1166, 1179, 1202, 1215, 1238] 62 _ _ _ _).trans rfl
set_option maxRecDepth 20000 in
theorem b250_762 (sc : z_Sc) (d : Nat) (i : Int) (h : y_Hp) : y_ev z_pg sc d pgL_law 762 [some (y_vr 1), some (y_vr 2), some (y_vr 94), some (y_vi i)] [] h = y_rg (i + 1) (y_in (i + 1) sc.1 (y_rg (i + 2) (y_in (i + 2) sc.1 (y_ci (y_se z_pg sc d 103 [y_vr 2, y_vi (lA sc (i + 1)), y_vi (lA sc (i + 2))] h) (fun u1 g1 => y_rg (i + 1) (y_in (i + 1) sc.1 (y_rg (i + 2) (y_in (i + 2) sc.1 (y_ci (y_se z_pg sc d 194 [y_vr 94, y_vi (lA sc (i + 1)), y_vi (lA sc (i + 2))] g1) (fun u2 g2 => (if u1 = u2 then y_rg (i + 6) (y_ev z_pg sc d pgL_law 18 [some (y_vr 1), some (y_vr 2), some (y_vr 94), some (y_vi (i + 6))] [] g2) else some (some (y_vi 0), g2)))))))))))) := (y_un_eq z_pg sc d pgL_law [18, 204, 237, 280, 313, 336, 399, 422, 455, 498, 521, 544, 577, 610, 643, 676, 719, 762, 795, 808, 831, 864, 897, 920, 943, 986, 1019, 1042, 1065, 1078, 1101, 1114, 1127, 1140, 1153, 1166, 1179, 1202, 1215, 1238] 48 _ _ _ _).trans rfl
set_option maxRecDepth 20000 in
theorem b250_795 (sc : z_Sc) (d : Nat) (i : Int) (h : y_Hp) : y_ev z_pg sc d pgL_law 795 [some (y_vr 1), some (y_vr 2), some (y_vr 94), some (y_vi i)] [] h = y_ci (y_se z_pg sc d 104 [y_vr 2] h) (fun u1 g1 => y_ci (y_se z_pg sc d 201 [y_vr 94] g1) (fun u2 g2 => (if u1 = u2 then y_rg (i + 6) (y_ev z_pg sc d pgL_law 18 [some (y_vr 1), some (y_vr 2), some (y_vr 94), some (y_vi (i + 6))] [] g2) else some (some (y_vi 0), g2)))) := (y_un_eq z_pg sc d pgL_law [18, 204, 237, 280, 313, 336, 399, 422, 455, 498, 521, 544, 577, 610, 643, 676, 719, 762, 795, 808, 831, 864, 897, 920, 943, 986, 1019, 1042, 1065, 1078, 1101, 1114, 1127, 1140, 1153, 1166, 1179, 1202, 1215, 1238] 20 _ _ _ _).trans rfl
set_option maxRecDepth 20000 in
theorem b250_808 (sc : z_Sc) (d : Nat) (i : Int) (h : y_Hp) : y_ev z_pg sc d pgL_law 808 [some (y_vr 1), some (y_vr 2), some (y_vr 94), some (y_vi i)] [] h = y_rg (i + 1) (y_in (i + 1) sc.1 (y_ci (y_se z_pg sc d 105 [y_vr 2, y_vi (lA sc (i + 1))] h) (fun u1 g1 => y_rg (i + 1) (y_in (i + 1) sc.1 (y_ci (y_se z_pg sc d 204 [y_vr 94, y_vi (lA sc (i + 1))] g1) (fun u2 g2 => (if u1 = u2 then y_rg (i + 6) (y_ev z_pg sc d pgL_law 18 [some (y_vr 1), some (y_vr 2), some (y_vr 94), some (y_vi (i + 6))] [] g2) else some (some (y_vi 0), g2)))))))) := (y_un_eq z_pg sc d pgL_law [18, 204, 237, 280, 313, 336, 399, 422, 455, 498, 521, 544, 577, 610, 643, 676, 719, 762, 795, 808, 831, 864, 897, 920, 943, 986, 1019, 1042, 1065, 1078, 1101, 1114, 1127, 1140, 1153, 1166, 1179, 1202, 1215, 1238] 34 _ _ _ _).trans rfl
set_option maxRecDepth 20000 in
theorem b250_831 (sc : z_Sc) (d : Nat) (i : Int) (h : y_Hp) : y_ev z_pg sc d pgL_law 831 [some (y_vr 1), some (y_vr 2), some (y_vr 94), some (y_vi i)] [] h = y_rg (i + 1) (y_in (i + 1) sc.1 (y_rg (i + 2) (y_in (i + 2) sc.1 (y_ci (y_se z_pg sc d 106 [y_vr 2, y_vi (lA sc (i + 1)), y_vi (lA sc (i + 2))] h) (fun u1 g1 => y_rg (i + 1) (y_in (i + 1) sc.1 (y_rg (i + 2) (y_in (i + 2) sc.1 (y_ci (y_se z_pg sc d 205 [y_vr 94, y_vi (lA sc (i + 1)), y_vi (lA sc (i + 2))] g1) (fun u2 g2 => (if u1 = u2 then y_rg (i + 6) (y_ev z_pg sc d pgL_law 18 [some (y_vr 1), some (y_vr 2), some (y_vr 94), some (y_vi (i + 6))] [] g2) else some (some (y_vi 0), g2)))))))))))) := (y_un_eq z_pg sc d pgL_law [18, 204, 237, 280, 313, 336, 399, 422, 455, 498, 521, 544, 577, 610, 643, 676, 719, 762, 795, 808, 831, 864, 897, 920, 943, 986, 1019, 1042, 1065, 1078, 1101, 1114, 1127, 1140, 1153, 1166, 1179, 1202, 1215, 1238] 48 _ _ _ _).trans rfl
set_option maxRecDepth 20000 in
theorem b250_864 (sc : z_Sc) (d : Nat) (i : Int) (h : y_Hp) : y_ev z_pg sc d pgL_law 864 [some (y_vr 1), some (y_vr 2), some (y_vr 94), some (y_vi i)] [] h = y_rg (i + 1) (y_in (i + 1) sc.1 (y_rg (i + 2) (y_in (i + 2) sc.1 (y_ci (y_se z_pg sc d 107 [y_vr 2, y_vi (lA sc (i + 1)), y_vi (lA sc (i + 2))] h) (fun u1 g1 => y_rg (i + 1) (y_in (i + 1) sc.1 (y_rg (i + 2) (y_in (i + 2) sc.1 (y_ci (y_se z_pg sc d 206 [y_vr 94, y_vi (lA sc (i + 1)), y_vi (lA sc (i + 2))] g1) (fun u2 g2 => (if u1 = u2 then y_rg (i + 6) (y_ev z_pg sc d pgL_law 18 [some (y_vr 1), some (y_vr 2), some (y_vr 94), some (y_vi (i + 6))] [] g2) else some (some (y_vi 0), g2)))))))))))) := (y_un_eq z_pg sc d pgL_law [18, 204, 237, 280, 313, 336, 399, 422, 455, 498, 521, 544, 577, 610, 643, 676, 719, 762, 795, 808, 831, 864, 897, 920, 943, 986, 1019, 1042, 1065, 1078, 1101, 1114, 1127, 1140, 1153, 1166, 1179, 1202, 1215, 1238] 48 _ _ _ _).trans rfl
set_option maxRecDepth 20000 in
theorem b250_897 (sc : z_Sc) (d : Nat) (i : Int) (h : y_Hp) : y_ev z_pg sc d pgL_law 897 [some (y_vr 1), some (y_vr 2), some (y_vr 94), some (y_vi i)] [] h = y_rg (i + 1) (y_in (i + 1) sc.1 (y_ci (y_se z_pg sc d 108 [y_vr 2, y_vi (lA sc (i + 1))] h) (fun u1 g1 => y_rg (i + 1) (y_in (i + 1) sc.1 (y_ci (y_se z_pg sc d 207 [y_vr 94, y_vi (lA sc (i + 1))] g1) (fun u2 g2 => (if u1 = u2 then y_rg (i + 6) (y_ev z_pg sc d pgL_law 18 [some (y_vr 1), some (y_vr 2), some (y_vr 94), some (y_vi (i + 6))] [] g2) else some (some (y_vi 0), g2)))))))) := (y_un_eq z_pg sc d pgL_law [18, 204, 237, 280, 313, 336, 399, 422, 455, 498, 521, 544, 577, 610, 643, 676, 719, 762, 795, 808, 831, 864, 897, 920, 943, 986, 1019, 1042, 1065, 1078, 1101, 1114, 1127, 1140, 1153, 1166, 1179, 1202, 1215, 1238] 34 _ _ _ _).trans rfl
set_option maxRecDepth 20000 in
theorem b250_920 (sc : z_Sc) (d : Nat) (i : Int) (h : y_Hp) : y_ev z_pg sc d pgL_law 920 [some (y_vr 1), some (y_vr 2), some (y_vr 94), some (y_vi i)] [] h = y_rg (i + 1) (y_in (i + 1) sc.1 (y_ci (y_se z_pg sc d 109 [y_vr 2, y_vi (lA sc (i + 1))] h) (fun u1 g1 => y_rg (i + 1) (y_in (i + 1) sc.1 (y_ci (y_se z_pg sc d 208 [y_vr 94, y_vi (lA sc (i + 1))] g1) (fun u2 g2 => (if u1 = u2 then y_rg (i + 6) (y_ev z_pg sc d pgL_law 18 [some (y_vr 1), some (y_vr 2), some (y_vr 94), some (y_vi (i + 6))] [] g2) else some (some (y_vi 0), g2)))))))) := (y_un_eq z_pg sc d pgL_law [18, 204, 237, 280, 313, 336, 399, 422, 455, 498, 521, 544, 577, 610, 643, 676, 719, 762, 795, 808, 831, 864, 897, 920, 943, 986, 1019, 1042, 1065, 1078, 1101, 1114, 1127, 1140, 1153, 1166, 1179, 1202, 1215, 1238] 34 _ _ _ _).trans rfl
set_option maxRecDepth 20000 in
theorem b250_943 (sc : z_Sc) (d : Nat) (i : Int) (h : y_Hp) : y_ev z_pg sc d pgL_law 943 [some (y_vr 1), some (y_vr 2), some (y_vr 94), some (y_vi i)] [] h = y_rg (i + 1) (y_in (i + 1) sc.1 (y_rg (i + 2) (y_in (i + 2) sc.1 (y_rg (i + 3) (y_in (i + 3) sc.1 (y_ci (y_se z_pg sc d 110 [y_vr 2, y_vi (lA sc (i + 1)), y_vi (lA sc (i + 2)), y_vi (lA sc (i + 3))] h) (fun u1 g1 => y_rg (i + 1) (y_in (i + 1) sc.1 (y_rg (i + 2) (y_in (i + 2) sc.1 (y_rg (i + 3) (y_in (i + 3) sc.1 (y_ci (y_se z_pg sc d 210 [y_vr 94, y_vi (lA sc (i + 1)), y_vi (lA sc (i + 2)), y_vi (lA sc (i + 3))] g1) (fun u2 g2 => (if u1 = u2 then y_rg (i + 6) (y_ev z_pg sc d pgL_law 18 [some (y_vr 1), some (y_vr 2), some (y_vr 94), some (y_vi (i + 6))] [] g2) else some (some (y_vi 0), g2)))))))))))))))) := (y_un_eq z_pg sc d pgL_law [18, 204, 237, 280, 313, 336, 399, 422, 455, 498, 521, 544, 577, 610, 643, 676, 719, 762, 795, 808, 831, 864, 897, 920, 943, 986, 1019, 1042, 1065, 1078, 1101, 1114, 1127, 1140, 1153, 1166, 1179, 1202, 1215, 1238] 62 _ _ _ _).trans rfl
set_option maxRecDepth 20000 in
theorem b250_986 (sc : z_Sc) (d : Nat) (i : Int) (h : y_Hp) : y_ev z_pg sc d pgL_law 986 [some (y_vr 1), some (y_vr 2), some (y_vr 94), some (y_vi i)] [] h = y_rg (i + 1) (y_in (i + 1) sc.1 (y_rg (i + 2) (y_in (i + 2) sc.1 (y_ci (y_se z_pg sc d 111 [y_vr 2, y_vi (lA sc (i + 1)), y_vi (lA sc (i + 2))] h) (fun u1 g1 => y_rg (i + 1) (y_in (i + 1) sc.1 (y_rg (i + 2) (y_in (i + 2) sc.1 (y_ci (y_se z_pg sc d 212 [y_vr 94, y_vi (lA sc (i + 1)), y_vi (lA sc (i + 2))] g1) (fun u2 g2 => (if u1 = u2 then y_rg (i + 6) (y_ev z_pg sc d pgL_law 18 [some (y_vr 1), some (y_vr 2), some (y_vr 94), some (y_vi (i + 6))] [] g2) else some (some (y_vi 0), g2)))))))))))) := (y_un_eq z_pg sc d pgL_law [18, 204, 237, 280, 313, 336, 399, 422, 455, 498, 521, 544, 577, 610, 643, 676, 719, 762, 795, 808, 831, 864, 897, 920, 943, 986, 1019, 1042, 1065, 1078, 1101, 1114, 1127, 1140, 1153, 1166, 1179, 1202, 1215, 1238] 48 _ _ _ _).trans rfl
set_option maxRecDepth 20000 in
theorem b250_1019 (sc : z_Sc) (d : Nat) (i : Int) (h : y_Hp) : y_ev z_pg sc d pgL_law 1019 [some (y_vr 1), some (y_vr 2), some (y_vr 94), some (y_vi i)] [] h = y_rg (i + 1) (y_in (i + 1) sc.1 (y_ci (y_se z_pg sc d 112 [y_vr 2, y_vi (lA sc (i + 1))] h) (fun u1 g1 => y_rg (i + 1) (y_in (i + 1) sc.1 (y_ci (y_se z_pg sc d 220 [y_vr 94, y_vi (lA sc (i + 1))] g1) (fun u2 g2 => (if u1 = u2 then y_rg (i + 6) (y_ev z_pg sc d pgL_law 18 [some (y_vr 1), some (y_vr 2), some (y_vr 94), some (y_vi (i + 6))] [] g2) else some (some (y_vi 0), g2)))))))) := (y_un_eq z_pg sc d pgL_law [18, 204, 237, 280, 313, 336, 399, 422, 455, 498, 521, 544, 577, 610, 643, 676, 719, 762, 795, 808, 831, 864, 897, 920, 943, 986, 1019, 1042, 1065, 1078, 1101, 1114, 1127, 1140, 1153, 1166, 1179, 1202, 1215, 1238] 34 _ _ _ _).trans rfl
set_option maxRecDepth 20000 in
theorem b250_1042 (sc : z_Sc) (d : Nat) (i : Int) (h : y_Hp) : y_ev z_pg sc d pgL_law 1042 [some (y_vr 1), some (y_vr 2), some (y_vr 94), some (y_vi i)] [] h = y_rg (i + 1) (y_in (i + 1) sc.1 (y_ci (y_se z_pg sc d 113 [y_vr 2, y_vi (lA sc (i + 1))] h) (fun u1 g1 => y_rg (i + 1) (y_in (i + 1) sc.1 (y_ci (y_se z_pg sc d 224 [y_vr 94, y_vi (lA sc (i + 1))] g1) (fun u2 g2 => (if u1 = u2 then y_rg (i + 6) (y_ev z_pg sc d pgL_law 18 [some (y_vr 1), some (y_vr 2), some (y_vr 94), some (y_vi (i + 6))] [] g2) else some (some (y_vi 0), g2)))))))) := (y_un_eq z_pg sc d pgL_law [18, 204, 237, 280, 313, 336, 399, 422, 455, 498, 521, 544, 577, 610, 643, 676, 719, 762, 795, 808, 831, 864, 897, 920, 943, 986, 1019, 1042, 1065, 1078, 1101, 1114, 1127, 1140, 1153, 1166, 1179, 1202, 1215, 1238] 34 _ _ _ _).trans rfl
set_option maxRecDepth 20000 in
theorem b250_1065 (sc : z_Sc) (d : Nat) (i : Int) (h : y_Hp) : y_ev z_pg sc d pgL_law 1065 [some (y_vr 1), some (y_vr 2), some (y_vr 94), some (y_vi i)] [] h = y_ci (y_se z_pg sc d 114 [y_vr 2] h) (fun u1 g1 => y_ci (y_se z_pg sc d 237 [y_vr 94] g1) (fun u2 g2 => (if u1 = u2 then y_rg (i + 6) (y_ev z_pg sc d pgL_law 18 [some (y_vr 1), some (y_vr 2), some (y_vr 94), some (y_vi (i + 6))] [] g2) else some (some (y_vi 0), g2)))) := (y_un_eq z_pg sc d pgL_law [18, 204, 237, 280, 313, 336, 399, 422, 455, 498, 521, 544, 577, 610, 643, 676, 719, 762, 795, 808, 831, 864, 897, 920, 943, 986, 1019, 1042, 1065, 1078, 1101, 1114, 1127, 1140, 1153, 1166, 1179, 1202, 1215, 1238] 20 _ _ _ _).trans rfl
set_option maxRecDepth 20000 in
theorem b250_1078 (sc : z_Sc) (d : Nat) (i : Int) (h : y_Hp) : y_ev z_pg sc d pgL_law 1078 [some (y_vr 1), some (y_vr 2), some (y_vr 94), some (y_vi i)] [] h = y_rg (i + 1) (y_in (i + 1) sc.1 (y_ci (y_se z_pg sc d 115 [y_vr 2, y_vi (lA sc (i + 1))] h) (fun u1 g1 => y_rg (i + 1) (y_in (i + 1) sc.1 (y_ci (y_se z_pg sc d 238 [y_vr 94, y_vi (lA sc (i + 1))] g1) (fun u2 g2 => (if u1 = u2 then y_rg (i + 6) (y_ev z_pg sc d pgL_law 18 [some (y_vr 1), some (y_vr 2), some (y_vr 94), some (y_vi (i + 6))] [] g2) else some (some (y_vi 0), g2)))))))) := (y_un_eq z_pg sc d pgL_law [18, 204, 237, 280, 313, 336, 399, 422, 455, 498, 521, 544, 577, 610, 643, 676, 719, 762, 795, 808, 831, 864, 897, 920, 943, 986, 1019, 1042, 1065, 1078, 1101, 1114, 1127, 1140, 1153, 1166, 1179, 1202, 1215, 1238] 34 _ _ _ _).trans rfl
set_option maxRecDepth 20000 in
theorem b250_1101 (sc : z_Sc) (d : Nat) (i : Int) (h : y_Hp) : y_ev z_pg sc d pgL_law 1101 [some (y_vr 1), some (y_vr 2), some (y_vr 94), some (y_vi i)] [] h = y_ci (y_se z_pg sc d 116 [y_vr 2] h) (fun u1 g1 => y_ci (y_se z_pg sc d 239 [y_vr 94] g1) (fun u2 g2 => (if u1 = u2 then y_rg (i + 6) (y_ev z_pg sc d pgL_law 18 [some (y_vr 1), some (y_vr 2), some (y_vr 94), some (y_vi (i + 6))] [] g2) else some (some (y_vi 0), g2)))) := (y_un_eq z_pg sc d pgL_law [18, 204, 237, 280, 313, 336, 399, 422, 455, 498, 521, 544, 577, 610, 643, 676, 719, 762, 795, 808, 831, 864, 897, 920, 943, 986, 1019, 1042, 1065, 1078, 1101, 1114, 1127, 1140, 1153, 1166, 1179, 1202, 1215, 1238] 20 _ _ _ _).trans rfl
set_option maxRecDepth 20000 in
theorem b250_1114 (sc : z_Sc) (d : Nat) (i : Int) (h : y_Hp) : y_ev z_pg sc d pgL_law 1114 [some (y_vr 1), some (y_vr 2), some (y_vr 94), some (y_vi i)] [] h = y_ci (y_se z_pg sc d 117 [y_vr 2] h) (fun u1 g1 => y_ci (y_se z_pg sc d 240 [y_vr 94] g1) (fun u2 g2 => (if u1 = u2 then y_rg (i + 6) (y_ev z_pg sc d pgL_law 18 [some (y_vr 1), some (y_vr 2), some (y_vr 94), some (y_vi (i + 6))] [] g2) else some (some (y_vi 0), g2)))) := (y_un_eq z_pg sc d pgL_law [18, 204, 237, 280, 313, 336, 399, 422, 455, 498, 521, 544, 577, 610, 643, 676, 719, 762, 795, 808, 831, 864, 897, 920, 943, 986, 1019, 1042, 1065, 1078, 1101, 1114, 1127, 1140, 1153, 1166, 1179, 1202, 1215, 1238] 20 _ _ _ _).trans rfl
set_option maxRecDepth 20000 in
theorem b250_1127 (sc : z_Sc) (d : Nat) (i : Int) (h : y_Hp) : y_ev z_pg sc d pgL_law 1127 [some (y_vr 1), some (y_vr 2), some (y_vr 94), some (y_vi i)] [] h = y_ci (y_se z_pg sc d 118 [y_vr 2] h) (fun u1 g1 => y_ci (y_se z_pg sc d 241 [y_vr 94] g1) (fun u2 g2 => (if u1 = u2 then y_rg (i + 6) (y_ev z_pg sc d pgL_law 18 [some (y_vr 1), some (y_vr 2), some (y_vr 94), some (y_vi (i + 6))] [] g2) else some (some (y_vi 0), g2)))) := (y_un_eq z_pg sc d pgL_law [18, 204, 237, 280, 313, 336, 399, 422, 455, 498, 521, 544, 577, 610, 643, 676, 719, 762, 795, 808, 831, 864, 897, 920, 943, 986, 1019, 1042, 1065, 1078, 1101, 1114, 1127, 1140, 1153, 1166, 1179, 1202, 1215, 1238] 20 _ _ _ _).trans rfl
set_option maxRecDepth 20000 in
theorem b250_1140 (sc : z_Sc) (d : Nat) (i : Int) (h : y_Hp) : y_ev z_pg sc d pgL_law 1140 [some (y_vr 1), some (y_vr 2), some (y_vr 94), some (y_vi i)] [] h = y_ci (y_se z_pg sc d 119 [y_vr 2] h) (fun u1 g1 => y_ci (y_se z_pg sc d 243 [y_vr 94] g1) (fun u2 g2 => (if u1 = u2 then y_rg (i + 6) (y_ev z_pg sc d pgL_law 18 [some (y_vr 1), some (y_vr 2), some (y_vr 94), some (y_vi (i + 6))] [] g2) else some (some (y_vi 0), g2)))) := (y_un_eq z_pg sc d pgL_law [18, 204, 237, 280, 313, 336, 399, 422, 455, 498, 521, 544, 577, 610, 643, 676, 719, 762, 795, 808, 831, 864, 897, 920, 943, 986, 1019, 1042, 1065, 1078, 1101, 1114, 1127, 1140, 1153, 1166, 1179, 1202, 1215, 1238] 20 _ _ _ _).trans rfl
set_option maxRecDepth 20000 in
theorem b250_1153 (sc : z_Sc) (d : Nat) (i : Int) (h : y_Hp) : y_ev z_pg sc d pgL_law 1153 [some (y_vr 1), some (y_vr 2), some (y_vr 94), some (y_vi i)] [] h = y_ci (y_se z_pg sc d 120 [y_vr 2] h) (fun u1 g1 => y_ci (y_se z_pg sc d 244 [y_vr 94] g1) (fun u2 g2 => (if u1 = u2 then y_rg (i + 6) (y_ev z_pg sc d pgL_law 18 [some (y_vr 1), some (y_vr 2), some (y_vr 94), some (y_vi (i + 6))] [] g2) else some (some (y_vi 0), g2)))) := (y_un_eq z_pg sc d pgL_law [18, 204, 237, 280, 313, 336, 399, 422, 455, 498, 521, 544, 577, 610, 643, 676, 719, 762, 795, 808, 831, 864, 897, 920, 943, 986, 1019, 1042, 1065, 1078, 1101, 1114, 1127, 1140, 1153, 1166, 1179, 1202, 1215, 1238] 20 _ _ _ _).trans rfl
set_option maxRecDepth 20000 in
theorem b250_1166 (sc : z_Sc) (d : Nat) (i : Int) (h : y_Hp) : y_ev z_pg sc d pgL_law 1166 [some (y_vr 1), some (y_vr 2), some (y_vr 94), some (y_vi i)] [] h = y_ci (y_se z_pg sc d 121 [y_vr 2] h) (fun u1 g1 => y_ci (y_se z_pg sc d 144 [y_vr 94] g1) (fun u2 g2 => (if u1 = u2 then y_rg (i + 6) (y_ev z_pg sc d pgL_law 18 [some (y_vr 1), some (y_vr 2), some (y_vr 94), some (y_vi (i + 6))] [] g2) else some (some (y_vi 0), g2)))) := (y_un_eq z_pg sc d pgL_law [18, 204, 237, 280, 313, 336, 399, 422, 455, 498, 521, 544, 577, 610, 643, 676, 719, 762, 795, 808, 831, 864, 897, 920, 943, 986, 1019, 1042, 1065, 1078, 1101, 1114, 1127, 1140, 1153, 1166, 1179, 1202, 1215, 1238] 20 _ _ _ _).trans rfl
set_option maxRecDepth 20000 in
theorem b250_1179 (sc : z_Sc) (d : Nat) (i : Int) (h : y_Hp) : y_ev z_pg sc d pgL_law 1179 [some (y_vr 1), some (y_vr 2), some (y_vr 94), some (y_vi i)] [] h = y_rg (i + 1) (y_in (i + 1) sc.1 (y_ci (y_se z_pg sc d 122 [y_vr 2, y_vi (lA sc (i + 1))] h) (fun u1 g1 => y_rg (i + 1) (y_in (i + 1) sc.1 (y_ci (y_se z_pg sc d 246 [y_vr 94, y_vi (lA sc (i + 1))] g1) (fun u2 g2 => (if u1 = u2 then y_rg (i + 6) (y_ev z_pg sc d pgL_law 18 [some (y_vr 1), some (y_vr 2), some (y_vr 94), some (y_vi (i + 6))] [] g2) else some (some (y_vi 0), g2)))))))) := (y_un_eq z_pg sc d pgL_law [18, 204, 237, 280, 313, 336, 399, 422, 455, 498, 521, 544, 577, 610, 643, 676, 719, 762, 795, 808, 831, 864, 897, 920, 943, 986, 1019, 1042, 1065, 1078, 1101, 1114, 1127, 1140, 1153, 1166, 1179, 1202, 1215, 1238] 34 _ _ _ _).trans rfl
set_option maxRecDepth 20000 in
theorem b250_1202 (sc : z_Sc) (d : Nat) (i : Int) (h : y_Hp) : y_ev z_pg sc d pgL_law 1202 [some (y_vr 1), some (y_vr 2), some (y_vr 94), some (y_vi i)] [] h = y_ci (y_se z_pg sc d 123 [y_vr 2] h) (fun u1 g1 => y_ci (y_se z_pg sc d 141 [y_vr 94] g1) (fun u2 g2 => (if u1 = u2 then y_rg (i + 6) (y_ev z_pg sc d pgL_law 18 [some (y_vr 1), some (y_vr 2), some (y_vr 94), some (y_vi (i + 6))] [] g2) else some (some (y_vi 0), g2)))) := (y_un_eq z_pg sc d pgL_law [18, 204, 237, 280, 313, 336, 399, 422, 455, 498, 521, 544, 577, 610, 643, 676, 719, 762, 795, 808, 831, 864, 897, 920, 943, 986, 1019, 1042, 1065, 1078, 1101, 1114, 1127, 1140, 1153, 1166, 1179, 1202, 1215, 1238] 20 _ _ _ _).trans rfl
set_option maxRecDepth 20000 in
theorem b250_1215 (sc : z_Sc) (d : Nat) (i : Int) (h : y_Hp) : y_ev z_pg sc d pgL_law 1215 [some (y_vr 1), some (y_vr 2), some (y_vr 94), some (y_vi i)] [] h = y_rg (i + 1) (y_in (i + 1) sc.1 (y_ci (y_se z_pg sc d 124 [y_vr 2, y_vi (lA sc (i + 1))] h) (fun u1 g1 => y_rg (i + 1) (y_in (i + 1) sc.1 (y_ci (y_se z_pg sc d 142 [y_vr 94, y_vi (lA sc (i + 1))] g1) (fun u2 g2 => (if u1 = u2 then y_rg (i + 6) (y_ev z_pg sc d pgL_law 18 [some (y_vr 1), some (y_vr 2), some (y_vr 94), some (y_vi (i + 6))] [] g2) else some (some (y_vi 0), g2)))))))) := (y_un_eq z_pg sc d pgL_law [18, 204, 237, 280, 313, 336, 399, 422, 455, 498, 521, 544, 577, 610, 643, 676, 719, 762, 795, 808, 831, 864, 897, 920, 943, 986, 1019, 1042, 1065, 1078, 1101, 1114, 1127, 1140, 1153, 1166, 1179, 1202, 1215, 1238] 34 _ _ _ _).trans rfl
set_option maxRecDepth 20000 in
theorem b250_1238 (sc : z_Sc) (d : Nat) (i : Int) (h : y_Hp) : y_ev z_pg sc d pgL_law 1238 [some (y_vr 1), some (y_vr 2), some (y_vr 94), some (y_vi i)] [] h = y_cl (y_se z_pg sc d 125 [y_vr 2] h) (fun u1 g1 => y_cl (y_se z_pg sc d 249 [y_vr 94] g1) (fun u2 g2 => (if y_lcmp u1 u2 = 0 then y_rg (i + 6) (y_ev z_pg sc d pgL_law 18 [some (y_vr 1), some (y_vr 2), some (y_vr 94), some (y_vi (i + 6))] [] g2) else some (some (y_vi 0), g2)))) := (y_un_eq z_pg sc d pgL_law [18, 204, 237, 280, 313, 336, 399, 422, 455, 498, 521, 544, 577, 610, 643, 676, 719, 762, 795, 808, 831, 864, 897, 920, 943, 986, 1019, 1042, 1065, 1078, 1101, 1114, 1127, 1140, 1153, 1166, 1179, 1202, 1215, 1238] 20 _ _ _ _).trans rfl
def lST : List Nat := [18, 204, 237, 280, 313, 336, 399, 422, 455, 498, 521, 544, 577, 610, 643, 676, 719, 762, 795, 808, 831, 864, 897, 920, 943, 986, 1019, 1042, 1065, 1078, 1101, 1114, 1127, 1140, 1153, 1166, 1179, 1202, 1215, 1238]
noncomputable def lK (sc : z_Sc) (d : Nat) (i : Int) (h : y_Hp) (p : Nat) : y_O := y_ev z_pg sc d pgL_law p [some (y_vr 1), some (y_vr 2), some (y_vr 94), some (y_vi i)] [] h
def lOF : List Int := [171, 204, 247, 280, 303, 366, 389, 422, 465, 488, 511, 544, 577, 610, 643, 686, 729, 762, 775, 798, 831, 864, 887, 910, 953, 986, 1009, 1032, 1045, 1068, 1081, 1094, 1107, 1120, 1133, 1146, 1169, 1182, 1205]
set_option maxRecDepth 20000 in
theorem b250_33 (sc : z_Sc) (d : Nat) (i v : Int) (h : y_Hp) : y_ev z_pg sc d pgL_law 33 [some (y_vr 1), some (y_vr 2), some (y_vr 94), some (y_vi i)] [y_vi v] h = y_sw (lK sc d i h) 33 v 1219 (z_tp 0 lOF) := (y_ev_eq z_pg sc d pgL_law 33 _ _ _).trans rfl
set_option maxRecDepth 20000 in
theorem t250_18 (sc : z_Sc) (d : Nat) (i : Int) (h : y_Hp) : y_ev z_pg sc d pgL_law 18 [some (y_vr 1), some (y_vr 2), some (y_vr 94), some (y_vi i)] [] h = y_ev z_pg sc d pgL_law 20 [some (y_vr 1), some (y_vr 2), some (y_vr 94), some (y_vi i)] [y_vr 1, y_vi i] h := (y_un_eq z_pg sc d pgL_law [18, 20] 20 _ _ _ _).trans rfl
set_option maxRecDepth 20000 in
theorem t250_20 (sc : z_Sc) (d : Nat) (i : Int) (h : y_Hp) : y_ev z_pg sc d pgL_law 20 [some (y_vr 1), some (y_vr 2), some (y_vr 94), some (y_vi i)] [y_vr 1, y_vi i] h = y_rg (sc.1 : Int) (y_ev z_pg sc d pgL_law 21 [some (y_vr 1), some (y_vr 2), some (y_vr 94), some (y_vi i)] [y_vi (sc.1 : Int), y_vi i] h) := by
  have e0 : z_gt pgL_law 20 = some (3, .arraylength, 1, 0, 0, 99, 0) := rfl
  have e1 : ∀ (C : y_C) (K : y_K) (ls : y_Ls) (st : List y_V) (h : y_Hp), y_st sc C K (some (3, .arraylength, 1, 0, 0, 99, 0)) 20 ls st h = y_pr st (fun a r => y_sg (Nat.beq a 1) (y_rg (sc.1 : Int) (K (20 + 1) ls (y_vi (sc.1 : Int) :: r) h))) := fun _ _ _ _ _ => rfl
  have e2 : ∀ (f : Nat → List y_V → y_O) (a : Nat) (r : List y_V), y_pr (y_vr a :: r) f = f a r := fun _ _ _ => rfl
  have e3 : ∀ X : y_O, y_sg (Nat.beq 1 1) X = X := fun _ => rfl
  rw [y_ev_eq, e0, e1, e2, e3]
set_option maxRecDepth 20000 in
theorem t250_21 (sc : z_Sc) (d : Nat) (i v : Int) (h : y_Hp) : y_ev z_pg sc d pgL_law 21 [some (y_vr 1), some (y_vr 2), some (y_vr 94), some (y_vi i)] [y_vi v, y_vi i] h = y_rg (v - 6) (if v - 6 < i then some (some (y_vi 1), h) else y_in i sc.1 (y_ev z_pg sc d pgL_law 33 [some (y_vr 1), some (y_vr 2), some (y_vr 94), some (y_vi i)] [y_vi (y_and (lA sc i) 63)] h)) := (y_un_eq z_pg sc d pgL_law [18, 33] 20 _ _ _ _).trans rfl
set_option maxRecDepth 20000 in
theorem k250_1252 : lK sc d i h 1252 = y_rg (i + 6) (y_ev z_pg sc d pgL_law 18 [some (y_vr 1), some (y_vr 2), some (y_vr 94), some (y_vi (i + 6))] [] h) := (y_un_eq z_pg sc d pgL_law [18] 6 _ _ _ _).trans rfl
theorem LQ_sw {K : Nat → y_O} {pc : Nat} {x e : Int} (h0 : LQ sc d N i (K ((pc : Int) + e).toNat)) : ∀ l : List (Int × Int), (∀ q ∈ l, LQ sc d N i (K ((pc : Int) + q.2).toNat)) → LQ sc d N i (y_sw K pc x e l)
  | [], _ => h0
  | q :: r, hl => by
    unfold y_sw
    exact LQ_if (hl q List.mem_cons_self) (LQ_sw h0 r fun z hz => hl z (List.mem_cons_of_mem _ hz))
theorem c250_204 (I : INV N h) (hN : N ≤ 1000) (hd : 60 ≤ d) (hi : 0 ≤ i ∧ i + 6 ≤ sc.1) (hs : sc.1 ≤ 3072) : LQ sc d N i (y_ev z_pg sc d pgL_law 204 [some (y_vr 1), some (y_vr 2), some (y_vr 94), some (y_vi i)] [] h) := by
  obtain ⟨u, h1, h2, a1, a2, J⟩ := o_row (sc := sc) I hN (lA sc (i + 1)) (lA sc (i + 2))
  refine ⟨h2, J, ?_⟩
  rw [b250_204, yr_t (by omega), yi_t (by omega), yr_t (by omega), yi_t (by omega), a1 d hd, yci_s, yr_t (by omega), yi_t (by omega), yr_t (by omega), yi_t (by omega), a2 d hd, yci_s, if_pos rfl, yr_t (by omega)]
theorem c250_237 (I : INV N h) (hN : N ≤ 1000) (hd : 60 ≤ d) (hi : 0 ≤ i ∧ i + 6 ≤ sc.1) (hs : sc.1 ≤ 3072) : LQ sc d N i (y_ev z_pg sc d pgL_law 237 [some (y_vr 1), some (y_vr 2), some (y_vr 94), some (y_vi i)] [] h) := by
  obtain ⟨u, h1, h2, a1, a2, J⟩ := o_lay (sc := sc) I hN (lA sc (i + 1)) (lA sc (i + 2)) (lA sc (i + 3))
  refine ⟨h2, J, ?_⟩
  rw [b250_237, yr_t (by omega), yi_t (by omega), yr_t (by omega), yi_t (by omega), yr_t (by omega), yi_t (by omega), a1 d hd, yci_s, yr_t (by omega), yi_t (by omega), yr_t (by omega), yi_t (by omega), yr_t (by omega), yi_t (by omega), a2 d hd, yci_s, if_pos rfl, yr_t (by omega)]
theorem c250_280 (I : INV N h) (hN : N ≤ 1000) (hd : 60 ≤ d) (hi : 0 ≤ i ∧ i + 6 ≤ sc.1) (hs : sc.1 ≤ 3072) : LQ sc d N i (y_ev z_pg sc d pgL_law 280 [some (y_vr 1), some (y_vr 2), some (y_vr 94), some (y_vi i)] [] h) := by
  obtain ⟨u, h1, h2, a1, a2, J⟩ := o_at (sc := sc) I hN (lA sc (i + 1)) (lA sc (i + 2))
  refine ⟨h2, J, ?_⟩
  rw [b250_280, yr_t (by omega), yi_t (by omega), yr_t (by omega), yi_t (by omega), a1 d hd, yci_s, yr_t (by omega), yi_t (by omega), yr_t (by omega), yi_t (by omega), a2 d hd, yci_s, if_pos rfl, yr_t (by omega)]
theorem c250_313 (I : INV N h) (hN : N ≤ 1000) (hd : 60 ≤ d) (hi : 0 ≤ i ∧ i + 6 ≤ sc.1) (hs : sc.1 ≤ 3072) : LQ sc d N i (y_ev z_pg sc d pgL_law 313 [some (y_vr 1), some (y_vr 2), some (y_vr 94), some (y_vi i)] [] h) := by
  obtain ⟨u, h1, h2, a1, a2, J⟩ := o_tear (sc := sc) I hN (lA sc (i + 1))
  refine ⟨h2, J, ?_⟩
  rw [b250_313, yr_t (by omega), yi_t (by omega), a1 d hd, yci_s, yr_t (by omega), yi_t (by omega), a2 d hd, yci_s, if_pos rfl, yr_t (by omega)]
theorem c250_336 (I : INV N h) (hN : N ≤ 1000) (hd : 60 ≤ d) (hi : 0 ≤ i ∧ i + 6 ≤ sc.1) (hs : sc.1 ≤ 3072) : LQ sc d N i (y_ev z_pg sc d pgL_law 336 [some (y_vr 1), some (y_vr 2), some (y_vr 94), some (y_vi i)] [] h) := by
  obtain ⟨u, h1, h2, a1, a2, J⟩ := o_copy (sc := sc) I hN (lA sc (i + 1)) (lA sc (i + 2)) (lA sc (i + 3)) (lA sc (i + 4)) (lA sc (i + 5)) lA_in lA_in lA_in
  refine ⟨h2, J, ?_⟩
  rw [b250_336, yr_t (by omega), yi_t (by omega), yr_t (by omega), yi_t (by omega), yr_t (by omega), yi_t (by omega), yr_t (by omega), yi_t (by omega), yr_t (by omega), yi_t (by omega), a1 d hd, yci_s, yr_t (by omega), yi_t (by omega), yr_t (by omega), yi_t (by omega), yr_t (by omega), yi_t (by omega), yr_t (by omega), yi_t (by omega), yr_t (by omega), yi_t (by omega), a2 d hd, yci_s, if_pos rfl, yr_t (by omega)]
theorem c250_399 (I : INV N h) (hN : N ≤ 1000) (hd : 60 ≤ d) (hi : 0 ≤ i ∧ i + 6 ≤ sc.1) (hs : sc.1 ≤ 3072) : LQ sc d N i (y_ev z_pg sc d pgL_law 399 [some (y_vr 1), some (y_vr 2), some (y_vr 94), some (y_vi i)] [] h) := by
  obtain ⟨u, h1, h2, a1, a2, J⟩ := o_mean (sc := sc) I hN (lA sc (i + 1))
  refine ⟨h2, J, ?_⟩
  rw [b250_399, yr_t (by omega), yi_t (by omega), a1 d hd, yci_s, yr_t (by omega), yi_t (by omega), a2 d hd, yci_s, if_pos rfl, yr_t (by omega)]
theorem c250_422 (I : INV N h) (hN : N ≤ 1000) (hd : 60 ≤ d) (hi : 0 ≤ i ∧ i + 6 ≤ sc.1) (hs : sc.1 ≤ 3072) : LQ sc d N i (y_ev z_pg sc d pgL_law 422 [some (y_vr 1), some (y_vr 2), some (y_vr 94), some (y_vi i)] [] h) := by
  obtain ⟨u, h1, h2, a1, a2, J⟩ := o_text (sc := sc) I hN (lA sc (i + 1)) (lA sc (i + 2))
  refine ⟨h2, J, ?_⟩
  rw [b250_422, yr_t (by omega), yi_t (by omega), yr_t (by omega), yi_t (by omega), a1 d hd, yci_s, yr_t (by omega), yi_t (by omega), yr_t (by omega), yi_t (by omega), a2 d hd, yci_s, if_pos rfl, yr_t (by omega)]
theorem c250_455 (I : INV N h) (hN : N ≤ 1000) (hd : 60 ≤ d) (hi : 0 ≤ i ∧ i + 6 ≤ sc.1) (hs : sc.1 ≤ 3072) : LQ sc d N i (y_ev z_pg sc d pgL_law 455 [some (y_vr 1), some (y_vr 2), some (y_vr 94), some (y_vi i)] [] h) := by
  obtain ⟨u, h1, h2, a1, a2, J⟩ := o_put (sc := sc) I hN (lA sc (i + 1)) (lA sc (i + 2)) (lA sc (i + 3))
  refine ⟨h2, J, ?_⟩
  rw [b250_455, yr_t (by omega), yi_t (by omega), yr_t (by omega), yi_t (by omega), yr_t (by omega), yi_t (by omega), a1 d hd, yci_s, yr_t (by omega), yi_t (by omega), yr_t (by omega), yi_t (by omega), yr_t (by omega), yi_t (by omega), a2 d hd, yci_s, if_pos rfl, yr_t (by omega)]
theorem c250_498 (I : INV N h) (hN : N ≤ 1000) (hd : 60 ≤ d) (hi : 0 ≤ i ∧ i + 6 ≤ sc.1) (hs : sc.1 ≤ 3072) : LQ sc d N i (y_ev z_pg sc d pgL_law 498 [some (y_vr 1), some (y_vr 2), some (y_vr 94), some (y_vi i)] [] h) := by
  obtain ⟨u, h1, h2, a1, a2, J⟩ := o_fault (sc := sc) I hN (lA sc (i + 1))
  refine ⟨h2, J, ?_⟩
  rw [b250_498, yr_t (by omega), yi_t (by omega), a1 d hd, yci_s, yr_t (by omega), yi_t (by omega), a2 d hd, yci_s, if_pos rfl, yr_t (by omega)]
theorem c250_521 (I : INV N h) (hN : N ≤ 1000) (hd : 60 ≤ d) (hi : 0 ≤ i ∧ i + 6 ≤ sc.1) (hs : sc.1 ≤ 3072) : LQ sc d N i (y_ev z_pg sc d pgL_law 521 [some (y_vr 1), some (y_vr 2), some (y_vr 94), some (y_vi i)] [] h) := by
  obtain ⟨u, h1, h2, a1, a2, J⟩ := o_house (sc := sc) I hN (lA sc (i + 1))
  refine ⟨h2, J, ?_⟩
  rw [b250_521, yr_t (by omega), yi_t (by omega), a1 d hd, yci_s, yr_t (by omega), yi_t (by omega), a2 d hd, yci_s, if_pos rfl, yr_t (by omega)]
theorem c250_544 (I : INV N h) (hN : N ≤ 1000) (hd : 60 ≤ d) (hi : 0 ≤ i ∧ i + 6 ≤ sc.1) (hs : sc.1 ≤ 3072) : LQ sc d N i (y_ev z_pg sc d pgL_law 544 [some (y_vr 1), some (y_vr 2), some (y_vr 94), some (y_vi i)] [] h) := by
  obtain ⟨u, h1, h2, a1, a2, J⟩ := o_part (sc := sc) I (lA sc (i + 1)) (lA sc (i + 2))
  refine ⟨h2, J, ?_⟩
  rw [b250_544, yr_t (by omega), yi_t (by omega), yr_t (by omega), yi_t (by omega), a1 d hd, yci_s, yr_t (by omega), yi_t (by omega), yr_t (by omega), yi_t (by omega), a2 d hd, yci_s, if_pos rfl, yr_t (by omega)]
theorem c250_577 (I : INV N h) (hN : N ≤ 1000) (hd : 60 ≤ d) (hi : 0 ≤ i ∧ i + 6 ≤ sc.1) (hs : sc.1 ≤ 3072) : LQ sc d N i (y_ev z_pg sc d pgL_law 577 [some (y_vr 1), some (y_vr 2), some (y_vr 94), some (y_vi i)] [] h) := by
  obtain ⟨u, h1, h2, a1, a2, J⟩ := o_reader (sc := sc) I (lA sc (i + 1)) (lA sc (i + 2))
  refine ⟨h2, J, ?_⟩
  rw [b250_577, yr_t (by omega), yi_t (by omega), yr_t (by omega), yi_t (by omega), a1 d hd, yci_s, yr_t (by omega), yi_t (by omega), yr_t (by omega), yi_t (by omega), a2 d hd, yci_s, if_pos rfl, yr_t (by omega)]
theorem c250_610 (I : INV N h) (hN : N ≤ 1000) (hd : 60 ≤ d) (hi : 0 ≤ i ∧ i + 6 ≤ sc.1) (hs : sc.1 ≤ 3072) : LQ sc d N i (y_ev z_pg sc d pgL_law 610 [some (y_vr 1), some (y_vr 2), some (y_vr 94), some (y_vi i)] [] h) := by
  obtain ⟨u, h1, h2, a1, a2, J⟩ := o_want (sc := sc) I (lA sc (i + 1)) (lA sc (i + 2))
  refine ⟨h2, J, ?_⟩
  rw [b250_610, yr_t (by omega), yi_t (by omega), yr_t (by omega), yi_t (by omega), a1 d hd, yci_s, yr_t (by omega), yi_t (by omega), yr_t (by omega), yi_t (by omega), a2 d hd, yci_s, if_pos rfl, yr_t (by omega)]
theorem c250_643 (I : INV N h) (hN : N ≤ 1000) (hd : 60 ≤ d) (hi : 0 ≤ i ∧ i + 6 ≤ sc.1) (hs : sc.1 ≤ 3072) : LQ sc d N i (y_ev z_pg sc d pgL_law 643 [some (y_vr 1), some (y_vr 2), some (y_vr 94), some (y_vi i)] [] h) := by
  obtain ⟨u, h1, h2, a1, a2, J⟩ := o_copies (sc := sc) I (lA sc (i + 1)) (lA sc (i + 2))
  refine ⟨h2, J, ?_⟩
  rw [b250_643, yr_t (by omega), yi_t (by omega), yr_t (by omega), yi_t (by omega), a1 d hd, yci_s, yr_t (by omega), yi_t (by omega), yr_t (by omega), yi_t (by omega), a2 d hd, yci_s, if_pos rfl, yr_t (by omega)]
theorem c250_676 (I : INV N h) (hN : N ≤ 1000) (hd : 60 ≤ d) (hi : 0 ≤ i ∧ i + 6 ≤ sc.1) (hs : sc.1 ≤ 3072) : LQ sc d N i (y_ev z_pg sc d pgL_law 676 [some (y_vr 1), some (y_vr 2), some (y_vr 94), some (y_vi i)] [] h) := by
  obtain ⟨u, h1, h2, a1, a2, J⟩ := o_post (sc := sc) I (lA sc (i + 1)) (lA sc (i + 2)) (lA sc (i + 3))
  refine ⟨h2, J, ?_⟩
  rw [b250_676, yr_t (by omega), yi_t (by omega), yr_t (by omega), yi_t (by omega), yr_t (by omega), yi_t (by omega), a1 d hd, yci_s, yr_t (by omega), yi_t (by omega), yr_t (by omega), yi_t (by omega), yr_t (by omega), yi_t (by omega), a2 d hd, yci_s, if_pos rfl, yr_t (by omega)]
theorem c250_719 (I : INV N h) (hN : N ≤ 1000) (hd : 60 ≤ d) (hi : 0 ≤ i ∧ i + 6 ≤ sc.1) (hs : sc.1 ≤ 3072) : LQ sc d N i (y_ev z_pg sc d pgL_law 719 [some (y_vr 1), some (y_vr 2), some (y_vr 94), some (y_vi i)] [] h) := by
  obtain ⟨u, h1, h2, a1, a2, J⟩ := o_late (sc := sc) I (lA sc (i + 1)) (lA sc (i + 2)) (lA sc (i + 3))
  refine ⟨h2, J, ?_⟩
  rw [b250_719, yr_t (by omega), yi_t (by omega), yr_t (by omega), yi_t (by omega), yr_t (by omega), yi_t (by omega), a1 d hd, yci_s, yr_t (by omega), yi_t (by omega), yr_t (by omega), yi_t (by omega), yr_t (by omega), yi_t (by omega), a2 d hd, yci_s, if_pos rfl, yr_t (by omega)]
theorem c250_762 (I : INV N h) (hN : N ≤ 1000) (hd : 60 ≤ d) (hi : 0 ≤ i ∧ i + 6 ≤ sc.1) (hs : sc.1 ≤ 3072) : LQ sc d N i (y_ev z_pg sc d pgL_law 762 [some (y_vr 1), some (y_vr 2), some (y_vr 94), some (y_vi i)] [] h) := by
  obtain ⟨u, h1, h2, a1, a2, J⟩ := o_read (sc := sc) I (lA sc (i + 1)) (lA sc (i + 2))
  refine ⟨h2, J, ?_⟩
  rw [b250_762, yr_t (by omega), yi_t (by omega), yr_t (by omega), yi_t (by omega), a1 d hd, yci_s, yr_t (by omega), yi_t (by omega), yr_t (by omega), yi_t (by omega), a2 d hd, yci_s, if_pos rfl, yr_t (by omega)]
theorem c250_795 (I : INV N h) (hN : N ≤ 1000) (hd : 60 ≤ d) (hi : 0 ≤ i ∧ i + 6 ≤ sc.1) (hs : sc.1 ≤ 3072) : LQ sc d N i (y_ev z_pg sc d pgL_law 795 [some (y_vr 1), some (y_vr 2), some (y_vr 94), some (y_vi i)] [] h) := by
  obtain ⟨u, h1, h2, a1, a2, J⟩ := o_judge (sc := sc) I 
  refine ⟨h2, J, ?_⟩
  rw [b250_795, a1 d hd, yci_s, a2 d hd, yci_s, if_pos rfl, yr_t (by omega)]
theorem c250_808 (I : INV N h) (hN : N ≤ 1000) (hd : 60 ≤ d) (hi : 0 ≤ i ∧ i + 6 ≤ sc.1) (hs : sc.1 ≤ 3072) : LQ sc d N i (y_ev z_pg sc d pgL_law 808 [some (y_vr 1), some (y_vr 2), some (y_vr 94), some (y_vi i)] [] h) := by
  obtain ⟨u, h1, h2, a1, a2, J⟩ := o_missed (sc := sc) I (lA sc (i + 1))
  refine ⟨h2, J, ?_⟩
  rw [b250_808, yr_t (by omega), yi_t (by omega), a1 d hd, yci_s, yr_t (by omega), yi_t (by omega), a2 d hd, yci_s, if_pos rfl, yr_t (by omega)]
theorem c250_831 (I : INV N h) (hN : N ≤ 1000) (hd : 60 ≤ d) (hi : 0 ≤ i ∧ i + 6 ≤ sc.1) (hs : sc.1 ≤ 3072) : LQ sc d N i (y_ev z_pg sc d pgL_law 831 [some (y_vr 1), some (y_vr 2), some (y_vr 94), some (y_vi i)] [] h) := by
  obtain ⟨u, h1, h2, a1, a2, J⟩ := o_who (sc := sc) I (lA sc (i + 1)) (lA sc (i + 2))
  refine ⟨h2, J, ?_⟩
  rw [b250_831, yr_t (by omega), yi_t (by omega), yr_t (by omega), yi_t (by omega), a1 d hd, yci_s, yr_t (by omega), yi_t (by omega), yr_t (by omega), yi_t (by omega), a2 d hd, yci_s, if_pos rfl, yr_t (by omega)]
theorem c250_864 (I : INV N h) (hN : N ≤ 1000) (hd : 60 ≤ d) (hi : 0 ≤ i ∧ i + 6 ≤ sc.1) (hs : sc.1 ≤ 3072) : LQ sc d N i (y_ev z_pg sc d pgL_law 864 [some (y_vr 1), some (y_vr 2), some (y_vr 94), some (y_vi i)] [] h) := by
  obtain ⟨u, h1, h2, a1, a2, J⟩ := o_can (sc := sc) I (lA sc (i + 1)) (lA sc (i + 2))
  refine ⟨h2, J, ?_⟩
  rw [b250_864, yr_t (by omega), yi_t (by omega), yr_t (by omega), yi_t (by omega), a1 d hd, yci_s, yr_t (by omega), yi_t (by omega), yr_t (by omega), yi_t (by omega), a2 d hd, yci_s, if_pos rfl, yr_t (by omega)]
theorem c250_897 (I : INV N h) (hN : N ≤ 1000) (hd : 60 ≤ d) (hi : 0 ≤ i ∧ i + 6 ≤ sc.1) (hs : sc.1 ≤ 3072) : LQ sc d N i (y_ev z_pg sc d pgL_law 897 [some (y_vr 1), some (y_vr 2), some (y_vr 94), some (y_vi i)] [] h) := by
  obtain ⟨u, h1, h2, a1, a2, J⟩ := o_image (sc := sc) I (lA sc (i + 1))
  refine ⟨h2, J, ?_⟩
  rw [b250_897, yr_t (by omega), yi_t (by omega), a1 d hd, yci_s, yr_t (by omega), yi_t (by omega), a2 d hd, yci_s, if_pos rfl, yr_t (by omega)]
theorem c250_920 (I : INV N h) (hN : N ≤ 1000) (hd : 60 ≤ d) (hi : 0 ≤ i ∧ i + 6 ≤ sc.1) (hs : sc.1 ≤ 3072) : LQ sc d N i (y_ev z_pg sc d pgL_law 920 [some (y_vr 1), some (y_vr 2), some (y_vr 94), some (y_vi i)] [] h) := by
  obtain ⟨u, h1, h2, a1, a2, J⟩ := o_on (sc := sc) I hN (lA sc (i + 1))
  refine ⟨h2, J, ?_⟩
  rw [b250_920, yr_t (by omega), yi_t (by omega), a1 d hd, yci_s, yr_t (by omega), yi_t (by omega), a2 d hd, yci_s, if_pos rfl, yr_t (by omega)]
theorem c250_943 (I : INV N h) (hN : N ≤ 1000) (hd : 60 ≤ d) (hi : 0 ≤ i ∧ i + 6 ≤ sc.1) (hs : sc.1 ≤ 3072) : LQ sc d N i (y_ev z_pg sc d pgL_law 943 [some (y_vr 1), some (y_vr 2), some (y_vr 94), some (y_vi i)] [] h) := by
  obtain ⟨u, h1, h2, a1, a2, J⟩ := o_rule (sc := sc) I hN (lA sc (i + 1)) (lA sc (i + 2)) (lA sc (i + 3))
  refine ⟨h2, J, ?_⟩
  rw [b250_943, yr_t (by omega), yi_t (by omega), yr_t (by omega), yi_t (by omega), yr_t (by omega), yi_t (by omega), a1 d hd, yci_s, yr_t (by omega), yi_t (by omega), yr_t (by omega), yi_t (by omega), yr_t (by omega), yi_t (by omega), a2 d hd, yci_s, if_pos rfl, yr_t (by omega)]
theorem c250_986 (I : INV N h) (hN : N ≤ 1000) (hd : 60 ≤ d) (hi : 0 ≤ i ∧ i + 6 ≤ sc.1) (hs : sc.1 ≤ 3072) : LQ sc d N i (y_ev z_pg sc d pgL_law 986 [some (y_vr 1), some (y_vr 2), some (y_vr 94), some (y_vi i)] [] h) := by
  obtain ⟨u, h1, h2, a1, a2, J⟩ := o_mark (sc := sc) I hN (lA sc (i + 1)) (lA sc (i + 2))
  refine ⟨h2, J, ?_⟩
  rw [b250_986, yr_t (by omega), yi_t (by omega), yr_t (by omega), yi_t (by omega), a1 d hd, yci_s, yr_t (by omega), yi_t (by omega), yr_t (by omega), yi_t (by omega), a2 d hd, yci_s, if_pos rfl, yr_t (by omega)]
theorem c250_1019 (I : INV N h) (hN : N ≤ 1000) (hd : 60 ≤ d) (hi : 0 ≤ i ∧ i + 6 ≤ sc.1) (hs : sc.1 ≤ 3072) : LQ sc d N i (y_ev z_pg sc d pgL_law 1019 [some (y_vr 1), some (y_vr 2), some (y_vr 94), some (y_vi i)] [] h) := by
  obtain ⟨u, h1, h2, a1, a2, J⟩ := o_run (sc := sc) I hN (lA sc (i + 1))
  refine ⟨h2, J, ?_⟩
  rw [b250_1019, yr_t (by omega), yi_t (by omega), a1 d hd, yci_s, yr_t (by omega), yi_t (by omega), a2 d hd, yci_s, if_pos rfl, yr_t (by omega)]
theorem c250_1042 (I : INV N h) (hN : N ≤ 1000) (hd : 60 ≤ d) (hi : 0 ≤ i ∧ i + 6 ≤ sc.1) (hs : sc.1 ≤ 3072) : LQ sc d N i (y_ev z_pg sc d pgL_law 1042 [some (y_vr 1), some (y_vr 2), some (y_vr 94), some (y_vi i)] [] h) := by
  obtain ⟨u, h1, h2, a1, a2, J⟩ := o_best (sc := sc) I hN (lA sc (i + 1))
  refine ⟨h2, J, ?_⟩
  rw [b250_1042, yr_t (by omega), yi_t (by omega), a1 d hd, yci_s, yr_t (by omega), yi_t (by omega), a2 d hd, yci_s, if_pos rfl, yr_t (by omega)]
theorem c250_1065 (I : INV N h) (hN : N ≤ 1000) (hd : 60 ≤ d) (hi : 0 ≤ i ∧ i + 6 ≤ sc.1) (hs : sc.1 ≤ 3072) : LQ sc d N i (y_ev z_pg sc d pgL_law 1065 [some (y_vr 1), some (y_vr 2), some (y_vr 94), some (y_vi i)] [] h) := by
  obtain ⟨u, h1, h2, a1, a2, J⟩ := o_least (sc := sc) I hN 
  refine ⟨h2, J, ?_⟩
  rw [b250_1065, a1 d hd, yci_s, a2 d hd, yci_s, if_pos rfl, yr_t (by omega)]
theorem c250_1078 (I : INV N h) (hN : N ≤ 1000) (hd : 60 ≤ d) (hi : 0 ≤ i ∧ i + 6 ≤ sc.1) (hs : sc.1 ≤ 3072) : LQ sc d N i (y_ev z_pg sc d pgL_law 1078 [some (y_vr 1), some (y_vr 2), some (y_vr 94), some (y_vi i)] [] h) := by
  obtain ⟨u, h1, h2, a1, a2, J⟩ := o_mend (sc := sc) (lA sc (i + 1)) I hN
  refine ⟨h2, J, ?_⟩
  rw [b250_1078, yr_t (by omega), yi_t (by omega), a1 d hd, yci_s, yr_t (by omega), yi_t (by omega), a2 d hd, yci_s, if_pos rfl, yr_t (by omega)]
theorem c250_1101 (I : INV N h) (hN : N ≤ 1000) (hd : 60 ≤ d) (hi : 0 ≤ i ∧ i + 6 ≤ sc.1) (hs : sc.1 ≤ 3072) : LQ sc d N i (y_ev z_pg sc d pgL_law 1101 [some (y_vr 1), some (y_vr 2), some (y_vr 94), some (y_vi i)] [] h) := by
  obtain ⟨u, h1, h2, a1, a2, J⟩ := o_soon (sc := sc) I hN 
  refine ⟨h2, J, ?_⟩
  rw [b250_1101, a1 d hd, yci_s, a2 d hd, yci_s, if_pos rfl, yr_t (by omega)]
theorem c250_1114 (I : INV N h) (hN : N ≤ 1000) (hd : 60 ≤ d) (hi : 0 ≤ i ∧ i + 6 ≤ sc.1) (hs : sc.1 ≤ 3072) : LQ sc d N i (y_ev z_pg sc d pgL_law 1114 [some (y_vr 1), some (y_vr 2), some (y_vr 94), some (y_vi i)] [] h) := by
  obtain ⟨u, h1, h2, a1, a2, J⟩ := o_even (sc := sc) I hN 
  refine ⟨h2, J, ?_⟩
  rw [b250_1114, a1 d hd, yci_s, a2 d hd, yci_s, if_pos rfl, yr_t (by omega)]
theorem c250_1127 (I : INV N h) (hN : N ≤ 1000) (hd : 60 ≤ d) (hi : 0 ≤ i ∧ i + 6 ≤ sc.1) (hs : sc.1 ≤ 3072) : LQ sc d N i (y_ev z_pg sc d pgL_law 1127 [some (y_vr 1), some (y_vr 2), some (y_vr 94), some (y_vi i)] [] h) := by
  obtain ⟨u, h1, h2, a1, a2, J⟩ := o_bound (sc := sc) I hN 
  refine ⟨h2, J, ?_⟩
  rw [b250_1127, a1 d hd, yci_s, a2 d hd, yci_s, if_pos rfl, yr_t (by omega)]
theorem c250_1140 (I : INV N h) (hN : N ≤ 1000) (hd : 60 ≤ d) (hi : 0 ≤ i ∧ i + 6 ≤ sc.1) (hs : sc.1 ≤ 3072) : LQ sc d N i (y_ev z_pg sc d pgL_law 1140 [some (y_vr 1), some (y_vr 2), some (y_vr 94), some (y_vi i)] [] h) := by
  obtain ⟨u, h1, h2, a1, a2, J⟩ := o_quarrel (sc := sc) I hN 
  refine ⟨h2, J, ?_⟩
  rw [b250_1140, a1 d hd, yci_s, a2 d hd, yci_s, if_pos rfl, yr_t (by omega)]
theorem c250_1153 (I : INV N h) (hN : N ≤ 1000) (hd : 60 ≤ d) (hi : 0 ≤ i ∧ i + 6 ≤ sc.1) (hs : sc.1 ≤ 3072) : LQ sc d N i (y_ev z_pg sc d pgL_law 1153 [some (y_vr 1), some (y_vr 2), some (y_vr 94), some (y_vi i)] [] h) := by
  obtain ⟨u, h1, h2, a1, a2, J⟩ := o_twice (sc := sc) I hN 
  refine ⟨h2, J, ?_⟩
  rw [b250_1153, a1 d hd, yci_s, a2 d hd, yci_s, if_pos rfl, yr_t (by omega)]
theorem c250_1166 (I : INV N h) (hN : N ≤ 1000) (hd : 60 ≤ d) (hi : 0 ≤ i ∧ i + 6 ≤ sc.1) (hs : sc.1 ≤ 3072) : LQ sc d N i (y_ev z_pg sc d pgL_law 1166 [some (y_vr 1), some (y_vr 2), some (y_vr 94), some (y_vi i)] [] h) := by
  obtain ⟨u, h1, h2, a1, a2, J⟩ := o_asked (sc := sc) I 
  refine ⟨h2, J, ?_⟩
  rw [b250_1166, a1 d hd, yci_s, a2 d hd, yci_s, if_pos rfl, yr_t (by omega)]
theorem c250_1179 (I : INV N h) (hN : N ≤ 1000) (hd : 60 ≤ d) (hi : 0 ≤ i ∧ i + 6 ≤ sc.1) (hs : sc.1 ≤ 3072) : LQ sc d N i (y_ev z_pg sc d pgL_law 1179 [some (y_vr 1), some (y_vr 2), some (y_vr 94), some (y_vi i)] [] h) := by
  obtain ⟨u, h1, h2, a1, a2, J⟩ := o_count (sc := sc) I (lA sc (i + 1))
  refine ⟨h2, J, ?_⟩
  rw [b250_1179, yr_t (by omega), yi_t (by omega), a1 d hd, yci_s, yr_t (by omega), yi_t (by omega), a2 d hd, yci_s, if_pos rfl, yr_t (by omega)]
theorem c250_1202 (I : INV N h) (hN : N ≤ 1000) (hd : 60 ≤ d) (hi : 0 ≤ i ∧ i + 6 ≤ sc.1) (hs : sc.1 ≤ 3072) : LQ sc d N i (y_ev z_pg sc d pgL_law 1202 [some (y_vr 1), some (y_vr 2), some (y_vr 94), some (y_vi i)] [] h) := by
  obtain ⟨u, h1, h2, a1, a2, J⟩ := o_finding (sc := sc) I 
  refine ⟨h2, J, ?_⟩
  rw [b250_1202, a1 d hd, yci_s, a2 d hd, yci_s, if_pos rfl, yr_t (by omega)]
theorem c250_1215 (I : INV N h) (hN : N ≤ 1000) (hd : 60 ≤ d) (hi : 0 ≤ i ∧ i + 6 ≤ sc.1) (hs : sc.1 ≤ 3072) : LQ sc d N i (y_ev z_pg sc d pgL_law 1215 [some (y_vr 1), some (y_vr 2), some (y_vr 94), some (y_vi i)] [] h) := by
  obtain ⟨u, h1, h2, a1, a2, J⟩ := o_findings (sc := sc) I (lA sc (i + 1))
  refine ⟨h2, J, ?_⟩
  rw [b250_1215, yr_t (by omega), yi_t (by omega), a1 d hd, yci_s, yr_t (by omega), yi_t (by omega), a2 d hd, yci_s, if_pos rfl, yr_t (by omega)]
theorem c250_1238 (I : INV N h) (hN : N ≤ 1000) (hd : 60 ≤ d) (hi : 0 ≤ i ∧ i + 6 ≤ sc.1) (hs : sc.1 ≤ 3072) : LQ sc d N i (y_ev z_pg sc d pgL_law 1238 [some (y_vr 1), some (y_vr 2), some (y_vr 94), some (y_vi i)] [] h) := by
  obtain ⟨u, h1, h2, a1, a2, J⟩ := o_digest (sc := sc) I 
  refine ⟨h2, J, ?_⟩
  have eu : y_lcmp u u = 0 := by
    exact y_lcmp_0.mpr rfl
  rw [b250_1238, a1 d hd]
  show y_cl (y_se z_pg sc d 249 [y_vr 94] h1) _ = _
  rw [a2 d hd]
  show (if y_lcmp u u = 0 then _ else _) = _
  rw [if_pos eu, yr_t (by omega)]
set_option maxRecDepth 20000 in
theorem l250s (I : INV N h) (hN : N ≤ 1000) (hd : 60 ≤ d) (hi : 0 ≤ i ∧ i + 6 ≤ sc.1) (hs : sc.1 ≤ 3072) : LQ sc d N i (y_sw (lK sc d i h) 33 (y_and (lA sc i) 63) 1219 (z_tp 0 lOF)) := by
  refine LQ_sw (show LQ sc d N i (lK sc d i h 1252) from ?_) (z_tp 0 lOF) ?_
  · rw [k250_1252, yr_t (by omega)]
    exact ⟨h, INV.up (Nat.le_succ N) I, rfl⟩
  refine List.forall_mem_cons.mpr ⟨(show LQ sc d N i (lK sc d i h 204) from c250_204 I hN hd hi hs), ?_⟩
  refine List.forall_mem_cons.mpr ⟨(show LQ sc d N i (lK sc d i h 237) from c250_237 I hN hd hi hs), ?_⟩
  refine List.forall_mem_cons.mpr ⟨(show LQ sc d N i (lK sc d i h 280) from c250_280 I hN hd hi hs), ?_⟩
  refine List.forall_mem_cons.mpr ⟨(show LQ sc d N i (lK sc d i h 313) from c250_313 I hN hd hi hs), ?_⟩
  refine List.forall_mem_cons.mpr ⟨(show LQ sc d N i (lK sc d i h 336) from c250_336 I hN hd hi hs), ?_⟩
  refine List.forall_mem_cons.mpr ⟨(show LQ sc d N i (lK sc d i h 399) from c250_399 I hN hd hi hs), ?_⟩
  refine List.forall_mem_cons.mpr ⟨(show LQ sc d N i (lK sc d i h 422) from c250_422 I hN hd hi hs), ?_⟩
  refine List.forall_mem_cons.mpr ⟨(show LQ sc d N i (lK sc d i h 455) from c250_455 I hN hd hi hs), ?_⟩
  refine List.forall_mem_cons.mpr ⟨(show LQ sc d N i (lK sc d i h 498) from c250_498 I hN hd hi hs), ?_⟩
  refine List.forall_mem_cons.mpr ⟨(show LQ sc d N i (lK sc d i h 521) from c250_521 I hN hd hi hs), ?_⟩
  refine List.forall_mem_cons.mpr ⟨(show LQ sc d N i (lK sc d i h 544) from c250_544 I hN hd hi hs), ?_⟩
  refine List.forall_mem_cons.mpr ⟨(show LQ sc d N i (lK sc d i h 577) from c250_577 I hN hd hi hs), ?_⟩
  refine List.forall_mem_cons.mpr ⟨(show LQ sc d N i (lK sc d i h 610) from c250_610 I hN hd hi hs), ?_⟩
  refine List.forall_mem_cons.mpr ⟨(show LQ sc d N i (lK sc d i h 643) from c250_643 I hN hd hi hs), ?_⟩
  refine List.forall_mem_cons.mpr ⟨(show LQ sc d N i (lK sc d i h 676) from c250_676 I hN hd hi hs), ?_⟩
  refine List.forall_mem_cons.mpr ⟨(show LQ sc d N i (lK sc d i h 719) from c250_719 I hN hd hi hs), ?_⟩
  refine List.forall_mem_cons.mpr ⟨(show LQ sc d N i (lK sc d i h 762) from c250_762 I hN hd hi hs), ?_⟩
  refine List.forall_mem_cons.mpr ⟨(show LQ sc d N i (lK sc d i h 795) from c250_795 I hN hd hi hs), ?_⟩
  refine List.forall_mem_cons.mpr ⟨(show LQ sc d N i (lK sc d i h 808) from c250_808 I hN hd hi hs), ?_⟩
  refine List.forall_mem_cons.mpr ⟨(show LQ sc d N i (lK sc d i h 831) from c250_831 I hN hd hi hs), ?_⟩
  refine List.forall_mem_cons.mpr ⟨(show LQ sc d N i (lK sc d i h 864) from c250_864 I hN hd hi hs), ?_⟩
  refine List.forall_mem_cons.mpr ⟨(show LQ sc d N i (lK sc d i h 897) from c250_897 I hN hd hi hs), ?_⟩
  refine List.forall_mem_cons.mpr ⟨(show LQ sc d N i (lK sc d i h 920) from c250_920 I hN hd hi hs), ?_⟩
  refine List.forall_mem_cons.mpr ⟨(show LQ sc d N i (lK sc d i h 943) from c250_943 I hN hd hi hs), ?_⟩
  refine List.forall_mem_cons.mpr ⟨(show LQ sc d N i (lK sc d i h 986) from c250_986 I hN hd hi hs), ?_⟩
  refine List.forall_mem_cons.mpr ⟨(show LQ sc d N i (lK sc d i h 1019) from c250_1019 I hN hd hi hs), ?_⟩
  refine List.forall_mem_cons.mpr ⟨(show LQ sc d N i (lK sc d i h 1042) from c250_1042 I hN hd hi hs), ?_⟩
  refine List.forall_mem_cons.mpr ⟨(show LQ sc d N i (lK sc d i h 1065) from c250_1065 I hN hd hi hs), ?_⟩
  refine List.forall_mem_cons.mpr ⟨(show LQ sc d N i (lK sc d i h 1078) from c250_1078 I hN hd hi hs), ?_⟩
  refine List.forall_mem_cons.mpr ⟨(show LQ sc d N i (lK sc d i h 1101) from c250_1101 I hN hd hi hs), ?_⟩
  refine List.forall_mem_cons.mpr ⟨(show LQ sc d N i (lK sc d i h 1114) from c250_1114 I hN hd hi hs), ?_⟩
  refine List.forall_mem_cons.mpr ⟨(show LQ sc d N i (lK sc d i h 1127) from c250_1127 I hN hd hi hs), ?_⟩
  refine List.forall_mem_cons.mpr ⟨(show LQ sc d N i (lK sc d i h 1140) from c250_1140 I hN hd hi hs), ?_⟩
  refine List.forall_mem_cons.mpr ⟨(show LQ sc d N i (lK sc d i h 1153) from c250_1153 I hN hd hi hs), ?_⟩
  refine List.forall_mem_cons.mpr ⟨(show LQ sc d N i (lK sc d i h 1166) from c250_1166 I hN hd hi hs), ?_⟩
  refine List.forall_mem_cons.mpr ⟨(show LQ sc d N i (lK sc d i h 1179) from c250_1179 I hN hd hi hs), ?_⟩
  refine List.forall_mem_cons.mpr ⟨(show LQ sc d N i (lK sc d i h 1202) from c250_1202 I hN hd hi hs), ?_⟩
  refine List.forall_mem_cons.mpr ⟨(show LQ sc d N i (lK sc d i h 1215) from c250_1215 I hN hd hi hs), ?_⟩
  refine List.forall_mem_cons.mpr ⟨(show LQ sc d N i (lK sc d i h 1238) from c250_1238 I hN hd hi hs), ?_⟩
  exact fun q hq => by cases hq
set_option maxRecDepth 20000 in
theorem l250 (hd : 60 ≤ d) (hs : sc.1 ≤ 3072) : ∀ (n N : Nat) (i : Int) (h : y_Hp), 0 ≤ i → (sc.1 : Int) < i + 6 * n + 6 → N + n ≤ 1000 → INV N h → ∃ h2, y_ev z_pg sc d pgL_law 18 [some (y_vr 1), some (y_vr 2), some (y_vr 94), some (y_vi i)] [] h = some (some (y_vi 1), h2)
  | n, N, i, h, hi0, hn, hN, I => by
    rw [t250_18, t250_20, yr_t (by omega), t250_21, yr_t (by omega)]
    by_cases c : (sc.1 : Int) - 6 < i
    · rw [if_pos c]; exact ⟨h, rfl⟩
    · rw [if_neg c, yi_t (by omega), b250_33]
      have hN' : N ≤ 1000 := by omega
      have hi : 0 ≤ i ∧ i + 6 ≤ sc.1 := by omega
      obtain ⟨n, rfl⟩ : ∃ k, n = k + 1 := ⟨n - 1, by omega⟩
      have key := l250s (sc := sc) (d := d) (i := i) I hN' hd hi hs
      obtain ⟨h2, J, e⟩ := key
      rw [e]
      exact l250 hd hs n (N + 1) (i + 6) h2 (by omega) (by omega) (by omega) J
  termination_by n => n
end LW
