/-! THE TEXT IS READ by the model: tokens -/
def TL (L : List Int) : Int → Int := fun i => L.getD i.toNat 32
def RS (L : List Int) (p : Int) (R : List Int) : Prop := ∃ pre : List Int, L = pre ++ R ∧ (pre.length : Int) = p
theorem RS_0 {L : List Int} : RS L 0 L := ⟨[], rfl, rfl⟩
theorem RS_at {L : List Int} {p : Int} {R : List Int} (h : RS L p R) : TL L p = R.headD 32 := by
  obtain ⟨pre, rfl, rfl⟩ := h
  unfold TL
  rw [show ((pre.length : Int)).toNat = pre.length by omega, List.getD_eq_getElem?_getD, List.getElem?_append_right (Nat.le_refl _), Nat.sub_self]
  rcases R with _ | ⟨b, R⟩ <;> rfl
theorem RS_nx {L : List Int} {p : Int} {b : Int} {R : List Int} (h : RS L p (b :: R)) : TL L p = b ∧ RS L (p + 1) R := by
  refine ⟨RS_at h, ?_⟩
  obtain ⟨pre, rfl, rfl⟩ := h
  exact ⟨pre ++ [b], by simp, by rw [List.length_append]; rfl⟩
theorem RS_bd {L : List Int} {p : Int} {R : List Int} (h : RS L p R) : 0 ≤ p ∧ p + R.length = L.length := by
  obtain ⟨pre, rfl, rfl⟩ := h
  rw [List.length_append]
  omega
theorem RS_nil {L : List Int} {p : Int} (h : RS L p []) {q : Int} (hq : p ≤ q) : TL L q = 32 := by
  have b := RS_bd h
  unfold TL
  rw [List.getD_eq_getElem?_getD, List.getElem?_eq_none (by have : ([] : List Int).length = 0 := rfl; omega)]
  rfl
abbrev MT (L : List Int) (p : Int) (g : y_Hp) : Prop := MS 3 120 (TL L) p g
section TK
variable {sc : z_Sc} {g : y_Hp} {L R : List Int} {p : Int}
theorem t_byte (d : Nat) (hd : 1 ≤ d) (M : MT L p g) (hp : 0 ≤ p ∧ p < 120) : y_se z_pg sc d 156 [y_vr 94, y_vi 3, y_vi p] g = some (some (y_vi (TL L p)), g) := by
  rw [s156w d hd M (by omega) (by omega) hp.1, if_pos hp.2]
/-- the sign that stands there -/
theorem t_sign (d : Nat) (hd : 3 ≤ d) (M : MT L p g) (hL : L.length ≤ 110) {v : Int} (h : RS L p (v :: R)) : y_se z_pg sc d 157 [y_vr 94, y_vi 3, y_vi v] g = some (some (y_vi 1), y_sI g 94 19 (p + 1)) := by
  obtain ⟨d, rfl⟩ : ∃ e, d = e + 1 := ⟨d - 1, by omega⟩
  have b := RS_bd h
  have b2 : (v :: R).length = R.length + 1 := rfl
  have m2 := M.2.1
  rw [e157, b157_0, m2, t_byte d (by omega) M (by omega), yci_s, (RS_nx h).1, if_pos rfl, m2, yr_t (by omega)]
theorem t_nos (d : Nat) (hd : 3 ≤ d) (M : MT L p g) (hL : L.length ≤ 110) {v : Int} (h : RS L p R) (hv : R.headD 32 ≠ v) : y_se z_pg sc d 157 [y_vr 94, y_vi 3, y_vi v] g = some (some (y_vi 0), g) := by
  obtain ⟨d, rfl⟩ : ∃ e, d = e + 1 := ⟨d - 1, by omega⟩
  have b := RS_bd h
  have m2 := M.2.1
  rw [e157, b157_0, m2, t_byte d (by omega) M (by omega), yci_s, RS_at h, if_neg hv, m2, yr_t (by omega), y_sI_id (by rw [m2, Int.add_zero])]
theorem t_fig (d : Nat) (hd : 4 ≤ d) (M : MT L p g) (hL : L.length ≤ 110) {x lo hi : Int} (hx : 0 ≤ x ∧ x ≤ 9) (hb : lo ≤ x ∧ x ≤ hi) (h : RS L p ((48 + x) :: R)) : y_se z_pg sc d 158 [y_vr 94, y_vi 3, y_vi lo, y_vi hi] g = some (some (y_vi 1), y_sI (y_sI g 94 20 x) 94 19 (p + 1)) := by
  obtain ⟨d, rfl⟩ : ∃ e, d = e + 1 := ⟨d - 1, by omega⟩
  have b := RS_bd h
  have b2 : ((48 + x) :: R).length = R.length + 1 := rfl
  have m2 := M.2.1
  have ep : ∀ v, y_I (y_sI g 94 20 v) 94 19 = p := fun v => by rw [yI_sI_o (by omega), m2]
  rw [e158, b158_0, m2, t_byte d (by omega) M (by omega), yci_s, (RS_nx h).1, show 48 + x - 48 = x by omega, yr_t (by omega), yI_sI_e ⟨rfl, rfl⟩, s136 d (by omega), yci_s, if_neg (by rw [bi_t (by omega)]; omega), yI_sI_e ⟨rfl, rfl⟩, s136 d (by omega), yci_s, if_neg (by rw [bi_t hb]; omega), ep, yr_t (by omega)]
/-- no figure -/
def nfg (b : Int) : Prop := b < 48 ∨ 57 < b
theorem t_min (d : Nat) (hd : 4 ≤ d) (M : MT L p g) (hL : L.length ≤ 110) {x lo hi : Int} (hx : 0 ≤ x ∧ x ≤ 99) (hb : lo ≤ x ∧ x ≤ hi) (h : RS L p (rnum x ++ R)) (hR : x < 10 → nfg (R.headD 32)) : y_se z_pg sc d 159 [y_vr 94, y_vi 3, y_vi lo, y_vi hi] g = some (some (y_vi 1), y_sI (y_sI g 94 19 (p + (rnum x).length)) 94 20 x) ∧ RS L (p + (rnum x).length) R := by
  obtain ⟨d, rfl⟩ : ∃ e, d = e + 1 := ⟨d - 1, by omega⟩
  have b := RS_bd h
  rw [List.length_append] at b
  have m2 := M.2.1
  unfold rnum at h b ⊢
  by_cases c : x < 10
  · rw [if_pos c] at h b ⊢
    have h : RS L p ((48 + x) :: R) := h
    have b1 : ([48 + x] : List Int).length = 1 := rfl
    obtain ⟨a1, a2⟩ := RS_nx h
    have e1 : p + (([48 + x] : List Int).length : Int) = p + 1 := rfl
    rw [e1]
    refine ⟨?_, a2⟩
    have M2 : MT L (p + 1) (y_sI g 94 19 (p + 1)) := M.at _
    have a3 := RS_at a2
    have hR := hR c
    rw [e159, b159_0]
    refine l159 d (by omega) M (by omega) (by omega) b.1 lo hi 0 0 _ (by omega) (by omega) (fun q => absurd (show u_fg (TL L) 120 p from ⟨by omega, by omega, by omega⟩) q) fun _ => ?_
    refine l159 d (by omega) M2 (by omega) (by omega) (by omega) lo hi (0 + 1) _ _ (by omega) (by omega) (fun _ => ?_) fun q => ?_
    · rw [if_pos (by omega), a1, show 10 * 0 + (48 + x) - 48 = x by omega, s136 d (by omega), yci_s, if_neg (by rw [bi_t hb]; omega)]
    · unfold u_fg at q
      rw [a3] at q
      unfold nfg at hR
      omega
  · rw [if_neg c] at h b ⊢
    have e := rm_bd (u := x) (m := 10) hx.1 (by omega)
    have e2 : 0 ≤ Int.tdiv x 10 ∧ Int.tdiv x 10 ≤ 9 := by
      rw [Int.tdiv_eq_ediv_of_nonneg hx.1]
      omega
    generalize Int.tdiv x 10 = u at h b e e2 ⊢
    have h : RS L p ((48 + u) :: (48 + (x - u * 10)) :: R) := h
    have b1 : ([48 + u, 48 + (x - u * 10)] : List Int).length = 2 := rfl
    obtain ⟨a1, a2⟩ := RS_nx h
    obtain ⟨a3, a4⟩ := RS_nx a2
    have e1 : p + (([48 + u, 48 + (x - u * 10)] : List Int).length : Int) = p + 1 + 1 := by rw [b1]; omega
    rw [e1]
    refine ⟨?_, a4⟩
    have M2 : MT L (p + 1) (y_sI g 94 19 (p + 1)) := M.at _
    rw [e159, b159_0]
    refine l159 d (by omega) M (by omega) (by omega) b.1 lo hi 0 0 _ (by omega) (by omega) (fun q => absurd (show u_fg (TL L) 120 p from ⟨by omega, by omega, by omega⟩) q) fun _ => ?_
    refine l159 d (by omega) M2 (by omega) (by omega) (by omega) lo hi (0 + 1) _ _ (by omega) (by omega) (fun q => absurd (show u_fg (TL L) 120 (p + 1) from ⟨by omega, by omega, by omega⟩) q) fun _ => ?_
    rw [b159_6, if_neg (by omega), if_pos (by omega), a1, a3, show 10 * (10 * 0 + (48 + u) - 48) + (48 + (x - u * 10)) - 48 = x by omega, s136 d (by omega), yci_s, if_neg (by rw [bi_t hb]; omega), y_sI_sI]
end TK
