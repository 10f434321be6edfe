/-! READING A HOUSE, the minutes -/
section TK
variable {sc : z_Sc} {h g : y_Hp} {c b : Nat} {t n p : Int} {T : Int → Int}
theorem fg_look {p : Int} : u_fg T n p ↔ (48 ≤ (if p < n then T p else 0) ∧ (if p < n then T p else 0) ≤ 57) := by
  unfold u_fg
  by_cases e : p < n
  · rw [if_pos e]; exact ⟨fun q => q.2, fun q => ⟨e, q⟩⟩
  · rw [if_neg e]; exact ⟨fun q => absurd q.1 e, fun q => absurd q.1 (by omega)⟩
theorem l159 (d : Nat) (hd : 3 ≤ d) (M : MS t n T p g) (ht : 0 ≤ t ∧ t < 4) (hn : n ≤ 120) (hp : 0 ≤ p) (lo hi k v : Int) (R : y_O) (hk : 0 ≤ k ∧ k < 2) (hv : 0 ≤ v ∧ v ≤ 9) (h1 : ¬ u_fg T n p → (if 0 < k then y_ci (y_se z_pg sc d 136 [y_vi v, y_vi lo, y_vi hi] (y_sI g 94 20 v)) (fun u8 g7 => (if u8 = 0 then some (some (y_vi 0), g7) else some (some (y_vi 1), g7))) else some (some (y_vi 0), (y_sI g 94 20 v))) = R) (h2 : u_fg T n p → y_ev z_pg sc d pgX8_minute 6 [some (y_vr 94), some (y_vi t), some (y_vi lo), some (y_vi hi), some (y_vi (k + 1)), some (y_vi (10 * v + T p - 48))] [] (y_sI g 94 19 (p + 1)) = R) : y_ev z_pg sc d pgX8_minute 6 [some (y_vr 94), some (y_vi t), some (y_vi lo), some (y_vi hi), some (y_vi k), some (y_vi v)] [] g = R := by
  have m2 := M.2.1
  rw [b159_6, if_pos (by omega), m2, s156w d (by omega) M ht hn hp, yci_s, s136 d (by omega), yci_s]
  by_cases c1 : u_fg T n p
  · have c2 := c1
    unfold u_fg at c2
    rw [if_neg (by rw [bi_t (fg_look.mp c1)]; omega), yr_t (by omega), m2, s156w d (by omega) M ht hn hp, yci_s, if_pos c2.1, yr_t (by omega), yr_t (by omega), m2, yr_t (by omega), yr_t (by omega)]
    exact h2 c1
  · rw [if_pos (bi_f (fun q => c1 (fg_look.mpr q)))]
    exact h1 c1
/-- both take a minute -/
theorem K_min (S : XS c b n T p h) (M : MS t n T p g) (hc : 14 ≤ c ∧ c ≤ 17) (ht : 0 ≤ t ∧ t < 4) (hn : n ≤ 120) (hp : 0 ≤ p ∧ p ≤ n) (lo hi : Int) : ∃ (u q : Int) (h' g' : y_Hp), (∀ d, 4 ≤ d → y_se z_pg sc d 24 [y_vr 19, y_vi lo, y_vi hi] h = some (some (y_vi u), h')) ∧ (∀ d, 4 ≤ d → y_se z_pg sc d 159 [y_vr 94, y_vi t, y_vi lo, y_vi hi] g = some (some (y_vi u), g')) ∧ XS c b n T q h' ∧ MS t n T q g' ∧ FX h h' ∧ FM g g' ∧ (u = 0 ∨ u = 1) ∧ (p ≤ q ∧ q ≤ n) ∧ (u = 1 → y_I h' 19 3 = y_I g' 94 20 ∧ (lo ≤ y_I g' 94 20 ∧ y_I g' 94 20 ≤ hi)) := by
  have i2 := S.2.2.2.1
  have m2 := M.2.1
  by_cases c1 : u_fg T n p
  · have c1' := c1
    unfold u_fg at c1'
    have S2 : XS c b n T (p + 1) (y_sI (y_sI h 19 3 (T p - 48)) 19 2 (p + 1)) := (S.vl hc).at hc _
    have M2 : MS t n T (p + 1) (y_sI g 94 19 (p + 1)) := M.at _
    have hx1 : ∀ d, 4 ≤ d + 1 → ∀ R, y_ci (y_se z_pg sc d 22 [y_vr 19] (y_sI (y_sI h 19 3 (T p - 48)) 19 2 (p + 1))) (fun u4 g3 => (if u4 = (-9) then (if (y_I g3 19 3) < lo then some (some (y_vi 0), g3) else (if hi < (y_I g3 19 3) then some (some (y_vi 0), g3) else some (some (y_vi 1), g3))) else y_rg ((y_I g3 19 3) * 10) (y_rg (((y_I g3 19 3) * 10) + u4) (y_rg ((y_I (y_sI g3 19 3 (((y_I g3 19 3) * 10) + u4)) 19 2) + 1) (y_hb (y_sI (y_sI g3 19 3 (((y_I g3 19 3) * 10) + u4)) 19 2 ((y_I (y_sI g3 19 3 (((y_I g3 19 3) * 10) + u4)) 19 2) + 1)) (fun g5 => (if (y_I g5 19 3) < lo then some (some (y_vi 0), g5) else (if hi < (y_I g5 19 3) then some (some (y_vi 0), g5) else some (some (y_vi 1), g5)))))))))  = R → y_se z_pg sc (d + 1) 24 [y_vr 19, y_vi lo, y_vi hi] h = R := fun d hd R hR => by
      rw [e24, b24_0, s22 d (by omega) S hc hn hp.1, yci_s, if_pos c1, yI_sI_e ⟨rfl, rfl⟩, if_neg (by omega), yI_sI_o (by omega), i2, yr_t (by omega)]
      exact hR
    have e3 : y_I (y_sI (y_sI h 19 3 (T p - 48)) 19 2 (p + 1)) 19 3 = T p - 48 := by rw [yI_sI_o (by omega), yI_sI_e ⟨rfl, rfl⟩]
    by_cases c2 : u_fg T n (p + 1)
    · have c2' := c2
      unfold u_fg at c2'
      have ev : (T p - 48) * 10 + (T (p + 1) - 48) = 10 * (10 * 0 + T p - 48) + T (p + 1) - 48 := by omega
      generalize ew : 10 * (10 * 0 + T p - 48) + T (p + 1) - 48 = w
      have hx : ∀ d, 4 ≤ d → y_se z_pg sc d 24 [y_vr 19, y_vi lo, y_vi hi] h = some (some (y_vi (y_bi (lo ≤ w ∧ w ≤ hi))), y_sI (y_sI (y_sI (y_sI h 19 3 (T p - 48)) 19 2 (p + 1)) 19 3 w) 19 2 (p + 2)) := fun d hd => by
        obtain ⟨d, rfl⟩ : ∃ e, d = e + 1 := ⟨d - 1, by omega⟩
        refine hx1 d hd _ ?_
        rw [s22 d (by omega) S2 hc hn (by omega), yci_s, if_pos c2, if_neg (by omega), e3, yr_t (by omega), yr_t (by omega), ev, ew, yI_sI_o (by omega), yI_sI_e ⟨rfl, rfl⟩, yr_t (by omega), yhb_s, yI_sI_o (by omega), yI_sI_e ⟨rfl, rfl⟩, show p + 1 + 1 = p + 2 by omega]
        by_cases c3 : w < lo
        · rw [if_pos c3]; exact (ab_f (by omega))
        rw [if_neg c3]
        by_cases c4 : hi < w
        · rw [if_pos c4]; exact (ab_f (by omega))
        · rw [if_neg c4]; exact (ab_t (by omega))
      have hm : ∀ d, 4 ≤ d → y_se z_pg sc d 159 [y_vr 94, y_vi t, y_vi lo, y_vi hi] g = some (some (y_vi (y_bi (lo ≤ w ∧ w ≤ hi))), y_sI (y_sI (y_sI g 94 19 (p + 1)) 94 19 (p + 1 + 1)) 94 20 w) := fun d hd => by
        obtain ⟨d, rfl⟩ : ∃ e, d = e + 1 := ⟨d - 1, by omega⟩
        rw [e159, b159_0]
        refine l159 d (by omega) M ht hn hp.1 lo hi 0 0 _ (by omega) (by omega) (fun q => absurd c1 q) fun _ => ?_
        refine l159 d (by omega) M2 ht hn (by omega) lo hi (0 + 1) _ _ (by omega) (by omega) (fun q => absurd c2 q) fun _ => ?_
        rw [b159_6, if_neg (by omega), if_pos (by omega), s136 d (by omega), yci_s, ew]
        by_cases c3 : lo ≤ w ∧ w ≤ hi
        · rw [if_neg (by rw [bi_t c3]; omega)]; exact (ab_t c3)
        · rw [if_pos (bi_f c3)]; exact (ab_f c3)
      refine ⟨_, p + 2, _, _, hx, hm, (((S.vl hc).at hc _).vl hc).at hc _, ?_, ((FX.v.trans FX.p).trans FX.v).trans FX.p, (FM.p.trans FM.p).trans FM.v, ?_, by omega, fun q => ?_⟩
      · have := ((M.at (p + 1)).at (p + 1 + 1)).vl (v := w)
        rw [show p + 1 + 1 = p + 2 by omega] at this ⊢
        exact this
      · by_cases c3 : lo ≤ w ∧ w ≤ hi
        · exact Or.inr (bi_t c3)
        · exact Or.inl (bi_f c3)
      · rw [yI_sI_o (by omega), yI_sI_e ⟨rfl, rfl⟩, yI_sI_e ⟨rfl, rfl⟩]
        refine ⟨rfl, ?_⟩
        by_cases c3 : lo ≤ w ∧ w ≤ hi
        · exact c3
        · rw [bi_f c3] at q; omega
    · generalize ew : T p - 48 = w
      rw [ew] at e3
      have ew2 : 10 * 0 + T p - 48 = w := by omega
      have hx : ∀ d, 4 ≤ d → y_se z_pg sc d 24 [y_vr 19, y_vi lo, y_vi hi] h = some (some (y_vi (y_bi (lo ≤ w ∧ w ≤ hi))), y_sI (y_sI h 19 3 w) 19 2 (p + 1)) := fun d hd => by
        obtain ⟨d, rfl⟩ : ∃ e, d = e + 1 := ⟨d - 1, by omega⟩
        refine hx1 d hd _ ?_
        rw [s22 d (by omega) S2 hc hn (by omega), yci_s, if_neg c2, if_pos rfl, ew, e3]
        by_cases c3 : w < lo
        · rw [if_pos c3]; exact (ab_f (by omega))
        rw [if_neg c3]
        by_cases c4 : hi < w
        · rw [if_pos c4]; exact (ab_f (by omega))
        · rw [if_neg c4]; exact (ab_t (by omega))
      have hm : ∀ d, 4 ≤ d → y_se z_pg sc d 159 [y_vr 94, y_vi t, y_vi lo, y_vi hi] g = some (some (y_vi (y_bi (lo ≤ w ∧ w ≤ hi))), y_sI (y_sI g 94 19 (p + 1)) 94 20 w) := fun d hd => by
        obtain ⟨d, rfl⟩ : ∃ e, d = e + 1 := ⟨d - 1, by omega⟩
        rw [e159, b159_0]
        refine l159 d (by omega) M ht hn hp.1 lo hi 0 0 _ (by omega) (by omega) (fun q => absurd c1 q) fun _ => ?_
        refine l159 d (by omega) M2 ht hn (by omega) lo hi (0 + 1) _ _ (by omega) (by omega) (fun _ => ?_) (fun q => absurd q c2)
        rw [if_pos (by omega), s136 d (by omega), yci_s, ew2]
        by_cases c3 : lo ≤ w ∧ w ≤ hi
        · rw [if_neg (by rw [bi_t c3]; omega)]; exact (ab_t c3)
        · rw [if_pos (bi_f c3)]; exact (ab_f c3)
      refine ⟨_, p + 1, _, _, hx, hm, (S.vl hc).at hc _, (M.at _).vl, FX.v.trans FX.p, FM.p.trans FM.v, ?_, by omega, fun q => ?_⟩
      · by_cases c3 : lo ≤ w ∧ w ≤ hi
        · exact Or.inr (bi_t c3)
        · exact Or.inl (bi_f c3)
      · rw [yI_sI_o (by omega), yI_sI_e ⟨rfl, rfl⟩, yI_sI_e ⟨rfl, rfl⟩]
        refine ⟨rfl, ?_⟩
        by_cases c3 : lo ≤ w ∧ w ≤ hi
        · exact c3
        · rw [bi_f c3] at q; omega
  · refine ⟨0, p, y_sI h 19 3 (-9), y_sI g 94 20 0, fun d hd => ?_, fun d hd => ?_, S.vl hc, M.vl, FX.v, FM.v, Or.inl rfl, by omega, fun q => by omega⟩
    · obtain ⟨d, rfl⟩ : ∃ e, d = e + 1 := ⟨d - 1, by omega⟩
      rw [e24, b24_0, s22 d (by omega) S hc hn hp.1, yci_s, if_neg c1, yI_sI_e ⟨rfl, rfl⟩, if_pos rfl]
    · obtain ⟨d, rfl⟩ : ∃ e, d = e + 1 := ⟨d - 1, by omega⟩
      rw [e159, b159_0]
      refine l159 d (by omega) M ht hn hp.1 lo hi 0 0 _ (by omega) (by omega) (fun _ => ?_) (fun q => absurd q c1)
      rw [if_neg (by omega)]
end TK
