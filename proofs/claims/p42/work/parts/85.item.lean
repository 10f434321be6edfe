/-! READING A HOUSE, all items -/
section IT
variable {sc : z_Sc} {h g : y_Hp} {c b : Nat} {t n p : Int} {T : Int → Int}
theorem K_item (S : XS c b n T p h) (M : MS t n T p g) (D : DR h b g) (hT : ∀ i, 0 ≤ i → i < n → -128 ≤ T i ∧ T i ≤ 127) (hc : 14 ≤ c ∧ c ≤ 17) (ht : 0 ≤ t ∧ t < 4) (hn : n ≤ 120) (hp : 0 ≤ p ∧ p < n) (k : Int) (hk : 0 ≤ k ∧ k ≤ p) (n32 : T p ≠ 32) : ∃ (u q : Int) (h' g' : y_Hp), (∀ d v2 p1 p3, 20 ≤ d → y_ev z_pg sc d pgX1_take 43 [some (y_vr 19), some (y_vr p1), some (y_vi v2), some (y_vr p3), some (y_vi 1), some (y_vi k)] [] h = y_rg (k + 1) (y_ev z_pg sc d pgX1_take 43 [some (y_vr 19), some (y_vr p1), some (y_vi v2), some (y_vr p3), some (y_vi u), some (y_vi (k + 1))] [] h')) ∧ (∀ d, 21 ≤ d → y_se z_pg sc d 166 [y_vr 94, y_vi t] g = some (some (y_vi u), g')) ∧ XS c b n T q h' ∧ MS t n T q g' ∧ FXX b h h' ∧ FMM g g' ∧ (u = 0 ∨ u = 1) ∧ (p ≤ q ∧ q ≤ n) ∧ (u = 1 → p < q ∧ DR h' b g') := by
  by_cases z : T p = 99
  · obtain ⟨u, q, h', g', a1, a2, a3, a4, a5, a6, a7, a8, a9⟩ := K_cush (sc := sc) S M D hT hc ht hn hp
    refine ⟨u, q, h', g', fun d v2 p1 p3 hd => ?_, fun d hd => ?_, a3, a4, a5, a6, a7, a8, a9⟩
    · rw [b19_43, S.2.2.1, if_pos (by omega), S.2.2.2.1, if_pos hp.2, if_neg (by omega), s20 d (by omega) S hc hn (by omega), yci_s, if_pos hp.2, if_neg (by omega), if_pos z, a1 d hd, yci_s]
    · obtain ⟨d, rfl⟩ : ∃ e, d = e + 1 := ⟨d - 1, by omega⟩
      rw [e166, b166_0, M.2.1, s156w d (by omega) M ht hn (by omega), yci_s, if_pos hp.2, if_pos z, a2 d (by omega), yci_s, yb_t a7]
  have z99 : ¬ T p = 99 := z
  clear z
  by_cases z : T p = 109
  · obtain ⟨u, q, h', g', a1, a2, a3, a4, a5, a6, a7, a8, a9⟩ := K_last (sc := sc) S M D hc ht hn hp
    refine ⟨u, q, h', g', fun d v2 p1 p3 hd => ?_, fun d hd => ?_, a3, a4, a5, a6, a7, a8, a9⟩
    · rw [b19_43, S.2.2.1, if_pos (by omega), S.2.2.2.1, if_pos hp.2, if_neg (by omega), s20 d (by omega) S hc hn (by omega), yci_s, if_pos hp.2, if_neg (by omega), if_neg (by omega), if_pos z, a1 d hd, yci_s]
    · obtain ⟨d, rfl⟩ : ∃ e, d = e + 1 := ⟨d - 1, by omega⟩
      rw [e166, b166_0, M.2.1, s156w d (by omega) M ht hn (by omega), yci_s, if_pos hp.2, if_neg (by omega), if_pos z, a2 d (by omega), yci_s, yb_t a7]
  have z109 : ¬ T p = 109 := z
  clear z
  by_cases z : T p = 110
  · obtain ⟨u, q, h', g', a1, a2, a3, a4, a5, a6, a7, a8, a9⟩ := K_not (sc := sc) S M D hT hc ht hn hp
    refine ⟨u, q, h', g', fun d v2 p1 p3 hd => ?_, fun d hd => ?_, a3, a4, a5, a6, a7, a8, a9⟩
    · rw [b19_43, S.2.2.1, if_pos (by omega), S.2.2.2.1, if_pos hp.2, if_neg (by omega), s20 d (by omega) S hc hn (by omega), yci_s, if_pos hp.2, if_neg (by omega), if_neg (by omega), if_neg (by omega), if_pos z, a1 d hd, yci_s]
    · obtain ⟨d, rfl⟩ : ∃ e, d = e + 1 := ⟨d - 1, by omega⟩
      rw [e166, b166_0, M.2.1, s156w d (by omega) M ht hn (by omega), yci_s, if_pos hp.2, if_neg (by omega), if_neg (by omega), if_pos z, a2 d (by omega), yci_s, yb_t a7]
  have z110 : ¬ T p = 110 := z
  clear z
  by_cases z : T p = 112
  · obtain ⟨u, q, h', g', a1, a2, a3, a4, a5, a6, a7, a8, a9⟩ := K_part (sc := sc) S M D hT hc ht hn hp
    refine ⟨u, q, h', g', fun d v2 p1 p3 hd => ?_, fun d hd => ?_, a3, a4, a5, a6, a7, a8, a9⟩
    · rw [b19_43, S.2.2.1, if_pos (by omega), S.2.2.2.1, if_pos hp.2, if_neg (by omega), s20 d (by omega) S hc hn (by omega), yci_s, if_pos hp.2, if_neg (by omega), if_neg (by omega), if_neg (by omega), if_neg (by omega), if_pos z, a1 d hd, yci_s]
    · obtain ⟨d, rfl⟩ : ∃ e, d = e + 1 := ⟨d - 1, by omega⟩
      rw [e166, b166_0, M.2.1, s156w d (by omega) M ht hn (by omega), yci_s, if_pos hp.2, if_neg (by omega), if_neg (by omega), if_neg (by omega), if_pos z, a2 d (by omega), yci_s, yb_t a7]
  have z112 : ¬ T p = 112 := z
  clear z
  by_cases z : T p = 114
  · obtain ⟨u, q, h', g', a1, a2, a3, a4, a5, a6, a7, a8, a9⟩ := K_read (sc := sc) S M D hT hc ht hn hp
    refine ⟨u, q, h', g', fun d v2 p1 p3 hd => ?_, fun d hd => ?_, a3, a4, a5, a6, a7, a8, a9⟩
    · rw [b19_43, S.2.2.1, if_pos (by omega), S.2.2.2.1, if_pos hp.2, if_neg (by omega), s20 d (by omega) S hc hn (by omega), yci_s, if_pos hp.2, if_neg (by omega), if_neg (by omega), if_neg (by omega), if_neg (by omega), if_neg (by omega), if_pos z, a1 d hd, yci_s]
    · obtain ⟨d, rfl⟩ : ∃ e, d = e + 1 := ⟨d - 1, by omega⟩
      rw [e166, b166_0, M.2.1, s156w d (by omega) M ht hn (by omega), yci_s, if_pos hp.2, if_neg (by omega), if_neg (by omega), if_neg (by omega), if_neg (by omega), if_pos z, a2 d (by omega), yci_s, yb_t a7]
  have z114 : ¬ T p = 114 := z
  clear z
  refine ⟨0, p, h, g, fun d v2 p1 p3 hd => ?_, fun d hd => ?_, S, M, FX.refl.xx, FM.refl.mm, Or.inl rfl, by omega, fun q => by omega⟩
  · rw [b19_43, S.2.2.1, if_pos (by omega), S.2.2.2.1, if_pos hp.2, if_neg (by omega), s20 d (by omega) S hc hn (by omega), yci_s, if_pos hp.2, if_neg n32, if_neg z99, if_neg z109, if_neg z110, if_neg z112, if_neg z114]
  · obtain ⟨d, rfl⟩ : ∃ e, d = e + 1 := ⟨d - 1, by omega⟩
    rw [e166, b166_0, M.2.1, s156w d (by omega) M ht hn (by omega), yci_s, if_pos hp.2, if_neg z99, if_neg z109, if_neg z110, if_neg z112, if_neg z114]
theorem K_items (hT : ∀ i, 0 ≤ i → i < n → -128 ≤ T i ∧ T i ≤ 127) (hc : 14 ≤ c ∧ c ≤ 17) (ht : 0 ≤ t ∧ t < 4) (hn : n ≤ 120) : ∀ (m : Nat) (p : Int) (h g : y_Hp) (k : Int), n - p ≤ m → XS c b n T p h → MS t n T p g → DR h b g → (0 ≤ p ∧ p ≤ n) → (0 ≤ k ∧ k ≤ p) → ∃ (u q : Int) (h' g' : y_Hp), (∀ d v2 p1 p3, 21 ≤ d → y_ev z_pg sc d pgX1_take 43 [some (y_vr 19), some (y_vr p1), some (y_vi v2), some (y_vr p3), some (y_vi 1), some (y_vi k)] [] h = some (some (y_vi u), h')) ∧ (∀ d, 21 ≤ d → y_ev z_pg sc d pgX8_faultOf 36 [some (y_vr 94), some (y_vi t)] [] g = some (some (y_vi u), g')) ∧ XS c b n T q h' ∧ MS t n T q g' ∧ FXX b h h' ∧ FMM g g' ∧ (-9 ≤ u ∧ u ≤ 120) ∧ (u = -9 → DR h' b g')
  | 0, p, h, g, k, hm, S, M, D, hp, hk => by
    refine ⟨-9, p, h, g, fun d v2 p1 p3 hd => ?_, fun d hd => ?_, S, M, FX.refl.xx, FM.refl.mm, by omega, fun q => D⟩
    · rw [b19_43, S.2.2.1, S.2.2.2.1]
      by_cases z : k < n
      · rw [if_pos z, if_neg (by omega), if_neg (by omega)]
      · rw [if_neg z, if_neg (by omega)]
    · rw [b167_36, yi_t (by omega), M.1, M.2.1, if_neg (by omega)]
  | m + 1, p, h, g, k, hm, S, M, D, hp, hk => by
    by_cases pn : p < n
    · by_cases z : T p = 32
      · obtain ⟨u, q, h', g', a1, a2, a3, a4, a5, a6, a7, a8⟩ := K_items hT hc ht hn m (p + 1) (y_sI h 19 2 (p + 1)) (y_sI g 94 19 (p + 1)) (k + 1) (by omega) (S.at hc (p + 1)) (M.at (p + 1)) (DR_cg D FX.p FM.p) (by omega) (by omega)
        refine ⟨u, q, h', g', fun d v2 p1 p3 hd => ?_, fun d hd => ?_, a3, a4, FX.p.xx.trans a5, FM.p.mm.trans a6, a7, a8⟩
        · obtain ⟨d, rfl⟩ : ∃ e, d = e + 1 := ⟨d - 1, by omega⟩
          rw [b19_43, S.2.2.1, if_pos (by omega), S.2.2.2.1, if_pos pn, if_neg (by omega), s20 (d + 1) (by omega) S hc hn (by omega), yci_s, if_pos pn, if_pos z, e21, b21_0, s20 d (by omega) S hc hn (by omega), yci_s, if_pos pn, if_pos z, S.2.2.2.1, yr_t (by omega), yci_s, yr_t (by omega), a1 (d + 1) v2 p1 p3 hd]
        · rw [b167_36, yi_t (by omega), M.1, M.2.1, if_pos pn, s156w d (by omega) M ht hn (by omega), yci_s, if_pos pn, if_pos z, M.2.1, yr_t (by omega), a2 d hd]
      · obtain ⟨u, q, h1, g1, a1, a2, a3, a4, a5, a6, a7, a8, a9⟩ := K_item (sc := sc) S M D hT hc ht hn ⟨hp.1, pn⟩ k hk z
        rcases a7 with e | e
        · subst e
          refine ⟨q, q, h1, g1, fun d v2 p1 p3 hd => ?_, fun d hd => ?_, a3, a4, a5, a6, by omega, fun e => by omega⟩
          · rw [a1 d v2 p1 p3 (by omega), yr_t (by omega), b19_43, if_pos rfl, if_pos rfl, a3.2.2.2.1]
            by_cases z1 : k + 1 < y_I h1 19 1
            · rw [if_pos z1]
              by_cases z2 : q < y_I h1 19 1
              · rw [if_pos z2]
              · rw [if_neg z2]
            · rw [if_neg z1]
          · rw [b167_36, yi_t (by omega), M.1, M.2.1, if_pos pn, s156w d (by omega) M ht hn (by omega), yci_s, if_pos pn, if_neg z, a2 d (by omega), yci_s, if_pos rfl, a4.2.1]
        · subst e
          obtain ⟨b1, b2⟩ := a9 rfl
          obtain ⟨u, q', h', g', c1, c2, c3, c4, c5, c6, c7, c8⟩ := K_items hT hc ht hn m q h1 g1 (k + 1) (by omega) a3 a4 b2 (by omega) (by omega)
          refine ⟨u, q', h', g', fun d v2 p1 p3 hd => ?_, fun d hd => ?_, c3, c4, a5.trans c5, a6.trans c6, c7, c8⟩
          · rw [a1 d v2 p1 p3 (by omega), yr_t (by omega), c1 d v2 p1 p3 hd]
          · rw [b167_36, yi_t (by omega), M.1, M.2.1, if_pos pn, s156w d (by omega) M ht hn (by omega), yci_s, if_pos pn, if_neg z, a2 d (by omega), yci_s, if_neg (by omega), c2 d hd]
    · refine ⟨-9, p, h, g, fun d v2 p1 p3 hd => ?_, fun d hd => ?_, S, M, FX.refl.xx, FM.refl.mm, by omega, fun q => D⟩
      · rw [b19_43, S.2.2.1, S.2.2.2.1]
        by_cases z : k < n
        · rw [if_pos z, if_neg (by omega), if_neg (by omega)]
        · rw [if_neg z, if_neg (by omega)]
      · rw [b167_36, yi_t (by omega), M.1, M.2.1, if_neg (by omega)]
end IT
