/-! CALLS: rule, mark -/
theorem yU0 {k : Int} {x : y_O} (hk : 0 ≤ k ∧ k < 6) : y_kt (25 + 2 * Int.toNat k) 4 x = x := by
  rcases (show k = 0 ∨ k = 1 ∨ k = 2 ∨ k = 3 ∨ k = 4 ∨ k = 5 by omega) with rfl | rfl | rfl | rfl | rfl | rfl <;> rfl
theorem yU1 {k : Int} {x : y_O} (hk : 0 ≤ k ∧ k < 6) : y_kt ((25 + 2 * Int.toNat k) + 1) 10 x = x := by
  rcases (show k = 0 ∨ k = 1 ∨ k = 2 ∨ k = 3 ∨ k = 4 ∨ k = 5 by omega) with rfl | rfl | rfl | rfl | rfl | rfl <;> rfl
theorem lU1 {k : Int} (hk : 0 ≤ k ∧ k < 6) : (z_kd ((25 + 2 * Int.toNat k) + 1)).2 = 8 := by
  rcases (show k = 0 ∨ k = 1 ∨ k = 2 ∨ k = 3 ∨ k = 4 ∨ k = 5 by omega) with rfl | rfl | rfl | rfl | rfl | rfl <;> rfl
/-- a row of n readers, none twice, none of s -/
def u_cok (F : Int → Int) (rm : Int) : Nat → Int → Int → Prop
  | 0, _, _ => True
  | n + 1, k, s => (0 ≤ F k ∧ F k < rm) ∧ ¬ u_bs s (F k) ∧ u_cok F rm n (k + 1) (y_or s (y_shl 1 (F k)))
theorem u_cok_cg {F G : Int → Int} {rm : Int} : ∀ {n : Nat} {k s : Int}, (∀ j, k ≤ j → j < k + n → F j = G j) → (u_cok F rm n k s ↔ u_cok G rm n k s)
  | 0, _, _, _ => Iff.rfl
  | n + 1, k, s, e => by
    unfold u_cok
    rw [e k (Int.le_refl _) (by omega), u_cok_cg fun j h1 h2 => e j (by omega) (by omega)]
theorem u_cok_in {F : Int → Int} {rm : Int} (hr : rm ≤ 8) : ∀ {n : Nat} {k s : Int}, u_cok F rm n k s → (∀ i, k ≤ i → i < k + n → (0 ≤ F i ∧ F i < rm) ∧ ¬ u_bs s (F i)) ∧ ∀ i j, k ≤ i → i < k + n → k ≤ j → j < k + n → F i = F j → i = j
  | 0, k, s, _ => ⟨fun i h1 h2 => by omega, fun i j h1 h2 => by omega⟩
  | n + 1, k, s, c => by
    unfold u_cok at c
    obtain ⟨c1, c2, c3⟩ := c
    obtain ⟨q1, q2⟩ := u_cok_in hr c3
    have q3 : ∀ i, k + 1 ≤ i → i < k + ((n + 1 : Nat) : Int) → ¬ F i = F k ∧ ¬ u_bs s (F i) := fun i h1 h2 => by
      have := (q1 i h1 (by omega))
      rw [ub_or, ub_shl (by omega) (by omega)] at this
      exact ⟨fun e => this.2 (Or.inr e), fun e => this.2 (Or.inl e)⟩
    refine ⟨fun i h1 h2 => ?_, fun i j h1 h2 h3 h4 e => ?_⟩
    · by_cases e : i = k
      · subst e; exact ⟨c1, c2⟩
      · exact ⟨(q1 i (by omega) (by omega)).1, (q3 i (by omega) h2).2⟩
    · by_cases e1 : i = k
      · by_cases e2 : j = k
        · omega
        · exact absurd (e ▸ e1 ▸ rfl) (q3 j (by omega) h4).1
      · by_cases e2 : j = k
        · exact absurd (e2 ▸ e) (q3 i (by omega) h2).1
        · exact q2 i j (by omega) (by omega) (by omega) (by omega) e
section RU
variable {sc : z_Sc} {h : y_Hp} {N : Nat} {a : Nat}
theorem s137 (d : Nat) (hd : 1 ≤ d) (s k : Int) (hk : 0 ≤ k ∧ k < 32) : y_se z_pg sc d 137 [y_vi s, y_vi k] h = some (some (y_vi (y_bi (u_bs s k))), h) := by
  rcases d with _ | d
  · omega
  rw [e137, b137_0, ub_has hk]
  by_cases c : u_bs s k
  · rw [bi_t c, if_pos rfl]
  · rw [bi_f c, if_neg (by omega)]
theorem l129 (d : Nat) (hd : 1 ≤ d) (hF : y_F h 2 10 = a) (X : xm h a) (hg : g_ok (hv h)) (r : Int) (hr : 0 ≤ r ∧ r < 6) : ∀ (n : Nat) (k s : Int) (o : Option y_V), 0 ≤ k → k + n = g_rm (hv h) → y_ev z_pg sc d pgX7_lackOfCard 38 [some (y_vr 2), some (y_vi r), some (y_vi s), some (y_vi k), o] [] h = some (some (y_vi (@ite _ (u_cok (fun i => y_I h (5 + Int.toNat r) (Int.toNat i)) (g_rm (hv h)) n k s) (Classical.propDecidable _) 0 3)), h)
  | 0, k, s, o, hk, hn => by
    have x2 := X.2.2.2.1
    rw [b129_38, hF, yH0 X.1, x2, if_neg (by omega), if_pos (by unfold u_cok; trivial)]
  | n + 1, k, s, o, hk, hn => by
    have kr := hg.2.1
    have x2 := X.2.2.2.1
    rw [b129_38, hF, yH0 X.1, x2, if_pos (by omega), yi_t (by omega), yR hr, lR hr, yi_t (by omega), yH0 X.1, s3 d hd X, yci_s]
    by_cases c1 : 0 ≤ y_I h (5 + Int.toNat r) (Int.toNat k) ∧ y_I h (5 + Int.toNat r) (Int.toNat k) < g_rm (hv h)
    · rw [if_neg (by rw [bi_t c1]; omega), ub_has (by omega)]
      by_cases c2 : u_bs s (y_I h (5 + Int.toNat r) (Int.toNat k))
      · rw [if_neg (by rw [bi_t c2]; omega), if_neg (fun q => by unfold u_cok at q; exact q.2.1 c2)]
      · rw [if_pos (bi_f c2), yr_t (by omega), l129 d hd hF X hg r hr n (k + 1) _ _ (by omega) (by omega)]
        have e : u_cok (fun i => y_I h (5 + Int.toNat r) (Int.toNat i)) (g_rm (hv h)) (n + 1) k s = u_cok (fun i => y_I h (5 + Int.toNat r) (Int.toNat i)) (g_rm (hv h)) n (k + 1) (y_or s (y_shl 1 (y_I h (5 + Int.toNat r) (Int.toNat k)))) := propext ⟨fun q => by unfold u_cok at q; exact q.2.2, fun q => by unfold u_cok; exact ⟨c1, c2, q⟩⟩
        rw [e]
    · rw [if_pos (bi_f c1), if_neg (fun q => by unfold u_cok at q; exact c1 q.1)]
theorem s129 (d : Nat) (hd : 2 ≤ d) (hF : y_F h 2 10 = a) (X : xm h a) (hg : g_ok (hv h)) (r : Int) (hr : 0 ≤ r ∧ r < 6) : y_se z_pg sc d 129 [y_vr 2, y_vi r] h = some (some (y_vi (if y_I h 11 (Int.toNat r) = -1 then 1 else if y_I h 11 (Int.toNat r) = g_rm (hv h) then (@ite _ (u_cok (fun i => y_I h (5 + Int.toNat r) (Int.toNat i)) (g_rm (hv h)) (g_rm (hv h)).toNat 0 0) (Classical.propDecidable _) 0 3) else 5)), h) := by
  rcases d with _ | d
  · omega
  have kr := hg.2.1
  have x2 := X.2.2.2.1
  rw [e129, b129_0, s80a d (by omega) r hr, yci_s]
  by_cases c1 : y_I h 11 (Int.toNat r) = -1
  · rw [if_neg (by rw [bi_t c1]; omega), if_pos c1]
  · rw [if_pos (bi_f c1), if_neg c1, yi_t (by omega), hF, yH0 X.1, x2]
    by_cases c2 : y_I h 11 (Int.toNat r) = g_rm (hv h)
    · rw [if_pos c2, if_pos c2, l129 d (by omega) hF X hg r hr (g_rm (hv h)).toNat 0 0 none (by omega) (by omega)]
    · rw [if_neg c2, if_neg c2]
theorem l163 (d : Nat) (hd : 1 ≤ d) (k v r c s : Int) (o : Option y_V) (g : y_Hp) (hk : 0 ≤ k ∧ k < 6) (hc : c = 0 ∨ (0 ≤ r ∧ r < 6)) (rm : Int) (hr : y_I g 94 10 = rm) (hr8 : 0 ≤ rm ∧ rm ≤ 8) : ∀ (n : Nat) (i : Int), 0 ≤ i → i + n = rm → y_ev z_pg sc d pgX8_rule 163 [some (y_vr 94), some (y_vi k), some (y_vi v), some (y_vi r), some (y_vi c), some (y_vi s), some (y_vi i), o] [] (y_fill g 113 (Int.toNat (8 * k)) (Int.toNat (8 * k + i)) (fun q => if c = 0 then 0 else y_I g 97 (Int.toNat (48 * r + (q - 8 * k))))) = some (some (y_vi 1), y_sI (y_fill g 113 (Int.toNat (8 * k)) (Int.toNat (8 * k + rm)) (fun q => if c = 0 then 0 else y_I g 97 (Int.toNat (48 * r + (q - 8 * k))))) 112 (Int.toNat k) v)
  | 0, i, hi, hn => by
    rw [b210_163, yI_fill_o (by omega), hr, if_neg (by omega), yi_t (by omega), show i = rm by omega]
  | n + 1, i, hi, hn => by
    have ih := l163 d hd k v r c s o g hk hc rm hr hr8 n (i + 1) (by omega) (by omega)
    rw [show Int.toNat (8 * k + (i + 1)) = Int.toNat (8 * k + i) + 1 by omega] at ih
    rw [b210_163, yI_fill_o (by omega), hr, if_pos (by omega), yr_t (by omega), yr_t (by omega)]
    by_cases e : c = 0
    · rw [if_pos e, b210_199, yi_t (by omega), yr_t (by omega), y_fill_s (by omega) (by rw [if_pos e]), ih]
    · rw [if_neg e, s146 d hd r i (by omega) (by omega), yci_s, b210_199, yi_t (by omega), yr_t (by omega), yI_fill_o (by omega), y_fill_s (by omega) (by rw [if_neg e]; congr 1; omega), ih]
theorem l97 (d : Nat) (hd : 2 ≤ d) (hg : g_ok (hv h)) (k v r : Int) (hk : 0 ≤ k ∧ k < 6) (hr : 0 ≤ r ∧ r < 6) : ∀ (n : Nat) (i s : Int) (o : Option y_V), 0 ≤ i → i + n = g_rm (hv h) → y_ev z_pg sc d pgX8_rule 97 [some (y_vr 94), some (y_vi k), some (y_vi v), some (y_vi r), some (y_vi 1), some (y_vi s), some (y_vi i), o] [] h = @ite _ (u_cok (fun i => y_I h 97 (Int.toNat (48 * r + i))) (g_rm (hv h)) n i s) (Classical.propDecidable _) (some (some (y_vi 1), y_sI (y_fill h 113 (Int.toNat (8 * k)) (Int.toNat (8 * k + g_rm (hv h))) (fun q => if (1 : Int) = 0 then 0 else y_I h 97 (Int.toNat (48 * r + (q - 8 * k))))) 112 (Int.toNat k) v)) (y_ci (y_se z_pg sc d 140 [y_vr 94, y_vi 3] h) (fun u g => some (some (y_vi u), g)))
  | 0, i, s, o, hi, hn => by
    have kr := hg.2.1
    have q := l163 (sc := sc) d (by omega) k v r 1 s o h hk (Or.inr hr) (g_rm (hv h)) rfl kr (g_rm (hv h)).toNat 0 (by omega) (by omega)
    rw [Int.add_zero, y_fill_0] at q
    rw [b210_97, hvrm, if_neg (by omega), if_pos (by unfold u_cok; trivial), b210_160, q]
  | n + 1, i, s, o, hi, hn => by
    have kr := hg.2.1
    rw [b210_97, hvrm, if_pos (by omega), if_neg (by omega), s146 d (by omega) r i hr (by omega), yci_s, s171 d hd _ hg, yci_s]
    by_cases c1 : 0 ≤ y_I h 97 (Int.toNat (48 * r + i)) ∧ y_I h 97 (Int.toNat (48 * r + i)) < g_rm (hv h)
    · rw [if_neg (by rw [bi_t c1]; omega), s137 d (by omega) _ _ (by omega), yci_s]
      by_cases c2 : u_bs s (y_I h 97 (Int.toNat (48 * r + i)))
      · rw [if_neg (by rw [bi_t c2]; omega), b210_139, if_neg (fun q => by unfold u_cok at q; exact q.2.1 c2)]
      · rw [if_pos (bi_f c2), yr_t (by omega), l97 d hd hg k v r hk hr n (i + 1) _ _ (by omega) (by omega)]
        have e : u_cok (fun i => y_I h 97 (Int.toNat (48 * r + i))) (g_rm (hv h)) (n + 1) i s = u_cok (fun i => y_I h 97 (Int.toNat (48 * r + i))) (g_rm (hv h)) n (i + 1) (y_or s (y_shl 1 (y_I h 97 (Int.toNat (48 * r + i))))) := propext ⟨fun q => by unfold u_cok at q; exact q.2.2, fun q => by unfold u_cok; exact ⟨c1, c2, q⟩⟩
        rw [e]
    · rw [if_pos (bi_f c1), b210_139, if_neg (fun q => by unfold u_cok at q; exact c1 q.1)]
end RU
