/-! CARDS in their order: the calls' methods -/
theorem ptd (a b : Nat) : Int.tdiv (a : Int) (b : Int) = ((a / b : Nat) : Int) := rfl
theorem pmd (a b : Nat) : (a : Int) - ((a / b : Nat) : Int) * (b : Int) = ((a % b : Nat) : Int) := by
  have e : ((a / b * b + a % b : Nat) : Int) = (a : Int) := by rw [Nat.div_add_mod']
  rw [Int.natCast_add, Int.natCast_mul] at e
  omega
theorem pub {b v : Nat} (hb : b < 64) (hv : v < 32) : u_bs (b : Int) (v : Int) ↔ b / 2 ^ v % 2 = 1 := by
  have key : ∀ b, b < 64 → ∀ v, v < 32 → ((Int32.ofInt ((b : Nat) : Int)).toBitVec.getLsbD v = decide (b / 2 ^ v % 2 = 1)) := by decide +kernel
  unfold u_bs
  rw [Int.toNat_natCast, key b hb v hv, decide_eq_true_eq]
theorem pmask {b v : Nat} (hb : b < 64) (hv : v < 32) (h : b / 2 ^ v % 2 = 1) : y_and (b : Int) (y_xor (y_shl 1 (v : Int)) (-1)) = ((b - 2 ^ v : Nat) : Int) := by
  have key : ∀ b, b < 64 → ∀ v, v < 32 → b / 2 ^ v % 2 = 1 → y_and ((b : Nat) : Int) (y_xor (y_shl 1 ((v : Nat) : Int)) (-1)) = ((b - 2 ^ v : Nat) : Int) := by decide +kernel
  exact key b hb v hv h
theorem pshl {n : Nat} (hn : n < 7) : y_shl 1 (n : Int) - 1 = ((2 ^ n - 1 : Nat) : Int) := by
  have key : ∀ n, n < 7 → y_shl 1 ((n : Nat) : Int) - 1 = ((2 ^ n - 1 : Nat) : Int) := by decide +kernel
  exact key n hn
/-- a card's first places -/
def CR (h : y_Hp) (c n : Nat) (f : Nat → Nat) : Prop := ∀ k, k < n → y_I h c k = ((f k : Nat) : Int)
section CA
variable {sc : z_Sc} {h : y_Hp}
theorem l223c (code : Int) (rest size i : Nat) (hi : i < 8) {b : Nat} (hb : b < 64) : ∀ (m v s : Nat) {w : Nat}, s ≤ 1000 → v + m ≤ 32 → pfv b m v s = some w → ∀ d, 1 ≤ d → y_ev z_pg sc d pgX8_layCard 94 [some (y_vr 94), some (y_vi code), some (y_vi (b : Int)), some (y_vi (rest : Int)), some (y_vi (size : Int)), some (y_vi (i : Int)), some (y_vi (s : Int)), some (y_vi (v : Int))] [] h = y_ev z_pg sc d pgX8_layCard 42 [some (y_vr 94), some (y_vi code), some (y_vi ((b - 2 ^ w : Nat) : Int)), some (y_vi (rest : Int)), some (y_vi (size : Int)), some (y_vi ((i + 1 : Nat) : Int)), some (y_vi 0), some (y_vi (w : Int))] [] (y_sI h 114 i (w : Int))
  | 0, v, s, w, h0, h1, h2, d, hd => by cases h2
  | m + 1, v, s, w, h0, h1, h2, d, hd => by
    unfold pfv at h2
    rw [b223_94, s137 d hd _ _ (by omega), yci_s]
    by_cases c : b / 2 ^ v % 2 = 1
    · have bi := bi_t ((pub hb (show v < 32 by omega)).mpr c)
      rw [if_pos c] at h2
      rw [if_neg (by rw [bi]; omega)]
      by_cases c2 : s = 0
      · rw [if_pos c2] at h2
        injection h2 with h2
        subst h2
        subst c2
        rw [if_neg (by omega), yi_t (by omega), yr_t (by omega), pmask hb (by omega) c]
        rfl
      · rw [if_neg c2] at h2
        rw [if_pos (by omega), s137 d hd _ _ (by omega), yci_s, if_neg (by rw [bi]; omega), yr_t (by omega), yr_t (by omega), show (s : Int) - 1 = ((s - 1 : Nat) : Int) by omega, show (v : Int) + 1 = ((v + 1 : Nat) : Int) by omega, l223c code rest size i hi hb m (v + 1) (s - 1) (by omega) (by omega) h2 d hd]
    · have bi := bi_f (fun q => c ((pub hb (show v < 32 by omega)).mp q))
      rw [if_neg c] at h2
      rw [if_pos bi, s137 d hd _ _ (by omega), yci_s, if_pos bi, yr_t (by omega), yr_t (by omega), show (s : Int) - 0 = (s : Int) by omega, show (v : Int) + 1 = ((v + 1 : Nat) : Int) by omega, l223c code rest size i hi hb m (v + 1) s (by omega) (by omega) h2 d hd]
theorem l223b (code : Int) {n : Nat} (hn : n < 7) : ∀ (m i rest size left : Nat) (h : y_Hp) {L : List Nat}, i + m = n → y_I h 94 10 = (n : Int) → play n m i rest size left = some L → ∃ h', (∀ d o6 o7, 1 ≤ d → y_ev z_pg sc d pgX8_layCard 42 [some (y_vr 94), some (y_vi code), some (y_vi (left : Int)), some (y_vi (rest : Int)), some (y_vi (size : Int)), some (y_vi (i : Int)), o6, o7] [] h = some (none, h')) ∧ (∀ k, k < m → y_I h' 114 (i + k) = ((L.getD k 0 : Nat) : Int)) ∧ (∀ b k, ¬ (b = 114 ∧ i ≤ k) → y_I h' b k = y_I h b k) ∧ h'.2 = h.2
  | 0, i, rest, size, left, h, L, h1, h2, h3 => by
    refine ⟨h, fun d o6 o7 hd => ?_, fun k hk => by omega, fun _ _ _ => rfl, rfl⟩
    rw [b223_42, h2, if_neg (by omega)]
  | m + 1, i, rest, size, left, h, L, h1, h2, h3 => by
    unfold play at h3
    by_cases c : size = 0 ∨ 1000 < rest ∨ 1000 < size ∨ 64 ≤ left
    · rw [if_pos c] at h3; cases h3
    · rw [if_neg c] at h3
      have hdiv : rest / size ≤ rest := Nat.div_le_self _ _
      have hmod : rest % size ≤ rest := Nat.mod_le _ _
      have hdv2 : size / (n - 1 - i) ≤ size := Nat.div_le_self _ _
      have q1 : (0 : Int) ≤ ((rest / size : Nat) : Int) := Int.natCast_nonneg _
      have q2 : (0 : Int) ≤ ((size / (n - 1 - i) : Nat) : Int) := Int.natCast_nonneg _
      rcases e1 : pfv left 8 0 (rest / size) with _ | v
      · rw [e1] at h3; cases h3
      · rw [e1] at h3
        simp only [pforce_eq] at h3
        rcases e2 : play n m (i + 1) (rest % size) (if i + 2 < n then size / (n - 1 - i) else 1) (left - 2 ^ v) with _ | L'
        · rw [e2] at h3; cases h3
        · rw [e2] at h3
          injection h3 with h3
          obtain ⟨h', i1, i2, i3, i4⟩ := l223b code hn m (i + 1) _ _ _ (y_sI h 114 i (v : Int)) (by omega) (by rw [yI_sI_o (by omega)]; exact h2) e2
          refine ⟨h', fun d o6 o7 hd => ?_, fun k hk => ?_, fun b k q => ?_, i4⟩
          · have c94 := l223c (sc := sc) (h := h) code (rest % size) (if i + 2 < n then size / (n - 1 - i) else 1) i (by omega) (show left < 64 by omega) 8 0 (rest / size) (by omega) (by omega) e1 d hd
            rw [i1 d _ _ hd] at c94
            rw [b223_42, h2, if_pos (by omega), yz_t (by omega), ptd, yr_t (by omega), yz_t (by omega), yr_t (by omega), pmd, yr_t (by omega), yr_t (by omega)]
            by_cases z : i + 2 < n
            · rw [if_pos z] at c94
              rw [if_pos (by omega), yr_t (by omega), yr_t (by omega), yz_t (by omega), show (n : Int) - 1 - (i : Int) = ((n - 1 - i : Nat) : Int) by omega, ptd, yr_t (by omega)]
              exact c94
            · rw [if_neg z] at c94
              rw [if_neg (by omega)]
              exact c94
          · rw [← h3]
            rcases k with _ | k
            · rw [Nat.add_zero, i3 _ _ (by omega), yI_sI_e ⟨rfl, rfl⟩]
              rfl
            · rw [show i + (k + 1) = i + 1 + k by omega, i2 k (by omega)]
              rfl
          · rw [i3 b k (by omega), yI_sI_o (by omega)]
theorem l223a (code : Int) (left : Int) {n : Nat} (hn : n < 7) (h2 : y_I h 94 10 = (n : Int)) : ∀ (m k s : Nat) {r : Nat}, k + m ≤ 20 → psz n m k s = some r → ∀ d, y_ev z_pg sc d pgX8_layCard 17 [some (y_vr 94), some (y_vi code), some (y_vi left), some (y_vi code), some (y_vi (s : Int)), some (y_vi (k : Int)), none, none] [] h = y_ev z_pg sc d pgX8_layCard 42 [some (y_vr 94), some (y_vi code), some (y_vi left), some (y_vi code), some (y_vi (r : Int)), some (y_vi 0), none, none] [] h
  | 0, k, s, r, h1, h3, d => by cases h3
  | m + 1, k, s, r, h1, h3, d => by
    unfold psz at h3
    rw [b223_17, h2]
    by_cases c : k < n
    · rw [if_pos c] at h3
      rw [if_pos (by omega)]
      by_cases c2 : 1000 < s * k
      · rw [if_pos c2] at h3; cases h3
      · rw [if_neg c2] at h3
        rw [show (s : Int) * (k : Int) = ((s * k : Nat) : Int) from (Int.natCast_mul s k).symm, yr_t (by omega), yr_t (by omega), show (k : Int) + 1 = ((k + 1 : Nat) : Int) by omega, l223a code left hn h2 m (k + 1) (s * k) (by omega) h3 d]
    · rw [if_neg c] at h3
      injection h3 with h3
      subst h3
      rw [if_neg (by omega)]
theorem s223 {n : Nat} (hn : n < 7) (h2 : y_I h 94 10 = (n : Int)) {code : Nat} (hc : code ≤ 1000) {L : List Nat} (e : plc n code = some L) : ∃ h', (∀ d, 2 ≤ d → y_se z_pg sc d 223 [y_vr 94, y_vi (code : Int)] h = some (none, h')) ∧ CR h' 114 n (fun k => L.getD k 0) ∧ (∀ b k, b ≠ 114 → y_I h' b k = y_I h b k) ∧ h'.2 = h.2 := by
  unfold plc at e
  rcases e1 : psz n 10 2 1 with _ | s
  · rw [e1] at e; cases e
  · rw [e1] at e
    obtain ⟨h', i1, i2, i3, i4⟩ := l223b (sc := sc) (code : Int) hn n 0 code s (2 ^ n - 1) h (by omega) h2 e
    refine ⟨h', fun d hd => ?_, fun k hk => ?_, fun b k q => i3 b k (by omega), i4⟩
    · obtain ⟨d, rfl⟩ : ∃ e, d = e + 1 := ⟨d - 1, by omega⟩
      have p64 : 2 ^ n - 1 < 64 := by
        have : ∀ n, n < 7 → 2 ^ n - 1 < 64 := by decide
        exact this n hn
      have la := l223a (sc := sc) (h := h) (code : Int) ((2 ^ n - 1 : Nat) : Int) hn h2 10 2 1 (by omega) e1 d
      rw [e223, b223_0, h2, pshl hn, yr_t (by omega)]
      exact la.trans (i1 d none none (by omega))
    · have := i2 k hk
      rwa [Nat.zero_add] at this
variable {rl : Nat}
theorem s62 (d : Nat) (hd : 1 ≤ d) (hrl : y_rl rl) {i j : Nat} (hi : i < 8) (hj : j < 8) : y_se z_pg sc d 62 [y_vr rl, y_vi (i : Int), y_vi (j : Int)] h = some (none, y_sI (y_sI h (rl + 1) i (y_I h (rl + 1) j)) (rl + 1) j (y_I h (rl + 1) i)) := by
  rcases d with _ | d
  · omega
  rw [e62, b62_0]
  simp (disch := first | omega | assumption) only [yK0, yK1, lK1, yi_t]
  rfl
theorem CR_sw {n : Nat} {f : Nat → Nat} {c i j : Nat} (C : CR h c n f) (hi : i < n) (hj : j < n) : CR (y_sI (y_sI h c i (y_I h c j)) c j (y_I h c i)) c n (psw f i j) := fun k hk => by
  unfold psw
  rw [yI_sI, yI_sI]
  by_cases c1 : k = j
  · rw [if_pos ⟨rfl, c1⟩, if_pos c1, C i hi]
  · rw [if_neg (fun q => c1 q.2), if_neg c1]
    by_cases c2 : k = i
    · rw [if_pos ⟨rfl, c2⟩, if_pos c2, C j hj]
    · rw [if_neg (fun q => c2 q.2), if_neg c2, C k hk]
theorem l61a (hrl : y_rl rl) {n : Nat} (hn : n < 7) {f : Nat → Nat} (C : CR h (rl + 1) n f) : ∀ (m : Nat), m < n ∨ m = 0 → ∀ d, y_ev z_pg sc d pgX4_nextCard 9 [some (y_vr rl), some (y_vi (n : Int)), some (y_vi ((m : Int) - 1)), none, none, none] [] h = if pn1 f m = 0 then some (some (y_vi 0), h) else y_ev z_pg sc d pgX4_nextCard 51 [some (y_vr rl), some (y_vi (n : Int)), some (y_vi ((pn1 f m : Int) - 1)), some (y_vi ((n : Int) - 1)), none, none] [] h
  | 0, hm, d => by
    rw [b61_9, if_pos (by omega), if_pos (by omega)]
    exact (if_pos (show pn1 f 0 = 0 from rfl)).symm
  | m + 1, hm, d => by
    rw [b61_9, if_neg (by omega), yK0 hrl, yK1 hrl, lK1 hrl, yi_t (by omega), yK0 hrl, yr_t (by omega), yK1 hrl, yi_t (by omega), show Int.toNat (((m + 1 : Nat) : Int) - 1 + 1) = m + 1 by omega, show Int.toNat (((m + 1 : Nat) : Int) - 1) = m by omega, C (m + 1) (by omega), C m (by omega)]
    unfold pn1
    by_cases c : f (m + 1) < f m
    · rw [if_pos (by omega), if_pos c, yr_t (by omega), show ((m + 1 : Nat) : Int) - 1 + -1 = (m : Int) - 1 by omega, l61a hrl hn C m (by omega) d]
    · rw [if_neg (by omega), if_neg c, if_neg (by omega), if_neg (by omega), show min (n : Int) 8 = n by omega, yr_t (by omega)]
theorem l61b (hrl : y_rl rl) {n : Nat} (hn : n < 7) {f : Nat → Nat} (C : CR h (rl + 1) n f) {i : Nat} (hi : i < n) : ∀ (j : Nat), j < n → ∀ d, 1 ≤ d → y_ev z_pg sc d pgX4_nextCard 51 [some (y_vr rl), some (y_vi (n : Int)), some (y_vi (i : Int)), some (y_vi (j : Int)), none, none] [] h = y_ev z_pg sc d pgX4_nextCard 98 [some (y_vr rl), some (y_vi (n : Int)), some (y_vi (i : Int)), some (y_vi (pn2 f i j : Int)), some (y_vi ((n : Int) - 1)), some (y_vi ((i : Int) + 1))] [] (y_sI (y_sI h (rl + 1) i (y_I h (rl + 1) (pn2 f i j))) (rl + 1) (pn2 f i j) (y_I h (rl + 1) i))
  | 0, hj, d, hd => by
    rw [b61_51, if_neg (by omega), yK0 hrl, s62 d hd hrl (by omega) (by omega), ycv_s, show min (n : Int) 8 = n by omega, yr_t (by omega), yr_t (by omega)]
    rfl
  | j + 1, hj, d, hd => by
    unfold pn2
    rw [b61_51]
    by_cases c : i < j + 1
    · rw [if_pos (by omega), if_pos c, yK0 hrl, yK1 hrl, lK1 hrl, yi_t (by omega), yK0 hrl, yK1 hrl, yi_t (by omega), Int.toNat_natCast, Int.toNat_natCast, C (j + 1) hj, C i hi]
      by_cases c2 : f (j + 1) < f i
      · rw [if_pos (by omega), if_pos c2, yr_t (by omega), show ((j + 1 : Nat) : Int) + -1 = (j : Int) by omega, l61b hrl hn C hi j (by omega) d hd, C i hi]
      · rw [if_neg (by omega), if_neg c2, yK0 hrl, s62 d hd hrl (by omega) (by omega), ycv_s, show min (n : Int) 8 = n by omega, yr_t (by omega), yr_t (by omega), C i hi]
    · rw [if_neg (by omega), if_neg c, yK0 hrl, s62 d hd hrl (by omega) (by omega), ycv_s, show min (n : Int) 8 = n by omega, yr_t (by omega), yr_t (by omega)]
theorem l61c (hrl : y_rl rl) {n : Nat} (hn : n < 7) (v2 v3 : Int) : ∀ (m lo hi : Nat) (f : Nat → Nat) (h : y_Hp), CR h (rl + 1) n f → hi < n → hi - lo ≤ m → ∃ h', (∀ d, 1 ≤ d → y_ev z_pg sc d pgX4_nextCard 98 [some (y_vr rl), some (y_vi (n : Int)), some (y_vi v2), some (y_vi v3), some (y_vi (hi : Int)), some (y_vi (lo : Int))] [] h = some (some (y_vi 1), h')) ∧ CR h' (rl + 1) n (prv f m lo hi) ∧ (∀ b k, b ≠ rl + 1 → y_I h' b k = y_I h b k) ∧ h'.2 = h.2
  | 0, lo, hi, f, h, C, h1, h2 => by
    refine ⟨h, fun d hd => ?_, C, fun _ _ _ => rfl, rfl⟩
    rw [b61_98, if_neg (by omega)]
  | m + 1, lo, hi, f, h, C, h1, h2 => by
    unfold prv
    by_cases c : lo < hi
    · obtain ⟨h', i1, i2, i3, i4⟩ := l61c hrl hn v2 v3 m (lo + 1) (hi - 1) _ _ (CR_sw C (show lo < n by omega) h1) (by omega) (by omega)
      refine ⟨h', fun d hd => ?_, by rw [if_pos c]; exact i2, fun b k q => ?_, i4⟩
      · rw [b61_98, if_pos (by omega), yK0 hrl, s62 d hd hrl (by omega) (by omega), ycv_s, yr_t (by omega), yr_t (by omega), show (hi : Int) + -1 = ((hi - 1 : Nat) : Int) by omega, show (lo : Int) + 1 = ((lo + 1 : Nat) : Int) by omega, i1 d hd]
      · rw [i3 b k q, yI_sI_o (by omega), yI_sI_o (by omega)]
    · refine ⟨h, fun d hd => ?_, by rw [if_neg c]; exact C, fun _ _ _ => rfl, rfl⟩
      rw [b61_98, if_neg (by omega)]
theorem pn2_le {f : Nat → Nat} {i : Nat} : ∀ {j : Nat}, pn2 f i j ≤ j
  | 0 => Nat.le_refl _
  | j + 1 => by
    unfold pn2
    by_cases c : i < j + 1
    · rw [if_pos c]
      by_cases c2 : f (j + 1) < f i
      · rw [if_pos c2]
        have := pn2_le (f := f) (i := i) (j := j)
        omega
      · rw [if_neg c2]; omega
    · rw [if_neg c]; omega
theorem pn1_le {f : Nat → Nat} : ∀ {m : Nat}, pn1 f m ≤ m
  | 0 => Nat.le_refl _
  | m + 1 => by
    unfold pn1
    by_cases c : f (m + 1) < f m
    · rw [if_pos c]
      have := pn1_le (f := f) (m := m)
      omega
    · rw [if_neg c]; omega
theorem s61 (hrl : y_rl rl) {n : Nat} (hn : n < 7) {f : Nat → Nat} (C : CR h (rl + 1) n f) : (pnx n f = none → ∀ d, 1 ≤ d → y_se z_pg sc d 61 [y_vr rl, y_vi (n : Int)] h = some (some (y_vi 0), h)) ∧ ∀ g, pnx n f = some g → ∃ h', (∀ d, 2 ≤ d → y_se z_pg sc d 61 [y_vr rl, y_vi (n : Int)] h = some (some (y_vi 1), h')) ∧ CR h' (rl + 1) n g ∧ (∀ b k, b ≠ rl + 1 → y_I h' b k = y_I h b k) ∧ h'.2 = h.2 := by
  have start : ∀ d, y_se z_pg sc (d + 1) 61 [y_vr rl, y_vi (n : Int)] h = if pn1 f (n - 1) = 0 then some (some (y_vi 0), h) else y_ev z_pg sc d pgX4_nextCard 51 [some (y_vr rl), some (y_vi (n : Int)), some (y_vi ((pn1 f (n - 1) : Int) - 1)), some (y_vi ((n : Int) - 1)), none, none] [] h := fun d => by
    rw [e61, b61_0, show min (n : Int) 8 = n by omega, yr_t (by omega)]
    rcases n with _ | n
    · rw [b61_9, if_pos (by omega), if_pos (by omega)]
      exact (if_pos (show pn1 f 0 = 0 from rfl)).symm
    · have := l61a (sc := sc) hrl hn C n (by omega) d
      rw [show ((n + 1 : Nat) : Int) - 2 = (n : Int) - 1 by omega]
      exact this
  unfold pnx
  rw [pforce_eq]
  constructor
  · intro e d hd
    obtain ⟨d, rfl⟩ : ∃ e, d = e + 1 := ⟨d - 1, by omega⟩
    rw [start]
    by_cases c : pn1 f (n - 1) = 0
    · rw [if_pos c]
    · rw [if_neg c, pforce_eq] at e; cases e
  · intro g e
    have l1 := pn1_le (f := f) (m := n - 1)
    by_cases c : pn1 f (n - 1) = 0
    · rw [if_pos c] at e; cases e
    · rw [if_neg c, pforce_eq] at e
      injection e with e
      subst e
      have l2 := pn2_le (f := f) (i := pn1 f (n - 1) - 1) (j := n - 1)
      obtain ⟨h', i1, i2, i3, i4⟩ := l61c (sc := sc) hrl hn ((pn1 f (n - 1) - 1 : Nat) : Int) (pn2 f (pn1 f (n - 1) - 1) (n - 1) : Int) n (pn1 f (n - 1)) (n - 1) _ _ (CR_sw C (show pn1 f (n - 1) - 1 < n by omega) (show pn2 f (pn1 f (n - 1) - 1) (n - 1) < n by omega)) (by omega) (by omega)
      refine ⟨h', fun d hd => ?_, i2, fun b k q => ?_, i4⟩
      · obtain ⟨d, rfl⟩ : ∃ e, d = e + 1 := ⟨d - 1, by omega⟩
        have lb := l61b (sc := sc) hrl hn C (show pn1 f (n - 1) - 1 < n by omega) (n - 1) (by omega) d (by omega)
        rw [start, if_neg c, show ((pn1 f (n - 1) : Nat) : Int) - 1 = ((pn1 f (n - 1) - 1 : Nat) : Int) by omega, show (n : Int) - 1 = ((n - 1 : Nat) : Int) by omega, lb, show (n : Int) - 1 = ((n - 1 : Nat) : Int) by omega, show ((pn1 f (n - 1) - 1 : Nat) : Int) + 1 = ((pn1 f (n - 1) : Nat) : Int) by omega, i1 d (by omega)]
      · rw [i3 b k q, yI_sI_o (by omega), yI_sI_o (by omega)]
theorem l60 (d : Nat) (hrl : y_rl rl) {n : Nat} (hn : n < 7) (g : y_Hp) : ∀ (m k : Nat), k + m = n → y_ev z_pg sc d pgX4_beginCard 7 [some (y_vr rl), some (y_vi (n : Int)), some (y_vi (k : Int))] [] (y_fill g (rl + 1) 0 k (fun j => (j : Int))) = some (none, y_fill g (rl + 1) 0 n (fun j => (j : Int)))
  | 0, k, hm => by
    rw [b60_7, if_neg (by omega), show k = n by omega]
  | m + 1, k, hm => by
    rw [b60_7, if_pos (by omega), if_pos (by omega), yK0 hrl, yK1 hrl, lK1 hrl, yi_t (by omega), yr_t (by omega), Int.toNat_natCast, y_fill_s (Nat.zero_le _) rfl, show (k : Int) + 1 = ((k + 1 : Nat) : Int) by omega, l60 d hrl hn g m (k + 1) (by omega)]
theorem s60 (d : Nat) (hd : 1 ≤ d) (hrl : y_rl rl) {n : Nat} (hn : n < 7) : y_se z_pg sc d 60 [y_vr rl, y_vi (n : Int)] h = some (none, y_fill (y_sI h rl 0 1) (rl + 1) 0 n (fun j => (j : Int))) := by
  rcases d with _ | d
  · omega
  have := l60 (sc := sc) d hrl hn (y_sI h rl 0 1) n 0 (by omega)
  rw [y_fill_0] at this
  rw [e60, b60_0, yK0 hrl]
  exact this
end CA
