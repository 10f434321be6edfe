/-! THE LAW TELLS A HOUSE: the text, byte for byte -/
def rnum (x : Int) : List Int := if x < 10 then [48 + x] else [48 + Int.tdiv x 10, 48 + (x - Int.tdiv x 10 * 10)]
def rpart (H : Nat → Int) (p : Int) : List Int := 112 :: (48 + H (Int.toNat (8 + 3 * p))) :: ((if 0 < H (Int.toNat (9 + 3 * p)) then 58 :: rnum (H (Int.toNat (9 + 3 * p))) else []) ++ (if 0 < H (Int.toNat (10 + 3 * p)) then [115, 48 + H (Int.toNat (10 + 3 * p))] else []))
def rparts (H : Nat → Int) (k : Int) : Nat → List Int
  | 0 => []
  | n + 1 => rpart H k ++ rparts H (k + 1) n
def rhead (H : Nat → Int) (r : Int) : List Int := 114 :: (rnum (H (Int.toNat (20 + 3 * r))) ++ (45 :: (rnum (H (Int.toNat (21 + 3 * r))) ++ (40 :: (if H (Int.toNat (22 + 3 * r)) = 1 then [33] else [])))))
def rwant (W : Nat → Int) (w : Int) : List Int := (48 + W (Int.toNat (4 * w + 1))) :: 42 :: (rnum (W (Int.toNat (4 * w + 2))) ++ [61, 48 + W (Int.toNat (4 * w + 3))])
def rwants (H W : Nat → Int) (w : Int) : Nat → List Int
  | 0 => []
  | n + 1 => rwant W w ++ (if n = 0 then [41] else if W (Int.toNat (4 * (w + 1))) = W (Int.toNat (4 * w)) then 44 :: rwants H W (w + 1) n else 41 :: (rhead H (W (Int.toNat (4 * (w + 1)))) ++ rwants H W (w + 1) n))
def rcush (H : Nat → Int) (k : Int) : Nat → List Int
  | 0 => []
  | n + 1 => (99 :: (48 + H (Int.toNat (40 + 3 * k))) :: 64 :: (rnum (H (Int.toNat (41 + 3 * k))) ++ (45 :: rnum (H (Int.toNat (42 + 3 * k)))))) ++ rcush H (k + 1) n
/-- the text of a house -/
def rhouse (H W : Nat → Int) : List Int := 109 :: (rnum (H 3) ++ (rparts H 0 (H 0).toNat ++ (rhead H 0 ++ (rwants H W 0 (H 2).toNat ++ rcush H 0 (H 5).toNat))))
theorem rnum_len {x : Int} : 1 ≤ (rnum x).length ∧ (rnum x).length ≤ 2 := by
  unfold rnum
  split <;> simp
theorem rnum_1 {x : Int} (h : x < 10) : (rnum x).length = 1 := by
  unfold rnum
  rw [if_pos h]
  rfl
/-- the rows' cells -/
def pA (p1 p2 : Nat) : Prop := (p1 = 236 ∧ p2 = 237) ∨ (p1 = 238 ∧ p2 = 239)
theorem yA1 {p1 p2 : Nat} {x : y_O} (h : pA p1 p2) : y_kt p1 10 x = x := by rcases h with ⟨rfl, rfl⟩ | ⟨rfl, rfl⟩ <;> rfl
theorem yA2 {p1 p2 : Nat} {x : y_O} (h : pA p1 p2) : y_kt p2 10 x = x := by rcases h with ⟨rfl, rfl⟩ | ⟨rfl, rfl⟩ <;> rfl
theorem lA1 {p1 p2 : Nat} (h : pA p1 p2) : (z_kd p1).2 = 64 := by rcases h with ⟨rfl, rfl⟩ | ⟨rfl, rfl⟩ <;> rfl
theorem lA2 {p1 p2 : Nat} (h : pA p1 p2) : (z_kd p2).2 = 64 := by rcases h with ⟨rfl, rfl⟩ | ⟨rfl, rfl⟩ <;> rfl
/-- what is told so far -/
def BS (p1 p2 : Nat) (H W : Nat → Int) (N : Nat) (L : List Int) (h : y_Hp) : Prop := ST id (N + L.length) (TX L) h ∧ (∀ k, y_I h p1 k = H k) ∧ ∀ k, y_I h p2 k = W k
abbrev bF (h h' : y_Hp) : Prop := g_rw (fun a => 94 ≤ a) h h'
theorem bF_rf {h : y_Hp} : bF h h := fun _ _ _ => ⟨rfl, rfl, rfl⟩
theorem bF_tr {h h1 h2 : y_Hp} (a : bF h h1) (b : bF h1 h2) : bF h h2 := fun c hc k => by
  obtain ⟨a1, a2, a3⟩ := a c hc k
  obtain ⟨b1, b2, b3⟩ := b c hc k
  exact ⟨b1.trans a1, b2.trans a2, b3.trans a3⟩
section BL
variable {sc : z_Sc} {p1 p2 : Nat} {H W : Nat → Int} {N : Nat} {h : y_Hp} {L : List Int}
theorem bF_of {h1 : y_Hp} (e : g_rw (fun b => ¬ g_at id b) h h1) : bF h h1 := fun a ha k => e a (fun ⟨b, hb, q⟩ => by rw [q] at ha; have ha : 94 ≤ b := ha; omega) k
theorem b_put (hp : pA p1 p2) (hN : N ≤ 800) (hL : L.length < 120) (b : Int) (hb : 0 ≤ b ∧ b < 128) (s : BS p1 p2 H W N L h) : ∃ h1, (∀ d, 61 ≤ d → y_se z_pg sc d 252 [y_vr 2, y_vi (L.length : Int), y_vi b] h = some (some (y_vi ((L ++ [b]).length : Int)), h1)) ∧ BS p1 p2 H W N (L ++ [b]) h1 ∧ bF h h1 := by
  obtain ⟨s1, s2, s3⟩ := s
  obtain ⟨h1, a1, a2, a3⟩ := c_put (sc := sc) D_O (by omega) hL hb s1
  have f := bF_of a3
  have hp1 : 94 ≤ p1 ∧ 94 ≤ p2 := by rcases hp with ⟨rfl, rfl⟩ | ⟨rfl, rfl⟩ <;> omega
  have el : (L ++ [b]).length = L.length + 1 := by rw [List.length_append]; rfl
  refine ⟨h1, fun d hd => ?_, ⟨by rw [el]; exact a2, fun k => by rw [rw_I f hp1.1]; exact s2 k, fun k => by rw [rw_I f hp1.2]; exact s3 k⟩, f⟩
  obtain ⟨d, rfl⟩ : ∃ e, d = e + 1 := ⟨d - 1, by omega⟩
  have e := a1 d (by omega)
  rw [show (id 2 : Nat) = 2 from rfl] at e
  rw [e252, b252_0, if_neg (by omega), e, yci_s, if_pos rfl, yr_t (by omega), el]
  rfl
theorem b_num (hp : pA p1 p2) (hN : N ≤ 800) (hL : L.length < 118) (x : Int) (hx : 0 ≤ x ∧ x ≤ 99) (s : BS p1 p2 H W N L h) : ∃ h1, (∀ d, 62 ≤ d → y_se z_pg sc d 253 [y_vr 2, y_vi (L.length : Int), y_vi x] h = some (some (y_vi ((L ++ rnum x).length : Int)), h1)) ∧ BS p1 p2 H W N (L ++ rnum x) h1 ∧ bF h h1 := by
  unfold rnum
  by_cases c : x < 10
  · rw [if_pos c]
    obtain ⟨h1, a1, a2, a3⟩ := b_put (sc := sc) hp hN (by omega) (48 + x) (by omega) s
    refine ⟨h1, fun d hd => ?_, a2, a3⟩
    obtain ⟨d, rfl⟩ : ∃ e, d = e + 1 := ⟨d - 1, by omega⟩
    rw [e253, b253_0, if_pos c, yr_t (by omega), a1 d (by omega), yci_s]
  · rw [if_neg c]
    have e := rm_bd (u := x) (m := 10) hx.1 (by omega)
    have e2 : 0 ≤ Int.tdiv x 10 ∧ Int.tdiv x 10 ≤ 9 := by
      rw [Int.tdiv_eq_ediv_of_nonneg hx.1]
      omega
    obtain ⟨h1, a1, a2, a3⟩ := b_put (sc := sc) hp hN (by omega) (48 + Int.tdiv x 10) (by omega) s
    obtain ⟨h2, b1, b2, b3⟩ := b_put (sc := sc) hp hN (by rw [List.length_append]; show L.length + 1 < 120; omega) (48 + (x - Int.tdiv x 10 * 10)) (by omega) a2
    have el : (L ++ [48 + Int.tdiv x 10]) ++ [48 + (x - Int.tdiv x 10 * 10)] = L ++ [48 + Int.tdiv x 10, 48 + (x - Int.tdiv x 10 * 10)] := by rw [List.append_assoc]; rfl
    rw [el] at b1 b2
    refine ⟨h2, fun d hd => ?_, b2, bF_tr a3 b3⟩
    obtain ⟨d, rfl⟩ : ∃ e, d = e + 1 := ⟨d - 1, by omega⟩
    rw [e253, b253_0, if_neg c, yz_t (by omega), yr_t (by omega), yr_t (by omega), a1 d (by omega), yci_s, yz_t (by omega), yr_t (by omega), yr_t (by omega), yr_t (by omega), b1 d (by omega), yci_s]
theorem lapp {a b : List Int} : (a ++ b).length = a.length + b.length := List.length_append
/-- the parts -/
theorem b_parts (hp : pA p1 p2) (hN : N ≤ 800) (K : NW H W) : ∀ (n : Nat) (k : Int) (L : List Int) (h : y_Hp), 0 ≤ k → k + n = H 0 → (L.length : Int) ≤ 3 + 6 * k → BS p1 p2 H W N L h → ∃ h', (∀ d, 63 ≤ d → y_ev z_pg sc d pgL_house 32 [some (y_vr 2), some (y_vr p1), some (y_vr p2), some (y_vi (L.length : Int)), some (y_vi k), none, none] [] h = y_ev z_pg sc d pgL_house 153 [some (y_vr 2), some (y_vr p1), some (y_vr p2), some (y_vi ((L ++ rparts H k n).length : Int)), some (y_vi 0), some (y_vi 0), none] [] h') ∧ BS p1 p2 H W N (L ++ rparts H k n) h' ∧ bF h h' ∧ ((L ++ rparts H k n).length : Int) ≤ 3 + 6 * H 0
  | 0, k, L, h, hk, hn, hL, s => by
    have e : L ++ rparts H k 0 = L := List.append_nil L
    rw [e]
    refine ⟨h, fun d hd => ?_, s, bF_rf, by omega⟩
    rw [b255_32, yA1 hp, lA1 hp, yi_t (by omega), s.2.1, show (Int.toNat 0) = 0 from rfl, if_neg (by omega)]
  | n + 1, k, L, h, hk, hn, hL, s => by
    obtain ⟨⟨k0, k1, k2, k3, k4, k5⟩, kP, kR, kW, kO, kU, kC⟩ := id K
    obtain ⟨c1, c2, c3⟩ := kP k hk (by omega)
    have e8 : (8 + (3 * k)) = 8 + 3 * k := rfl
    generalize ea : H (Int.toNat (8 + 3 * k)) = a at c1
    generalize eb : H (Int.toNat (9 + 3 * k)) = b at c2
    generalize ec : H (Int.toNat (10 + 3 * k)) = c at c3
    obtain ⟨h1, a1, s1, f1⟩ := b_put (sc := sc) hp hN (by omega) 112 (by omega) s
    have l1 : (L ++ [112]).length = L.length + 1 := lapp
    obtain ⟨h2, a2, s2, f2⟩ := b_put (sc := sc) hp hN (by omega) (48 + a) (by omega) s1
    have l2 : ((L ++ [112]) ++ [48 + a]).length = L.length + 2 := by rw [lapp, l1]; rfl
    have fin : ∀ (t1 t2 : List Int) (h3 : y_Hp), t1.length ≤ 2 → t2.length ≤ 2 → rpart H k = 112 :: (48 + a) :: (t1 ++ t2) → BS p1 p2 H W N ((((L ++ [112]) ++ [48 + a]) ++ t1) ++ t2) h3 → bF h h3 → ∃ h', (∀ d, 63 ≤ d → y_ev z_pg sc d pgL_house 32 [some (y_vr 2), some (y_vr p1), some (y_vr p2), some (y_vi (((((L ++ [112]) ++ [48 + a]) ++ t1) ++ t2).length : Int)), some (y_vi (k + 1)), none, none] [] h3 = y_ev z_pg sc d pgL_house 153 [some (y_vr 2), some (y_vr p1), some (y_vr p2), some (y_vi ((L ++ rparts H k (n + 1)).length : Int)), some (y_vi 0), some (y_vi 0), none] [] h') ∧ BS p1 p2 H W N (L ++ rparts H k (n + 1)) h' ∧ bF h h' ∧ ((L ++ rparts H k (n + 1)).length : Int) ≤ 3 + 6 * H 0 := by
      intro t1 t2 h3 ht1 ht2 er s3 f3
      have ll : ((((L ++ [112]) ++ [48 + a]) ++ t1) ++ t2).length = L.length + 2 + t1.length + t2.length := by rw [lapp, lapp, l2]
      obtain ⟨h', q1, q2, q3, q4⟩ := b_parts hp hN K n (k + 1) _ h3 (by omega) (by omega) (by rw [ll]; omega) s3
      have et : ((((L ++ [112]) ++ [48 + a]) ++ t1) ++ t2) ++ rparts H (k + 1) n = L ++ rparts H k (n + 1) := by
        show _ = L ++ (rpart H k ++ rparts H (k + 1) n)
        rw [er]
        simp only [List.append_assoc, List.cons_append, List.nil_append]
      rw [et] at q1 q2 q4
      exact ⟨h', q1, q2, bF_tr f3 q3, q4⟩
    have er : rpart H k = 112 :: (48 + a) :: ((if 0 < b then 58 :: rnum b else []) ++ (if 0 < c then [115, 48 + c] else [])) := by
      unfold rpart
      rw [ea, eb, ec]
    have eI : ∀ {h0 : y_Hp} {q : Nat}, (∀ k, y_I h0 p1 k = H k) → y_I h0 p1 q = H q := fun e => e _
    by_cases cb : 0 < b
    · rw [if_pos cb] at er
      obtain ⟨h3, a3, s3, f3⟩ := b_put (sc := sc) hp hN (by omega) 58 (by omega) s2
      have l3 : (((L ++ [112]) ++ [48 + a]) ++ [58]).length = L.length + 3 := by rw [lapp, l2]; rfl
      obtain ⟨h4, a4, s4, f4⟩ := b_num (sc := sc) hp hN (by omega) b (by omega) s3
      have l4 : ((((L ++ [112]) ++ [48 + a]) ++ [58]) ++ rnum b).length = L.length + 4 := by rw [lapp, l3, rnum_1 (by omega)]
      have e4 : (((L ++ [112]) ++ [48 + a]) ++ [58]) ++ rnum b = (((L ++ [112]) ++ [48 + a]) ++ (58 :: rnum b)) := by rw [List.append_assoc _ [58] _]; rfl
      have lt : (58 :: rnum b).length = 2 := by rw [List.length_cons, rnum_1 (by omega)]
      by_cases cc : 0 < c
      · rw [if_pos cc] at er
        obtain ⟨h5, a5, s5, f5⟩ := b_put (sc := sc) hp hN (by omega) 115 (by omega) s4
        have l5 : (((((L ++ [112]) ++ [48 + a]) ++ [58]) ++ rnum b) ++ [115]).length = L.length + 5 := by rw [lapp, l4]; rfl
        obtain ⟨h6, a6, s6, f6⟩ := b_put (sc := sc) hp hN (by omega) (48 + c) (by omega) s5
        have e6 : (((((L ++ [112]) ++ [48 + a]) ++ [58]) ++ rnum b) ++ [115]) ++ [48 + c] = ((((L ++ [112]) ++ [48 + a]) ++ (58 :: rnum b)) ++ [115, 48 + c]) := by rw [e4, List.append_assoc _ [115] _]; rfl
        rw [e6] at a6 s6
        obtain ⟨h', q1, q⟩ := fin _ _ h6 (by omega) (by simp) er s6 (bF_tr f1 (bF_tr f2 (bF_tr f3 (bF_tr f4 (bF_tr f5 f6)))))
        refine ⟨h', fun d hd => ?_, q⟩
        rw [← q1 d hd, b255_32, yA1 hp, lA1 hp, yi_t (by omega), s.2.1, show (Int.toNat 0) = 0 from rfl, if_pos (by omega), a1 d (by omega), yci_s, yr_t (by omega), yr_t (by omega), yA1 hp, yi_t (by omega), s1.2.1, ea, yr_t (by omega), a2 d (by omega), yci_s, yr_t (by omega), yr_t (by omega), yA1 hp, yi_t (by omega), s2.2.1, eb, if_pos cb, a3 d (by omega), yci_s, yr_t (by omega), yr_t (by omega), yA1 hp, yi_t (by omega), s3.2.1, eb, a4 d (by omega), yci_s, yr_t (by omega), yr_t (by omega), yA1 hp, yi_t (by omega), s4.2.1, ec, if_pos cc, a5 d (by omega), yci_s, yr_t (by omega), yr_t (by omega), yA1 hp, yi_t (by omega), s5.2.1, ec, yr_t (by omega), a6 d (by omega), yci_s, yr_t (by omega)]
      · rw [if_neg cc] at er
        rw [e4] at a4 s4
        have e6 : (((L ++ [112]) ++ [48 + a]) ++ (58 :: rnum b)) ++ [] = (((L ++ [112]) ++ [48 + a]) ++ (58 :: rnum b)) := List.append_nil _
        rw [← e6] at a4 s4
        obtain ⟨h', q1, q⟩ := fin _ _ h4 (by omega) (by simp) er s4 (bF_tr f1 (bF_tr f2 (bF_tr f3 f4)))
        refine ⟨h', fun d hd => ?_, q⟩
        rw [← q1 d hd, b255_32, yA1 hp, lA1 hp, yi_t (by omega), s.2.1, show (Int.toNat 0) = 0 from rfl, if_pos (by omega), a1 d (by omega), yci_s, yr_t (by omega), yr_t (by omega), yA1 hp, yi_t (by omega), s1.2.1, ea, yr_t (by omega), a2 d (by omega), yci_s, yr_t (by omega), yr_t (by omega), yA1 hp, yi_t (by omega), s2.2.1, eb, if_pos cb, a3 d (by omega), yci_s, yr_t (by omega), yr_t (by omega), yA1 hp, yi_t (by omega), s3.2.1, eb, a4 d (by omega), yci_s, yr_t (by omega), yr_t (by omega), yA1 hp, yi_t (by omega), s4.2.1, ec, if_neg cc, yr_t (by omega)]
    · rw [if_neg cb] at er
      by_cases cc : 0 < c
      · rw [if_pos cc] at er
        obtain ⟨h5, a5, s5, f5⟩ := b_put (sc := sc) hp hN (by omega) 115 (by omega) s2
        have l5 : (((L ++ [112]) ++ [48 + a]) ++ [115]).length = L.length + 3 := by rw [lapp, l2]; rfl
        obtain ⟨h6, a6, s6, f6⟩ := b_put (sc := sc) hp hN (by omega) (48 + c) (by omega) s5
        have e6 : (((L ++ [112]) ++ [48 + a]) ++ [115]) ++ [48 + c] = ((((L ++ [112]) ++ [48 + a]) ++ []) ++ [115, 48 + c]) := by rw [List.append_nil, List.append_assoc _ [115] _]; rfl
        rw [e6] at a6 s6
        obtain ⟨h', q1, q⟩ := fin _ _ h6 (by simp) (by simp) er s6 (bF_tr f1 (bF_tr f2 (bF_tr f5 f6)))
        refine ⟨h', fun d hd => ?_, q⟩
        rw [← q1 d hd, b255_32, yA1 hp, lA1 hp, yi_t (by omega), s.2.1, show (Int.toNat 0) = 0 from rfl, if_pos (by omega), a1 d (by omega), yci_s, yr_t (by omega), yr_t (by omega), yA1 hp, yi_t (by omega), s1.2.1, ea, yr_t (by omega), a2 d (by omega), yci_s, yr_t (by omega), yr_t (by omega), yA1 hp, yi_t (by omega), s2.2.1, eb, if_neg cb, yr_t (by omega), yr_t (by omega), yA1 hp, yi_t (by omega), s2.2.1, ec, if_pos cc, a5 d (by omega), yci_s, yr_t (by omega), yr_t (by omega), yA1 hp, yi_t (by omega), s5.2.1, ec, yr_t (by omega), a6 d (by omega), yci_s, yr_t (by omega)]
      · rw [if_neg cc] at er
        have e6 : (((L ++ [112]) ++ [48 + a]) ++ []) ++ [] = ((L ++ [112]) ++ [48 + a]) := by rw [List.append_nil, List.append_nil]
        rw [← e6] at a2 s2
        obtain ⟨h', q1, q⟩ := fin _ _ h2 (by simp) (by simp) er s2 (bF_tr f1 f2)
        refine ⟨h', fun d hd => ?_, q⟩
        rw [← q1 d hd, b255_32, yA1 hp, lA1 hp, yi_t (by omega), s.2.1, show (Int.toNat 0) = 0 from rfl, if_pos (by omega), a1 d (by omega), yci_s, yr_t (by omega), yr_t (by omega), yA1 hp, yi_t (by omega), s1.2.1, ea, yr_t (by omega), a2 d (by omega), yci_s, yr_t (by omega), yr_t (by omega), yA1 hp, yi_t (by omega), s2.2.1, eb, if_neg cb, yr_t (by omega), yr_t (by omega), yA1 hp, yi_t (by omega), s2.2.1, ec, if_neg cc, yr_t (by omega)]
end BL
