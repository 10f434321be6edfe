/-! CALLS ON AN x, its ghost told by a house and a plan -/
def MM (g : y_Hp) : Prop := g_ok (hv g) ∧ p_ok (hv g) (pl g 111)
/-- what a call on x comes to -/
def CA (sc : z_Sc) (σ : Nat → Nat) (N x : Nat) (as : List y_V) (h : y_Hp) (U : Int) (Ψ : y_Hp → Prop) : Prop := ∃ h1, (∀ d, 60 ≤ d → y_se z_pg sc d x as h = some (some (y_vi U), h1)) ∧ ST σ N Ψ h1 ∧ g_rw (fun b => ¬ g_at σ b) h h1
abbrev KX (G : u_G) (P : u_P) (X : y_Hp → Prop) (g : y_Hp) : Prop := KS G P g ∧ X g
section CS
variable {sc : z_Sc} {σ : Nat → Nat} {N : Nat} {h : y_Hp} {G : u_G} {P : u_P} {X : y_Hp → Prop}
theorem GI_MM {g : y_Hp} (I : GI N g) : MM g := by
  obtain ⟨⟨a, i1, i2, i3, i4, i5, i6⟩, -⟩ := I
  exact ⟨i1.2.2.2, i4.1⟩
theorem rw_hv {g g1 : y_Hp} (e : g_rw (fun a => 94 ≤ a) g g1) : hv g1 = hv g := hv_cg fun b k q => rw_I e (by show 94 ≤ b; unfold RG at q; omega)
theorem rw_pl {g g1 : y_Hp} (e : g_rw (fun a => 94 ≤ a) g g1) : pl g1 111 = pl g 111 := funext fun w => rw_I e (by show 94 ≤ 111; omega)
theorem MM_cg {g g1 : y_Hp} (e : g_rw (fun a => 94 ≤ a) g g1) (m : MM g) : MM g1 := by
  unfold MM
  rw [rw_hv e, rw_pl e]
  exact m
theorem KS_cg {g g1 : y_Hp} (e : g_rw (fun a => 94 ≤ a) g g1) (m : KS G P g) : KS G P g1 := by
  unfold KS
  rw [rw_hv e, rw_pl e]
  exact m
theorem KX_cg {g g1 : y_Hp} (hX : XC X) (e : g_rw (fun a => 94 ≤ a) g g1) (m : KX G P X g) : KX G P X g1 := ⟨KS_cg e m.1, hX g g1 (fun b k q => rw_I e (by show 94 ≤ b; omega)) m.2⟩
/-- a call, by the ghost alone -/
theorem ST_m {x m : Nat} {ax am : List y_V} {Φ Ψ : y_Hp → Prop} {U : Int} (D : r_sd s_O σ) (hx : r_okS s_O ax) (hm : r_okS s_G am) (O : ∀ g, INV N g → OP sc x m ax am N g) (cl : ∀ g g1, g_rw (fun a => 94 ≤ a) g g1 → Φ g → Φ g1) (M : ∀ g, MM g → Φ g → ∃ g2, (∀ d, 60 ≤ d → y_se z_pg sc d m am g = some (some (y_vi U), g2)) ∧ Ψ g2) (s : ST σ N Φ h) : CA sc σ (N + 1) x (ax.map (v_V σ)) h U Ψ := by
  obtain ⟨u, h1, a1, a2, a3⟩ := ST_op (sc := sc) (x := x) (m := m) (ax := ax) (am := am) (Ψ := fun u g => u = U ∧ Ψ g) D hx hm (fun g I _ => O g I.1) (fun g g1 g2 u I c fr q => by
    obtain ⟨g2', b1, b2⟩ := M g1 (MM_cg fr (GI_MM I)) (cl g g1 fr c)
    obtain ⟨e1, e2⟩ := m_uq q b1
    exact ⟨e1, by rw [e2]; exact b2⟩) s
  obtain ⟨g, c1, c2, c3, c4⟩ := a2
  exact ⟨h1, fun d hd => by rw [← c3]; exact a1 d hd, ⟨g, c1, c2, c4⟩, a3⟩
theorem ok1 : r_okS s_O [y_vr 2] := by
  intro v hv
  simp only [List.mem_cons, List.not_mem_nil, or_false] at hv
  rcases hv with rfl
  trivial
theorem ok2 {a : Int} : r_okS s_O [y_vr 2, y_vi a] := by
  intro v hv
  simp only [List.mem_cons, List.not_mem_nil, or_false] at hv
  rcases hv with rfl | rfl <;> first | trivial | decide
theorem ok3 {a b : Int} : r_okS s_O [y_vr 2, y_vi a, y_vi b] := by
  intro v hv
  simp only [List.mem_cons, List.not_mem_nil, or_false] at hv
  rcases hv with rfl | rfl | rfl <;> first | trivial | decide
theorem ok4 {a b c : Int} : r_okS s_O [y_vr 2, y_vi a, y_vi b, y_vi c] := by
  intro v hv
  simp only [List.mem_cons, List.not_mem_nil, or_false] at hv
  rcases hv with rfl | rfl | rfl | rfl <;> first | trivial | decide
theorem gk1 : r_okS s_G [y_vr 94] := by
  intro v hv
  simp only [List.mem_cons, List.not_mem_nil, or_false] at hv
  rcases hv with rfl
  trivial
theorem gk2 {a : Int} : r_okS s_G [y_vr 94, y_vi a] := by
  intro v hv
  simp only [List.mem_cons, List.not_mem_nil, or_false] at hv
  rcases hv with rfl | rfl <;> first | trivial | decide
theorem gk3 {a b : Int} : r_okS s_G [y_vr 94, y_vi a, y_vi b] := by
  intro v hv
  simp only [List.mem_cons, List.not_mem_nil, or_false] at hv
  rcases hv with rfl | rfl | rfl <;> first | trivial | decide
theorem gk4 {a b c : Int} : r_okS s_G [y_vr 94, y_vi a, y_vi b, y_vi c] := by
  intro v hv
  simp only [List.mem_cons, List.not_mem_nil, or_false] at hv
  rcases hv with rfl | rfl | rfl | rfl <;> first | trivial | decide
/-- what is told of a house is a house's -/
theorem ST_ok (s : ST σ N (KX G P X) h) : g_ok G ∧ p_ok G P := by
  obtain ⟨g, -, I, ⟨K1, K2⟩, -⟩ := s
  obtain ⟨m1, m2⟩ := GI_MM I
  rw [K1] at m1 m2
  exact ⟨m1, p_ok.cg K2 m2⟩
theorem c_judge (D : r_sd s_O σ) (hX : XC X) (s : ST σ N (KX G P X) h) : CA sc σ (N + 1) 104 [y_vr (σ 2)] h (g_bad G P) (KX G P X) := by
  obtain ⟨hg, hp⟩ := ST_ok s
  exact ST_m (x := 104) (m := 201) (ax := [y_vr 2]) (am := [y_vr 94]) D ok1 gk1 (fun g I => o_judge I) (fun g g1 e c => KX_cg hX e c) (fun g _ c => ⟨g, fun d hd => m_judge hg hp c.1 d hd, c⟩) s
theorem c_missed (D : r_sd s_O σ) (hX : XC X) {r : Int} (hr : r = -9 ∨ (0 ≤ r ∧ r < g_rm G)) (s : ST σ N (KX G P X) h) : CA sc σ (N + 1) 105 [y_vr (σ 2), y_vi r] h (g_ms G P r) (KX G P X) := by
  obtain ⟨hg, hp⟩ := ST_ok s
  exact ST_m (x := 105) (m := 204) (ax := [y_vr 2, y_vi r]) (am := [y_vr 94, y_vi r]) D ok2 gk2 (fun g I => o_missed I r) (fun g g1 e c => KX_cg hX e c) (fun g _ c => ⟨g, fun d hd => m_missed hg hp c.1 hr d hd, c⟩) s
theorem c_asked (D : r_sd s_O σ) (hX : XC X) {A : Int} (s : ST σ N (fun g => KX G P X g ∧ y_I g 94 2 = A) h) : CA sc σ (N + 1) 121 [y_vr (σ 2)] h A (KX G P X) := ST_m (x := 121) (m := 144) (ax := [y_vr 2]) (am := [y_vr 94]) D ok1 gk1 (fun g I => o_asked I) (fun g g1 e c => ⟨KX_cg hX e c.1, by rw [rw_I e (by show 94 ≤ 94; omega)]; exact c.2⟩) (fun g _ c => ⟨g, fun d hd => by rw [← c.2]; exact m_asked d hd, c.1⟩) s
theorem c_least (D : r_sd s_O σ) (hX : XC X) (hN : N ≤ 1000) (h8 : g_wm G ≤ 8) (s : ST σ N (KX G P X) h) : CA sc σ (N + 1) 114 [y_vr (σ 2)] h (q_R G 0).1 (KX G (q_R G 0).2.2 X) := by
  obtain ⟨hg, hp⟩ := ST_ok s
  exact ST_m (x := 114) (m := 237) (ax := [y_vr 2]) (am := [y_vr 94]) D ok1 gk1 (fun g I => o_least I hN) (fun g g1 e c => KX_cg hX e c) (fun g _ c => m_least hX hg h8 c.1 c.2) s
theorem c_soon (D : r_sd s_O σ) (hX : XC X) (hN : N ≤ 1000) (h8 : g_wm G ≤ 8) (s : ST σ N (KX G P X) h) : CA sc σ (N + 1) 116 [y_vr (σ 2)] h (f_so G) (KX G P X) := by
  obtain ⟨hg, hp⟩ := ST_ok s
  exact ST_m (x := 116) (m := 239) (ax := [y_vr 2]) (am := [y_vr 94]) D ok1 gk1 (fun g I => o_soon I hN) (fun g g1 e c => KX_cg hX e c) (fun g _ c => m_soon hX hg h8 c.1 c.2) s
theorem c_even (D : r_sd s_O σ) (hX : XC X) (hN : N ≤ 1000) (h8 : g_wm G ≤ 8) (s : ST σ N (KX G P X) h) : CA sc σ (N + 1) 117 [y_vr (σ 2)] h (q_R G 2).1 (fun g => KX G P X g ∧ y_I g 94 2 = (q_R G 2).2.1) := by
  obtain ⟨hg, hp⟩ := ST_ok s
  refine ST_m (x := 117) (m := 240) (ax := [y_vr 2]) (am := [y_vr 94]) D ok1 gk1 (fun g I => o_even I hN) (fun g g1 e c => KX_cg hX e c) (fun g _ c => ?_) s
  obtain ⟨g2, a1, a2, a3, a4⟩ := m_even (sc := sc) hX hg h8 c.1 c.2
  exact ⟨g2, a1, ⟨a2, a3⟩, a4⟩
theorem c_bound (D : r_sd s_O σ) (hX : XC X) (hN : N ≤ 1000) (s : ST σ N (KX G P X) h) : CA sc σ (N + 1) 118 [y_vr (σ 2)] h (u_sum (g_bo G) 0 (g_pm G).toNat) (KX G P X) := by
  obtain ⟨hg, hp⟩ := ST_ok s
  exact ST_m (x := 118) (m := 241) (ax := [y_vr 2]) (am := [y_vr 94]) D ok1 gk1 (fun g I => o_bound I hN) (fun g g1 e c => KX_cg hX e c) (fun g _ c => m_bound hX hg c.1 c.2) s
theorem c_quarrel (D : r_sd s_O σ) (hX : XC X) (hN : N ≤ 1000) (h8 : g_wm G ≤ 8) (s : ST σ N (KX G P X) h) : CA sc σ (N + 1) 119 [y_vr (σ 2)] h (f_qu G) (KX G P X) := by
  obtain ⟨hg, hp⟩ := ST_ok s
  exact ST_m (x := 119) (m := 243) (ax := [y_vr 2]) (am := [y_vr 94]) D ok1 gk1 (fun g I => o_quarrel I hN) (fun g g1 e c => KX_cg hX e c) (fun g _ c => m_quarrel hX hg h8 c.1 c.2) s
theorem c_mend (D : r_sd s_O σ) (hX : XC X) (hN : N ≤ 1000) (h8 : g_wm G ≤ 8) (hb : g_bad G P = -9) {t : Int} (ht : 0 ≤ t ∧ t ≤ 59) (s : ST σ N (KX G P X) h) : CA sc σ (N + 1) 115 [y_vr (σ 2), y_vi t] h (q_M G P t).1 (KX G (q_M G P t).2.2 X) := by
  obtain ⟨hg, hp⟩ := ST_ok s
  exact ST_m (x := 115) (m := 238) (ax := [y_vr 2, y_vi t]) (am := [y_vr 94, y_vi t]) D ok2 gk2 (fun g I => o_mend t I hN) (fun g g1 e c => KX_cg hX e c) (fun g _ c => m_mendK hX hg h8 hp hb c.1 c.2 ht) s
/-- an image in a row; a card -/
def RI0 (G : u_G) (P0 : u_P) (r : Int) (g : y_Hp) : Prop := y_I g 96 (Int.toNat r) = g_wm G ∧ ∀ w, 0 ≤ w → w < g_wm G → y_I g 97 (Int.toNat (48 * r + w)) = P0 w
def RC0 (n : Nat) (F : Nat → Nat) (r : Int) (g : y_Hp) : Prop := y_I g 96 (Int.toNat r) = (n : Int) ∧ ∀ i, 0 ≤ i → i < (n : Int) → y_I g 97 (Int.toNat (48 * r + i)) = ((F (Int.toNat i) : Nat) : Int)
theorem RI0_XC {P0 : u_P} {r : Int} : XC (RI0 G P0 r) := fun g g' e x => ⟨by rw [e _ _ (Or.inl rfl)]; exact x.1, fun w w1 w2 => by rw [e _ _ (Or.inr rfl)]; exact x.2 w w1 w2⟩
theorem RC0_XC {n : Nat} {F : Nat → Nat} {r : Int} : XC (RC0 n F r) := fun g g' e x => ⟨by rw [e _ _ (Or.inl rfl)]; exact x.1, fun w w1 w2 => by rw [e _ _ (Or.inr rfl)]; exact x.2 w w1 w2⟩
theorem TT_XC : XC (fun _ => True) := fun _ _ _ _ => trivial
theorem c_image (D : r_sd s_O σ) (hX : XC X) {r : Int} (hr : 0 ≤ r ∧ r < 6) (s : ST σ N (KX G P X) h) : CA sc σ (N + 1) 108 [y_vr (σ 2), y_vi r] h (g_wm G) (KX G P (RI0 G P r)) := by
  obtain ⟨hg, hp⟩ := ST_ok s
  refine ST_m (x := 108) (m := 207) (ax := [y_vr 2, y_vi r]) (am := [y_vr 94, y_vi r]) D ok2 gk2 (fun g I => o_image I r) (fun g g1 e c => KX_cg hX e c) (fun g _ c => ?_) s
  obtain ⟨g2, a1, a2, a3, a4, -⟩ := m_image (sc := sc) hg c.1 hr
  exact ⟨g2, a1, a2, a3, a4⟩
theorem c_on (D : r_sd s_O σ) (hN : N ≤ 1000) {P0 : u_P} (hp0 : p_ok G P0) {r : Int} (hr : 0 ≤ r ∧ r < 6) (s : ST σ N (KX G P (RI0 G P0 r)) h) : CA sc σ (N + 1) 109 [y_vr (σ 2), y_vi r] h 1 (KX G P0 (RI0 G P0 r)) := by
  obtain ⟨hg, hp⟩ := ST_ok s
  exact ST_m (x := 109) (m := 208) (ax := [y_vr 2, y_vi r]) (am := [y_vr 94, y_vi r]) D ok2 gk2 (fun g I => o_on I hN r) (fun g g1 e c => KX_cg RI0_XC e c) (fun g _ c => m_on RI0_XC hg hp0 c.1 c.2 hr c.2.1 c.2.2) s
theorem c_best (D : r_sd s_O σ) (hX : XC X) (hN : N ≤ 1000) {n : Nat} (en : g_rm G = (n : Int)) (hn : n < 7) {r : Int} (hr : 0 ≤ r ∧ r < 6) (s : ST σ N (KX G P X) h) : CA sc σ (N + 1) 113 [y_vr (σ 2), y_vi r] h (pls (g_cf2 G n) (pfa n)) (KX G P (RC0 n (crd n (pbs (g_cf2 G n) (pfa n))) r)) := by
  obtain ⟨hg, hp⟩ := ST_ok s
  refine ST_m (x := 113) (m := 224) (ax := [y_vr 2, y_vi r]) (am := [y_vr 94, y_vi r]) D ok2 gk2 (fun g I => o_best I hN r) (fun g g1 e c => KX_cg hX e c) (fun g _ c => ?_) s
  obtain ⟨g2, a1, a2, a3, a4, -⟩ := m_best (sc := sc) hg c.1 en hn hr
  exact ⟨g2, a1, a2, a3, a4⟩
/-- a rule of a kind, by a card -/
def RU0 (n : Nat) (F : Nat → Nat) (k v : Int) (g : y_Hp) : Prop := y_I g 112 (Int.toNat k) = v ∧ (v ≤ 2 → ∀ i, 0 ≤ i → i < (n : Int) → y_I g 113 (Int.toNat (8 * k + i)) = ((F (Int.toNat i) : Nat) : Int))
theorem c_rule (D : r_sd s_O σ) (hN : N ≤ 1000) {n : Nat} {F : Nat → Nat} (en : g_rm G = (n : Int)) {k v r : Int} (hk : 0 ≤ k ∧ k ≤ 5) (hv' : 1 ≤ v ∧ v ≤ 5) (hr : 0 ≤ r ∧ r < 6) (c : u_cok (fun j => ((F (Int.toNat j) : Nat) : Int)) (g_rm G) (g_rm G).toNat 0 0) (s : ST σ N (KX G P (RC0 n F r)) h) : CA sc σ (N + 1) 110 [y_vr (σ 2), y_vi k, y_vi v, y_vi r] h 1 (fun g => KX G P (RC0 n F r) g ∧ RU0 n F k v g) := by
  obtain ⟨hg, hp⟩ := ST_ok s
  refine ST_m (x := 110) (m := 210) (ax := [y_vr 2, y_vi k, y_vi v, y_vi r]) (am := [y_vr 94, y_vi k, y_vi v, y_vi r]) D ok4 gk4 (fun g I => o_rule I hN k v r) (fun g g1 e c => KX_cg RC0_XC e c) (fun g _ x => ?_) s
  have c2 : u_cok (fun j => y_I g 97 (Int.toNat (48 * r + j))) (g_rm G) (g_rm G).toNat 0 0 := (u_cok_cg fun j j1 j2 => x.2.2 j j1 (by omega)).mpr c
  obtain ⟨g2, a1, a2, a3, a4, a5⟩ := m_rule (sc := sc) hg x.1 hk hv' hr (by rw [x.2.1, en]) c2
  exact ⟨g2, a1, ⟨a2, RC0_XC g g2 (fun b k q => a5 b k (by omega) (by omega)) x.2⟩, a3, fun z i i1 i2 => by rw [a4 z i i1 (by omega)]; exact x.2.2 i i1 i2⟩
theorem c_run (D : r_sd s_O σ) (hX : XC X) (hN : N ≤ 1000) {n : Nat} {F : Nat → Nat} (en : g_rm G = (n : Int)) {k v : Int} (hk : 0 ≤ k ∧ k ≤ 5) (hv' : 1 ≤ v ∧ v ≤ 5) (s : ST σ N (fun g => KX G P X g ∧ RU0 n F k v g) h) : CA sc σ (N + 1) 112 [y_vr (σ 2), y_vi k] h (g_ms G (g_run G v (fun i => ((F (Int.toNat i) : Nat) : Int))) (-9)) (KX G (g_run G v (fun i => ((F (Int.toNat i) : Nat) : Int))) X) := by
  have s0 : ST σ N (KX G P X) h := s.imp fun g _ c => c.1
  obtain ⟨hg, hp⟩ := ST_ok s0
  refine ST_m (x := 112) (m := 220) (ax := [y_vr 2, y_vi k]) (am := [y_vr 94, y_vi k]) D ok2 gk2 (fun g I => o_run I hN k) (fun g g1 e c => ⟨KX_cg hX e c.1, by rw [rw_I e (by show 94 ≤ 112; omega)]; exact c.2.1, fun z i i1 i2 => by rw [rw_I e (by show 94 ≤ 113; omega)]; exact c.2.2 z i i1 i2⟩) (fun g _ c => ?_) s
  exact m_run hX hg c.1.1 c.1.2 hk hv' c.2.1 (fun z i i1 i2 => c.2.2 z i i1 (by omega))
theorem ST_ex {α : Type} {Φ : α → y_Hp → Prop} (s : ST σ N (fun g => ∃ x, Φ x g) h) : ∃ x, ST σ N (Φ x) h := by
  obtain ⟨g, a, b, x, c⟩ := s
  exact ⟨x, g, a, b, c⟩
theorem CA_ex {α : Type} {x : Nat} {as : List y_V} {U : Int} {Φ : α → y_Hp → Prop} (c : CA sc σ N x as h U (fun g => ∃ x, Φ x g)) : ∃ y, CA sc σ N x as h U (Φ y) := by
  obtain ⟨h1, a1, a2, a3⟩ := c
  obtain ⟨y, s⟩ := ST_ex a2
  exact ⟨y, h1, a1, s, a3⟩
theorem CA_and {x : Nat} {as : List y_V} {U : Int} {p : Prop} {Φ : y_Hp → Prop} (c : CA sc σ N x as h U (fun g => Φ g ∧ p)) : CA sc σ N x as h U Φ ∧ p := by
  obtain ⟨h1, a1, a2, a3⟩ := c
  obtain ⟨g, b1, b2, b3, b4⟩ := id a2
  exact ⟨⟨h1, a1, a2.imp fun g _ c => c.1, a3⟩, b4⟩
theorem c_copies (D : r_sd s_O σ) (hX : XC X) {p : Int} (hp : 0 ≤ p ∧ p < g_pm G) (s : ST σ N (KX G P X) h) : ∃ G2, CA sc σ (N + 1) 100 [y_vr (σ 2), y_vi p, y_vi 2] h (g_cp G p) (KX G2 P X) ∧ f_re id G G2 ∧ g_nm G2 = g_nm G := by
  obtain ⟨hg, -⟩ := ST_ok s
  have c := ST_m (x := 100) (m := 188) (ax := [y_vr 2, y_vi p, y_vi 2]) (am := [y_vr 94, y_vi p, y_vi 2]) (Ψ := fun g => ∃ G2, KX G2 P X g ∧ (f_re id G G2 ∧ g_nm G2 = g_nm G)) (U := g_cp G p) (sc := sc) D ok3 gk3 (fun g I => o_copies I p 2) (fun g g1 e c => KX_cg hX e c) (fun g _ c => by
    obtain ⟨G2, g2, a1, a2, a3, a4, a5, a6⟩ := m_copies (sc := sc) hX hg c.1 c.2 hp
    exact ⟨g2, a1, G2, ⟨a2, a3⟩, a4, a6⟩) s
  obtain ⟨G2, c2⟩ := CA_ex c
  exact ⟨G2, CA_and c2⟩
theorem c_late (D : r_sd s_O σ) (hX : XC X) {r a : Int} (hr : 0 ≤ r ∧ r < g_rm G) (ha : a = g_fr G r) (s : ST σ N (KX G P X) h) : ∃ G2, CA sc σ (N + 1) 102 [y_vr (σ 2), y_vi r, y_vi a, y_vi 60] h 1 (KX G2 P X) ∧ f_re id G G2 ∧ g_nm G2 = g_nm G := by
  obtain ⟨hg, -⟩ := ST_ok s
  have c := ST_m (x := 102) (m := 190) (ax := [y_vr 2, y_vi r, y_vi a, y_vi 60]) (am := [y_vr 94, y_vi r, y_vi a, y_vi 60]) (Ψ := fun g => ∃ G2, KX G2 P X g ∧ (f_re id G G2 ∧ g_nm G2 = g_nm G)) (U := 1) (sc := sc) D ok4 gk4 (fun g I => o_late I r a 60) (fun g g1 e c => KX_cg hX e c) (fun g _ c => by
    obtain ⟨G2, g2, a1, a2, a3, a4, a5, a6⟩ := m_late (sc := sc) hX hg c.1 c.2 hr ha
    exact ⟨g2, a1, G2, ⟨a2, a3⟩, a4, a6⟩) s
  obtain ⟨G2, c2⟩ := CA_ex c
  exact ⟨G2, CA_and c2⟩
end CS
/-- a card is a row of all readers -/
def pok (n code : Nat) : Bool := match plc n code with
  | none => false
  | some L => (List.range n).all fun i => Nat.blt (L.getD i 0) n && (List.range n).all fun j => Nat.beq i j || !(Nat.beq (L.getD i 0) (L.getD j 0))
theorem pok_all : ∀ n, n < 5 → ∀ code, code < pfa n → pok n code = true := by decide +kernel
theorem u_cok_of {F : Int → Int} {rm : Int} (hr : rm ≤ 8) : ∀ {n : Nat} {k s : Int}, (∀ i, k ≤ i → i < k + n → (0 ≤ F i ∧ F i < rm) ∧ ¬ u_bs s (F i)) → (∀ i j, k ≤ i → i < k + n → k ≤ j → j < k + n → F i = F j → i = j) → u_cok F rm n k s
  | 0, k, s, _, _ => trivial
  | n + 1, k, s, h1, h2 => by
    obtain ⟨a, b⟩ := h1 k (Int.le_refl _) (by omega)
    refine ⟨a, b, u_cok_of hr (fun i i1 i2 => ?_) fun i j i1 i2 j1 j2 e => h2 i j (by omega) (by omega) (by omega) (by omega) e⟩
    obtain ⟨c, d⟩ := h1 i (by omega) (by omega)
    refine ⟨c, fun q => ?_⟩
    rcases ub_or.mp q with z | z
    · exact d z
    · have := (ub_shl (by omega) (by omega)).mp z
      have := h2 i k (by omega) (by omega) (Int.le_refl _) (by omega) this
      omega
theorem crd_ok {n code : Nat} (hn : n < 5) (hc : code < pfa n) : u_cok (fun j => ((crd n code (Int.toNat j) : Nat) : Int)) (n : Int) n 0 0 := by
  have h := pok_all n hn code hc
  unfold pok at h
  rw [crd_lay (by omega) hc] at h
  have h : ((List.range n).all fun i => Nat.blt (crd n code i) n && (List.range n).all fun j => Nat.beq i j || !(Nat.beq (crd n code i) (crd n code j))) = true := h
  have key : ∀ i, i < n → crd n code i < n ∧ ∀ j, j < n → crd n code i = crd n code j → i = j := fun i hi => by
    have h1 := List.all_eq_true.mp h i (List.mem_range.mpr hi)
    rw [Bool.and_eq_true] at h1
    refine ⟨Nat.blt_eq.mp h1.1, fun j hj e => ?_⟩
    have h2 := List.all_eq_true.mp h1.2 j (List.mem_range.mpr hj)
    rw [e, Nat.beq_refl, Bool.or_eq_true] at h2
    rcases h2 with z | z
    · exact z_beq z
    · cases z
  refine u_cok_of (by omega) (fun i i1 i2 => ⟨⟨by omega, ?_⟩, fun q => absurd q ub_0⟩) fun i j i1 i2 j1 j2 e => ?_
  · have := (key (Int.toNat i) (by omega)).1
    omega
  · have := (key (Int.toNat i) (by omega)).2 (Int.toNat j) (by omega) (by omega)
    omega
