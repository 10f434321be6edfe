/-! THE BEST OF ALL, the model's: where a want comes next -/
def m_cf (G : u_G) (P : u_P) (K : Int → Int) (p c s w : Int) : Int := if P w ≠ -9 ∧ g_pt G w = p ∧ K w = c then max s (P w + g_mn G w) else s
def m_ce (G : u_G) (P : u_P) (K : Int → Int) (p c : Int) : Int := u_fold (m_cf G P K p c) 0 0 (g_wm G).toNat
theorem m_ce_le {G : u_G} {P : u_P} {K : Int → Int} {p c T : Int} (hw : 0 ≤ g_wm G) : m_ce G P K p c ≤ T ↔ (0 ≤ T ∧ ∀ w, 0 ≤ w → w < g_wm G → P w ≠ -9 → g_pt G w = p → K w = c → P w + g_mn G w ≤ T) := by
  have key : ∀ (n : Nat) (k s : Int), u_fold (m_cf G P K p c) s k n ≤ T ↔ (s ≤ T ∧ ∀ w, k ≤ w → w < k + n → P w ≠ -9 → g_pt G w = p → K w = c → P w + g_mn G w ≤ T) := by
    intro n
    induction n with
    | zero => intro k s; exact ⟨fun h => ⟨h, fun w h1 h2 => by omega⟩, fun h => h.1⟩
    | succ n ih =>
      intro k s
      rw [u_fold_s, ih]
      unfold m_cf
      by_cases z : P k ≠ -9 ∧ g_pt G k = p ∧ K k = c
      · rw [if_pos z]
        constructor
        · rintro ⟨a, b⟩
          refine ⟨by omega, fun w h1 h2 h3 h4 h5 => ?_⟩
          by_cases e : w = k
          · subst e; omega
          · exact b w (by omega) (by omega) h3 h4 h5
        · rintro ⟨a, b⟩
          have := b k (by omega) (by omega) z.1 z.2.1 z.2.2
          exact ⟨by omega, fun w h1 h2 => b w (by omega) (by omega)⟩
      · rw [if_neg z]
        constructor
        · rintro ⟨a, b⟩
          refine ⟨a, fun w h1 h2 h3 h4 h5 => ?_⟩
          by_cases e : w = k
          · subst e; exact absurd ⟨h3, h4, h5⟩ z
          · exact b w (by omega) (by omega) h3 h4 h5
        · rintro ⟨a, b⟩
          exact ⟨a, fun w h1 h2 => b w (by omega) (by omega)⟩
  unfold m_ce
  rw [key]
  exact and_congr Iff.rfl ⟨fun b w h1 h2 => b w h1 (by omega), fun b w h1 h2 => b w h1 (by omega)⟩
theorem m_ce_cg {G : u_G} {P Q : u_P} {K J : Int → Int} {p c : Int} (e : ∀ w, 0 ≤ w → w < g_wm G → P w = Q w ∧ (P w ≠ -9 → K w = J w)) : m_ce G P K p c = m_ce G Q J p c := u_fold_cg fun s w h1 h2 => by
  unfold m_cf
  obtain ⟨a, b⟩ := e w h1 (by omega)
  rw [← a]
  by_cases z : P w = -9
  · rw [if_neg (fun q => q.1 z), if_neg (fun q => q.1 z)]
  · rw [b z]
/-- the model's row as it stands -/
def MSQ (h : y_Hp) (G : u_G) (L : Int → Prop) (b0 oc : Int) (P : u_P) (E : Int → Int) : Prop := (hv h = G ∧ ∀ w, 0 ≤ w → w < g_wm G → (u_bs (y_I h 94 39) w ↔ L w)) ∧ (y_I h 94 40 = b0 ∧ y_I h 94 41 = oc) ∧ p_eq G (pl h 111) P ∧ ∀ p, 0 ≤ p → p < g_pm G → m_ce G P (pl h 117) p 0 = E (2 * p) ∧ m_ce G P (pl h 117) p 1 = E (2 * p + 1)
section MS
variable {sc : z_Sc} {h : y_Hp} {G : u_G} {L : Int → Prop} {b0 oc : Int} {P : u_P} {E : Int → Int}
theorem l225 (d : Nat) (hd : 2 ≤ d) (p c : Int) (hg : g_ok (hv h)) (hp : p_ok (hv h) (pl h 111)) : ∀ (n : Nat) (k a : Int), 0 ≤ k → k + n = g_wm (hv h) → y_ev z_pg sc d pgX8_copyEnd 5 [some (y_vr 94), some (y_vi p), some (y_vi c), some (y_vi a), some (y_vi k)] [] h = some (some (y_vi (u_fold (m_cf (hv h) (pl h 111) (pl h 117) p c) a k n)), h)
  | 0, k, a, hk, hn => by
    rw [b225_5, hvwm, if_neg (by omega)]
    rfl
  | n + 1, k, a, hk, hn => by
    have h1 := hg.2.2.1
    have ih := fun a => l225 d hd p c hg hp n (k + 1) a (by omega) (by omega)
    rw [b225_5, hvwm, if_pos (by omega), s191 d (by omega) k (by omega), yci_s, u_fold_s]
    by_cases c1 : pl h 111 k = -9
    · rw [if_pos (bi_f (fun q => q c1)), yr_t (by omega), ih, show m_cf (hv h) (pl h 111) (pl h 117) p c a k = a from if_neg (fun q => q.1 c1)]
    · rw [if_neg (by rw [bi_t c1]; omega), s174 d (by omega) k (by omega), yci_s]
      by_cases c2 : g_pt (hv h) k = p
      · rw [if_pos c2, yi_t (by omega), show y_I h 117 (Int.toNat k) = pl h 117 k from rfl]
        by_cases c3 : pl h 117 k = c
        · rw [if_pos c3, s192 d hd k hg hp (by omega), yci_s, s139 d (by omega), yci_s, yr_t (by omega), ih, show m_cf (hv h) (pl h 111) (pl h 117) p c a k = _ from if_pos ⟨c1, c2, c3⟩]
        · rw [if_neg c3, yr_t (by omega), ih, show m_cf (hv h) (pl h 111) (pl h 117) p c a k = a from if_neg (fun q => c3 q.2.2)]
      · rw [if_neg c2, yr_t (by omega), ih, show m_cf (hv h) (pl h 111) (pl h 117) p c a k = a from if_neg (fun q => c2 q.2.1)]
theorem s225 (d : Nat) (hd : 3 ≤ d) (hg : g_ok G) (I : q_in G P E) (Q : MSQ h G L b0 oc P E) (p c : Int) (hp : 0 ≤ p ∧ p < g_pm G) (hc : c = 0 ∨ c = 1) : y_se z_pg sc d 225 [y_vr 94, y_vi p, y_vi c] h = some (some (y_vi (E (2 * p + c))), h) := by
  rcases d with _ | d
  · omega
  obtain ⟨⟨rfl, e39⟩, -, e111, ce⟩ := Q
  have kw := hg.2.2.1
  have ok : p_ok (hv h) (pl h 111) := p_ok.cg (p_eq.symm e111) (q_in_ok hg I)
  rw [e225, b225_0, l225 d (by omega) p c hg ok (g_wm (hv h)).toNat 0 0 (by omega) (by omega)]
  have e : u_fold (m_cf (hv h) (pl h 111) (pl h 117) p c) 0 0 (g_wm (hv h)).toNat = m_ce (hv h) P (pl h 117) p c := m_ce_cg fun w h1 h2 => ⟨e111 w h1 h2, fun _ => rfl⟩
  rw [e]
  rcases hc with rfl | rfl
  · rw [(ce p hp.1 hp.2).1, Int.add_zero]
  · rw [(ce p hp.1 hp.2).2]
theorem s226 (d : Nat) (hd : 4 ≤ d) (hg : g_ok G) (I : q_in G P E) (Q : MSQ h G L b0 oc P E) (p : Int) (hp : 0 ≤ p ∧ p < g_pm G) : y_se z_pg sc d 226 [y_vr 94, y_vi p] h = some (some (y_vi (q_fc G E p - 2 * p)), h) := by
  rcases d with _ | d
  · omega
  have QQ := Q
  obtain ⟨⟨rfl, e39⟩, -, e111, ce⟩ := Q
  have kp := hg.1
  have a1 := s225 (sc := sc) d (by omega) hg I QQ p 1 hp (Or.inr rfl)
  have a0 := s225 (sc := sc) d (by omega) hg I QQ p 0 hp (Or.inl rfl)
  rw [Int.add_zero] at a0
  rw [e226, b226_0, s176 d (by omega) p (by omega), yci_s]
  unfold q_fc
  by_cases c : g_cp (hv h) p = 2
  · rw [if_pos c, a1, yci_s, a0, yci_s]
    by_cases c2 : E (2 * p + 1) < E (2 * p)
    · rw [if_pos c2, if_pos ⟨c, c2⟩]
      exact av_cg (by omega)
    · rw [if_neg c2, if_neg (fun q => c2 q.2)]
      exact av_cg (by omega)
  · rw [if_neg c, if_neg (fun q => c q.1)]
    exact av_cg (by omega)
theorem l227 (d : Nat) (hd : 1 ≤ d) (hg : g_ok G) (Q : MSQ h G L b0 oc P E) (hoc : oc = 0 ∨ oc = 1) (w : Int) (hw : 0 ≤ w ∧ w < g_wm G) : ∀ (n : Nat) (k a : Int), 0 ≤ k → k + n = w → (a = 0 ∨ a = 1) → y_ev z_pg sc d pgX8_isNext 4 [some (y_vr 94), some (y_vi w), some (y_vi a), some (y_vi k)] [] h = some (some (y_vi (y_bi (a = 1 ∧ (oc = 1 → g_or G (g_rd G w) = 1 → ∀ v, k ≤ v → v < w → g_rd G v = g_rd G w → P v ≠ -9)))), h)
  | 0, k, a, hk, hn, ha => by
    rw [b227_4, if_neg (by omega), yb_t ha]
    rcases ha with rfl | rfl
    · exact ab_f (fun q => by omega)
    · exact ab_t ⟨rfl, fun _ _ v h1 h2 => by omega⟩
  | n + 1, k, a, hk, hn, ha => by
    have QQ := Q
    have ih := fun a ha => l227 d hd hg QQ hoc w hw n (k + 1) a (by omega) (by omega) ha
    obtain ⟨⟨rfl, e39⟩, ⟨e40, e41⟩, e111, ce⟩ := Q
    have kw := hg.2.2.1
    have kr := hg.2.1
    have k1 := (hg.2.2.2.2.2.2.2.2.1 w hw.1 hw.2).1
    rw [b227_4, if_pos (by omega), e41]
    rcases hoc with rfl | rfl
    · rw [if_pos rfl, yb_t ha]
      rcases ha with rfl | rfl
      · exact ab_f (fun q => by omega)
      · exact ab_t ⟨rfl, fun q => by omega⟩
    · rw [if_neg (by omega), s173 d hd w (by omega), yci_s, s180 d hd _ (by omega), yci_s]
      by_cases c0 : g_or (hv h) (g_rd (hv h) w) = 1
      · rw [if_neg (by rw [bi_t c0]; omega)]
        rcases ha with rfl | rfl
        · rw [if_pos rfl, yr_t (by omega), ih 0 (Or.inl rfl)]
          exact ab_cg ⟨fun q => by omega, fun q => by omega⟩
        · rw [if_neg (by omega), s173 d hd k (by omega), yci_s, s173 d hd w (by omega), yci_s]
          have pk : pl h 111 k = P k := e111 k hk (by omega)
          by_cases c1 : g_rd (hv h) k = g_rd (hv h) w
          · rw [if_pos c1, s191 d hd k (by omega), yci_s, pk]
            by_cases c2 : P k = -9
            · rw [if_pos (bi_f (fun q => q c2)), yr_t (by omega), ih 0 (Or.inl rfl)]
              exact ab_cg ⟨fun q => by omega, fun q => absurd c2 (q.2 rfl c0 k (by omega) (by omega) c1)⟩
            · rw [if_neg (by rw [bi_t c2]; omega), yr_t (by omega), ih 1 (Or.inr rfl)]
              refine ab_cg (and_congr Iff.rfl ⟨fun q o1 o2 v h1 h2 h3 => ?_, fun q o1 o2 v h1 h2 => q o1 o2 v (by omega) h2⟩)
              by_cases e : v = k
              · subst e; exact c2
              · exact q o1 o2 v (by omega) h2 h3
          · rw [if_neg c1, yr_t (by omega), ih 1 (Or.inr rfl)]
            refine ab_cg (and_congr Iff.rfl ⟨fun q o1 o2 v h1 h2 h3 => ?_, fun q o1 o2 v h1 h2 => q o1 o2 v (by omega) h2⟩)
            by_cases e : v = k
            · subst e; exact absurd h3 c1
            · exact q o1 o2 v (by omega) h2 h3
      · rw [if_pos (bi_f c0), yb_t ha]
        rcases ha with rfl | rfl
        · exact ab_f (fun q => by omega)
        · exact ab_t ⟨rfl, fun _ q => absurd q c0⟩
theorem s227 (d : Nat) (hd : 2 ≤ d) (hg : g_ok G) (Q : MSQ h G L b0 oc P E) (hoc : oc = 0 ∨ oc = 1) (w : Int) (hw : 0 ≤ w ∧ w < g_wm G) : y_se z_pg sc d 227 [y_vr 94, y_vi w] h = some (some (y_vi (y_bi (q_nx G oc P w))), h) := by
  rcases d with _ | d
  · omega
  rw [e227, b227_0, l227 d (by omega) hg Q hoc w hw w.toNat 0 1 (by omega) (by omega) (Or.inr rfl)]
  exact ab_cg ⟨fun q => q.2, fun q => ⟨rfl, q⟩⟩
theorem l228 (d : Nat) (hd : 3 ≤ d) (hg : g_ok G) (I : q_in G P E) (Q : MSQ h G L b0 oc P E) (w t : Int) (hw : 0 ≤ w ∧ w < g_wm G) : ∀ (n : Nat) (k a : Int) (o : Option y_V), 0 ≤ k → k + n = g_wm G → (a = 0 ∨ a = 1) → y_ev z_pg sc d pgX8_letsAll 18 [some (y_vr 94), some (y_vi w), some (y_vi t), some (y_vi a), some (y_vi k), o] [] h = some (some (y_vi (y_bi (a = 1 ∧ ∀ v, k ≤ v → v < g_wm G → g_pt G v = g_pt G w → P v ≠ -9 → t < P v → ¬ g_na G (g_rd G v) (g_rd G w) (g_pt G w)))), h)
  | 0, k, a, o, hk, hn, ha => by
    obtain ⟨⟨rfl, e39⟩, ⟨e40, e41⟩, e111, ce⟩ := Q
    rw [b228_18, hvwm, if_neg (by omega), yb_t ha]
    rcases ha with rfl | rfl
    · exact ab_f (fun q => by omega)
    · exact ab_t ⟨rfl, fun v h1 h2 => by omega⟩
  | n + 1, k, a, o, hk, hn, ha => by
    have QQ := Q
    have ih := fun a o ha => l228 d hd hg I QQ w t hw n (k + 1) a o (by omega) (by omega) ha
    obtain ⟨⟨rfl, e39⟩, ⟨e40, e41⟩, e111, ce⟩ := Q
    have kw := hg.2.2.1
    have pk : pl h 111 k = P k := e111 k hk (by omega)
    have pk' : y_I h 111 (Int.toNat k) = P k := pk
    rw [b228_18, hvwm, if_pos (by omega)]
    rcases ha with rfl | rfl
    · rw [if_pos rfl, yb_t (by omega)]
      exact ab_f (fun q => by omega)
    · rw [if_neg (by omega), s174 d (by omega) k (by omega), yci_s, s174 d (by omega) w (by omega), yci_s]
      have go : ¬ (g_pt (hv h) k = g_pt (hv h) w ∧ P k ≠ -9 ∧ t < P k) → ∀ o, y_ev z_pg sc d pgX8_letsAll 18 [some (y_vr 94), some (y_vi w), some (y_vi t), some (y_vi 1), some (y_vi (k + 1)), o] [] h = some (some (y_vi (y_bi ((1 : Int) = 1 ∧ ∀ v, k ≤ v → v < g_wm (hv h) → g_pt (hv h) v = g_pt (hv h) w → P v ≠ -9 → t < P v → ¬ g_na (hv h) (g_rd (hv h) v) (g_rd (hv h) w) (g_pt (hv h) w)))), h) := fun z o => by
        rw [ih 1 o (Or.inr rfl)]
        refine ab_cg (and_congr Iff.rfl ⟨fun q v h1 h2 h3 h4 h5 => ?_, fun q v h1 h2 => q v (by omega) h2⟩)
        by_cases e : v = k
        · subst e; exact absurd ⟨h3, h4, h5⟩ z
        · exact q v (by omega) h2 h3 h4 h5
      by_cases c1 : g_pt (hv h) k = g_pt (hv h) w
      · rw [if_pos c1, s191 d (by omega) k (by omega), yci_s, pk]
        by_cases c2 : P k = -9
        · rw [if_pos (bi_f (fun q => q c2)), yr_t (by omega)]
          exact go (fun q => q.2.1 c2) _
        · rw [if_neg (by rw [bi_t c2]; omega), yi_t (by omega), pk']
          by_cases c3 : t < P k
          · rw [if_pos c3, s173 d (by omega) k (by omega), yci_s, s173 d (by omega) w (by omega), yci_s, s174 d (by omega) w (by omega), yci_s, s181 d (by omega) _ _ _ hg, yci_s]
            by_cases c4 : g_na (hv h) (g_rd (hv h) k) (g_rd (hv h) w) (g_pt (hv h) w)
            · rw [if_neg (by rw [bi_t c4]; omega), yr_t (by omega), ih 0 _ (Or.inl rfl)]
              exact ab_cg ⟨fun q => by omega, fun q => absurd c4 (q.2 k (by omega) (by omega) c1 c2 c3)⟩
            · rw [if_pos (bi_f c4), yr_t (by omega), ih 1 _ (Or.inr rfl)]
              refine ab_cg (and_congr Iff.rfl ⟨fun q v h1 h2 h3 h4 h5 => ?_, fun q v h1 h2 => q v (by omega) h2⟩)
              by_cases e : v = k
              · subst e; exact c4
              · exact q v (by omega) h2 h3 h4 h5
          · rw [if_neg c3, yr_t (by omega)]
            exact go (fun q => c3 q.2.2) _
      · rw [if_neg c1, yr_t (by omega)]
        exact go (fun q => c1 q.1) _
theorem s228 (d : Nat) (hd : 4 ≤ d) (hg : g_ok G) (I : q_in G P E) (Q : MSQ h G L b0 oc P E) (w t : Int) (hw : 0 ≤ w ∧ w < g_wm G) : y_se z_pg sc d 228 [y_vr 94, y_vi w, y_vi t] h = some (some (y_vi (y_bi (q_let G P w t))), h) := by
  rcases d with _ | d
  · omega
  have QQ := Q
  have l := fun a o ha => l228 (sc := sc) d (by omega) hg I QQ w t hw (g_wm G).toNat 0 a o (by omega) (by have := hg.2.2.1; omega) ha
  obtain ⟨⟨rfl, e39⟩, ⟨e40, e41⟩, e111, ce⟩ := Q
  have sp := g_spo_cg (G := hv h) (w := w) (t := t) e111
  rw [e228, b228_0, s198 d (by omega) w t hg hw, yci_s]
  unfold q_let
  by_cases c : g_spo (hv h) (pl h 111) w t
  · rw [if_neg (by rw [bi_t c]; omega), l 0 _ (Or.inl rfl)]
    exact ab_cg ⟨fun q => by omega, fun q => absurd (sp.mp c) q.1⟩
  · rw [if_pos (bi_f c), l 1 _ (Or.inr rfl)]
    exact ab_cg ⟨fun q => ⟨fun z => c (sp.mpr z), q.2⟩, fun q => ⟨rfl, q.2⟩⟩
theorem l229 (d : Nat) (hd : 4 ≤ d) (hg : g_ok G) (I : q_in G P E) (Q : MSQ h G L b0 oc P E) (w v2 c hi : Int) (hw : 0 ≤ w ∧ w < g_wm G) (hh : hi = q_hi G w) : ∀ (n : Nat) (k : Int), 0 ≤ k → k + n = max k (hi + 1) → k ≤ 1000 → y_ev z_pg sc d pgX8_places 87 [some (y_vr 94), some (y_vi w), some (y_vi v2), some (y_vi (g_pt G w)), some (y_vi c), some (y_vi k), some (y_vi (min (g_ti G (g_rd G w)) (g_la G)))] [] h = if u_find (q_ok G P w) k n = -9 then some (some (y_vi 0), h) else some (some (y_vi 1), y_sI (y_sI h 111 (Int.toNat w) (u_find (q_ok G P w) k n)) 117 (Int.toNat w) c)
  | 0, k, hk, hn, hl => by
    obtain ⟨⟨rfl, e39⟩, -⟩ := Q
    have kw := hg.2.2.1
    have km := (hg.2.2.2.2.2.2.2.2.1 w hw.1 hw.2).2.2.1
    unfold q_hi at hh
    rw [b229_87, s175 d (by omega) w (by omega), yci_s, yr_t (by omega), if_pos (by omega), s175 d (by omega) w (by omega), yci_s, yr_t (by omega), if_pos (by omega)]
    rfl
  | n + 1, k, hk, hn, hl => by
    have QQ := Q
    have kl := hg.2.2.2.2.2.1
    have km := (hg.2.2.2.2.2.2.2.2.1 w hw.1 hw.2).2.2.1
    have ih := l229 d hd hg I QQ w v2 c hi hw hh n (k + 1) (by omega) (by omega) (by unfold q_hi at hh; omega)
    have s228' := s228 (sc := sc) d (by omega) hg I QQ w k hw
    obtain ⟨⟨rfl, e39⟩, -⟩ := Q
    have kw := hg.2.2.1
    unfold q_hi at hh
    rw [b229_87, s175 d (by omega) w (by omega), yci_s, yr_t (by omega), if_neg (by omega), s175 d (by omega) w (by omega), yci_s, s182 d (by omega) _ _ _ hg (by omega) (by omega), yci_s]
    by_cases c1 : g_un (hv h) (g_pt (hv h) w) k (g_mn (hv h) w)
    · rw [if_neg (by rw [bi_t c1]; omega), yr_t (by omega), ih, u_find_f (fun q => q.1 c1)]
    · rw [if_pos (bi_f c1), s228', yci_s]
      by_cases c2 : q_let (hv h) P w k
      · rw [if_neg (by rw [bi_t c2]; omega), s175 d (by omega) w (by omega), yci_s, yr_t (by omega), if_neg (by omega), yi_t (by omega), yi_t (by omega), u_find_t ⟨c1, c2⟩, if_neg (by omega)]
      · rw [if_pos (bi_f c2), yr_t (by omega), ih, u_find_f (fun q => c2 q.2)]
theorem s229 (d : Nat) (hd : 6 ≤ d) (hg : g_ok G) (I : q_in G P E) (Q : MSQ h G L b0 oc P E) (hb : 0 ≤ b0 ∧ b0 ≤ 60) (hoc : oc = 0 ∨ oc = 1) (w : Int) (hw : 0 ≤ w ∧ w < g_wm G) : y_se z_pg sc d 229 [y_vr 94, y_vi w] h = @ite _ (q_nx G oc P w ∧ q_t G b0 P E w ≠ -9) (Classical.propDecidable _) (some (some (y_vi 1), y_sI (y_sI h 111 (Int.toNat w) (q_t G b0 P E w)) 117 (Int.toNat w) (q_fc G E (g_pt G w) - 2 * g_pt G w))) (some (some (y_vi 0), h)) := by
  rcases d with _ | d
  · omega
  have QQ := Q
  have kw := hg.2.2.1
  have kr := hg.2.1
  have kp := hg.1
  have kl := hg.2.2.2.2.2.1
  obtain ⟨k1, k2, k3, -⟩ := hg.2.2.2.2.2.2.2.2.1 w hw.1 hw.2
  have kcm := (hg.2.2.2.2.2.2.1 _ k2.1 k2.2).2.1
  have cpp := (hg.2.2.2.2.2.2.1 _ k2.1 k2.2).1
  have ktf := (hg.2.2.2.2.2.2.2.1 _ k1.1 k1.2).1
  have fcr := q_fc_r (E := E) hg k2
  have s227' := s227 (sc := sc) d (by omega) hg QQ hoc w hw
  have s226' := s226 (sc := sc) d (by omega) hg I QQ _ k2
  have s225' := s225 (sc := sc) d (by omega) hg I QQ _ (q_fc G E (g_pt G w) - 2 * g_pt G w) k2 (by omega)
  rw [show 2 * g_pt G w + (q_fc G E (g_pt G w) - 2 * g_pt G w) = q_fc G E (g_pt G w) by omega] at s225'
  have Efc := I.2 (q_fc G E (g_pt G w)) (by omega) (by omega)
  have ws60 : g_ws G P (g_rd G w) ≤ 60 := (ws_le kw.1).mpr ⟨by omega, fun v v1 v2 v3 v4 => (I.1 v v1 v2 v4).2⟩
  have lo0 : 0 ≤ q_lo G b0 P E w ∧ q_lo G b0 P E w ≤ 60 := by unfold q_lo; omega
  have l := l229 (sc := sc) d (by omega) hg I QQ w (g_rd G w) (q_fc G E (g_pt G w) - 2 * g_pt G w) (q_hi G w) hw rfl (q_hi G w + 1 - q_lo G b0 P E w).toNat (q_lo G b0 P E w) lo0.1 (by omega) (by omega)
  have et : u_find (q_ok G P w) (q_lo G b0 P E w) (q_hi G w + 1 - q_lo G b0 P E w).toNat = q_t G b0 P E w := rfl
  rw [et] at l
  have elo : max (max b0 (E (q_fc G E (g_pt G w)))) (max (g_ws G P (g_rd G w)) (g_cm G (g_pt G w))) = q_lo G b0 P E w := rfl
  obtain ⟨⟨rfl, e39⟩, ⟨e40, e41⟩, e111, ce⟩ := Q
  have ok : p_ok (hv h) (pl h 111) := p_ok.cg (p_eq.symm e111) (q_in_ok hg I)
  have s217' := s217 (sc := sc) (h := h) d (by omega) (g_rd (hv h) w) hg ok (by omega)
  rw [g_ws_cg e111] at s217'
  rw [e229, b229_0, s227', yci_s]
  by_cases c : q_nx (hv h) oc P w
  · have fin : y_ev z_pg sc d pgX8_places 87 [some (y_vr 94), some (y_vi w), some (y_vi (g_rd (hv h) w)), some (y_vi (g_pt (hv h) w)), some (y_vi (q_fc (hv h) E (g_pt (hv h) w) - 2 * g_pt (hv h) w)), some (y_vi (q_lo (hv h) b0 P E w)), some (y_vi (min (g_ti (hv h) (g_rd (hv h) w)) (g_la (hv h))))] [] h = @ite _ (q_nx (hv h) oc P w ∧ q_t (hv h) b0 P E w ≠ -9) (Classical.propDecidable _) (some (some (y_vi 1), y_sI (y_sI h 111 (Int.toNat w) (q_t (hv h) b0 P E w)) 117 (Int.toNat w) (q_fc (hv h) E (g_pt (hv h) w) - 2 * g_pt (hv h) w))) (some (some (y_vi 0), h)) := by
      rw [l]
      by_cases z : q_t (hv h) b0 P E w = -9
      · rw [if_pos z, if_neg (fun q => q.2 z)]
      · rw [if_neg z, if_pos ⟨c, z⟩]
    rw [if_neg (by rw [bi_t c]; omega), s173 d (by omega) w (by omega), yci_s, s174 d (by omega) w (by omega), yci_s, s226', yci_s, s225', yci_s, e40, s139 d (by omega), yci_s, s217', yci_s, s177 d (by omega) _ (by omega), yci_s, s139 d (by omega), yci_s, s139 d (by omega), yci_s, elo, s179 d (by omega) _ (by omega), yci_s, hvla]
    by_cases z : g_ti (hv h) (g_rd (hv h) w) < g_la (hv h)
    · rw [if_pos z, s179 d (by omega) _ (by omega), yci_s, ← fin, show min (g_ti (hv h) (g_rd (hv h) w)) (g_la (hv h)) = g_ti (hv h) (g_rd (hv h) w) by omega]
    · rw [if_neg z, ← fin, show min (g_ti (hv h) (g_rd (hv h) w)) (g_la (hv h)) = g_la (hv h) by omega]
  · rw [if_pos (bi_f c), if_neg (fun q => c q.1)]
end MS
