/-! GROUP 4, A METHOD'S RUN, ITS CONTRACT -/
theorem z_mcwc0 : ∀ k, k < 10 → z_mcw (0 + k)
  | 0, _ => z_mcw0
  | 1, _ => z_mcw1
  | 2, _ => z_mcw2
  | 3, _ => z_mcw3
  | 4, _ => z_mcw4
  | 5, _ => z_mcw5
  | 6, _ => z_mcw6
  | 7, _ => z_mcw7
  | 8, _ => z_mcw8
  | 9, _ => z_mcw9
  | n + 10, h => absurd h (by omega)
theorem z_mcwc10 : ∀ k, k < 10 → z_mcw (10 + k)
  | 0, _ => z_mcw10
  | 1, _ => z_mcw11
  | 2, _ => z_mcw12
  | 3, _ => z_mcw13
  | 4, _ => z_mcw14
  | 5, _ => z_mcw15
  | 6, _ => z_mcw16
  | 7, _ => z_mcw17
  | 8, _ => z_mcw18
  | 9, _ => z_mcw19
  | n + 10, h => absurd h (by omega)
theorem z_mcwc20 : ∀ k, k < 10 → z_mcw (20 + k)
  | 0, _ => z_mcw20
  | 1, _ => z_mcw21
  | 2, _ => z_mcw22
  | 3, _ => z_mcw23
  | 4, _ => z_mcw24
  | 5, _ => z_mcw25
  | 6, _ => z_mcw26
  | 7, _ => z_mcw27
  | 8, _ => z_mcw28
  | 9, _ => z_mcw29
  | n + 10, h => absurd h (by omega)
theorem z_mcwc30 : ∀ k, k < 10 → z_mcw (30 + k)
  | 0, _ => z_mcw30
  | 1, _ => z_mcw31
  | 2, _ => z_mcw32
  | 3, _ => z_mcw33
  | 4, _ => z_mcw34
  | 5, _ => z_mcw35
  | 6, _ => z_mcw36
  | 7, _ => z_mcw37
  | 8, _ => z_mcw38
  | 9, _ => z_mcw39
  | n + 10, h => absurd h (by omega)
theorem z_mcwc40 : ∀ k, k < 10 → z_mcw (40 + k)
  | 0, _ => z_mcw40
  | 1, _ => z_mcw41
  | 2, _ => z_mcw42
  | 3, _ => z_mcw43
  | 4, _ => z_mcw44
  | 5, _ => z_mcw45
  | 6, _ => z_mcw46
  | 7, _ => z_mcw47
  | 8, _ => z_mcw48
  | 9, _ => z_mcw49
  | n + 10, h => absurd h (by omega)
theorem z_mcwc50 : ∀ k, k < 10 → z_mcw (50 + k)
  | 0, _ => z_mcw50
  | 1, _ => z_mcw51
  | 2, _ => z_mcw52
  | 3, _ => z_mcw53
  | 4, _ => z_mcw54
  | 5, _ => z_mcw55
  | 6, _ => z_mcw56
  | 7, _ => z_mcw57
  | 8, _ => z_mcw58
  | 9, _ => z_mcw59
  | n + 10, h => absurd h (by omega)
theorem z_mcwc60 : ∀ k, k < 10 → z_mcw (60 + k)
  | 0, _ => z_mcw60
  | 1, _ => z_mcw61
  | 2, _ => z_mcw62
  | 3, _ => z_mcw63
  | 4, _ => z_mcw64
  | 5, _ => z_mcw65
  | 6, _ => z_mcw66
  | 7, _ => z_mcw67
  | 8, _ => z_mcw68
  | 9, _ => z_mcw69
  | n + 10, h => absurd h (by omega)
theorem z_mcwc70 : ∀ k, k < 10 → z_mcw (70 + k)
  | 0, _ => z_mcw70
  | 1, _ => z_mcw71
  | 2, _ => z_mcw72
  | 3, _ => z_mcw73
  | 4, _ => z_mcw74
  | 5, _ => z_mcw75
  | 6, _ => z_mcw76
  | 7, _ => z_mcw77
  | 8, _ => z_mcw78
  | 9, _ => z_mcw79
  | n + 10, h => absurd h (by omega)
theorem z_mcwc80 : ∀ k, k < 10 → z_mcw (80 + k)
  | 0, _ => z_mcw80
  | 1, _ => z_mcw81
  | 2, _ => z_mcw82
  | 3, _ => z_mcw83
  | 4, _ => z_mcw84
  | 5, _ => z_mcw85
  | 6, _ => z_mcw86
  | 7, _ => z_mcw87
  | 8, _ => z_mcw88
  | 9, _ => z_mcw89
  | n + 10, h => absurd h (by omega)
theorem z_mcwc90 : ∀ k, k < 10 → z_mcw (90 + k)
  | 0, _ => z_mcw90
  | 1, _ => z_mcw91
  | 2, _ => z_mcw92
  | 3, _ => z_mcw93
  | 4, _ => z_mcw94
  | 5, _ => z_mcw95
  | 6, _ => z_mcw96
  | 7, _ => z_mcw97
  | 8, _ => z_mcw98
  | 9, _ => z_mcw99
  | n + 10, h => absurd h (by omega)
theorem z_mcwc100 : ∀ k, k < 10 → z_mcw (100 + k)
  | 0, _ => z_mcw100
  | 1, _ => z_mcw101
  | 2, _ => z_mcw102
  | 3, _ => z_mcw103
  | 4, _ => z_mcw104
  | 5, _ => z_mcw105
  | 6, _ => z_mcw106
  | 7, _ => z_mcw107
  | 8, _ => z_mcw108
  | 9, _ => z_mcw109
  | n + 10, h => absurd h (by omega)
theorem z_mcwc110 : ∀ k, k < 10 → z_mcw (110 + k)
  | 0, _ => z_mcw110
  | 1, _ => z_mcw111
  | 2, _ => z_mcw112
  | 3, _ => z_mcw113
  | 4, _ => z_mcw114
  | 5, _ => z_mcw115
  | 6, _ => z_mcw116
  | 7, _ => z_mcw117
  | 8, _ => z_mcw118
  | 9, _ => z_mcw119
  | n + 10, h => absurd h (by omega)
theorem z_mcwc120 : ∀ k, k < 10 → z_mcw (120 + k)
  | 0, _ => z_mcw120
  | 1, _ => z_mcw121
  | 2, _ => z_mcw122
  | 3, _ => z_mcw123
  | 4, _ => z_mcw124
  | 5, _ => z_mcw125
  | 6, _ => z_mcw126
  | 7, _ => z_mcw127
  | 8, _ => z_mcw128
  | 9, _ => z_mcw129
  | n + 10, h => absurd h (by omega)
theorem z_mcwc130 : ∀ k, k < 10 → z_mcw (130 + k)
  | 0, _ => z_mcw130
  | 1, _ => z_mcw131
  | 2, _ => z_mcw132
  | 3, _ => z_mcw133
  | 4, _ => z_mcw134
  | 5, _ => z_mcw135
  | 6, _ => z_mcw136
  | 7, _ => z_mcw137
  | 8, _ => z_mcw138
  | 9, _ => z_mcw139
  | n + 10, h => absurd h (by omega)
theorem z_mcwc140 : ∀ k, k < 10 → z_mcw (140 + k)
  | 0, _ => z_mcw140
  | 1, _ => z_mcw141
  | 2, _ => z_mcw142
  | 3, _ => z_mcw143
  | 4, _ => z_mcw144
  | 5, _ => z_mcw145
  | 6, _ => z_mcw146
  | 7, _ => z_mcw147
  | 8, _ => z_mcw148
  | 9, _ => z_mcw149
  | n + 10, h => absurd h (by omega)
theorem z_mcwc150 : ∀ k, k < 10 → z_mcw (150 + k)
  | 0, _ => z_mcw150
  | 1, _ => z_mcw151
  | 2, _ => z_mcw152
  | 3, _ => z_mcw153
  | 4, _ => z_mcw154
  | 5, _ => z_mcw155
  | 6, _ => z_mcw156
  | 7, _ => z_mcw157
  | 8, _ => z_mcw158
  | 9, _ => z_mcw159
  | n + 10, h => absurd h (by omega)
theorem z_mcwc160 : ∀ k, k < 10 → z_mcw (160 + k)
  | 0, _ => z_mcw160
  | 1, _ => z_mcw161
  | 2, _ => z_mcw162
  | 3, _ => z_mcw163
  | 4, _ => z_mcw164
  | 5, _ => z_mcw165
  | 6, _ => z_mcw166
  | 7, _ => z_mcw167
  | 8, _ => z_mcw168
  | 9, _ => z_mcw169
  | n + 10, h => absurd h (by omega)
theorem z_mcwc170 : ∀ k, k < 10 → z_mcw (170 + k)
  | 0, _ => z_mcw170
  | 1, _ => z_mcw171
  | 2, _ => z_mcw172
  | 3, _ => z_mcw173
  | 4, _ => z_mcw174
  | 5, _ => z_mcw175
  | 6, _ => z_mcw176
  | 7, _ => z_mcw177
  | 8, _ => z_mcw178
  | 9, _ => z_mcw179
  | n + 10, h => absurd h (by omega)
theorem z_mcwc180 : ∀ k, k < 10 → z_mcw (180 + k)
  | 0, _ => z_mcw180
  | 1, _ => z_mcw181
  | 2, _ => z_mcw182
  | 3, _ => z_mcw183
  | 4, _ => z_mcw184
  | 5, _ => z_mcw185
  | 6, _ => z_mcw186
  | 7, _ => z_mcw187
  | 8, _ => z_mcw188
  | 9, _ => z_mcw189
  | n + 10, h => absurd h (by omega)
theorem z_mcwc190 : ∀ k, k < 10 → z_mcw (190 + k)
  | 0, _ => z_mcw190
  | 1, _ => z_mcw191
  | 2, _ => z_mcw192
  | 3, _ => z_mcw193
  | 4, _ => z_mcw194
  | 5, _ => z_mcw195
  | 6, _ => z_mcw196
  | 7, _ => z_mcw197
  | 8, _ => z_mcw198
  | 9, _ => z_mcw199
  | n + 10, h => absurd h (by omega)
theorem z_mcwc200 : ∀ k, k < 10 → z_mcw (200 + k)
  | 0, _ => z_mcw200
  | 1, _ => z_mcw201
  | 2, _ => z_mcw202
  | 3, _ => z_mcw203
  | 4, _ => z_mcw204
  | 5, _ => z_mcw205
  | 6, _ => z_mcw206
  | 7, _ => z_mcw207
  | 8, _ => z_mcw208
  | 9, _ => z_mcw209
  | n + 10, h => absurd h (by omega)
theorem z_mcwc210 : ∀ k, k < 10 → z_mcw (210 + k)
  | 0, _ => z_mcw210
  | 1, _ => z_mcw211
  | 2, _ => z_mcw212
  | 3, _ => z_mcw213
  | 4, _ => z_mcw214
  | 5, _ => z_mcw215
  | 6, _ => z_mcw216
  | 7, _ => z_mcw217
  | 8, _ => z_mcw218
  | 9, _ => z_mcw219
  | n + 10, h => absurd h (by omega)
theorem z_mcwc220 : ∀ k, k < 10 → z_mcw (220 + k)
  | 0, _ => z_mcw220
  | 1, _ => z_mcw221
  | 2, _ => z_mcw222
  | 3, _ => z_mcw223
  | 4, _ => z_mcw224
  | 5, _ => z_mcw225
  | 6, _ => z_mcw226
  | 7, _ => z_mcw227
  | 8, _ => z_mcw228
  | 9, _ => z_mcw229
  | n + 10, h => absurd h (by omega)
theorem z_mcwc230 : ∀ k, k < 10 → z_mcw (230 + k)
  | 0, _ => z_mcw230
  | 1, _ => z_mcw231
  | 2, _ => z_mcw232
  | 3, _ => z_mcw233
  | 4, _ => z_mcw234
  | 5, _ => z_mcw235
  | 6, _ => z_mcw236
  | 7, _ => z_mcw237
  | 8, _ => z_mcw238
  | 9, _ => z_mcw239
  | n + 10, h => absurd h (by omega)
theorem z_mcwc240 : ∀ k, k < 10 → z_mcw (240 + k)
  | 0, _ => z_mcw240
  | 1, _ => z_mcw241
  | 2, _ => z_mcw242
  | 3, _ => z_mcw243
  | 4, _ => z_mcw244
  | 5, _ => z_mcw245
  | 6, _ => z_mcw246
  | 7, _ => z_mcw247
  | 8, _ => z_mcw248
  | 9, _ => z_mcw249
  | n + 10, h => absurd h (by omega)
theorem z_mcwA (x : Nat) (hx : x < 250) : z_mcw x := by
  have h : ∀ s : Nat, (∀ k, k < 10 → z_mcw (s + k)) → s ≤ x → x < s + 10 → z_mcw x := fun s h1 h2 h3 => by
    have := h1 (x - s) (by omega)
    rwa [show s + (x - s) = x by omega] at this
  rcases (show (0 ≤ x ∧ x < 0 + 10) ∨ (10 ≤ x ∧ x < 10 + 10) ∨ (20 ≤ x ∧ x < 20 + 10) ∨ (30 ≤ x ∧ x < 30 + 10) ∨ (40 ≤ x ∧ x < 40 + 10) ∨ (50 ≤ x ∧ x < 50 + 10) ∨ (60 ≤ x ∧ x < 60 + 10) ∨ (70 ≤ x ∧ x < 70 + 10) ∨ (80 ≤ x ∧ x < 80 + 10) ∨ (90 ≤ x ∧ x < 90 + 10) ∨ (100 ≤ x ∧ x < 100 + 10) ∨ (110 ≤ x ∧ x < 110 + 10) ∨ (120 ≤ x ∧ x < 120 + 10) ∨ (130 ≤ x ∧ x < 130 + 10) ∨ (140 ≤ x ∧ x < 140 + 10) ∨ (150 ≤ x ∧ x < 150 + 10) ∨ (160 ≤ x ∧ x < 160 + 10) ∨ (170 ≤ x ∧ x < 170 + 10) ∨ (180 ≤ x ∧ x < 180 + 10) ∨ (190 ≤ x ∧ x < 190 + 10) ∨ (200 ≤ x ∧ x < 200 + 10) ∨ (210 ≤ x ∧ x < 210 + 10) ∨ (220 ≤ x ∧ x < 220 + 10) ∨ (230 ≤ x ∧ x < 230 + 10) ∨ (240 ≤ x ∧ x < 240 + 10) by omega) with q | q | q | q | q | q | q | q | q | q | q | q | q | q | q | q | q | q | q | q | q | q | q | q | q
  · exact h 0 z_mcwc0 q.1 q.2
  · exact h 10 z_mcwc10 q.1 q.2
  · exact h 20 z_mcwc20 q.1 q.2
  · exact h 30 z_mcwc30 q.1 q.2
  · exact h 40 z_mcwc40 q.1 q.2
  · exact h 50 z_mcwc50 q.1 q.2
  · exact h 60 z_mcwc60 q.1 q.2
  · exact h 70 z_mcwc70 q.1 q.2
  · exact h 80 z_mcwc80 q.1 q.2
  · exact h 90 z_mcwc90 q.1 q.2
  · exact h 100 z_mcwc100 q.1 q.2
  · exact h 110 z_mcwc110 q.1 q.2
  · exact h 120 z_mcwc120 q.1 q.2
  · exact h 130 z_mcwc130 q.1 q.2
  · exact h 140 z_mcwc140 q.1 q.2
  · exact h 150 z_mcwc150 q.1 q.2
  · exact h 160 z_mcwc160 q.1 q.2
  · exact h 170 z_mcwc170 q.1 q.2
  · exact h 180 z_mcwc180 q.1 q.2
  · exact h 190 z_mcwc190 q.1 q.2
  · exact h 200 z_mcwc200 q.1 q.2
  · exact h 210 z_mcwc210 q.1 q.2
  · exact h 220 z_mcwc220 q.1 q.2
  · exact h 230 z_mcwc230 q.1 q.2
  · exact h 240 z_mcwc240 q.1 q.2
theorem z_capp {A B : List z_Pg} {s t : Nat} (ht : s + A.length = t) (ha : ∀ (k : Nat) (L : z_Pg), A[k]? = some L → L.all (z_eck (s + k)) = true) (hb : ∀ (k : Nat) (L : z_Pg), B[k]? = some L → L.all (z_eck (t + k)) = true) : ∀ (k : Nat) (L : z_Pg), (A ++ B)[k]? = some L → L.all (z_eck (s + k)) = true := by
  intro k L h
  by_cases q : k < A.length
  · rw [List.getElem?_append_left q] at h
    exact ha k L h
  · rw [List.getElem?_append_right (by omega)] at h
    have := hb _ L h
    rwa [show t + (k - A.length) = s + k by omega] at this
theorem z_ckA (x : Nat) : (z_pg x).all (z_eck x) = true := by
  unfold z_pg
  split
  · rename_i L hL
    unfold z_pgl at hL
    have h := z_capp (s := 0) (t := 250) (by decide +kernel) (z_capp (s := 0) (t := 135) (by decide +kernel) (z_capp (s := 0) (t := 86) (by decide +kernel) (z_capp (s := 0) (t := 78) (by decide +kernel) (z_capp (s := 0) (t := 63) (by decide +kernel) (z_capp (s := 0) (t := 57) (by decide +kernel) (z_capp (s := 0) (t := 44) (by decide +kernel) (z_capp (s := 0) (t := 31) (by decide +kernel) (z_capp (s := 0) (t := 18) (by decide +kernel) (fun k L h => by rw [Nat.zero_add]; have := z_ckkX0 k L h; rwa [Nat.zero_add] at this) z_ckkX1) z_ckkX2) z_ckkX3) z_ckkX4) z_ckkX5) z_ckkX6) z_ckkX7) z_ckkX8) z_ckkL x L hL
    rwa [Nat.zero_add] at h
  · rfl
theorem z_gt_mem : ∀ {L : z_Pg} {pc : Nat} {en : z_En}, z_gt L pc = some en → ∃ len, (pc, len, en) ∈ L
  | [], _, _, h => by cases h
  | q :: r, pc, en, h => by
    unfold z_gt at h
    split at h
    · rename_i e
      have e := z_beq e
      cases h
      exact ⟨q.2.1, by rw [← e]; exact List.mem_cons_self⟩
    · obtain ⟨len, h2⟩ := z_gt_mem h
      exact ⟨len, List.mem_cons_of_mem _ h2⟩
theorem z_g_le {M pc len g : Nat} {ins : Jvm.ClassFile.Instr} {x y z : Nat} (hok : z_sok M pc len g ins x y z = true) : g ≤ 4 := by
  unfold z_sok at hok
  split at hok
  all_goals first
    | (simp only [Bool.and_eq_true] at hok; first | (have := z_beq hok.1.1.1.1.1; omega) | (have := z_beq hok.2; omega) | (have := z_beq hok.1.2; omega) | (have := z_beq hok.1.1.2; omega) | (have := z_beq hok.1.1.1.2; omega) | (have := z_beq hok.1.1.1.1.2; omega) | (have := z_beq hok.1; omega) | (have := z_beq hok.1.1; omega) | (have := z_beq hok.1.1.1; omega) | (have := z_beq hok.1.1.1.1; omega) | (have := z_beq hok.1.1.1.1.1.2; omega))
    | (cases hok; done)
theorem z_rcs {h : z_Hp} {as0 : List z_V} {c q pc : Nat} {o : z_O} {K : z_K} {ls : z_Ls} {rest : List z_V} {r : z_R} (hr : z_rc h as0 c (z_rt q o K pc ls rest) = some r) : ∃ a as r1, as0 = z_vr a :: as ∧ z_ob h a c = true ∧ o = some r1 ∧ z_rt q (some r1) K pc ls rest = some r := by
  unfold z_rc at hr
  split at hr
  · rename_i a as
    obtain ⟨g, hr⟩ := z_gd_some.mp hr
    rcases o with _ | r1
    · rw [z_rt_none] at hr
      cases hr
    · exact ⟨a, as, r1, rfl, g, rfl, hr⟩
  · cases hr
theorem z_stk {st as0 rest : List z_V} {n : Nat} (h1 : (st.take n).reverse = as0) (h2 : st.drop n = rest) (hn : n ≤ st.length) : st = as0.reverse ++ rest ∧ as0.length = n := by
  subst h1 h2
  constructor
  · rw [List.reverse_reverse, List.take_append_drop]
  · rw [List.length_reverse, List.length_take]
    omega
theorem z_mc_lt {x : Nat} (hx : x < 250) (hk : z_kM x = 2) : z_mc x < 9 := by
  have h := z_mckA x hx
  unfold z_mck at h
  rw [hk] at h
  simp only [Bool.and_eq_true, decide_eq_true_eq, Nat.blt_eq] at h
  obtain ⟨-, -, -, -, -, -, -, -, -, ⟨-, h11⟩, -⟩ := h
  exact h11
section SN5
variable {p : Program} {l : Launch} {e : Env} {R : Room} {s : State} {m : MethodId} {args : Array Value} {below : List Frame} {meth : Method} {c : Code} {Q : State → Prop} {D : va_G} {cy : Nat → ClassId} {base b n0 : Nat} {sc : z_Sc} {M : Nat}
variable {pc len : Nat} {ls : z_Ls} {st : List z_V} {h : z_Hp} {ins : Jvm.ClassFile.Instr} {x y z : Nat} {K : z_K} {r : z_R} {C9 : z_C} {d : Nat}
theorem z_sn4 (X : z_Cx p s m args meth c D cy base b sc M) (hdg : decode (z_bM M) pc = .ok (ins, len)) (hok : z_sok M pc len 4 ins x y z = true) {q : Nat × Nat} (hw : z_wp q = z_wd (z_yM M).cls ins x y z) (hr : z_i4 C9 K x y z pc ls st h = some r) (hK : ∀ pc' ls' st' h', K pc' ls' st' h' = some r → z_at p l e R s m args below meth c Q D cy base b n0 pc' ls' st' h')
    (hC : ∀ x as h0 r0, x < 250 → C9 x as h0 = some r0 → z_Met l D cy base b d x as h0 r0) (hCge : ∀ x as h0 r0, C9 x as h0 = some r0 → h0.1 ≤ r0.2.1) (hge : ∀ pc' ls' st' h', K pc' ls' st' h' = some r → h'.1 ≤ r.2.1) (hRc : r.2.1 - n0 ≤ R.cells) (hRs : z_sz r.2.1 - z_sz n0 ≤ R.slots) (hRf : d + 1 ≤ R.frames) (hRl : 64 * (d + 1) ≤ R.locals) : z_at p l e R s m args below meth c Q D cy base b n0 pc ls st h := by
  obtain ⟨hx, hb, hml, hown, hts, hKK, hin, hscr, hbs⟩ := X
  rcases z_g4 hok with ⟨n, rfl⟩ | ⟨n, rfl⟩ | ⟨n, rfl⟩
  · -- invokevirtual
    unfold z_sok at hok
    simp only [Bool.and_eq_true, Nat.blt_eq] at hok
    obtain ⟨⟨⟨⟨⟨k1, -⟩, k3⟩, k4⟩, k5⟩, k6⟩ := hok
    have e := z_beq k1
    subst e
    have e := z_beq k3
    subst e
    have k4 := z_beq k4
    have e := z_beq k5
    subst e
    obtain ⟨w1, w2, w3, w4, w5, w6, w7, w8⟩ := z_mckV k6 k4
    have hr : z_sg (Nat.ble (z_mn x) st.length && Nat.ble (z_cats (st.drop (z_mn x))) 8) (z_rc h (st.take (z_mn x)).reverse (z_mc x) (z_rt (z_mr x) (C9 x (st.take (z_mn x)).reverse h) K pc ls (st.drop (z_mn x)))) = some r := hr
    obtain ⟨g1, hr⟩ := z_sg_some.mp hr
    obtain ⟨g2, g3⟩ := (Bool.and_eq_true _ _).mp g1
    have g2 := Nat.le_of_ble_eq_true g2
    have g3 := Nat.le_of_ble_eq_true g3
    generalize e1 : (st.take (z_mn x)).reverse = as0 at hr
    generalize e2 : st.drop (z_mn x) = rest at hr g3
    obtain ⟨hst, hlen⟩ := z_stk e1 e2 g2
    obtain ⟨a, as, r1, rfl, g4, hC1, hrt⟩ := z_rcs hr
    obtain ⟨i, rfl, hi, hkd⟩ := z_ob_spec w7 g4
    have hM := hC _ _ _ _ k6 hC1
    have hge1 := hCge _ _ _ _ hC1
    have hge2 := z_rt_ge hge hrt
    have hz1 := z_sz_le hge1
    have hz2 := z_sz_le hge2
    have hcats := z_cats_map (base := base) (b := b) rest
    have hlen2 : as.length = z_mn x - 1 := by rw [List.length_cons] at hlen; omega
    intro H locs mls cells slots a1 a2 a3 a4 a5 a6 a7
    have hz3 := z_sz_le a5
    have hstm : st.map (z_tv base b) = (as.map (z_tv base b)).reverse ++ .ref (base + i) :: rest.map (z_tv base b) := by
      rw [hst, List.map_append, List.map_reverse, List.map_cons, z_tv_ref, List.reverse_cons, List.append_assoc]
      rfl
    have hrv := va_recv hKK.1 a2 (ci := z_mc x) (q0 := i) ((z_cOK _ w7).1) (by rw [z_wl_get hi, z_cel_ob hkd w7])
    have hrv2 : ∃ cell : Cell, H[base + i]? = some cell ∧ cell.vm.isStatics = false ∧ s.vm.findClass (z_yM x).cls = some cell.cls := by rw [← w6]; exact hrv
    refine z_fin (h := h) (x := x) (r1 := r1) (rest := rest) (va_runV (As := as.map (z_tv base b)) (rest := rest.map (z_tv base b)) (b := base + i) (C := (z_yM x).cls) (own := (z_yM M).cls) (nL := z_ml M) (cc := z_bM M) ⟨hx, hb, hml, hown, hts⟩ hM ⟨callB_of (z_mn x - 1) hts (z_good (z_mcwA x k6)) rfl rfl rfl (hts _ w3) (hts _ (z_wp_W hw rfl)) w4 ⟨hRf, ?_⟩, hts _ w1, hts _ w2⟩ ⟨z_blind, hrv2, fun U hU hW => ⟨?_, by rw [hU]; exact a1, by rw [hU]; exact a2, z_KK_warm hW hKK⟩⟩ rfl ?_ (by rw [← hml]; exact a4.1) hstm (lv_room (by rw [hcats]; exact g3)) hdg ⟨?_, ?_⟩) hrt hK hge1 a3 a4 a5 a6 a7
    · show 8 + (z_ml x + 11) + 64 * d ≤ R.locals
      omega
    · rw [List.map_cons, z_tv_ref]
    · rw [List.length_map]; exact hlen2
    · omega
    · omega
  · -- invokestatic
    unfold z_sok at hok
    simp only [Bool.and_eq_true] at hok
    obtain ⟨⟨k1, -⟩, k3⟩ := hok
    have e := z_beq k1
    subst e
    split at k3
    · -- max
      have hr : z_pi st (fun w r => z_pi r (fun v r => z_sg (Nat.ble (z_cats r) 8) (K (pc + 3) ls (z_vi (if v < w then w else v) :: r) h))) = some r := hr
      obtain ⟨w, t, rfl, h2⟩ := z_pi_some.mp hr
      obtain ⟨v, t, rfl, h2⟩ := z_pi_some.mp h2
      obtain ⟨g1, h2⟩ := z_sg_some.mp h2
      have g1 := Nat.le_of_ble_eq_true g1
      have hge1 := hge _ _ _ _ h2
      have hz1 := z_sz_le hge1
      have hcats := z_cats_map (base := base) (b := b) t
      intro H locs mls cells slots a1 a2 a3 a4 a5 a6 a7
      have hz3 := z_sz_le a5
      exact va_mmax hx hb a4.1.symm hown (hts _ (z_wp_W hw rfl)) (hts _ (z_wp_W (q := (3, 105)) (by decide +kernel) rfl)) (hts _ (z_wp_W (q := (1, 11)) (by decide +kernel) rfl)) (hts _ (z_wp_W (q := (3, 106)) (by decide +kernel) rfl)) (by omega) (by rw [hcats]; omega) (by omega) (by omega) hdg (hK _ _ _ _ h2 H locs mls cells slots a1 a2 a3 a4 a5 a6 a7)
    · -- min
      have hr : z_pi st (fun w r => z_pi r (fun v r => z_sg (Nat.ble (z_cats r) 8) (K (pc + 3) ls (z_vi (if w < v then w else v) :: r) h))) = some r := hr
      obtain ⟨w, t, rfl, h2⟩ := z_pi_some.mp hr
      obtain ⟨v, t, rfl, h2⟩ := z_pi_some.mp h2
      obtain ⟨g1, h2⟩ := z_sg_some.mp h2
      have g1 := Nat.le_of_ble_eq_true g1
      have hge1 := hge _ _ _ _ h2
      have hz1 := z_sz_le hge1
      have hcats := z_cats_map (base := base) (b := b) t
      intro H locs mls cells slots a1 a2 a3 a4 a5 a6 a7
      have hz3 := z_sz_le a5
      exact va_mmin hx hb a4.1.symm hown (hts _ (z_wp_W hw rfl)) (hts _ (z_wp_W (q := (3, 102)) (by decide +kernel) rfl)) (hts _ (z_wp_W (q := (1, 11)) (by decide +kernel) rfl)) (hts _ (z_wp_W (q := (3, 103)) (by decide +kernel) rfl)) (by omega) (by rw [hcats]; omega) (by omega) (by omega) hdg (hK _ _ _ _ h2 H locs mls cells slots a1 a2 a3 a4 a5 a6 a7)
    · -- arraycopy
      have hr : z_pi st (fun n r => z_pi r (fun dp r => z_pr r (fun b r => z_pi r (fun sp r => z_pr r (fun a r => z_sg (Nat.ble (z_cats r) 8) (z_gd ((Nat.beq (z_kd a).1 10 && Nat.blt a (h.1 + 2)) && (Nat.beq (z_kd b).1 10 && Nat.blt b (h.1 + 2)) && (!(decide (sp < 0)) && !(decide (dp < 0)) && !(decide (n < 0))) && (Nat.ble (sp.toNatClampNeg + n.toNatClampNeg) (z_kd a).2 && Nat.ble (dp.toNatClampNeg + n.toNatClampNeg) (z_kd b).2)) (K (pc + 3) ls r (z_cpI h a sp.toNatClampNeg b dp.toNatClampNeg n.toNatClampNeg)))))))) = some r := hr
      obtain ⟨n9, t1, rfl, y1⟩ := z_pi_some.mp hr
      obtain ⟨dp, t2, rfl, y2⟩ := z_pi_some.mp y1
      obtain ⟨b9, t3, rfl, y3⟩ := z_pr_some.mp y2
      obtain ⟨sp, t4, rfl, y4⟩ := z_pi_some.mp y3
      obtain ⟨a9, t, rfl, y5⟩ := z_pr_some.mp y4
      obtain ⟨g1, y6⟩ := z_sg_some.mp y5
      obtain ⟨g2, h2⟩ := z_gd_some.mp y6
      have g1 := Nat.le_of_ble_eq_true g1
      obtain ⟨g2, g8⟩ := (Bool.and_eq_true _ _).mp g2
      obtain ⟨g2, g7⟩ := (Bool.and_eq_true _ _).mp g2
      obtain ⟨g2, g5⟩ := (Bool.and_eq_true _ _).mp g2
      obtain ⟨g3, g4⟩ := (Bool.and_eq_true _ _).mp g2
      obtain ⟨g5, g6⟩ := (Bool.and_eq_true _ _).mp g5
      obtain ⟨g7, g11⟩ := (Bool.and_eq_true _ _).mp g7
      obtain ⟨g9, g10⟩ := (Bool.and_eq_true _ _).mp g7
      obtain ⟨g12, g13⟩ := (Bool.and_eq_true _ _).mp g8
      have g3 := z_beq g3
      have g5 := z_beq g5
      have g4 := Nat.blt_eq.mp g4
      have g6 := Nat.blt_eq.mp g6
      have g9 : ¬ sp < 0 := by simpa using g9
      have g10 : ¬ dp < 0 := by simpa using g10
      have g11 : ¬ n9 < 0 := by simpa using g11
      have g12 := Nat.le_of_ble_eq_true g12
      have g13 := Nat.le_of_ble_eq_true g13
      have q1 := z_kd_small (a := a9) (by omega)
      have q2 := z_kd_small (a := b9) (by omega)
      obtain ⟨i, rfl⟩ : ∃ i, a9 = i + 2 := ⟨a9 - 2, by omega⟩
      obtain ⟨j, rfl⟩ : ∃ j, b9 = j + 2 := ⟨b9 - 2, by omega⟩
      have hcats := z_cats_map (base := base) (b := b) t
      intro H locs mls cells slots a1 a2 a3 a4 a5 a6 a7
      rw [List.map_cons, List.map_cons, List.map_cons, List.map_cons, List.map_cons, z_tv_ref, z_tv_ref]
      have hc0 := z_arrAt a2 (i := i) (by omega) g3 (by omega)
      have hc1 := z_arrAt a2 (i := j) (by omega) g5 (by omega)
      refine z_acopy (cA := cy 10) (m0 := (z_kd (i + 2)).2) (m1 := (z_kd (j + 2)).2) (f := h.2.1 (i + 2)) (g := h.2.1 (j + 2)) hx hb a4.1.symm hown (hts _ (z_wp_W hw rfl)) (hts _ (z_wp_W (q := (2, 147)) (by decide +kernel) rfl)) (hts _ (z_wp_W (q := (2, 146)) (by decide +kernel) rfl)) (hts _ (z_wp_W (q := (1, 10)) (by decide +kernel) rfl)) ((hKK.1.2 0 _ rfl).1) hc0 hc1 g9 g10 g11 g12 g13 (by omega) (by rw [hcats, show nativeFrameWords "java/lang/System" "arraycopy" 5 = 7 from rfl]; omega) hdg (fun H1 L e1 e2 e3 e4 => ?_)
      refine hK _ _ _ _ h2 H1 _ mls cells slots (by rw [e1, a1]; rfl) (z_wput a2 rfl (fun k hk => z_cpI_cel hk) (z_arrTo g5 (by omega) ?_) e3) ⟨by rw [e1]; exact a3.1, fun q h1 h2 => by rw [e3 q (fun e => h2 (by rw [e]; exact Nat.le_add_right _ _))]; exact a3.2.1 q h1 h2, fun q hq => ?_⟩ a4 a5 a6 a7
      · rw [e2]
        show _ = some (vp_cell (cy 10) (_, .inl ((z_cpI h (i + 2) sp.toNatClampNeg (j + 2) dp.toNatClampNeg n9.toNatClampNeg).2.1 (j + 2))))
        have e5 : (z_cpI h (i + 2) sp.toNatClampNeg (j + 2) dp.toNatClampNeg n9.toNatClampNeg).2.1 (j + 2) = z_cp (h.2.1 (i + 2)) (h.2.1 (j + 2)) sp.toNatClampNeg dp.toNatClampNeg n9.toNatClampNeg := z_row_eq
        rw [e5]
      · rcases List.mem_append.mp hq with hq | hq
        · exact a3.2.2 q hq
        · rw [e4 q hq]
          exact Nat.le_add_right _ _
    · -- a static method
      rw [Bool.and_eq_true, Bool.and_eq_true, Nat.blt_eq] at k3
      obtain ⟨⟨k4, k5⟩, k6⟩ := k3
      have k4 := z_beq k4
      have e := z_beq k5
      subst e
      obtain ⟨w1, w3, w4, w5⟩ := z_mckS k6 k4
      have hr : z_sg (Nat.ble (z_mn x) st.length && Nat.ble (z_cats (st.drop (z_mn x))) 8) (z_rt (z_mr x) (C9 x (st.take (z_mn x)).reverse h) K pc ls (st.drop (z_mn x))) = some r := hr
      obtain ⟨g1, hr⟩ := z_sg_some.mp hr
      obtain ⟨g2, g3⟩ := (Bool.and_eq_true _ _).mp g1
      have g2 := Nat.le_of_ble_eq_true g2
      have g3 := Nat.le_of_ble_eq_true g3
      generalize e1 : (st.take (z_mn x)).reverse = as at hr
      generalize e2 : st.drop (z_mn x) = rest at hr g3
      obtain ⟨hst, hlen⟩ := z_stk e1 e2 g2
      rcases hC1 : C9 x as h with _ | r1
      · rw [hC1, z_rt_none] at hr
        cases hr
      rw [hC1] at hr
      have hM := hC _ _ _ _ k6 hC1
      have hge1 := hCge _ _ _ _ hC1
      have hge2 := z_rt_ge hge hr
      have hz1 := z_sz_le hge1
      have hz2 := z_sz_le hge2
      have hcats := z_cats_map (base := base) (b := b) rest
      intro H locs mls cells slots a1 a2 a3 a4 a5 a6 a7
      have hz3 := z_sz_le a5
      have hstm : st.map (z_tv base b) = (as.map (z_tv base b)).reverse ++ rest.map (z_tv base b) := by
        rw [hst, List.map_append, List.map_reverse]
      refine z_fin (h := h) (x := x) (r1 := r1) (rest := rest) (va_runS (As := as.map (z_tv base b)) (rest := rest.map (z_tv base b)) (own := (z_yM M).cls) (nL := z_ml M) (cc := z_bM M) ⟨hx, hb, hml, hown, hts⟩ hM ⟨callB_of (z_mn x) hts (z_good (z_mcwA x k6)) rfl rfl rfl (hts _ w3) (hts _ (z_wp_W hw rfl)) w4 ⟨hRf, ?_⟩, hts _ w1⟩ ⟨z_blind, fun U hU hW => ⟨rfl, by rw [hU]; exact a1, by rw [hU]; exact a2, z_KK_warm hW hKK⟩⟩ rfl ?_ (by rw [← hml]; exact a4.1) hstm (lv_room (by rw [hcats]; exact g3)) hdg ⟨?_, ?_⟩) hr hK hge1 a3 a4 a5 a6 a7
      · show 8 + (z_ml x + 11) + 64 * d ≤ R.locals
        omega
      · rw [List.length_map]; exact hlen
      · omega
      · omega
    · cases k3
  · -- invokespecial
    unfold z_sok at hok
    simp only [Bool.and_eq_true] at hok
    obtain ⟨⟨k1, -⟩, k3⟩ := hok
    have e := z_beq k1
    subst e
    have hctor : ∀ (zz : Nat), (zz = 2 ∨ zz = 3) → z = zz → (Nat.beq (z_kM x) 2 && Nat.beq y (z_mn x) && Nat.blt x 250) = true → z_at p l e R s m args below meth c Q D cy base b n0 pc ls st h := by
      intro zz hzz ez k3
      subst ez
      rw [Bool.and_eq_true, Bool.and_eq_true, Nat.blt_eq] at k3
      obtain ⟨⟨k4, k5⟩, k6⟩ := k3
      have k4 := z_beq k4
      have e := z_beq k5
      subst e
      obtain ⟨w1, w2, w2b, w3, w4, w5, w8⟩ := z_mckI k6 k4
      have hr : z_sg (Nat.ble (z_mn x) st.length && Nat.ble (z_cats (st.drop (z_mn x))) 8) (z_rc h (st.take (z_mn x)).reverse (z_mc x) (z_rt (z_mr x) (C9 x (st.take (z_mn x)).reverse h) K pc ls (st.drop (z_mn x)))) = some r := by
        rcases hzz with rfl | rfl <;> exact hr
      obtain ⟨g1, hr⟩ := z_sg_some.mp hr
      obtain ⟨g2, g3⟩ := (Bool.and_eq_true _ _).mp g1
      have g2 := Nat.le_of_ble_eq_true g2
      have g3 := Nat.le_of_ble_eq_true g3
      generalize e1 : (st.take (z_mn x)).reverse = as0 at hr
      generalize e2 : st.drop (z_mn x) = rest at hr g3
      obtain ⟨hst, hlen⟩ := z_stk e1 e2 g2
      obtain ⟨a, as, r1, rfl, g4, hC1, hrt⟩ := z_rcs hr
      have w7 : z_mc x < 9 := z_mc_lt k6 k4
      obtain ⟨i, rfl, hi, hkd⟩ := z_ob_spec w7 g4
      have hM := hC _ _ _ _ k6 hC1
      have hge1 := hCge _ _ _ _ hC1
      have hge2 := z_rt_ge hge hrt
      have hz1 := z_sz_le hge1
      have hz2 := z_sz_le hge2
      have hcats := z_cats_map (base := base) (b := b) rest
      have hlen2 : as.length = z_mn x - 1 := by rw [List.length_cons] at hlen; omega
      have hwsn : z_ws x = Cond.code (z_yM x) (z_bM x) (z_ml x) none :: z_W := by unfold z_ws; rw [w2b]
      intro H locs mls cells slots a1 a2 a3 a4 a5 a6 a7
      have hz3 := z_sz_le a5
      have hstm : st.map (z_tv base b) = (as.map (z_tv base b)).reverse ++ .ref (base + i) :: rest.map (z_tv base b) := by
        rw [hst, List.map_append, List.map_reverse, List.map_cons, z_tv_ref, List.reverse_cons, List.append_assoc]
        rfl
      have hpre : PreS s H (va_Pc ((z_vr (i + 2) :: as).map (z_tv base b)) (z_Bw D cy base b h)) (.ref (base + i) :: as.map (z_tv base b)) := ⟨z_blind, fun U hU hW => ⟨by rw [List.map_cons, z_tv_ref], by rw [hU]; exact a1, by rw [hU]; exact a2, z_KK_warm hW hKK⟩⟩
      have hrl : 8 + (z_ml x + 11) + (z_rm d (r1.2.1 - h.1) (z_sz r1.2.1 - z_sz h.1)).locals ≤ R.locals := by
        show 8 + (z_ml x + 11) + 64 * d ≤ R.locals
        omega
      rcases hzz with rfl | rfl
      · exact z_fin (h := h) (x := x) (r1 := r1) (rest := rest) (va_runI (As := as.map (z_tv base b)) (rest := rest.map (z_tv base b)) (b := base + i) (own := (z_yM M).cls) (nL := z_ml M) (cc := z_bM M) ⟨hx, hb, hml, hown, hts⟩ hM ⟨callB_of (z_mn x - 1) hts (z_good (z_mcwA x k6)) hwsn rfl rfl (hts _ w3) (hts _ (z_wp_W hw rfl)) w4 ⟨hRf, hrl⟩, w2, hts _ w1⟩ hpre rfl (by rw [List.length_map]; exact hlen2) (by rw [← hml]; exact a4.1) hstm (lv_room (by rw [hcats]; exact g3)) hdg ⟨by omega, by omega⟩) hrt hK hge1 a3 a4 a5 a6 a7
      · obtain ⟨kk, hkk, en1, en2, en3⟩ := z_nest_in (own := (z_yM M).cls) (n := n) (y := z_yM x) hw
        have hnw : va_Nw (.methodLinkNest (z_yM M).cls n (z_yM x) z_host) s := by
          rw [en1, en2, en3]
          exact hKK.2.1 kk hkk
        exact z_fin (h := h) (x := x) (r1 := r1) (rest := rest) (va_runIN (As := as.map (z_tv base b)) (rest := rest.map (z_tv base b)) (b := base + i) (own := (z_yM M).cls) (host := z_host) (nL := z_ml M) (cc := z_bM M) ⟨hx, hb, hml, hown, hts⟩ hM ⟨va_cnB (z_mn x - 1) hts (z_good (z_mcwA x k6)) hwsn rfl rfl hnw (hts _ w3) w4 ⟨hRf, hrl⟩, w2, hts _ w1⟩ hpre rfl (by rw [List.length_map]; exact hlen2) (by rw [← hml]; exact a4.1) hstm (lv_room (by rw [hcats]; exact g3)) hdg ⟨by omega, by omega⟩) hrt hK hge1 a3 a4 a5 a6 a7
    split at k3
    · -- Object's constructor
      have hr : z_pr st (fun a r => z_sg (Nat.ble (z_cats r) 8) (z_gd (!(Nat.beq a 0)) (K (pc + 3) ls r h))) = some r := hr
      obtain ⟨a, t, rfl, h2⟩ := z_pr_some.mp hr
      obtain ⟨g1, h2⟩ := z_sg_some.mp h2
      obtain ⟨g2, h2⟩ := z_gd_some.mp h2
      have g1 := Nat.le_of_ble_eq_true g1
      have g2 : ¬ a = 0 := by
        intro e
        subst e
        cases g2
      have hcats := z_cats_map (base := base) (b := b) t
      intro H locs mls cells slots a1 a2 a3 a4 a5 a6 a7
      have etv : z_tv base b (z_vr a) = .ref (z_ad base b a) := by
        show va_rf (z_ro base b a) = _
        unfold z_ro
        rw [if_neg g2]
        rfl
      rw [List.map_cons, etv]
      refine W.objInit hx hb hown (hts _ (z_wp_W hw rfl)) (hts _ (z_wp_W (q := (1, 18)) (by decide +kernel) rfl)) (hts _ (z_wp_W (q := (1, 19)) (by decide +kernel) rfl)) rfl a4.1 rfl hdg (by omega) (by show 2 * 0 + _ + 12 ≤ _; rw [hcats]; omega) ?_
      exact hK _ _ _ _ h2 H locs mls cells slots a1 a2 a3 a4 a5 a6 a7
    · exact hctor 2 (Or.inl rfl) rfl k3
    · exact hctor 3 (Or.inr rfl) rfl k3
    · cases k3
end SN5
