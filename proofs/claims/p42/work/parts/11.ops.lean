/-! EACH INSTRUCTION is what the machine does: groups 0, 1, 2 -/
section SN
variable {p : Program} {l : Launch} {e : Env} {R : Room} {s : State} {m : MethodId} {args : Array Value} {below : List Frame} {meth : Method} {c : Code} {Q : State → Prop} {D : va_G} {cy : Nat → ClassId} {base b n0 : Nat} {sc : z_Sc} {M : Nat}
variable {pc len : Nat} {ls : z_Ls} {st : List z_V} {h : z_Hp} {ins : Jvm.ClassFile.Instr} {x y z : Nat} {K : z_K} {r : z_R}
theorem z_sn0 (X : z_Cx p s m args meth c D cy base b sc M) (hdg : decode (z_bM M) pc = .ok (ins, len)) (hok : z_sok M pc len 0 ins x y z = true) {q : Nat × Nat} (hw : z_wp q = z_wd (z_yM M).cls ins x y z) (hr : z_i0 K ins x y pc ls st h = some r) (hK : ∀ pc' ls' st' h', K pc' ls' st' h' = some r → z_at p l e R s m args below meth c Q D cy base b n0 pc' ls' st' h') : z_at p l e R s m args below meth c Q D cy base b n0 pc ls st h := by
  obtain ⟨hx, hb, hml, hown, hts, hKK, hin, hscr, hbs⟩ := X
  have hwW : ∀ w, z_wp q = some w → goodWord w = true → w.before args s = true := fun w h1 h2 => hts w (z_wp_W h1 h2)
  unfold z_i0 at hr
  split at hr
  · -- iload
    rename_i k
    have e : len = 2 := by simpa [z_sok] using hok
    subst e
    obtain ⟨v, h1, h2⟩ := z_ldi_some.mp hr
    intro H locs mls cells slots a1 a2 a3 a4 a5 a6 a7
    exact lv_iload hx hb hdg (a4.2.2.2 _ _ h1) (hK _ _ _ _ h2 H locs mls cells slots a1 a2 a3 a4 a5 a6 a7)
  · -- iload_n
    rename_i k
    have e : len = 1 := by simpa [z_sok] using hok
    subst e
    obtain ⟨v, h1, h2⟩ := z_ldi_some.mp hr
    intro H locs mls cells slots a1 a2 a3 a4 a5 a6 a7
    exact lv_iload_n hx hb hdg rfl (a4.2.2.2 _ _ h1) (hK _ _ _ _ h2 H locs mls cells slots a1 a2 a3 a4 a5 a6 a7)
  · -- aload_n
    rename_i k
    have e : len = 1 := by simpa [z_sok] using hok
    subst e
    obtain ⟨v, h1, h2⟩ := z_ldr_some.mp hr
    intro H locs mls cells slots a1 a2 a3 a4 a5 a6 a7
    have h3 : mls[k.val]? = some (Slot.val (va_rf (z_ro base b v))) := a4.2.2.2 _ _ h1
    have h4 := hK _ _ _ _ h2 H locs mls cells slots a1 a2 a3 a4 a5 a6 a7
    rw [List.map_cons] at h4
    change W p l e R s m args below meth c H locs cells slots Q (F0 m (pc + 1) mls (va_rf (z_ro base b v) :: _)) at h4
    rcases hq : z_ro base b v with _ | w
    · rw [hq] at h3 h4
      exact lv_aload_nN hx hb hdg rfl h3 h4
    · rw [hq] at h3 h4
      exact lv_aload_n hx hb hdg rfl h3 h4
  · -- aload
    rename_i k
    have e : len = 2 := by simpa [z_sok] using hok
    subst e
    obtain ⟨v, h1, h2⟩ := z_ldr_some.mp hr
    intro H locs mls cells slots a1 a2 a3 a4 a5 a6 a7
    have h3 : mls[k]? = some (Slot.val (va_rf (z_ro base b v))) := a4.2.2.2 _ _ h1
    have h4 := hK _ _ _ _ h2 H locs mls cells slots a1 a2 a3 a4 a5 a6 a7
    rw [List.map_cons] at h4
    change W p l e R s m args below meth c H locs cells slots Q (F0 m (pc + 2) mls (va_rf (z_ro base b v) :: _)) at h4
    rcases hq : z_ro base b v with _ | w
    · rw [hq] at h3 h4
      exact lv_aloadN hx hb hdg h3 h4
    · rw [hq] at h3 h4
      exact lv_aload hx hb hdg h3 h4
  · -- lload_n
    rename_i k
    have e : len = 1 := by simpa [z_sok] using hok
    subst e
    obtain ⟨v, h1, h2⟩ := z_ldl_some.mp hr
    intro H locs mls cells slots a1 a2 a3 a4 a5 a6 a7
    exact lv_lload_n hx hb hdg rfl (a4.2.2.2 _ _ h1) (hK _ _ _ _ h2 H locs mls cells slots a1 a2 a3 a4 a5 a6 a7)
  · -- istore
    rename_i k
    have e : len = 2 := by simpa [z_sok] using hok
    subst e
    obtain ⟨v, t, rfl, h2⟩ := z_pi_some.mp hr
    obtain ⟨h1, h2⟩ := z_sg_some.mp h2
    intro H locs mls cells slots a1 a2 a3 a4 a5 a6 a7
    refine lv_istore hx hb hdg (z_lv_has a4) (by rw [← a4.2.1]; exact z_sk_lt h1) rfl (fun mls' hl' => ?_)
    exact hK _ _ _ _ h2 H locs mls' cells slots a1 a2 a3 (z_lv_set1 a4 h1 hl') a5 a6 a7
  · -- istore_n
    rename_i k
    have e : len = 1 := by simpa [z_sok] using hok
    subst e
    obtain ⟨v, t, rfl, h2⟩ := z_pi_some.mp hr
    obtain ⟨h1, h2⟩ := z_sg_some.mp h2
    intro H locs mls cells slots a1 a2 a3 a4 a5 a6 a7
    refine lv_istore_n hx hb hdg rfl (z_lv_has a4) (by rw [← a4.2.1]; exact z_sk_lt h1) rfl (fun mls' hl' => ?_)
    exact hK _ _ _ _ h2 H locs mls' cells slots a1 a2 a3 (z_lv_set1 a4 h1 hl') a5 a6 a7
  · -- astore_n
    rename_i k
    have e : len = 1 := by simpa [z_sok] using hok
    subst e
    obtain ⟨v, t, rfl, h2⟩ := z_pr_some.mp hr
    obtain ⟨h1, h2⟩ := z_sg_some.mp h2
    intro H locs mls cells slots a1 a2 a3 a4 a5 a6 a7
    have h4 : ∀ mls' : Array Slot, lv_has mls' c.maxLocals ((k.val, va_rf (z_ro base b v)) :: (z_ents base b ls).filter (fun q => !(q.1 == k.val) && !(q.1 + 1 == k.val && q.2.category == 2))) → W p l e R s m args below meth c H locs cells slots Q (F0 m (pc + 1) mls' (t.map (z_tv base b))) := fun mls' hl' => hK _ _ _ _ h2 H locs mls' cells slots a1 a2 a3 (z_lv_set1 (v := z_vr v) a4 h1 hl') a5 a6 a7
    show W p l e R s m args below meth c H locs cells slots Q (F0 m pc mls (va_rf (z_ro base b v) :: t.map (z_tv base b)))
    rcases hq : z_ro base b v with _ | w
    · rw [hq] at h4
      exact lv_astore_nN hx hb hdg rfl (z_lv_has a4) (by rw [← a4.2.1]; exact z_sk_lt h1) rfl h4
    · rw [hq] at h4
      exact lv_astore_n hx hb hdg rfl (z_lv_has a4) (by rw [← a4.2.1]; exact z_sk_lt h1) rfl h4
  · -- astore
    rename_i k
    have e : len = 2 := by simpa [z_sok] using hok
    subst e
    obtain ⟨v, t, rfl, h2⟩ := z_pr_some.mp hr
    obtain ⟨h1, h2⟩ := z_sg_some.mp h2
    intro H locs mls cells slots a1 a2 a3 a4 a5 a6 a7
    have h4 : ∀ mls' : Array Slot, lv_has mls' c.maxLocals ((k, va_rf (z_ro base b v)) :: (z_ents base b ls).filter (fun q => !(q.1 == k) && !(q.1 + 1 == k && q.2.category == 2))) → W p l e R s m args below meth c H locs cells slots Q (F0 m (pc + 2) mls' (t.map (z_tv base b))) := fun mls' hl' => hK _ _ _ _ h2 H locs mls' cells slots a1 a2 a3 (z_lv_set1 (v := z_vr v) a4 h1 hl') a5 a6 a7
    show W p l e R s m args below meth c H locs cells slots Q (F0 m pc mls (va_rf (z_ro base b v) :: t.map (z_tv base b)))
    rcases hq : z_ro base b v with _ | w
    · rw [hq] at h4
      exact lv_astoreN hx hb hdg (z_lv_has a4) (by rw [← a4.2.1]; exact z_sk_lt h1) rfl h4
    · rw [hq] at h4
      exact lv_astore hx hb hdg (z_lv_has a4) (by rw [← a4.2.1]; exact z_sk_lt h1) rfl h4
  · -- lstore_n
    rename_i k
    have e : len = 1 := by simpa [z_sok] using hok
    subst e
    obtain ⟨v, t, rfl, h2⟩ := z_pl_some.mp hr
    obtain ⟨h1, h2⟩ := z_sg_some.mp h2
    simp only [Bool.and_eq_true, Nat.blt_eq] at h1
    intro H locs mls cells slots a1 a2 a3 a4 a5 a6 a7
    refine lv_lstore_n hx hb hdg rfl (z_lv_has a4) (by rw [← a4.2.1]; exact h1.2) rfl (fun mls' hl' => ?_)
    exact hK _ _ _ _ h2 H locs mls' cells slots a1 a2 a3 (z_lv_set2 a4 h1.1 hl') a5 a6 a7
  · -- iinc
    rename_i k n
    have e : len = 3 := by simpa [z_sok] using hok
    subst e
    obtain ⟨v, h1, h2⟩ := z_ldi_some.mp hr
    obtain ⟨h3, h2⟩ := z_sg_some.mp h2
    intro H locs mls cells slots a1 a2 a3 a4 a5 a6 a7
    obtain ⟨j, hj⟩ := List.getElem?_of_mem ((z_ents_mem (base := base) (b := b)).mpr ⟨_, h1, rfl⟩)
    refine lv_iinc hx hb hdg (z_lv_has a4) (k := j) hj rfl (by rw [← a4.2.1]; exact z_sk_lt h3) rfl (fun mls' hl' => ?_)
    exact hK _ _ _ _ h2 H locs mls' cells slots a1 a2 a3 (z_lv_set1 (v := z_vi _) a4 h3 hl') a5 a6 a7
  · -- iconst
    have e : len = 1 := by simpa [z_sok] using hok
    subst e
    intro H locs mls cells slots a1 a2 a3 a4 a5 a6 a7
    exact lv_iconst hx hb hdg rfl (hK _ _ _ _ hr H locs mls cells slots a1 a2 a3 a4 a5 a6 a7)
  · -- bipush
    have e : len = 2 := by simpa [z_sok] using hok
    subst e
    intro H locs mls cells slots a1 a2 a3 a4 a5 a6 a7
    exact lv_bipush hx hb hdg rfl (hK _ _ _ _ hr H locs mls cells slots a1 a2 a3 a4 a5 a6 a7)
  · -- sipush
    have e : len = 3 := by simpa [z_sok] using hok
    subst e
    intro H locs mls cells slots a1 a2 a3 a4 a5 a6 a7
    exact lv_sipush hx hb hdg rfl (hK _ _ _ _ hr H locs mls cells slots a1 a2 a3 a4 a5 a6 a7)
  · -- lconst
    have e : len = 1 := by simpa [z_sok] using hok
    subst e
    intro H locs mls cells slots a1 a2 a3 a4 a5 a6 a7
    exact lv_lconst hx hb hdg rfl (hK _ _ _ _ hr H locs mls cells slots a1 a2 a3 a4 a5 a6 a7)
  · -- ldc
    have e : len = 2 := by simpa [z_sok] using hok
    subst e
    intro H locs mls cells slots a1 a2 a3 a4 a5 a6 a7
    exact lv_ldc hx hb hown (hwW _ hw rfl) hdg (hK _ _ _ _ hr H locs mls cells slots a1 a2 a3 a4 a5 a6 a7)
  · -- ldc2_w
    have e : len = 3 := by simpa [z_sok] using hok
    subst e
    intro H locs mls cells slots a1 a2 a3 a4 a5 a6 a7
    exact lv_ldc2 hx hb hown (hwW _ hw rfl) hdg (hK _ _ _ _ hr H locs mls cells slots a1 a2 a3 a4 a5 a6 a7)
  · -- pop
    have e : len = 1 := by simpa [z_sok] using hok
    subst e
    split at hr
    · rename_i v t
      obtain ⟨h1, h2⟩ := z_sg_some.mp hr
      intro H locs mls cells slots a1 a2 a3 a4 a5 a6 a7
      exact lv_pop hx hb hdg (z_tv_cat1 (z_beq h1)) (hK _ _ _ _ h2 H locs mls cells slots a1 a2 a3 a4 a5 a6 a7)
    · cases hr
  · -- dup
    have e : len = 1 := by simpa [z_sok] using hok
    subst e
    split at hr
    · rename_i v t
      obtain ⟨h1, h2⟩ := z_sg_some.mp hr
      intro H locs mls cells slots a1 a2 a3 a4 a5 a6 a7
      exact lv_dup hx hb hdg (z_tv_cat1 (z_beq h1)) (hK _ _ _ _ h2 H locs mls cells slots a1 a2 a3 a4 a5 a6 a7)
    · cases hr
  · -- dup2
    have e : len = 1 := by simpa [z_sok] using hok
    subst e
    split at hr
    · rename_i v t
      intro H locs mls cells slots a1 a2 a3 a4 a5 a6 a7
      exact lv_dup2_2 hx hb hdg rfl (hK _ _ _ _ hr H locs mls cells slots a1 a2 a3 a4 a5 a6 a7)
    · rename_i v w t _
      obtain ⟨h1, h2⟩ := z_sg_some.mp hr
      simp only [Bool.and_eq_true] at h1
      intro H locs mls cells slots a1 a2 a3 a4 a5 a6 a7
      exact lv_dup2_11 hx hb hdg (z_tv_cat1 (z_beq h1.1)) (z_tv_cat1 (z_beq h1.2)) (hK _ _ _ _ h2 H locs mls cells slots a1 a2 a3 a4 a5 a6 a7)
    · cases hr
  · cases hr
theorem z_sn1 (X : z_Cx p s m args meth c D cy base b sc M) (hdg : decode (z_bM M) pc = .ok (ins, len)) (hok : z_sok M pc len 1 ins x y z = true) (hr : z_i1 K ins pc ls st h = some r) (hK : ∀ pc' ls' st' h', K pc' ls' st' h' = some r → z_at p l e R s m args below meth c Q D cy base b n0 pc' ls' st' h') : z_at p l e R s m args below meth c Q D cy base b n0 pc ls st h := by
  obtain ⟨hx, hb, hml, hown, hts, hKK, hin, hscr, hbs⟩ := X
  unfold z_i1 at hr
  split at hr
  case h_23 => cases hr
  all_goals
    have e : len = 1 := by simpa [z_sok] using hok
    subst e
    first
    | (obtain ⟨w, t, rfl, h2⟩ := z_pi_some.mp hr
       obtain ⟨v, t, rfl, h2⟩ := z_pi_some.mp h2
       intro H locs mls cells slots a1 a2 a3 a4 a5 a6 a7
       first
       | exact lv_iadd hx hb hdg (hK _ _ _ _ h2 H locs mls cells slots a1 a2 a3 a4 a5 a6 a7)
       | exact lv_isub hx hb hdg (hK _ _ _ _ h2 H locs mls cells slots a1 a2 a3 a4 a5 a6 a7)
       | exact lv_imul hx hb hdg (hK _ _ _ _ h2 H locs mls cells slots a1 a2 a3 a4 a5 a6 a7)
       | exact lv_iand hx hb hdg (hK _ _ _ _ h2 H locs mls cells slots a1 a2 a3 a4 a5 a6 a7)
       | exact lv_ior hx hb hdg (hK _ _ _ _ h2 H locs mls cells slots a1 a2 a3 a4 a5 a6 a7)
       | exact lv_ixor hx hb hdg (hK _ _ _ _ h2 H locs mls cells slots a1 a2 a3 a4 a5 a6 a7)
       | exact lv_ishl hx hb hdg (hK _ _ _ _ h2 H locs mls cells slots a1 a2 a3 a4 a5 a6 a7)
       | exact lv_ishr hx hb hdg (hK _ _ _ _ h2 H locs mls cells slots a1 a2 a3 a4 a5 a6 a7)
       | (obtain ⟨h1, h2⟩ := z_gd_some.mp h2
          have h1 : ¬ w = 0 := by simpa using h1
          first
          | exact lv_idiv hx hb hdg h1 (hK _ _ _ _ h2 H locs mls cells slots a1 a2 a3 a4 a5 a6 a7)
          | exact lv_irem hx hb hdg h1 (hK _ _ _ _ h2 H locs mls cells slots a1 a2 a3 a4 a5 a6 a7)))
    | (obtain ⟨w, t, rfl, h2⟩ := z_pl_some.mp hr
       obtain ⟨v, t, rfl, h2⟩ := z_pl_some.mp h2
       intro H locs mls cells slots a1 a2 a3 a4 a5 a6 a7
       first
       | exact lv_ladd hx hb hdg (hK _ _ _ _ h2 H locs mls cells slots a1 a2 a3 a4 a5 a6 a7)
       | exact lv_lmul hx hb hdg (hK _ _ _ _ h2 H locs mls cells slots a1 a2 a3 a4 a5 a6 a7)
       | exact lv_land hx hb hdg (hK _ _ _ _ h2 H locs mls cells slots a1 a2 a3 a4 a5 a6 a7)
       | exact lv_lor hx hb hdg (hK _ _ _ _ h2 H locs mls cells slots a1 a2 a3 a4 a5 a6 a7)
       | exact W.lcmp hx hb hdg (hK _ _ _ _ h2 H locs mls cells slots a1 a2 a3 a4 a5 a6 a7)
       | (obtain ⟨h1, h2⟩ := z_gd_some.mp h2
          have h1 : ¬ w = 0 := by simpa using h1
          exact lv_ldiv hx hb hdg h1 (hK _ _ _ _ h2 H locs mls cells slots a1 a2 a3 a4 a5 a6 a7)))
    | (obtain ⟨w, t, rfl, h2⟩ := z_pi_some.mp hr
       obtain ⟨v, t, rfl, h2⟩ := z_pl_some.mp h2
       intro H locs mls cells slots a1 a2 a3 a4 a5 a6 a7
       first
       | exact lv_lshl hx hb hdg rfl (hK _ _ _ _ h2 H locs mls cells slots a1 a2 a3 a4 a5 a6 a7)
       | exact lv_lshr hx hb hdg rfl (hK _ _ _ _ h2 H locs mls cells slots a1 a2 a3 a4 a5 a6 a7))
    | (obtain ⟨w, t, rfl, h2⟩ := z_pi_some.mp hr
       intro H locs mls cells slots a1 a2 a3 a4 a5 a6 a7
       first
       | exact lv_ineg hx hb hdg (hK _ _ _ _ h2 H locs mls cells slots a1 a2 a3 a4 a5 a6 a7)
       | exact lv_i2l hx hb hdg rfl (hK _ _ _ _ h2 H locs mls cells slots a1 a2 a3 a4 a5 a6 a7)
       | exact lv_i2b hx hb hdg rfl (hK _ _ _ _ h2 H locs mls cells slots a1 a2 a3 a4 a5 a6 a7))
    | (obtain ⟨w, t, rfl, h2⟩ := z_pl_some.mp hr
       intro H locs mls cells slots a1 a2 a3 a4 a5 a6 a7
       exact lv_l2i hx hb hdg rfl (hK _ _ _ _ h2 H locs mls cells slots a1 a2 a3 a4 a5 a6 a7))
theorem z_tg_of {pc : Nat} {o : Int} (h : z_tgo pc o = true) : (pc : Int) + o = (z_tg pc o : Int) := by
  unfold z_tgo at h
  have h := of_decide_eq_true h
  unfold z_tg
  omega
theorem z_i32_of {v : Int} (h : z_i32 v = true) : (Int32.ofInt v).toInt = v := by
  unfold z_i32 at h
  simp only [Bool.and_eq_true, decide_eq_true_eq] at h
  rw [Int32.toInt_ofInt]
  have e9 : Int32.size = 4294967296 := rfl
  exact Int.bmod_eq_of_le (by omega) (by omega)
theorem z_sw_look {K : Nat → z_O} {pc : Nat} {v : Int32} {d : Int} : ∀ {ps : List (Int × Int)}, ps.all (fun q => z_tgo pc q.2 && z_i32 q.1) = true → z_tgo pc d = true → z_sw K pc v d ps = some r → ∃ tgt : Nat, (pc : Int) + Op.lookupswitch.offset ps d v.toInt = (tgt : Int) ∧ K tgt = some r
  | [], _, hd, hs => ⟨z_tg pc d, z_tg_of hd, hs⟩
  | q :: t, ha, hd, hs => by
    rw [List.all_cons, Bool.and_eq_true, Bool.and_eq_true] at ha
    obtain ⟨⟨h1, h2⟩, h3⟩ := ha
    unfold z_sw at hs
    by_cases e : v = Int32.ofInt q.1
    · rw [if_pos e] at hs
      refine ⟨z_tg pc q.2, ?_, hs⟩
      have : q.1 = v.toInt := by rw [e, z_i32_of h2]
      rw [← z_tg_of h1]
      congr 1
      simp [Op.lookupswitch.offset, this]
    · rw [if_neg e] at hs
      obtain ⟨tgt, h4, h5⟩ := z_sw_look h3 hd hs
      refine ⟨tgt, ?_, h5⟩
      rw [← h4]
      congr 1
      have : ¬ q.1 = v.toInt := fun q9 => e (by rw [q9]; simp)
      simp [Op.lookupswitch.offset, this]
theorem z_br_some {cd : Jvm.ClassFile.Cond} {v w : Int32} {A B : z_O} (h : z_br cd v w A B = some r) : (match cd with
    | .eq => (v = w ∧ A = some r) ∨ (¬ v = w ∧ B = some r)
    | .ne => (v ≠ w ∧ A = some r) ∨ (¬ v ≠ w ∧ B = some r)
    | .lt => (v < w ∧ A = some r) ∨ (¬ v < w ∧ B = some r)
    | .ge => (w ≤ v ∧ A = some r) ∨ (¬ w ≤ v ∧ B = some r)
    | .gt => (w < v ∧ A = some r) ∨ (¬ w < v ∧ B = some r)
    | .le => (v ≤ w ∧ A = some r) ∨ (¬ v ≤ w ∧ B = some r)) := by
  unfold z_br at h
  cases cd
  · dsimp only at h ⊢
    split at h
    · exact Or.inl ⟨by assumption, h⟩
    · exact Or.inr ⟨by assumption, h⟩
  · dsimp only at h ⊢
    split at h
    · exact Or.inr ⟨fun q => q (by assumption), h⟩
    · exact Or.inl ⟨by assumption, h⟩
  · dsimp only at h ⊢
    split at h
    · exact Or.inl ⟨by assumption, h⟩
    · exact Or.inr ⟨by assumption, h⟩
  · dsimp only at h ⊢
    split at h
    · rename_i q
      exact Or.inr ⟨fun q2 => absurd q (Int32.not_lt.mpr q2), h⟩
    · rename_i q
      exact Or.inl ⟨Int32.not_lt.mp q, h⟩
  · dsimp only at h ⊢
    split at h
    · exact Or.inl ⟨by assumption, h⟩
    · exact Or.inr ⟨by assumption, h⟩
  · dsimp only at h ⊢
    split at h
    · rename_i q
      exact Or.inr ⟨fun q2 => absurd q (Int32.not_lt.mpr q2), h⟩
    · rename_i q
      exact Or.inl ⟨Int32.not_lt.mp q, h⟩
theorem z_tp_in {x lo d : Int} {pc : Nat} {v : Int32} {K : Nat → z_O} : ∀ {os : List Int} {lo : Int}, os.all (z_tgo pc) = true → z_tgo pc d = true → -2147483648 ≤ lo → lo + (os.length : Int) ≤ 2147483648 → z_sw K pc v d (z_tp lo os) = some r → (∃ off, lo ≤ v.toInt ∧ os[(v.toInt - lo).toNat]? = some off ∧ v.toInt < lo + os.length ∧ K (z_tg pc off) = some r ∧ z_tgo pc off = true) ∨ ((v.toInt < lo ∨ lo + os.length ≤ v.toInt) ∧ K (z_tg pc d) = some r)
  | [], lo, _, hd, _, _, hs => Or.inr ⟨by simp; omega, hs⟩
  | o :: t, lo, ha, hd, hl, hh, hs => by
    rw [List.all_cons, Bool.and_eq_true] at ha
    rw [List.length_cons] at hh
    unfold z_tp z_sw at hs
    have e1 : (Int32.ofInt lo).toInt = lo := by
      rw [Int32.toInt_ofInt]
      have e9 : Int32.size = 4294967296 := rfl
      exact Int.bmod_eq_of_le (by omega) (by omega)
    by_cases e : v = Int32.ofInt lo
    · rw [if_pos e] at hs
      have e2 : v.toInt = lo := by rw [e, e1]
      exact Or.inl ⟨o, by omega, by rw [e2]; simp, by rw [List.length_cons]; omega, hs, ha.1⟩
    · rw [if_neg e] at hs
      have e2 : ¬ v.toInt = lo := fun q => e (by rw [← q]; simp)
      rcases z_tp_in (x := x) (lo := lo) ha.2 hd (by omega) (by omega) hs with ⟨off, h1, h2, h3, h4, h5⟩ | ⟨h1, h2⟩
      · refine Or.inl ⟨off, by omega, ?_, by rw [List.length_cons]; omega, h4, h5⟩
        rw [show (v.toInt - lo).toNat = (v.toInt - (lo + 1)).toNat + 1 by omega, List.getElem?_cons_succ]
        exact h2
      · exact Or.inr ⟨by rw [List.length_cons]; omega, h2⟩
theorem z_sn2 (X : z_Cx p s m args meth c D cy base b sc M) (hdg : decode (z_bM M) pc = .ok (ins, len)) (hok : z_sok M pc len 2 ins x y z = true) (hr : z_i2 K ins z pc ls st h = some r) (hK : ∀ pc' ls' st' h', K pc' ls' st' h' = some r → z_at p l e R s m args below meth c Q D cy base b n0 pc' ls' st' h')
    (hri : ∀ pc ls v h, r = (some (z_vi v), h) → decode (z_bM M) pc = .ok (.ireturn, 1) → (z_rM M = some .boolean ∧ z_bo v = true ∨ z_rM M = some .int) → z_at p l e R s m args below meth c Q D cy base b n0 pc ls [z_vi v] h)
    (hrl : ∀ pc ls v h, r = (some (z_vl v), h) → decode (z_bM M) pc = .ok (.lreturn, 1) → z_rM M = some .long → z_at p l e R s m args below meth c Q D cy base b n0 pc ls [z_vl v] h)
    (hrv : ∀ pc ls h, r = (none, h) → decode (z_bM M) pc = .ok (.return_, 1) → z_rM M = none → z_at p l e R s m args below meth c Q D cy base b n0 pc ls [] h) : z_at p l e R s m args below meth c Q D cy base b n0 pc ls st h := by
  obtain ⟨hx, hb, hml, hown, hts, hKK, hin, hscr, hbs⟩ := X
  unfold z_i2 at hr
  split at hr
  · rename_i cd o
    have hok : len = 3 ∧ z_tgo pc o = true := by simpa [z_sok] using hok
    obtain ⟨e, hto⟩ := hok
    subst e
    obtain ⟨w, t, rfl, h2⟩ := z_pi_some.mp hr
    obtain ⟨v, t, rfl, h2⟩ := z_pi_some.mp h2
    have h3 := z_br_some h2
    intro H locs mls cells slots a1 a2 a3 a4 a5 a6 a7
    have go : ∀ {pc' ls' st' h'}, K pc' ls' st' h' = some r → z_at p l e R s m args below meth c Q D cy base b n0 pc' ls' st' h' := hK _ _ _ _
    cases cd
    · exact lv_icmp_eq hx hb hdg (z_tg_of hto) (fun q => h3.elim (fun u => hK _ _ _ _ u.2 H locs mls cells slots a1 a2 a3 a4 a5 a6 a7) (fun u => absurd q u.1)) (fun q => h3.elim (fun u => absurd u.1 q) (fun u => hK _ _ _ _ u.2 H locs mls cells slots a1 a2 a3 a4 a5 a6 a7))
    · exact lv_icmp_ne hx hb hdg (z_tg_of hto) (fun q => h3.elim (fun u => hK _ _ _ _ u.2 H locs mls cells slots a1 a2 a3 a4 a5 a6 a7) (fun u => absurd q u.1)) (fun q => h3.elim (fun u => absurd q u.1) (fun u => hK _ _ _ _ u.2 H locs mls cells slots a1 a2 a3 a4 a5 a6 a7))
    · exact lv_icmp_lt hx hb hdg (z_tg_of hto) (fun q => h3.elim (fun u => hK _ _ _ _ u.2 H locs mls cells slots a1 a2 a3 a4 a5 a6 a7) (fun u => absurd q u.1)) (fun q => h3.elim (fun u => absurd u.1 q) (fun u => hK _ _ _ _ u.2 H locs mls cells slots a1 a2 a3 a4 a5 a6 a7))
    · exact lv_icmp_ge hx hb hdg (z_tg_of hto) (fun q => h3.elim (fun u => hK _ _ _ _ u.2 H locs mls cells slots a1 a2 a3 a4 a5 a6 a7) (fun u => absurd q u.1)) (fun q => h3.elim (fun u => absurd u.1 q) (fun u => hK _ _ _ _ u.2 H locs mls cells slots a1 a2 a3 a4 a5 a6 a7))
    · exact lv_icmp_gt hx hb hdg (z_tg_of hto) (fun q => h3.elim (fun u => hK _ _ _ _ u.2 H locs mls cells slots a1 a2 a3 a4 a5 a6 a7) (fun u => absurd q u.1)) (fun q => h3.elim (fun u => absurd u.1 q) (fun u => hK _ _ _ _ u.2 H locs mls cells slots a1 a2 a3 a4 a5 a6 a7))
    · exact lv_icmp_le hx hb hdg (z_tg_of hto) (fun q => h3.elim (fun u => hK _ _ _ _ u.2 H locs mls cells slots a1 a2 a3 a4 a5 a6 a7) (fun u => absurd q u.1)) (fun q => h3.elim (fun u => absurd u.1 q) (fun u => hK _ _ _ _ u.2 H locs mls cells slots a1 a2 a3 a4 a5 a6 a7))
  · rename_i cd o
    have hok : len = 3 ∧ z_tgo pc o = true := by simpa [z_sok] using hok
    obtain ⟨e, hto⟩ := hok
    subst e
    obtain ⟨v, t, rfl, h2⟩ := z_pi_some.mp hr
    have h3 := z_br_some h2
    intro H locs mls cells slots a1 a2 a3 a4 a5 a6 a7
    cases cd
    · exact lv_if_eq hx hb hdg (z_tg_of hto) (fun q => h3.elim (fun u => hK _ _ _ _ u.2 H locs mls cells slots a1 a2 a3 a4 a5 a6 a7) (fun u => absurd q u.1)) (fun q => h3.elim (fun u => absurd u.1 q) (fun u => hK _ _ _ _ u.2 H locs mls cells slots a1 a2 a3 a4 a5 a6 a7))
    · exact lv_if_ne hx hb hdg (z_tg_of hto) (fun q => h3.elim (fun u => hK _ _ _ _ u.2 H locs mls cells slots a1 a2 a3 a4 a5 a6 a7) (fun u => absurd q u.1)) (fun q => h3.elim (fun u => absurd q u.1) (fun u => hK _ _ _ _ u.2 H locs mls cells slots a1 a2 a3 a4 a5 a6 a7))
    · exact lv_if_lt hx hb hdg (z_tg_of hto) (fun q => h3.elim (fun u => hK _ _ _ _ u.2 H locs mls cells slots a1 a2 a3 a4 a5 a6 a7) (fun u => absurd q u.1)) (fun q => h3.elim (fun u => absurd u.1 q) (fun u => hK _ _ _ _ u.2 H locs mls cells slots a1 a2 a3 a4 a5 a6 a7))
    · exact lv_if_ge hx hb hdg (z_tg_of hto) (fun q => h3.elim (fun u => hK _ _ _ _ u.2 H locs mls cells slots a1 a2 a3 a4 a5 a6 a7) (fun u => absurd q u.1)) (fun q => h3.elim (fun u => absurd u.1 q) (fun u => hK _ _ _ _ u.2 H locs mls cells slots a1 a2 a3 a4 a5 a6 a7))
    · exact lv_if_gt hx hb hdg (z_tg_of hto) (fun q => h3.elim (fun u => hK _ _ _ _ u.2 H locs mls cells slots a1 a2 a3 a4 a5 a6 a7) (fun u => absurd q u.1)) (fun q => h3.elim (fun u => absurd u.1 q) (fun u => hK _ _ _ _ u.2 H locs mls cells slots a1 a2 a3 a4 a5 a6 a7))
    · exact lv_if_le hx hb hdg (z_tg_of hto) (fun q => h3.elim (fun u => hK _ _ _ _ u.2 H locs mls cells slots a1 a2 a3 a4 a5 a6 a7) (fun u => absurd q u.1)) (fun q => h3.elim (fun u => absurd u.1 q) (fun u => hK _ _ _ _ u.2 H locs mls cells slots a1 a2 a3 a4 a5 a6 a7))
  · rename_i o
    have hok : len = 3 ∧ z_tgo pc o = true := by simpa [z_sok] using hok
    obtain ⟨e, hto⟩ := hok
    subst e
    intro H locs mls cells slots a1 a2 a3 a4 a5 a6 a7
    exact lv_goto hx hb hdg (z_tg_of hto) (hK _ _ _ _ hr H locs mls cells slots a1 a2 a3 a4 a5 a6 a7)
  · rename_i d lo hi os
    have hok : (((z_tgo pc d = true ∧ os.toList.all (z_tgo pc) = true) ∧ z_i32 lo = true) ∧ z_i32 hi = true) ∧ hi = lo + (os.size : Int) - 1 := by
      unfold z_sok at hok
      simp only [Bool.and_eq_true, decide_eq_true_eq] at hok
      exact ⟨⟨⟨⟨hok.1.1.1.1.2, hok.1.1.1.2⟩, hok.1.1.2⟩, hok.1.2⟩, hok.2⟩
    obtain ⟨⟨⟨⟨k1, k2⟩, k3⟩, k4⟩, k5⟩ := hok
    obtain ⟨v, t, rfl, h2⟩ := z_pi_some.mp hr
    have k3' : -2147483648 ≤ lo := by
      unfold z_i32 at k3
      simp only [Bool.and_eq_true, decide_eq_true_eq] at k3
      exact k3.1
    have k4' : hi < 2147483648 := by
      unfold z_i32 at k4
      simp only [Bool.and_eq_true, decide_eq_true_eq] at k4
      exact k4.2
    have ks : (os.toList.length : Int) = os.size := by simp
    intro H locs mls cells slots a1 a2 a3 a4 a5 a6 a7
    rcases z_tp_in (x := 0) (lo := lo) k2 k1 k3' (by omega) h2 with ⟨off, h1, h3, h4, h5, h6⟩ | ⟨h1, h3⟩
    · exact lv_tableIn hx hb hdg (by omega) (by omega) (by rw [← h3]; simp) (z_tg_of h6) (hK _ _ _ _ h5 H locs mls cells slots a1 a2 a3 a4 a5 a6 a7)
    · exact lv_tableOut hx hb hdg (by omega) (z_tg_of k1) (hK _ _ _ _ h3 H locs mls cells slots a1 a2 a3 a4 a5 a6 a7)
  · rename_i d ps
    unfold z_sok at hok
    simp only [Bool.and_eq_true] at hok
    obtain ⟨⟨⟨-, k1⟩, k2⟩, k3⟩ := hok
    obtain ⟨v, t, rfl, h2⟩ := z_pi_some.mp hr
    obtain ⟨tgt, h3, h4⟩ := z_sw_look k2 k1 h2
    intro H locs mls cells slots a1 a2 a3 a4 a5 a6 a7
    exact lv_lookup hx hb hdg k3 rfl h3 (hK _ _ _ _ h4 H locs mls cells slots a1 a2 a3 a4 a5 a6 a7)
  · split at hr
    · rename_i v
      unfold z_sok at hok
      simp only [Bool.and_eq_true] at hok
      obtain ⟨⟨k1, -⟩, k2⟩ := hok
      have e := z_beq k1
      subst e
      split at hr
      · obtain ⟨h1, h2⟩ := z_gd_some.mp hr
        exact hri _ _ _ _ (Option.some.inj h2).symm hdg (Or.inl ⟨of_decide_eq_true k2, h1⟩)
      · split at k2
        · exact absurd rfl (by assumption)
        · exact hri _ _ _ _ (Option.some.inj hr).symm hdg (Or.inr (of_decide_eq_true k2))
        · cases k2
    · cases hr
  · split at hr
    · rename_i v
      unfold z_sok at hok
      simp only [Bool.and_eq_true] at hok
      obtain ⟨⟨k1, -⟩, k2⟩ := hok
      have e := z_beq k1
      subst e
      exact hrl _ _ _ _ (Option.some.inj hr).symm hdg (of_decide_eq_true k2)
    · cases hr
  · split at hr
    · unfold z_sok at hok
      simp only [Bool.and_eq_true] at hok
      obtain ⟨⟨k1, -⟩, k2⟩ := hok
      have e := z_beq k1
      subst e
      exact hrv _ _ _ (Option.some.inj hr).symm hdg (of_decide_eq_true k2)
    · cases hr
  · cases hr
end SN
