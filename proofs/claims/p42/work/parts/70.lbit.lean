/-! bits of a long -/
theorem lb_amt : ∀ n, n < 64 → (((Int32.ofInt (n : Nat)).toInt64 &&& 63).toBitVec.smod 64).toNat = n := by decide +kernel
theorem y_lcmp_0 {a b : Int64} : y_lcmp a b = 0 ↔ a = b := by
  unfold y_lcmp lg_cmp
  by_cases h1 : a > b
  · rw [if_pos h1]
    refine ⟨fun q => absurd q (by decide), fun q => ?_⟩
    subst q
    exact absurd h1 (by rw [gt_iff_lt, Int64.lt_iff_toInt_lt]; omega)
  · rw [if_neg h1]
    by_cases h2 : a = b
    · rw [if_pos h2]; exact ⟨fun _ => h2, fun _ => by decide⟩
    · rw [if_neg h2]; exact ⟨fun q => absurd q (by decide), fun q => absurd q h2⟩
theorem lb_one : ∀ i, i < 64 → (1#64).getLsbD i = decide (i = 0) := by decide +kernel
theorem lb_iff {j : Int64} {s : Int} (hs : 0 ≤ s ∧ s < 64) : u_lb j s ↔ j.toBitVec.getLsbD s.toNat = true := by
  have e3 := lb_amt s.toNat (by omega)
  rw [show (s.toNat : Int) = s by omega] at e3
  have e2 : (y_lshr j s).toBitVec = j.toBitVec.sshiftRight s.toNat := by
    show j.toBitVec.sshiftRight' (((Int32.ofInt s).toInt64 &&& 63).toBitVec.smod 64) = _
    rw [BitVec.sshiftRight', e3]
  have e4 : ((y_lshr j s) &&& (Int64.ofNat 1)).toBitVec = j.toBitVec.sshiftRight s.toNat &&& 1#64 := by
    rw [Int64.toBitVec_and, e2]
    rfl
  have e6 : (j.toBitVec.sshiftRight s.toNat).getLsbD 0 = j.toBitVec.getLsbD s.toNat := by
    rw [BitVec.getLsbD_sshiftRight, if_pos (by omega)]
    simp
  unfold u_lb
  rw [y_lcmp_0]
  constructor
  · intro h
    refine Classical.byContradiction fun q => h ?_
    apply Int64.toBitVec_inj.mp
    rw [e4]
    apply BitVec.eq_of_getLsbD_eq
    intro i hi
    rw [BitVec.getLsbD_and, lb_one i hi]
    by_cases e : i = 0
    · subst e
      rw [e6]
      simp at q
      rw [q]
      rfl
    · simp [e]
  · intro h q
    have e7 : ((y_lshr j s) &&& (Int64.ofNat 1)).toBitVec.getLsbD 0 = false := by
      rw [q]
      decide
    rw [e4, BitVec.getLsbD_and, e6, h, lb_one 0 (by omega)] at e7
    exact absurd e7 (by decide)
theorem lb_shl {t s : Int} (ht : 0 ≤ t ∧ t < 64) (hs : 0 ≤ s ∧ s < 64) : (y_lshl (Int64.ofNat 1) t).toBitVec.getLsbD s.toNat = decide (s = t) := by
  have e3 := lb_amt t.toNat (by omega)
  rw [show (t.toNat : Int) = t by omega] at e3
  have e2 : (y_lshl (Int64.ofNat 1) t).toBitVec = 1#64 <<< t.toNat := by
    show 1#64 <<< (((Int32.ofInt t).toInt64 &&& 63).toBitVec.smod 64) = _
    rw [BitVec.shiftLeft_eq', e3]
  rw [e2, BitVec.getLsbD_shiftLeft]
  by_cases c : s = t
  · subst c
    rw [lb_one _ (by omega)]
    simp
    omega
  · by_cases c2 : s < t
    · have : decide (s.toNat < t.toNat) = true := by simp; omega
      rw [this]
      simp [c]
    · rw [lb_one _ (by omega)]
      have : ¬ (s.toNat - t.toNat = 0) := by omega
      simp [c, this]
theorem lb_or {j : Int64} {s t : Int} (ht : 0 ≤ t ∧ t < 64) (hs : 0 ≤ s ∧ s < 64) : u_lb (j ||| y_lshl (Int64.ofNat 1) t) s ↔ (u_lb j s ∨ s = t) := by
  rw [lb_iff hs, lb_iff hs, Int64.toBitVec_or, BitVec.getLsbD_or, lb_shl ht hs]
  simp
