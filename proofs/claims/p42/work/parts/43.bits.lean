/-! SETS OF SMALL NUMBERS as bits -/
def u_bs (s k : Int) : Prop := (Int32.ofInt s).toBitVec.getLsbD k.toNat = true
theorem ub_of (x : Int32) : (Int32.ofInt x.toInt).toBitVec = x.toBitVec := by rw [Int32.ofInt_toInt]
theorem ub_and {a b k : Int} : u_bs (y_and a b) k ↔ (u_bs a k ∧ u_bs b k) := by
  unfold u_bs y_and
  rw [ub_of, Int32.toBitVec_and, BitVec.getLsbD_and, Bool.and_eq_true]
theorem ub_or {a b k : Int} : u_bs (y_or a b) k ↔ (u_bs a k ∨ u_bs b k) := by
  unfold u_bs y_or
  rw [ub_of, Int32.toBitVec_or, BitVec.getLsbD_or, Bool.or_eq_true]
theorem ub_not {a k : Int} (hk : 0 ≤ k ∧ k < 32) : u_bs (y_xor a (-1)) k ↔ ¬ u_bs a k := by
  unfold u_bs y_xor
  have h1 : (Int32.ofInt (-1)).toBitVec = BitVec.allOnes 32 := by decide
  rw [ub_of, Int32.toBitVec_xor, BitVec.getLsbD_xor, h1, BitVec.getLsbD_allOnes]
  have : decide (k.toNat < 32) = true := decide_eq_true (by omega)
  rw [this]
  cases (Int32.ofInt a).toBitVec.getLsbD k.toNat <;> simp
theorem ub_0 {k : Int} : ¬ u_bs 0 k := by
  unfold u_bs
  have h1 : (Int32.ofInt 0).toBitVec = 0#32 := by decide
  rw [h1, BitVec.getLsbD_zero]
  decide
theorem ub_shl {n k : Int} (hn : 0 ≤ n ∧ n < 32) (hk : 0 ≤ k ∧ k < 32) : u_bs (y_shl 1 n) k ↔ k = n := by
  have key : ∀ n, n < 32 → ∀ k, k < 32 → ((Int32.ofInt ((Int32.ofInt 1 <<< (Int32.ofInt (n : Nat) &&& 31)).toInt)).toBitVec.getLsbD k = decide (k = n)) := by decide +kernel
  have := key n.toNat (by omega) k.toNat (by omega)
  unfold u_bs y_shl
  rw [show (n.toNat : Int) = n by omega] at this
  rw [this, decide_eq_true_eq]
  omega
theorem ub_ext {a b : Int} (ha : y_inr a) (hb : y_inr b) (h : ∀ k, 0 ≤ k → k < 32 → (u_bs a k ↔ u_bs b k)) : a = b := by
  rw [← y_toInt ha, ← y_toInt hb]
  congr 1
  apply Int32.toBitVec_inj.mp
  apply BitVec.eq_of_getLsbD_eq
  intro i hi
  have := h i (by omega) (by omega)
  unfold u_bs at this
  rw [Int.toNat_natCast] at this
  exact Bool.eq_iff_iff.mpr this
theorem ub_eq0 {a : Int} (ha : y_inr a) : a = 0 ↔ ∀ k, 0 ≤ k → k < 32 → ¬ u_bs a k :=
  ⟨fun e k _ _ => by rw [e]; exact ub_0, fun h => ub_ext ha (by unfold y_inr; omega) fun k h1 h2 => ⟨fun g => absurd g (h k h1 h2), fun g => absurd g ub_0⟩⟩
theorem ub_sub {a b : Int} : y_and a (y_xor b (-1)) = 0 ↔ ∀ k, 0 ≤ k → k < 32 → u_bs a k → u_bs b k := by
  rw [ub_eq0 (a := y_and a (y_xor b (-1))) (y_inr_to _)]
  constructor
  · intro h k h1 h2 g
    have := h k h1 h2
    rw [ub_and, ub_not ⟨h1, h2⟩] at this
    exact Classical.byContradiction fun q => this ⟨g, q⟩
  · intro h k h1 h2 g
    rw [ub_and, ub_not ⟨h1, h2⟩] at g
    exact g.2 (h k h1 h2 g.1)
theorem ub_shamt : ∀ n, n < 32 → ((Int32.ofInt (n : Nat) &&& 31).toBitVec.smod 32).toNat = n := by decide +kernel
theorem ub_has {s k : Int} (hk : 0 ≤ k ∧ k < 32) : y_and (y_shr s k) 1 = y_bi (u_bs s k) := by
  have hb : ∀ j, 0 ≤ j → j < 32 → (u_bs (y_and (y_shr s k) 1) j ↔ (j = 0 ∧ u_bs s k)) := by
    intro j h1 h2
    rw [ub_and]
    have e1 : u_bs 1 j ↔ j = 0 := by
      have := ub_shl (n := 0) (k := j) (by omega) ⟨h1, h2⟩
      rwa [show y_shl 1 0 = 1 by decide] at this
    rw [e1]
    constructor
    · rintro ⟨g, rfl⟩
      refine ⟨rfl, ?_⟩
      unfold u_bs y_shr at g
      rw [ub_of] at g
      have e2 : (Int32.ofInt s >>> (Int32.ofInt k &&& 31)).toBitVec = (Int32.ofInt s).toBitVec.sshiftRight' ((Int32.ofInt k &&& 31).toBitVec.smod 32) := rfl
      have e3 := ub_shamt k.toNat (by omega)
      rw [show (k.toNat : Int) = k by omega] at e3
      rw [e2, BitVec.sshiftRight'] at g
      rw [e3, BitVec.getLsbD_sshiftRight] at g
      unfold u_bs
      have e4 : k.toNat + Int.toNat 0 < 32 := by simp; omega
      rw [if_pos e4] at g
      simpa using g
    · rintro ⟨rfl, g⟩
      refine ⟨?_, rfl⟩
      unfold u_bs y_shr
      rw [ub_of]
      have e2 : (Int32.ofInt s >>> (Int32.ofInt k &&& 31)).toBitVec = (Int32.ofInt s).toBitVec.sshiftRight' ((Int32.ofInt k &&& 31).toBitVec.smod 32) := rfl
      have e3 := ub_shamt k.toNat (by omega)
      rw [show (k.toNat : Int) = k by omega] at e3
      rw [e2, BitVec.sshiftRight', e3, BitVec.getLsbD_sshiftRight]
      unfold u_bs at g
      have e4 : k.toNat + Int.toNat 0 < 32 := by simp; omega
      rw [if_pos e4]
      simpa using g
  by_cases g : u_bs s k
  · rw [bi_t g]
    refine ub_ext (y_inr_to _) (by unfold y_inr; omega) fun j h1 h2 => ?_
    rw [hb j h1 h2]
    have := ub_shl (n := 0) (k := j) (by omega) ⟨h1, h2⟩
    rw [show y_shl 1 0 = 1 by decide] at this
    rw [this]
    exact ⟨fun q => q.1, fun q => ⟨q, g⟩⟩
  · rw [bi_f g]
    refine (ub_eq0 (y_inr_to _)).mpr fun j h1 h2 q => ?_
    exact g ((hb j h1 h2).mp q).2
theorem ub_mask {n k : Int} (hn : 0 ≤ n ∧ n ≤ 24) (hk : 0 ≤ k ∧ k < 32) : u_bs (y_shl 1 n - 1) k ↔ k < n := by
  have key : ∀ n, n < 25 → ∀ k, k < 32 → ((Int32.ofInt ((Int32.ofInt 1 <<< (Int32.ofInt (n : Nat) &&& 31)).toInt - 1)).toBitVec.getLsbD k = decide (k < n)) := by decide +kernel
  have := key n.toNat (by omega) k.toNat (by omega)
  unfold u_bs y_shl
  rw [show (n.toNat : Int) = n by omega] at this
  rw [this, decide_eq_true_eq]
  omega
theorem y_shl1 {n : Int} (hn : 0 ≤ n ∧ n ≤ 24) : 1 ≤ y_shl 1 n ∧ y_shl 1 n ≤ 16777216 := by
  have key : ∀ n, n < 25 → 1 ≤ (Int32.ofInt 1 <<< (Int32.ofInt (n : Nat) &&& 31)).toInt ∧ (Int32.ofInt 1 <<< (Int32.ofInt (n : Nat) &&& 31)).toInt ≤ 16777216 := by decide +kernel
  have := key n.toNat (by omega)
  rw [show (n.toNat : Int) = n by omega] at this
  exact this
theorem y_or0 {a : Int} (ha : y_inr a) : y_or a 0 = a := ub_ext (y_inr_to _) ha fun k _ _ => by
  rw [ub_or]
  exact ⟨fun g => g.elim id (fun g => absurd g ub_0), Or.inl⟩
theorem ub_lt {s n : Int} (hs : y_inr s) (hn : 0 ≤ n ∧ n ≤ 24) (h : ∀ k, 0 ≤ k → k < 32 → u_bs s k → k < n) : y_or s 0 = y_and s (y_shl 1 n - 1) := ub_ext (y_inr_to _) (y_inr_to _) fun k h1 h2 => by
  rw [ub_or, ub_and, ub_mask hn ⟨h1, h2⟩]
  exact ⟨fun g => g.elim (fun g => ⟨g, h k h1 h2 g⟩) (fun g => absurd g ub_0), fun g => Or.inl g.1⟩
theorem y_or_r {a b : Int} : y_inr (y_or a b) := y_inr_to _
theorem y_and_r {a b : Int} : y_inr (y_and a b) := y_inr_to _
theorem y_xor_r {a b : Int} : y_inr (y_xor a b) := y_inr_to _
theorem y_shl_r {a b : Int} : y_inr (y_shl a b) := y_inr_to _
theorem y_shr_r {a b : Int} : y_inr (y_shr a b) := y_inr_to _
