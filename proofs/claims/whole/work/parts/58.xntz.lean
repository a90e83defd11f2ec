/-! THE LOWEST BIT -/
theorem low_ex : ∀ {n : Nat}, n ≠ 0 → ∃ t q, n = 2 ^ (t + 1) * q + 2 ^ t := by
  intro n
  induction n using Nat.strongRecOn with
  | _ n ih =>
    intro h
    rcases Nat.mod_two_eq_zero_or_one n with e | e
    · obtain ⟨t, q, ht⟩ := ih (n / 2) (by omega) (by omega)
      refine ⟨t + 1, q, ?_⟩
      have e1 : n = 2 * (n / 2) := by omega
      rw [e1, ht, Nat.mul_add, ← Nat.mul_assoc, Nat.pow_succ 2 (t + 1), Nat.mul_comm 2 (2 ^ (t + 1)), Nat.pow_succ 2 t, Nat.mul_comm 2 (2 ^ t)]
    · exact ⟨0, n / 2, by simp; omega⟩
theorem low_tb {t q : Nat} (j : Nat) : (2 ^ (t + 1) * q + 2 ^ t).testBit j = if j < t + 1 then decide (t = j) else q.testBit (j - (t + 1)) := by
  rw [Nat.testBit_two_pow_mul_add q (Nat.pow_lt_pow_right (by omega) (by omega)), Nat.testBit_two_pow]
theorem low_tb1 {t q : Nat} (j : Nat) : (2 ^ (t + 1) * q + 2 ^ t - 1).testBit j = if j < t + 1 then decide (j < t) else q.testBit (j - (t + 1)) := by
  have h1 := Nat.two_pow_pos t
  have h2 : 2 ^ t - 1 < 2 ^ (t + 1) := by rw [Nat.pow_succ]; omega
  rw [Nat.add_sub_assoc h1, Nat.testBit_two_pow_mul_add q h2, Nat.testBit_two_pow_sub_one]
theorem low_w {n t q : Nat} (hn : n < 2 ^ 32) (e : n = 2 ^ (t + 1) * q + 2 ^ t) : (n ^^^ (2 ^ 32 - 1)) &&& (n - 1) = 2 ^ t - 1 := by
  apply Nat.eq_of_testBit_eq
  intro j
  rw [Nat.testBit_and, Nat.testBit_xor, Nat.testBit_two_pow_sub_one, Nat.testBit_two_pow_sub_one]
  by_cases hj : j < 32
  · rw [decide_eq_true hj]
    subst e
    rw [low_tb, low_tb1]
    by_cases h1 : j < t + 1
    · rw [if_pos h1, if_pos h1]
      by_cases h2 : t = j
      · subst h2; simp
      · rw [decide_eq_false h2]; simp
    · rw [if_neg h1, if_neg h1, decide_eq_false (show ¬ j < t by omega)]
      cases q.testBit (j - (t + 1)) <;> rfl
  · have h3 : n.testBit j = false := Nat.testBit_lt_two_pow (Nat.lt_of_lt_of_le hn (Nat.pow_le_pow_right (by omega) (by omega)))
    have h4 : (n - 1).testBit j = false := Nat.testBit_lt_two_pow (Nat.lt_of_le_of_lt (Nat.sub_le _ _) (Nat.lt_of_lt_of_le hn (Nat.pow_le_pow_right (by omega) (by omega))))
    have ht : t < 32 := by
      by_cases q0 : t < 32
      · exact q0
      · have : 2 ^ 32 ≤ 2 ^ t := Nat.pow_le_pow_right (by omega) (by omega)
        omega
    rw [h4, Bool.and_false, decide_eq_false (by omega)]
theorem low_lt {n t q k : Nat} (hn : n < 2 ^ k) (e : n = 2 ^ (t + 1) * q + 2 ^ t) : t < k := by
  by_cases q0 : t < k
  · exact q0
  · have : 2 ^ k ≤ 2 ^ t := Nat.pow_le_pow_right (by omega) (by omega)
    omega
theorem xorIN (a b : Nat) : nI a ^^^ nI b = nI (a ^^^ b) := by
  apply Int32.toBitVec_inj.1
  show BitVec.ofNat 32 a ^^^ BitVec.ofNat 32 b = BitVec.ofNat 32 (a ^^^ b)
  apply BitVec.eq_of_getLsbD_eq
  intro i hi
  simp [hi]
theorem nI_m1 : (-1 : Int32) = nI (2 ^ 32 - 1) := by decide +kernel
theorem low_I {n t q : Nat} (hn : n < 2 ^ 32) (e : n = 2 ^ (t + 1) * q + 2 ^ t) : (nI n ^^^ - nI 1) &&& (nI n - nI 1) = nI (2 ^ t - 1) := by
  have h0 : 0 < n := by have := Nat.two_pow_pos t; omega
  rw [show (- nI 1) = nI (2 ^ 32 - 1) by decide +kernel, xorIN, pk_sub1 h0, andIN, low_w hn e]
theorem tz_a : ∀ t, t < 32 → (2 ^ t - 1 ≤ 65536 ↔ t ≤ 16) ∧ (2 ^ t - 1 ≤ 256 ↔ t ≤ 8) ∧ (2 ^ t - 1 ≤ 16 ↔ t ≤ 4) ∧ (2 ^ t - 1 ≤ 4 ↔ t ≤ 2) ∧ 2 ^ t - 1 < 2 ^ 31 ∧ (2 ^ t - 1 = 0 ↔ t = 0) := by decide +kernel
theorem tz_u16 : ∀ t, t < 32 → 16 < t → ((nI (2 ^ t - 1)).toUInt32 >>> ((nI 16).toUInt32 &&& Int32.toUInt32 31)).toInt32 = nI (2 ^ (t - 16) - 1) := by decide +kernel
theorem tz_u8 : ∀ t, t < 32 → 8 < t → ((nI (2 ^ t - 1)).toUInt32 >>> ((nI 8).toUInt32 &&& Int32.toUInt32 31)).toInt32 = nI (2 ^ (t - 8) - 1) := by decide +kernel
theorem tz_u4 : ∀ t, t < 32 → 4 < t → ((nI (2 ^ t - 1)).toUInt32 >>> ((nI 4).toUInt32 &&& Int32.toUInt32 31)).toInt32 = nI (2 ^ (t - 4) - 1) := by decide +kernel
theorem tz_u2 : ∀ t, t < 32 → 2 < t → ((nI (2 ^ t - 1)).toUInt32 >>> ((nI 2).toUInt32 &&& Int32.toUInt32 31)).toInt32 = nI (2 ^ (t - 2) - 1) := by decide +kernel
theorem tz_u1 : ∀ t, t < 3 → 1 ≤ t → ((nI (2 ^ t - 1)).toUInt32 >>> ((nI 1).toUInt32 &&& Int32.toUInt32 31)).toInt32 = nI (t - 1) := by decide +kernel
theorem e_JI_ntz (d : Nat) (h : sn_H) {n t q : Nat} (hn : n < 2 ^ 32) (e : n = 2 ^ (t + 1) * q + 2 ^ t) : Sp d me_JI_numberOfTrailingZeros [.int (nI n)] h (some (.int (nI t))) h := by
  have ht := low_lt hn e
  have hlt := (tz_a t ht).2.2.2.2.1
  refine Sp.of ok_JI_numberOfTrailingZeros trivial rfl ?_
  have J74 : ∀ t1 : Nat, 1 ≤ t1 → t1 ≤ 2 → t1 ≤ t → ∀ nv : Int32, nv = nI (t + 1 - t1) → Ev o0 d me_JI_numberOfTrailingZeros 74 [.int (nI (2 ^ t1 - 1)), .int nv] [] h (some (.int (nI t))) h := by
    intro t1 ht1 htm ht2 nv e
    subst e
    refine Ev.go 4 rfl ?_
    rw [tz_u1 t1 (by omega) ht1]
    refine Ev.go 1 rfl ?_
    exact Ev.reti rfl (by rw [nI_add]; congr 1; omega)
  have J62 : ∀ t1 : Nat, 1 ≤ t1 → t1 ≤ 4 → t1 ≤ t → ∀ nv : Int32, nv = nI (t + 1 - t1) → Ev o0 d me_JI_numberOfTrailingZeros 62 [.int (nI (2 ^ t1 - 1)), .int nv] [] h (some (.int (nI t))) h := by
    intro t1 ht1 htm ht2 nv e
    subst e
    have hlt := (tz_a t1 (by omega)).2.2.2.2.1
    refine Ev.go 2 rfl ?_
    refine Ev.ile rfl rfl rfl (by omega) (by omega) (fun c64 => ?_) (fun c64 => ?_)
    · exact J74 t1 ht1 (by have := (tz_a t1 (by omega)).2.2.2.1.mp c64; omega) ht2 _ rfl
    refine Ev.go 4 rfl ?_
    rw [tz_u2 t1 (by omega) (by have := (tz_a t1 (by omega)).2.2.2.1; omega)]
    refine Ev.go 1 rfl ?_
    exact J74 (t1 - 2) (by have := (tz_a t1 (by omega)).2.2.2.1; omega) (by omega) (by omega) _ (by rw [nI_add]; congr 1; have := (tz_a t1 (by omega)).2.2.2.1; omega)
  have J49 : ∀ t1 : Nat, 1 ≤ t1 → t1 ≤ 8 → t1 ≤ t → ∀ nv : Int32, nv = nI (t + 1 - t1) → Ev o0 d me_JI_numberOfTrailingZeros 49 [.int (nI (2 ^ t1 - 1)), .int nv] [] h (some (.int (nI t))) h := by
    intro t1 ht1 htm ht2 nv e
    subst e
    have hlt := (tz_a t1 (by omega)).2.2.2.2.1
    refine Ev.go 2 rfl ?_
    refine Ev.ile rfl rfl rfl (by omega) (by omega) (fun c52 => ?_) (fun c52 => ?_)
    · exact J62 t1 ht1 (by have := (tz_a t1 (by omega)).2.2.1.mp c52; omega) ht2 _ rfl
    refine Ev.go 4 rfl ?_
    rw [tz_u4 t1 (by omega) (by have := (tz_a t1 (by omega)).2.2.1; omega)]
    refine Ev.go 1 rfl ?_
    exact J62 (t1 - 4) (by have := (tz_a t1 (by omega)).2.2.1; omega) (by omega) (by omega) _ (by rw [nI_add]; congr 1; have := (tz_a t1 (by omega)).2.2.1; omega)
  have J34 : ∀ t1 : Nat, 1 ≤ t1 → t1 ≤ 16 → t1 ≤ t → ∀ nv : Int32, nv = nI (t + 1 - t1) → Ev o0 d me_JI_numberOfTrailingZeros 34 [.int (nI (2 ^ t1 - 1)), .int nv] [] h (some (.int (nI t))) h := by
    intro t1 ht1 htm ht2 nv e
    subst e
    have hlt := (tz_a t1 (by omega)).2.2.2.2.1
    refine Ev.go 2 rfl ?_
    refine Ev.ile rfl rfl rfl (by omega) (by omega) (fun c38 => ?_) (fun c38 => ?_)
    · exact J49 t1 ht1 (by have := (tz_a t1 (by omega)).2.1.mp c38; omega) ht2 _ rfl
    refine Ev.go 4 rfl ?_
    rw [tz_u8 t1 (by omega) (by have := (tz_a t1 (by omega)).2.1; omega)]
    refine Ev.go 1 rfl ?_
    exact J49 (t1 - 8) (by have := (tz_a t1 (by omega)).2.1; omega) (by omega) (by omega) _ (by rw [nI_add]; congr 1; have := (tz_a t1 (by omega)).2.1; omega)
  refine Ev.go 7 rfl ?_
  rw [low_I hn e]
  refine Ev.go 2 rfl ?_
  refine Ev.zgt rfl rfl (by omega) (fun c9 => ?_) (fun c9 => ?_)
  · refine Ev.go 4 rfl ?_
    refine Ev.ile rfl rfl (show _ = nI 65536 from rfl) (by omega) (by omega) (fun c23 => ?_) (fun c23 => ?_)
    · exact J34 t (by have := (tz_a t ht).2.2.2.2.2; omega) ((tz_a t ht).1.mp c23) (Nat.le_refl _) _ (by congr 1; omega)
    refine Ev.go 4 rfl ?_
    rw [tz_u16 t ht (by have := (tz_a t ht).1; omega)]
    refine Ev.go 1 rfl ?_
    exact J34 (t - 16) (by have := (tz_a t ht).1; omega) (by omega) (by omega) _ (by rw [nI_add]; congr 1; have := (tz_a t ht).1; omega)
  refine Ev.go 3 rfl ?_
  exact Ev.reti rfl (by rw [(tz_a t ht).2.2.2.2.2.mp c9]; decide +kernel)
theorem e_JL_ntz (d : Nat) (h : sn_H) {n t q : Nat} {v : Int64} (ev : v = lN n) (hn : n < 2 ^ 32) (e : n = 2 ^ (t + 1) * q + 2 ^ t) : Sp (d + 1) me_JL_numberOfTrailingZeros [.long v] h (some (.int (nI t))) h := by
  subst ev
  have h0 : nI n ≠ 0 := by
    intro z
    have z2 := congrArg (fun w => w.toBitVec.toNat) z
    have z3 : n % 2 ^ 32 = 0 := z2
    have := Nat.two_pow_pos t
    omega
  refine Sp.of ok_JL_numberOfTrailingZeros trivial rfl ?_
  refine Ev.go 2 rfl ?_
  rw [l2iN]
  refine Ev.go 2 rfl ?_
  refine Ev.brn rfl rfl (fun c4 => ?_) (fun c4 => ?_)
  · refine Ev.go 1 rfl ?_
    refine Ev.cs (E' := me_JI_numberOfTrailingZeros) rfl mk_JI_numberOfTrailingZeros ls_13_311 rfl rfl (e_JI_ntz d h hn e) ?_
    exact Ev.reti rfl (rfl)
  exact absurd c4 h0
