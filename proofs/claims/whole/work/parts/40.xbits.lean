/-! COUNTING BITS -/
set_option maxRecDepth 20000 in
theorem e_JI_bitCount (d : Nat) (h : sn_H) {n : Nat} {v : Int32} (e : v = nI n) (hn : n < 256) : Sp d me_JI_bitCount [.int v] h (some (.int (nI (pcnt n)))) h := by
  subst e
  rw [pcnt_ct (k := 8) hn]
  refine Sp.of ok_JI_bitCount trivial rfl ?_
  refine Ev.go 41 rfl ?_
  exact Ev.reti rfl (by
      clear h
      revert hn
      revert n
      decide +kernel)
def k1 (M x : Nat) : Nat := x - ((x / 2) &&& M)
def k2 (M x : Nat) : Nat := (x &&& M) + ((x / 4) &&& M)
def k3 (M x : Nat) : Nat := (x + x / 16) &&& M
theorem and256 {q r M m : Nat} (hr : r < 256) (hm : m < 256) : (256 * q + r) &&& (256 * M + m) = 256 * (q &&& M) + (r &&& m) := by
  have h1 : r &&& m < 2 ^ 8 := Nat.lt_of_le_of_lt Nat.and_le_left hr
  apply Nat.eq_of_testBit_eq
  intro i
  rw [Nat.testBit_and]
  show ((2 ^ 8 * q + r).testBit i && (2 ^ 8 * M + m).testBit i) = (2 ^ 8 * (q &&& M) + (r &&& m)).testBit i
  rw [Nat.testBit_two_pow_mul_add q (i := 8) hr, Nat.testBit_two_pow_mul_add M (i := 8) hm, Nat.testBit_two_pow_mul_add (q &&& M) h1]
  split <;> rw [Nat.testBit_and]
theorem kd1 : ∀ t, t < 2 → ∀ r, r < 256 → (t * 128 + r / 2) &&& 85 = (r / 2) &&& 85 := by decide +kernel
theorem kd2 : ∀ t, t < 4 → ∀ r, r < 256 → (t * 64 + r / 4) &&& 51 = (r / 4) &&& 51 := by decide +kernel
theorem kd3 : ∀ t, t < 5 → ∀ r, r < 69 → (r + (t * 16 + r / 16)) &&& 15 = (r + r / 16) &&& 15 := by decide +kernel
theorem k1_s {M q r : Nat} (hr : r < 256) : k1 (256 * M + 85) (256 * q + r) = 256 * k1 M q + k1 85 r := by
  have e1 : (256 * q + r) / 2 = 256 * (q / 2) + (q % 2 * 128 + r / 2) := by omega
  have h1 : (q / 2) &&& M ≤ q / 2 := Nat.and_le_left
  have h2 : (r / 2) &&& 85 ≤ r / 2 := Nat.and_le_left
  unfold k1
  rw [e1, and256 (by omega) (by omega), kd1 (q % 2) (by omega) r hr]
  omega
theorem k2_s {M q r : Nat} (hr : r < 256) : k2 (256 * M + 51) (256 * q + r) = 256 * k2 M q + k2 51 r := by
  have e1 : (256 * q + r) / 4 = 256 * (q / 4) + (q % 4 * 64 + r / 4) := by omega
  unfold k2
  rw [e1, and256 hr (by omega), and256 (q := q / 4) (by omega) (by omega), kd2 (q % 4) (by omega) r hr]
  omega
theorem k3_s {M q r : Nat} (hr : r < 69) (hq : q % 16 < 5) : k3 (256 * M + 15) (256 * q + r) = 256 * k3 M q + k3 15 r := by
  have e1 : 256 * q + r + (256 * q + r) / 16 = 256 * (q + q / 16) + (r + (q % 16 * 16 + r / 16)) := by omega
  unfold k3
  rw [e1, and256 (by omega) (by omega), kd3 (q % 16) hq r hr]
theorem kb : ∀ b, b < 256 → k1 85 b < 256 ∧ k2 51 (k1 85 b) < 69 ∧ k2 51 (k1 85 b) % 16 < 5 ∧ k3 15 (k2 51 (k1 85 b)) = ctf (fun i => b.testBit i) 8 := by decide +kernel
theorem kt : ∀ b, b < 256 → k1 366503875925 b = k1 85 b := by decide +kernel
theorem kt2 : ∀ b, b < 256 → k2 219902325555 b = k2 51 b := by decide +kernel
theorem kt3 : ∀ b, b < 69 → k3 64677154575 b = k3 15 b := by decide +kernel
theorem pcnt_sp : ∀ (k q r : Nat), r < 2 ^ k → pcnt (2 ^ k * q + r) = pcnt q + pcnt r
  | 0, q, r, h => by
    have : r = 0 := by omega
    subst this
    simp [pcnt_0]
  | k + 1, q, r, h => by
    rw [Nat.pow_succ] at h
    rw [pcnt_eq, pcnt_eq r]
    have e1 : (2 ^ (k + 1) * q + r) % 2 = r % 2 := by rw [Nat.pow_succ, Nat.mul_comm (2 ^ k) 2, Nat.mul_assoc]; omega
    have e2 : (2 ^ (k + 1) * q + r) / 2 = 2 ^ k * q + r / 2 := by rw [Nat.pow_succ, Nat.mul_comm (2 ^ k) 2, Nat.mul_assoc]; omega
    rw [e1, e2, pcnt_sp k q (r / 2) (by omega)]
    omega
theorem kfin {d0 d1 d2 d3 x : Nat} (h0 : d0 ≤ 8) (h1 : d1 ≤ 8) (h2 : d2 ≤ 8) (h3 : d3 ≤ 8) (hx : x = 256 * (256 * (256 * d3 + d2) + d1) + d0) : (x + x / 256 + (x + x / 256) / 65536 + (x + x / 256 + (x + x / 256) / 65536) / 2 ^ 32) % 128 = d3 + d2 + d1 + d0 := by
  have e1 : x / 256 = 256 * (256 * d3 + d2) + d1 := by omega
  rw [e1]
  have e2 : (x + (256 * (256 * d3 + d2) + d1)) / 65536 = 256 * d3 + (d2 + d3) := by omega
  rw [e2]
  have e3 : (x + (256 * (256 * d3 + d2) + d1) + (256 * d3 + (d2 + d3))) / 2 ^ 32 = 0 := Nat.div_eq_of_lt (by omega)
  rw [e3]
  omega
theorem kall {n : Nat} (hn : n < 2 ^ 32) : ∃ x, k3 1085102592571150095 (k2 3689348814741910323 (k1 6148914691236517205 n)) = x ∧ x < 2 ^ 32 ∧ k1 6148914691236517205 n < 2 ^ 32 ∧ k2 3689348814741910323 (k1 6148914691236517205 n) < 2 ^ 32 ∧ (x + x / 256 + (x + x / 256) / 65536 + (x + x / 256 + (x + x / 256) / 65536) / 2 ^ 32) &&& 127 = pcnt n := by
  obtain ⟨b0, b1, b2, b3, h0, h1, h2, h3, rfl⟩ : ∃ b0 b1 b2 b3, b0 < 256 ∧ b1 < 256 ∧ b2 < 256 ∧ b3 < 256 ∧ n = 256 * (256 * (256 * b3 + b2) + b1) + b0 := ⟨n % 256, n / 256 % 256, n / 65536 % 256, n / 16777216, by omega, by omega, by omega, by omega, by omega⟩
  obtain ⟨p0, q0, r0, s0⟩ := kb b0 h0
  obtain ⟨p1, q1, r1, s1⟩ := kb b1 h1
  obtain ⟨p2, q2, r2, s2⟩ := kb b2 h2
  obtain ⟨p3, q3, r3, s3⟩ := kb b3 h3
  have e1 : k1 6148914691236517205 (256 * (256 * (256 * b3 + b2) + b1) + b0) = 256 * (256 * (256 * k1 85 b3 + k1 85 b2) + k1 85 b1) + k1 85 b0 := by
    rw [show 6148914691236517205 = 256 * (256 * (256 * 366503875925 + 85) + 85) + 85 from rfl, k1_s h0, k1_s h1, k1_s h2, kt b3 h3]
  rw [e1]
  generalize k1 85 b0 = a0 at *; generalize k1 85 b1 = a1 at *; generalize k1 85 b2 = a2 at *; generalize k1 85 b3 = a3 at *
  have e2 : k2 3689348814741910323 (256 * (256 * (256 * a3 + a2) + a1) + a0) = 256 * (256 * (256 * k2 51 a3 + k2 51 a2) + k2 51 a1) + k2 51 a0 := by
    rw [show 3689348814741910323 = 256 * (256 * (256 * 219902325555 + 51) + 51) + 51 from rfl, k2_s p0, k2_s p1, k2_s p2, kt2 a3 p3]
  rw [e2]
  generalize k2 51 a0 = c0 at *; generalize k2 51 a1 = c1 at *; generalize k2 51 a2 = c2 at *; generalize k2 51 a3 = c3 at *
  have e3 : k3 1085102592571150095 (256 * (256 * (256 * c3 + c2) + c1) + c0) = 256 * (256 * (256 * k3 15 c3 + k3 15 c2) + k3 15 c1) + k3 15 c0 := by
    rw [show 1085102592571150095 = 256 * (256 * (256 * 64677154575 + 15) + 15) + 15 from rfl, k3_s q0 (by omega), k3_s q1 (by omega), k3_s q2 r3, kt3 c3 q3]
  rw [e3, s0, s1, s2, s3]
  have t0 := ctf_le (fun i => b0.testBit i) 8
  have t1 := ctf_le (fun i => b1.testBit i) 8
  have t2 := ctf_le (fun i => b2.testBit i) 8
  have t3 := ctf_le (fun i => b3.testBit i) 8
  have ep : pcnt (256 * (256 * (256 * b3 + b2) + b1) + b0) = ctf (fun i => b3.testBit i) 8 + ctf (fun i => b2.testBit i) 8 + ctf (fun i => b1.testBit i) 8 + ctf (fun i => b0.testBit i) 8 := by
    rw [show 256 * (256 * (256 * b3 + b2) + b1) + b0 = 2 ^ 8 * (2 ^ 8 * (2 ^ 8 * b3 + b2) + b1) + b0 from rfl, pcnt_sp 8 _ b0 h0, pcnt_sp 8 _ b1 h1, pcnt_sp 8 _ b2 h2, pcnt_ct (k := 8) h0, pcnt_ct (k := 8) h1, pcnt_ct (k := 8) h2, pcnt_ct (k := 8) h3]
  refine ⟨_, rfl, by omega, by omega, by omega, ?_⟩
  rw [ep, show (127 : Nat) = 2 ^ 7 - 1 from rfl, Nat.and_two_pow_sub_one_eq_mod]
  exact kfin t0 t1 t2 t3 rfl
theorem wb_um : ∀ k, k < 64 → BitVec.ofNat 64 k % 64#64 = BitVec.ofNat 64 k := by decide +kernel
theorem ush {n k : Nat} (hn : n < 2 ^ 64) (hk : k < 64) : ((lN n).toUInt64 >>> ((nI k).toInt64.toUInt64 &&& Int64.toUInt64 63)).toInt64 = lN (n / 2 ^ k) := by
  rw [wb_cu k hk]
  apply wb_inj
  show (BitVec.ofNat 64 n) >>> (BitVec.ofNat 64 k % 64#64) = BitVec.ofNat 64 (n / 2 ^ k)
  rw [wb_um k hk]
  apply BitVec.eq_of_toNat_eq
  rw [BitVec.ushiftRight_eq', BitVec.toNat_ushiftRight, BitVec.toNat_ofNat, BitVec.toNat_ofNat, BitVec.toNat_ofNat, Nat.mod_eq_of_lt hn, Nat.mod_eq_of_lt (show k < 2 ^ 64 by omega), Nat.shiftRight_eq_div_pow, Nat.mod_eq_of_lt (Nat.lt_of_le_of_lt (Nat.div_le_self _ _) hn)]
theorem lN_addN (a b : Nat) : lN a + lN b = lN (a + b) := by
  apply wb_inj
  show BitVec.ofNat 64 a + BitVec.ofNat 64 b = BitVec.ofNat 64 (a + b)
  apply BitVec.eq_of_toNat_eq
  simp
theorem lN_subN {a b : Nat} (h : b ≤ a) (ha : a < 2 ^ 64) : lN a - lN b = lN (a - b) := by
  apply wb_inj
  show BitVec.ofNat 64 a - BitVec.ofNat 64 b = BitVec.ofNat 64 (a - b)
  apply BitVec.eq_of_toNat_eq
  rw [BitVec.toNat_sub, BitVec.toNat_ofNat, BitVec.toNat_ofNat, BitVec.toNat_ofNat]
  omega
theorem l2iN (n : Nat) : (lN n).toInt32 = nI n := by
  apply Int32.toBitVec_inj.1
  show (BitVec.ofNat 64 n).signExtend 32 = BitVec.ofNat 32 n
  apply BitVec.eq_of_getLsbD_eq
  intro i hi
  have h64 : i < 64 := by omega
  rw [BitVec.getLsbD_signExtend, if_pos h64, BitVec.getLsbD_ofNat, BitVec.getLsbD_ofNat, decide_eq_true hi, decide_eq_true h64, Bool.true_and]
theorem andIN (a b : Nat) : nI a &&& nI b = nI (a &&& b) := by
  apply Int32.toBitVec_inj.1
  show BitVec.ofNat 32 a &&& BitVec.ofNat 32 b = BitVec.ofNat 32 (a &&& b)
  apply BitVec.eq_of_getLsbD_eq
  intro i hi
  simp [hi]
set_option maxRecDepth 20000 in
theorem e_JL_bitCount (d : Nat) (h : sn_H) {n : Nat} {v : Int64} (e : v = lN n) (hn : n < 2 ^ 32) : Sp d me_JL_bitCount [.long v] h (some (.int (nI (pcnt n)))) h := by
  subst e
  obtain ⟨x, hx, x1, x2, x3, x4⟩ := kall hn
  refine Sp.of ok_JL_bitCount trivial rfl ?_
  refine Ev.go 8 rfl ?_
  rw [ush (by omega) (by omega), show (6148914691236517205 : Int64) = lN 6148914691236517205 from rfl, fb_andL, lN_subN (Nat.le_trans Nat.and_le_left (Nat.div_le_self _ _)) (by omega), show n - (n / 2 ^ 1 &&& 6148914691236517205) = k1 6148914691236517205 n from rfl]
  refine Ev.go 10 rfl ?_
  rw [ush (by omega) (by omega), show (3689348814741910323 : Int64) = lN 3689348814741910323 from rfl, fb_andL, fb_andL, lN_addN, show (k1 6148914691236517205 n &&& 3689348814741910323) + (k1 6148914691236517205 n / 2 ^ 2 &&& 3689348814741910323) = k2 3689348814741910323 (k1 6148914691236517205 n) from rfl]
  refine Ev.go 8 rfl ?_
  rw [ush (by omega) (by omega), show (1085102592571150095 : Int64) = lN 1085102592571150095 from rfl, lN_addN, fb_andL, show (k2 3689348814741910323 (k1 6148914691236517205 n) + k2 3689348814741910323 (k1 6148914691236517205 n) / 2 ^ 4) &&& 1085102592571150095 = x from hx]
  refine Ev.go 6 rfl ?_
  rw [ush (by omega) (by omega), lN_addN]
  refine Ev.go 6 rfl ?_
  rw [ush (by omega) (by omega), lN_addN]
  refine Ev.go 6 rfl ?_
  rw [ush (by omega) (by omega), lN_addN]
  refine Ev.go 4 rfl ?_
  exact Ev.reti rfl (by rw [l2iN, andIN]; exact congrArg nI x4)
