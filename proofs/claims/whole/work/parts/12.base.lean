theorem s_l : ∀ n, n < 32 → ((nI n &&& 31).toBitVec.smod 32).toNat = n := by decide +kernel
theorem s_u : ∀ n, n < 32 → (((nI n).toUInt32 &&& Int32.toUInt32 31).toBitVec % 32).toNat = n := by decide +kernel

theorem wb_tb (n : Nat) : (lN n).toBitVec = BitVec.ofNat 64 n := rfl
theorem wb_inj {a b : Int64} (h : a.toBitVec = b.toBitVec) : a = b := Int64.toBitVec_inj.mp h
theorem wb_tn {n : Nat} (h : n < 2 ^ 64) : (lN n).toBitVec.toNat = n := by rw [wb_tb, BitVec.toNat_ofNat, Nat.mod_eq_of_lt h]
theorem wb_of (x : Int64) : ∃ n, n < 2 ^ 64 ∧ x = lN n := ⟨x.toBitVec.toNat, x.toBitVec.isLt, wb_inj (by rw [wb_tb]; simp)⟩
theorem wb_of32 (x : Int32) : ∃ n, n < 2 ^ 32 ∧ x = nI n := ⟨x.toBitVec.toNat, x.toBitVec.isLt, Int32.toBitVec_inj.mp (by show _ = BitVec.ofNat 32 _; simp)⟩
theorem wb_c : ∀ k, k < 64 → ((nI k).toInt64 &&& 63) = lN k := by decide +kernel
theorem wb_cu : ∀ k, k < 64 → ((nI k).toInt64.toUInt64 &&& Int64.toUInt64 63) = UInt64.ofNat k := by decide +kernel
theorem wb_sm : ∀ k, k < 64 → (BitVec.ofNat 64 k).smod 64 = BitVec.ofNat 64 k := by decide +kernel
theorem wb_pw {a b : Nat} (h : a ≤ b) : 2 ^ b = 2 ^ a * 2 ^ (b - a) := by rw [← Nat.pow_add]; congr 1; omega
theorem wb_lt2 {a b : Nat} (h : a < b) : 2 ^ a < 2 ^ b := Nat.pow_lt_pow_right (by decide) h
theorem wb_mod (n : Nat) : lN n = lN (n % 2 ^ 64) := wb_inj (by rw [wb_tb, wb_tb]; apply BitVec.eq_of_toNat_eq; rw [BitVec.toNat_ofNat, BitVec.toNat_ofNat, Nat.mod_mod])
theorem wb_shr {n k : Nat} (hn : n < 2 ^ 64) (hk : k < 64) : ((lN n).toUInt64 >>> ((nI k).toInt64.toUInt64 &&& Int64.toUInt64 63)).toInt64 = lN (n / 2 ^ k) := by
  rw [wb_cu k hk]
  apply wb_inj
  apply BitVec.eq_of_toNat_eq
  show ((lN n).toUInt64 >>> UInt64.ofNat k).toNat = (BitVec.ofNat 64 _).toNat
  have h1 : (UInt64.ofNat k).toNat = k := by
    show (BitVec.ofNat 64 k).toNat = k
    rw [BitVec.toNat_ofNat, Nat.mod_eq_of_lt (by omega)]
  have h2 : (lN n).toUInt64.toNat = n := wb_tn hn
  rw [UInt64.toNat_shiftRight, h1, h2, Nat.mod_eq_of_lt hk, Nat.shiftRight_eq_div_pow, BitVec.toNat_ofNat, Nat.mod_eq_of_lt (Nat.lt_of_le_of_lt (Nat.div_le_self _ _) hn)]
theorem wb_shl (n : Nat) {k : Nat} (hk : k < 64) : lN n <<< ((nI k).toInt64 &&& 63) = lN (n * 2 ^ k) := by
  rw [wb_c k hk]
  apply wb_inj
  rw [Int64.toBitVec_shiftLeft, wb_tb, wb_tb, wb_tb, wb_sm k hk]
  apply BitVec.eq_of_toNat_eq
  rw [BitVec.shiftLeft_eq', BitVec.toNat_shiftLeft, BitVec.toNat_ofNat, BitVec.toNat_ofNat, BitVec.toNat_ofNat, Nat.mod_eq_of_lt (show k < 2 ^ 64 by omega), Nat.shiftLeft_eq, Nat.mul_mod, Nat.mod_mod, ← Nat.mul_mod]
theorem wb_and {a b : Nat} (ha : a < 2 ^ 64) (hb : b < 2 ^ 64) : lN a &&& lN b = lN (a &&& b) := by
  apply wb_inj
  rw [Int64.toBitVec_and, wb_tb, wb_tb, wb_tb]
  apply BitVec.eq_of_toNat_eq
  rw [BitVec.toNat_and, BitVec.toNat_ofNat, BitVec.toNat_ofNat, BitVec.toNat_ofNat, Nat.mod_eq_of_lt ha, Nat.mod_eq_of_lt hb, Nat.mod_eq_of_lt (Nat.and_lt_two_pow _ hb)]
theorem wb_or {a b : Nat} (ha : a < 2 ^ 64) (hb : b < 2 ^ 64) : lN a ||| lN b = lN (a ||| b) := by
  apply wb_inj
  rw [Int64.toBitVec_or, wb_tb, wb_tb, wb_tb]
  apply BitVec.eq_of_toNat_eq
  rw [BitVec.toNat_or, BitVec.toNat_ofNat, BitVec.toNat_ofNat, BitVec.toNat_ofNat, Nat.mod_eq_of_lt ha, Nat.mod_eq_of_lt hb, Nat.mod_eq_of_lt (Nat.or_lt_two_pow ha hb)]
theorem wb_mask {n k : Nat} (hn : n < 2 ^ 64) (hk : k < 64) : lN n &&& lN (2 ^ k - 1) = lN (n % 2 ^ k) := by
  rw [wb_and hn (by have := wb_lt2 hk; omega), Nat.and_two_pow_sub_one_eq_mod]
theorem wb_a1 {n : Nat} (hn : n < 2 ^ 64) : lN n &&& 1 = lN (n % 2) := wb_mask (k := 1) hn (by decide)
theorem wb_bit {n k : Nat} (hn : n < 2 ^ 64) (hk : k < 64) : ((lN n).toUInt64 >>> ((nI k).toInt64.toUInt64 &&& Int64.toUInt64 63)).toInt64 &&& 1 = lN (n / 2 ^ k % 2) := by
  rw [wb_shr hn hk, wb_a1 (Nat.lt_of_le_of_lt (Nat.div_le_self _ _) hn)]
theorem wb_xor {q k : Nat} (hk : k < 63) (h : 2 ^ k ≤ q) (h2 : q < 2 ^ (k + 1)) : lN q ^^^ lN (2 ^ k) = lN (q - 2 ^ k) := by
  obtain ⟨r, rfl⟩ : ∃ r, q = 2 ^ k + r := ⟨q - 2 ^ k, by omega⟩
  have hr : r < 2 ^ k := by rw [Nat.pow_succ] at h2; omega
  have hx : (2 ^ k + r) ^^^ 2 ^ k = r := by
    apply Nat.eq_of_testBit_eq
    intro i
    rw [Nat.testBit_xor, Nat.testBit_two_pow]
    rcases Nat.lt_trichotomy i k with h | h | h
    · rw [Nat.testBit_two_pow_add_gt h]
      simp [show ¬ k = i by omega]
    · subst h
      rw [Nat.testBit_two_pow_add_eq]
      simp
    · have a1 : 2 ^ (k + 1) ≤ 2 ^ i := Nat.pow_le_pow_right (by decide) h
      rw [Nat.testBit_lt_two_pow (show 2 ^ k + r < 2 ^ i by omega), Nat.testBit_lt_two_pow (show r < 2 ^ i by omega)]
      simp [show ¬ k = i by omega]
  have b1 := wb_lt2 (show k + 1 < 64 by omega)
  have b2 := wb_lt2 (show k < 64 by omega)
  apply wb_inj
  rw [Int64.toBitVec_xor, wb_tb, wb_tb, wb_tb]
  apply BitVec.eq_of_toNat_eq
  rw [BitVec.toNat_xor, BitVec.toNat_ofNat, BitVec.toNat_ofNat, BitVec.toNat_ofNat, Nat.mod_eq_of_lt (by omega : 2 ^ k + r < 2 ^ 64), Nat.mod_eq_of_lt b2, hx, Nat.add_sub_cancel_left, Nat.mod_eq_of_lt (by omega)]

theorem fb_andL (a b : Nat) : lN a &&& lN b = lN (a &&& b) := by
  apply Int64.toBitVec_inj.1
  show BitVec.ofNat 64 a &&& BitVec.ofNat 64 b = BitVec.ofNat 64 (a &&& b)
  apply BitVec.eq_of_getLsbD_eq
  intro i hi
  simp [hi]
theorem fb_orL (a b : Nat) : lN a ||| lN b = lN (a ||| b) := by
  apply Int64.toBitVec_inj.1
  show BitVec.ofNat 64 a ||| BitVec.ofNat 64 b = BitVec.ofNat 64 (a ||| b)
  apply BitVec.eq_of_getLsbD_eq
  intro i hi
  simp [hi]
theorem fb_xorL (a b : Nat) : lN a ^^^ lN b = lN (a ^^^ b) := by
  apply Int64.toBitVec_inj.1
  show BitVec.ofNat 64 a ^^^ BitVec.ofNat 64 b = BitVec.ofNat 64 (a ^^^ b)
  apply BitVec.eq_of_getLsbD_eq
  intro i hi
  simp [hi]
theorem fb_xorI (a b : Nat) : nI a ^^^ nI b = nI (a ^^^ b) := by
  apply Int32.toBitVec_inj.1
  show BitVec.ofNat 32 a ^^^ BitVec.ofNat 32 b = BitVec.ofNat 32 (a ^^^ b)
  apply BitVec.eq_of_getLsbD_eq
  intro i hi
  simp [hi]
theorem fb_maskL (n k : Nat) : lN n &&& lN (2 ^ k - 1) = lN (n % 2 ^ k) := by rw [fb_andL, Nat.and_two_pow_sub_one_eq_mod]
theorem fb_or_sumL {a k : Nat} (b : Nat) (h : a < 2 ^ k) : lN (2 ^ k * b) ||| lN a = lN (2 ^ k * b + a) := by rw [fb_orL, Nat.two_pow_add_eq_or_of_lt h]
theorem fb_lN_inj {a b : Nat} (ha : a < 2 ^ 63) (hb : b < 2 ^ 63) : lN a = lN b ↔ a = b := by
  constructor
  · intro h
    have h1 : (BitVec.ofNat 64 a).toNat = (BitVec.ofNat 64 b).toNat := congrArg (fun x : Int64 => x.toBitVec.toNat) h
    rw [BitVec.toNat_ofNat, BitVec.toNat_ofNat, Nat.mod_eq_of_lt (by omega), Nat.mod_eq_of_lt (by omega)] at h1
    exact h1
  · rintro rfl; rfl

theorem fa_lt (a b : Int32) : a < b ↔ a.toInt < b.toInt := Int32.lt_iff_toInt_lt
theorem fa_le (a b : Int32) : a ≤ b ↔ a.toInt ≤ b.toInt := Int32.le_iff_toInt_le
theorem fa_eq (a b : Int32) : a = b ↔ a.toInt = b.toInt := Int32.toInt_inj.symm
theorem fa_lt64 (a b : Int64) : a < b ↔ a.toInt < b.toInt := Int64.lt_iff_toInt_lt
theorem fa_le64 (a b : Int64) : a ≤ b ↔ a.toInt ≤ b.toInt := Int64.le_iff_toInt_le
theorem fa_eq64 (a b : Int64) : a = b ↔ a.toInt = b.toInt := Int64.toInt_inj.symm
/-- a comparison of two ints taken as longs -/
theorem fa_wide_lt (a b : Int32) : a.toInt64 < b.toInt64 ↔ a < b := by rw [fa_lt64, fa_lt, Int32.toInt_toInt64, Int32.toInt_toInt64]
theorem fa_wide_le (a b : Int32) : a.toInt64 ≤ b.toInt64 ↔ a ≤ b := by rw [fa_le64, fa_le, Int32.toInt_toInt64, Int32.toInt_toInt64]
theorem fa_wide_eq (a b : Int32) : a.toInt64 = b.toInt64 ↔ a = b := by rw [fa_eq64, fa_eq, Int32.toInt_toInt64, Int32.toInt_toInt64]
/-- one strict comparison gives all the others -/

def b2i (b : Bool) : Int32 := if b then 1 else 0
theorem b2i_rc (b : Bool) : b2i b = 0 ∨ b2i b = 1 := by cases b; exact Or.inl rfl; exact Or.inr rfl
theorem b2i_t : nI 1 = b2i true := rfl
theorem b2i_f : nI 0 = b2i false := rfl
section EV
variable {Ω : sn_O} {d : Nat} {E : sn_E} {pc : Nat} {lv rest st : List Value} {h h' : sn_H} {r : Option Value} {len nx tg len2 nx2 tg2 : Nat}
theorem Ev.rm {x y : Int32} {a b : Nat} (hi : sn_tg E.2.1 pc = some (.irem, len, nx, tg)) (ex : x = nI a) (ey : y = nI b) (ha : a < 2 ^ 31) (hb : 0 < b) (hb2 : b < 2 ^ 31) (K : Ev Ω d E nx lv (.int (nI (a % b)) :: rest) h r h') : Ev Ω d E pc lv (.int y :: .int x :: rest) h r h' := by
  subst ex; subst ey
  refine Ev.p hi rfl (nI_ne0 hb hb2) ?_
  rw [pk_rem ha hb hb2]
  exact K
theorem Ev.dv {x y : Int32} {a b : Nat} (hi : sn_tg E.2.1 pc = some (.idiv, len, nx, tg)) (ex : x = nI a) (ey : y = nI b) (ha : a < 2 ^ 31) (hb : 0 < b) (hb2 : b < 2 ^ 31) (K : Ev Ω d E nx lv (.int (nI (a / b)) :: rest) h r h') : Ev Ω d E pc lv (.int y :: .int x :: rest) h r h' := by
  subst ex; subst ey
  refine Ev.p hi rfl (nI_ne0 hb hb2) ?_
  rw [pk_div ha hb hb2]
  exact K
/-- a boolean is tested -/
theorem Ev.zb {c : Bool} {x : Int32} {o : Int} (hi : sn_tg E.2.1 pc = some (.ifCond .eq o, len, nx, tg)) (ex : x = b2i c) (K1 : c = false → Ev Ω d E tg lv rest h r h') (K2 : c = true → Ev Ω d E nx lv rest h r h') : Ev Ω d E pc lv (.int x :: rest) h r h' := by
  subst ex
  cases c with
  | false => exact Ev.bt hi rfl rfl (K1 rfl)
  | true => exact Ev.bf hi rfl (by decide) (K2 rfl)
theorem Ev.zn {c : Bool} {x : Int32} {o : Int} (hi : sn_tg E.2.1 pc = some (.ifCond .ne o, len, nx, tg)) (ex : x = b2i c) (K1 : c = true → Ev Ω d E tg lv rest h r h') (K2 : c = false → Ev Ω d E nx lv rest h r h') : Ev Ω d E pc lv (.int x :: rest) h r h' := by
  subst ex
  cases c with
  | false => exact Ev.bt hi rfl rfl (K2 rfl)
  | true => exact Ev.bf hi rfl (by decide) (K1 rfl)
theorem Ev.ieq {x y : Int32} {a b : Nat} {o : Int} (hi : sn_tg E.2.1 pc = some (.if_icmp .eq o, len, nx, tg)) (ex : x = nI a) (ey : y = nI b) (ha : a < 2 ^ 31) (hb : b < 2 ^ 31) (K1 : a = b → Ev Ω d E tg lv rest h r h') (K2 : ¬ a = b → Ev Ω d E nx lv rest h r h') : Ev Ω d E pc lv (.int y :: .int x :: rest) h r h' := by
  subst ex; subst ey
  exact Ev.br hi rfl (fun hc => K1 ((nI_eq ha hb).mp hc)) (fun hc => K2 (fun q => hc ((nI_eq ha hb).mpr q)))
theorem Ev.ine {x y : Int32} {a b : Nat} {o : Int} (hi : sn_tg E.2.1 pc = some (.if_icmp .ne o, len, nx, tg)) (ex : x = nI a) (ey : y = nI b) (ha : a < 2 ^ 31) (hb : b < 2 ^ 31) (K1 : ¬ a = b → Ev Ω d E tg lv rest h r h') (K2 : a = b → Ev Ω d E nx lv rest h r h') : Ev Ω d E pc lv (.int y :: .int x :: rest) h r h' := by
  subst ex; subst ey
  exact Ev.br (c := nI a = nI b) hi rfl (fun hc => K2 ((nI_eq ha hb).mp hc)) (fun hc => K1 (fun q => hc ((nI_eq ha hb).mpr q)))
theorem Ev.ilt {x y : Int32} {a b : Nat} {o : Int} (hi : sn_tg E.2.1 pc = some (.if_icmp .lt o, len, nx, tg)) (ex : x = nI a) (ey : y = nI b) (ha : a < 2 ^ 31) (hb : b < 2 ^ 31) (K1 : a < b → Ev Ω d E tg lv rest h r h') (K2 : b ≤ a → Ev Ω d E nx lv rest h r h') : Ev Ω d E pc lv (.int y :: .int x :: rest) h r h' := by
  subst ex; subst ey
  exact Ev.br hi rfl (fun hc => K1 ((nI_ltI ha hb).mp hc)) (fun hc => K2 (Nat.not_lt.mp (fun q => hc ((nI_ltI ha hb).mpr q))))
theorem Ev.ige {x y : Int32} {a b : Nat} {o : Int} (hi : sn_tg E.2.1 pc = some (.if_icmp .ge o, len, nx, tg)) (ex : x = nI a) (ey : y = nI b) (ha : a < 2 ^ 31) (hb : b < 2 ^ 31) (K1 : b ≤ a → Ev Ω d E tg lv rest h r h') (K2 : a < b → Ev Ω d E nx lv rest h r h') : Ev Ω d E pc lv (.int y :: .int x :: rest) h r h' := by
  subst ex; subst ey
  exact Ev.br hi rfl (fun hc => K1 ((nI_leI hb ha).mp hc)) (fun hc => K2 (Nat.not_le.mp (fun q => hc ((nI_leI hb ha).mpr q))))
theorem Ev.igt {x y : Int32} {a b : Nat} {o : Int} (hi : sn_tg E.2.1 pc = some (.if_icmp .gt o, len, nx, tg)) (ex : x = nI a) (ey : y = nI b) (ha : a < 2 ^ 31) (hb : b < 2 ^ 31) (K1 : b < a → Ev Ω d E tg lv rest h r h') (K2 : a ≤ b → Ev Ω d E nx lv rest h r h') : Ev Ω d E pc lv (.int y :: .int x :: rest) h r h' := by
  subst ex; subst ey
  exact Ev.br hi rfl (fun hc => K1 ((nI_ltI hb ha).mp hc)) (fun hc => K2 (Nat.not_lt.mp (fun q => hc ((nI_ltI hb ha).mpr q))))
theorem Ev.ile {x y : Int32} {a b : Nat} {o : Int} (hi : sn_tg E.2.1 pc = some (.if_icmp .le o, len, nx, tg)) (ex : x = nI a) (ey : y = nI b) (ha : a < 2 ^ 31) (hb : b < 2 ^ 31) (K1 : a ≤ b → Ev Ω d E tg lv rest h r h') (K2 : b < a → Ev Ω d E nx lv rest h r h') : Ev Ω d E pc lv (.int y :: .int x :: rest) h r h' := by
  subst ex; subst ey
  exact Ev.br hi rfl (fun hc => K1 ((nI_leI ha hb).mp hc)) (fun hc => K2 (Nat.not_le.mp (fun q => hc ((nI_leI ha hb).mpr q))))
theorem Ev.req {x y : Int64} {o : Int} (hi : sn_tg E.2.1 pc = some (.lcmp, len, nx, tg)) (hi2 : sn_tg E.2.1 nx = some (.ifCond .eq o, len2, nx2, tg2)) (K1 : x = y → Ev Ω d E tg2 lv rest h r h') (K2 : ¬ x = y → Ev Ω d E nx2 lv rest h r h') : Ev Ω d E pc lv (.long y :: .long x :: rest) h r h' := by
  refine Ev.p hi rfl trivial ?_
  exact Ev.br hi2 rfl (fun hc => K1 ((lg_cmp_eq x y).mp hc)) (fun hc => K2 (fun q => hc ((lg_cmp_eq x y).mpr q)))
theorem Ev.leq {x y : Int64} {a b : Nat} {o : Int} (hi : sn_tg E.2.1 pc = some (.lcmp, len, nx, tg)) (hi2 : sn_tg E.2.1 nx = some (.ifCond .eq o, len2, nx2, tg2)) (ex : x = lN a) (ey : y = lN b) (ha : a < 2 ^ 63) (hb : b < 2 ^ 63) (K1 : a = b → Ev Ω d E tg2 lv rest h r h') (K2 : ¬ a = b → Ev Ω d E nx2 lv rest h r h') : Ev Ω d E pc lv (.long y :: .long x :: rest) h r h' := by
  subst ex; subst ey
  exact Ev.req hi hi2 (fun hc => K1 ((pk_lEQ ha hb).mp hc)) (fun hc => K2 (fun q => hc ((pk_lEQ ha hb).mpr q)))
theorem Ev.rne {x y : Int64} {o : Int} (hi : sn_tg E.2.1 pc = some (.lcmp, len, nx, tg)) (hi2 : sn_tg E.2.1 nx = some (.ifCond .ne o, len2, nx2, tg2)) (K1 : ¬ x = y → Ev Ω d E tg2 lv rest h r h') (K2 : x = y → Ev Ω d E nx2 lv rest h r h') : Ev Ω d E pc lv (.long y :: .long x :: rest) h r h' := by
  refine Ev.p hi rfl trivial ?_
  exact Ev.br (c := lg_cmp x y = 0) hi2 rfl (fun hc => K2 ((lg_cmp_eq x y).mp hc)) (fun hc => K1 (fun q => hc ((lg_cmp_eq x y).mpr q)))
theorem Ev.lne {x y : Int64} {a b : Nat} {o : Int} (hi : sn_tg E.2.1 pc = some (.lcmp, len, nx, tg)) (hi2 : sn_tg E.2.1 nx = some (.ifCond .ne o, len2, nx2, tg2)) (ex : x = lN a) (ey : y = lN b) (ha : a < 2 ^ 63) (hb : b < 2 ^ 63) (K1 : ¬ a = b → Ev Ω d E tg2 lv rest h r h') (K2 : a = b → Ev Ω d E nx2 lv rest h r h') : Ev Ω d E pc lv (.long y :: .long x :: rest) h r h' := by
  subst ex; subst ey
  exact Ev.rne hi hi2 (fun hc => K1 (fun q => hc ((pk_lEQ ha hb).mpr q))) (fun hc => K2 ((pk_lEQ ha hb).mp hc))
theorem Ev.rlt {x y : Int64} {o : Int} (hi : sn_tg E.2.1 pc = some (.lcmp, len, nx, tg)) (hi2 : sn_tg E.2.1 nx = some (.ifCond .lt o, len2, nx2, tg2)) (K1 : x < y → Ev Ω d E tg2 lv rest h r h') (K2 : ¬ x < y → Ev Ω d E nx2 lv rest h r h') : Ev Ω d E pc lv (.long y :: .long x :: rest) h r h' := by
  refine Ev.p hi rfl trivial ?_
  exact Ev.br hi2 rfl (fun hc => K1 ((lg_cmp_lt x y).mp hc)) (fun hc => K2 (fun q => hc ((lg_cmp_lt x y).mpr q)))
theorem Ev.llt {x y : Int64} {a b : Nat} {o : Int} (hi : sn_tg E.2.1 pc = some (.lcmp, len, nx, tg)) (hi2 : sn_tg E.2.1 nx = some (.ifCond .lt o, len2, nx2, tg2)) (ex : x = lN a) (ey : y = lN b) (ha : a < 2 ^ 63) (hb : b < 2 ^ 63) (K1 : a < b → Ev Ω d E tg2 lv rest h r h') (K2 : b ≤ a → Ev Ω d E nx2 lv rest h r h') : Ev Ω d E pc lv (.long y :: .long x :: rest) h r h' := by
  subst ex; subst ey
  exact Ev.rlt hi hi2 (fun hc => K1 ((pk_lLT ha hb).mp hc)) (fun hc => K2 (Nat.not_lt.mp (fun q => hc ((pk_lLT ha hb).mpr q))))
theorem Ev.rge {x y : Int64} {o : Int} (hi : sn_tg E.2.1 pc = some (.lcmp, len, nx, tg)) (hi2 : sn_tg E.2.1 nx = some (.ifCond .ge o, len2, nx2, tg2)) (K1 : y ≤ x → Ev Ω d E tg2 lv rest h r h') (K2 : ¬ y ≤ x → Ev Ω d E nx2 lv rest h r h') : Ev Ω d E pc lv (.long y :: .long x :: rest) h r h' := by
  refine Ev.p hi rfl trivial ?_
  exact Ev.br hi2 rfl (fun hc => K1 ((lg_cmp_ge x y).mp hc)) (fun hc => K2 (fun q => hc ((lg_cmp_ge x y).mpr q)))
theorem Ev.lge {x y : Int64} {a b : Nat} {o : Int} (hi : sn_tg E.2.1 pc = some (.lcmp, len, nx, tg)) (hi2 : sn_tg E.2.1 nx = some (.ifCond .ge o, len2, nx2, tg2)) (ex : x = lN a) (ey : y = lN b) (ha : a < 2 ^ 63) (hb : b < 2 ^ 63) (K1 : b ≤ a → Ev Ω d E tg2 lv rest h r h') (K2 : a < b → Ev Ω d E nx2 lv rest h r h') : Ev Ω d E pc lv (.long y :: .long x :: rest) h r h' := by
  subst ex; subst ey
  exact Ev.rge hi hi2 (fun hc => K1 ((pk_lLE hb ha).mp hc)) (fun hc => K2 (Nat.not_le.mp (fun q => hc ((pk_lLE hb ha).mpr q))))
theorem Ev.rgt {x y : Int64} {o : Int} (hi : sn_tg E.2.1 pc = some (.lcmp, len, nx, tg)) (hi2 : sn_tg E.2.1 nx = some (.ifCond .gt o, len2, nx2, tg2)) (K1 : y < x → Ev Ω d E tg2 lv rest h r h') (K2 : ¬ y < x → Ev Ω d E nx2 lv rest h r h') : Ev Ω d E pc lv (.long y :: .long x :: rest) h r h' := by
  refine Ev.p hi rfl trivial ?_
  exact Ev.br hi2 rfl (fun hc => K1 ((lg_cmp_gt x y).mp hc)) (fun hc => K2 (fun q => hc ((lg_cmp_gt x y).mpr q)))
theorem Ev.lgt {x y : Int64} {a b : Nat} {o : Int} (hi : sn_tg E.2.1 pc = some (.lcmp, len, nx, tg)) (hi2 : sn_tg E.2.1 nx = some (.ifCond .gt o, len2, nx2, tg2)) (ex : x = lN a) (ey : y = lN b) (ha : a < 2 ^ 63) (hb : b < 2 ^ 63) (K1 : b < a → Ev Ω d E tg2 lv rest h r h') (K2 : a ≤ b → Ev Ω d E nx2 lv rest h r h') : Ev Ω d E pc lv (.long y :: .long x :: rest) h r h' := by
  subst ex; subst ey
  exact Ev.rgt hi hi2 (fun hc => K1 ((pk_lLT hb ha).mp hc)) (fun hc => K2 (Nat.not_lt.mp (fun q => hc ((pk_lLT hb ha).mpr q))))
theorem Ev.rle {x y : Int64} {o : Int} (hi : sn_tg E.2.1 pc = some (.lcmp, len, nx, tg)) (hi2 : sn_tg E.2.1 nx = some (.ifCond .le o, len2, nx2, tg2)) (K1 : x ≤ y → Ev Ω d E tg2 lv rest h r h') (K2 : ¬ x ≤ y → Ev Ω d E nx2 lv rest h r h') : Ev Ω d E pc lv (.long y :: .long x :: rest) h r h' := by
  refine Ev.p hi rfl trivial ?_
  exact Ev.br hi2 rfl (fun hc => K1 ((lg_cmp_le x y).mp hc)) (fun hc => K2 (fun q => hc ((lg_cmp_le x y).mpr q)))
theorem Ev.lle {x y : Int64} {a b : Nat} {o : Int} (hi : sn_tg E.2.1 pc = some (.lcmp, len, nx, tg)) (hi2 : sn_tg E.2.1 nx = some (.ifCond .le o, len2, nx2, tg2)) (ex : x = lN a) (ey : y = lN b) (ha : a < 2 ^ 63) (hb : b < 2 ^ 63) (K1 : a ≤ b → Ev Ω d E tg2 lv rest h r h') (K2 : b < a → Ev Ω d E nx2 lv rest h r h') : Ev Ω d E pc lv (.long y :: .long x :: rest) h r h' := by
  subst ex; subst ey
  exact Ev.rle hi hi2 (fun hc => K1 ((pk_lLE ha hb).mp hc)) (fun hc => K2 (Nat.not_le.mp (fun q => hc ((pk_lLE ha hb).mpr q))))
theorem Ev.brn {p1 p2 : Nat} {lv' st' : List Value} {i : Instr} {c : Prop} [Decidable c] (hi : sn_tg E.2.1 pc = some (i, len, nx, tg)) (h1 : sn_ps E.1 E.2.2.2.2.1 i nx tg pc lv st = some (True, (if c then p2 else p1), lv', st'))
    (K1 : ¬ c → Ev Ω d E p1 lv' st' h r h') (K2 : c → Ev Ω d E p2 lv' st' h r h') : Ev Ω d E pc lv st h r h' := Ev.br hi h1 K2 K1
theorem Ev.zle {x : Int32} {a : Nat} {o : Int} (hi : sn_tg E.2.1 pc = some (.ifCond .le o, len, nx, tg)) (ex : x = nI a) (ha : a < 2 ^ 31) (K1 : a = 0 → Ev Ω d E tg lv rest h r h') (K2 : 0 < a → Ev Ω d E nx lv rest h r h') : Ev Ω d E pc lv (.int x :: rest) h r h' := by
  subst ex
  refine Ev.br hi rfl (fun hc => K1 ?_) (fun hc => K2 ?_)
  · by_cases e : a = 0
    · exact e
    · exact absurd hc (nI_nle (by omega) ha)
  · by_cases e : a = 0
    · subst e; exact absurd (by decide) hc
    · omega
theorem Ev.zgt {x : Int32} {a : Nat} {o : Int} (hi : sn_tg E.2.1 pc = some (.ifCond .gt o, len, nx, tg)) (ex : x = nI a) (ha : a < 2 ^ 31) (K1 : 0 < a → Ev Ω d E tg lv rest h r h') (K2 : a = 0 → Ev Ω d E nx lv rest h r h') : Ev Ω d E pc lv (.int x :: rest) h r h' := by
  subst ex
  refine Ev.br hi rfl (fun hc => K1 ?_) (fun hc => K2 ?_)
  · by_cases e : a = 0
    · subst e; exact absurd hc (by decide)
    · omega
  · by_cases e : a = 0
    · exact e
    · exact absurd (show (0 : Int32) < nI a by rw [← nI_0]; exact nI_lt (by omega) ha) hc
theorem Ev.zeq {x : Int32} {a : Nat} {o : Int} (hi : sn_tg E.2.1 pc = some (.ifCond .eq o, len, nx, tg)) (ex : x = nI a) (ha : a < 2 ^ 31) (K1 : a = 0 → Ev Ω d E tg lv rest h r h') (K2 : 0 < a → Ev Ω d E nx lv rest h r h') : Ev Ω d E pc lv (.int x :: rest) h r h' := by
  subst ex
  refine Ev.br (c := nI a = 0) hi rfl (fun hc => K1 ?_) (fun hc => K2 ?_)
  · rw [← nI_0] at hc; exact (nI_eq ha (by omega)).mp hc
  · by_cases e : a = 0
    · subst e; exact absurd rfl hc
    · omega
theorem Ev.zne {x : Int32} {a : Nat} {o : Int} (hi : sn_tg E.2.1 pc = some (.ifCond .ne o, len, nx, tg)) (ex : x = nI a) (ha : a < 2 ^ 31) (K1 : 0 < a → Ev Ω d E tg lv rest h r h') (K2 : a = 0 → Ev Ω d E nx lv rest h r h') : Ev Ω d E pc lv (.int x :: rest) h r h' := by
  subst ex
  refine Ev.br (c := nI a = 0) hi rfl (fun hc => K2 ?_) (fun hc => K1 ?_)
  · rw [← nI_0] at hc; exact (nI_eq ha (by omega)).mp hc
  · by_cases e : a = 0
    · subst e; exact absurd rfl hc
    · omega
end EV
theorem lN_0 : (0 : Int64) = lN 0 := rfl
theorem lN_one : (1 : Int64) = lN 1 := rfl
theorem lN_m1 : (-1 : Int64) = lN (2 ^ 64 - 1) := by decide +kernel
/-- one bit -/
theorem sh1 {p : Nat} (hp : p < 63) : lN 1 <<< ((nI p).toInt64 &&& 63) = lN (2 ^ p) := by
  rw [wb_shl 1 (by omega), Nat.one_mul]
theorem shr_N {s k : Nat} (hs : s < 2 ^ 63) (hk : k < 63) : lN s >>> ((nI k).toInt64 &&& 63) = lN (s / 2 ^ k) := by
  rw [wb_c k (by omega)]
  apply wb_inj
  rw [Int64.toBitVec_shiftRight, wb_tb, wb_tb, wb_tb, wb_sm k (by omega)]
  apply BitVec.eq_of_toNat_eq
  have h1 : (BitVec.ofNat 64 s).msb = false := by
    rw [BitVec.msb_eq_false_iff_two_mul_lt, BitVec.toNat_ofNat, Nat.mod_eq_of_lt (by omega)]
    omega
  have h2 : s / 2 ^ k ≤ s := Nat.div_le_self _ _
  rw [BitVec.sshiftRight_eq', BitVec.sshiftRight_eq_of_msb_false h1, BitVec.toNat_ushiftRight, BitVec.toNat_ofNat, BitVec.toNat_ofNat, BitVec.toNat_ofNat, Nat.mod_eq_of_lt (show s < 2 ^ 64 by omega), Nat.mod_eq_of_lt (show k < 2 ^ 64 by omega), Nat.mod_eq_of_lt (show s / 2 ^ k < 2 ^ 64 by omega), Nat.shiftRight_eq_div_pow]
theorem has_N {s k : Nat} (hs : s < 2 ^ 63) (hk : k < 63) : (lN s >>> ((nI k).toInt64 &&& 63)) &&& lN 1 = lN ((s.testBit k).toNat) := by
  have h2 : s / 2 ^ k ≤ s := Nat.div_le_self _ _
  rw [shr_N hs hk, ← lN_one, wb_a1 (by omega), Nat.testBit_eq_decide_div_mod_eq]
  congr 1
  rcases Nat.mod_two_eq_zero_or_one (s / 2 ^ k) with e | e <;> simp [e]
theorem b2i_dt {p : Prop} [Decidable p] (h : p) : nI 1 = b2i (decide p) := by rw [decide_eq_true h]; rfl
theorem b2i_df {p : Prop} [Decidable p] (h : ¬ p) : nI 0 = b2i (decide p) := by rw [decide_eq_false h]; rfl
theorem b2i_bt {b : Bool} (h : b = true) : nI 1 = b2i b := by rw [h]; rfl
theorem b2i_bf {b : Bool} (h : b = false) : nI 0 = b2i b := by rw [h]; rfl
theorem hasI {s k : Nat} (hs : s < 2 ^ 31) (hk : k < 31) : (nI s >>> (nI k &&& 31)) &&& nI 1 = b2i (s.testBit k) := by
  rw [pk_shrN hs _ k (s_l k (by omega))]
  rw [pk_andN (show s / 2 ^ k < 2 ^ 32 from Nat.lt_of_le_of_lt (Nat.div_le_self _ _) (by omega)) (m := nI 1) 1 (by decide +kernel), Nat.testBit_eq_decide_div_mod_eq]
  rcases Nat.mod_two_eq_zero_or_one (s / 2 ^ k) with e | e <;> simp [e] <;> rfl
theorem b2i_n (b : Bool) : b2i b = nI b.toNat := by cases b <;> rfl
theorem b2i_eq (a b : Bool) : b2i a = b2i b ↔ a = b := by cases a <;> cases b <;> decide

