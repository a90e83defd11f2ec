/-! THE PURE STEP: what an instruction without cells does -/
def sn_ps (o nL : Nat) (i : Instr) (nx tg pc : Nat) (lv : List Value) (st : List Value) : Option sn_St := match i with
  | .iconst c => match c with
    | .ofNat _ => some (True, nx, lv, .int (nI tg) :: st)
    | .negSucc _ => some (True, nx, lv, .int (- nI tg) :: st)
  | .bipush c => match c with
    | .ofNat k => bif Nat.blt k 128 then some (True, nx, lv, .int (nI tg) :: st) else none
    | .negSucc k => bif Nat.blt k 128 then some (True, nx, lv, .int (- nI tg) :: st) else none
  | .sipush c => match c with
    | .ofNat k => bif Nat.beq k 4096 then some (True, nx, lv, .int (nI tg) :: st) else bif Nat.blt k 1024 then some (True, nx, lv, .int (nI tg) :: st) else none
    | .negSucc _ => none
  | .lconst c => bif Nat.beq c.val 0 then some (True, nx, lv, .long (lN 0) :: st) else some (True, nx, lv, .long (lN 1) :: st)
  | .ldc2_w k => match sn_cl o k with
    | some v => some (True, nx, lv, .long v :: st)
    | none => none
  | .ldc k => match sn_ci o k with
    | some v => some (True, nx, lv, .int v :: st)
    | none => none
  | .ldc_w k => match sn_ci o k with
    | some v => some (True, nx, lv, .int v :: st)
    | none => none
  | .aconst_null => some (True, nx, lv, .null :: st)
  | .iload_n k => match sn_gl lv k.val with
    | some (.int x) => some (True, nx, lv, .int x :: st)
    | _ => none
  | .iload k => match sn_gl lv k with
    | some (.int x) => some (True, nx, lv, .int x :: st)
    | _ => none
  | .lload_n k => match sn_gl lv k.val with
    | some (.long x) => some (True, nx, lv, .long x :: st)
    | _ => none
  | .lload k => match sn_gl lv k with
    | some (.long x) => some (True, nx, lv, .long x :: st)
    | _ => none
  | .aload_n k => match sn_gl lv k.val with
    | some (.ref x) => some (True, nx, lv, .ref x :: st)
    | some .null => some (True, nx, lv, .null :: st)
    | _ => none
  | .aload k => match sn_gl lv k with
    | some (.ref x) => some (True, nx, lv, .ref x :: st)
    | some .null => some (True, nx, lv, .null :: st)
    | _ => none
  | .istore_n k => match st with
    | .int x :: r => bif Nat.blt k.val nL then some (True, nx, sn_s1 lv k.val (.int x), r) else none
    | _ => none
  | .istore k => match st with
    | .int x :: r => bif Nat.blt k nL then some (True, nx, sn_s1 lv k (.int x), r) else none
    | _ => none
  | .lstore_n k => match st with
    | .long x :: r => bif Nat.blt (k.val + 1) nL then some (True, nx, sn_s2 lv k.val (.long x), r) else none
    | _ => none
  | .lstore k => match st with
    | .long x :: r => bif Nat.blt (k + 1) nL then some (True, nx, sn_s2 lv k (.long x), r) else none
    | _ => none
  | .astore_n k => match st with
    | .ref x :: r => bif Nat.blt k.val nL then some (True, nx, sn_s1 lv k.val (.ref x), r) else none
    | .null :: r => bif Nat.blt k.val nL then some (True, nx, sn_s1 lv k.val .null, r) else none
    | _ => none
  | .astore k => match st with
    | .ref x :: r => bif Nat.blt k nL then some (True, nx, sn_s1 lv k (.ref x), r) else none
    | .null :: r => bif Nat.blt k nL then some (True, nx, sn_s1 lv k .null, r) else none
    | _ => none
  | .iinc k c => match sn_gl lv k with
    | some (.int x) => bif Nat.blt k nL then (match c with
      | .ofNat _ => some (True, nx, sn_s1 lv k (.int (x + nI tg)), st)
      | .negSucc _ => some (True, nx, sn_s1 lv k (.int (x - nI tg)), st)) else none
    | _ => none
  | .iadd => match st with
    | .int y :: .int x :: r => some (True, nx, lv, .int (x + y) :: r)
    | _ => none
  | .isub => match st with
    | .int y :: .int x :: r => some (True, nx, lv, .int (x - y) :: r)
    | _ => none
  | .imul => match st with
    | .int y :: .int x :: r => some (True, nx, lv, .int (x * y) :: r)
    | _ => none
  | .iand => match st with
    | .int y :: .int x :: r => some (True, nx, lv, .int (x &&& y) :: r)
    | _ => none
  | .ior => match st with
    | .int y :: .int x :: r => some (True, nx, lv, .int (x ||| y) :: r)
    | _ => none
  | .ixor => match st with
    | .int y :: .int x :: r => some (True, nx, lv, .int (x ^^^ y) :: r)
    | _ => none
  | .ishl => match st with
    | .int y :: .int x :: r => some (True, nx, lv, .int (x <<< (y &&& 31)) :: r)
    | _ => none
  | .ishr => match st with
    | .int y :: .int x :: r => some (True, nx, lv, .int (x >>> (y &&& 31)) :: r)
    | _ => none
  | .iushr => match st with
    | .int y :: .int x :: r => some (True, nx, lv, .int ((x.toUInt32 >>> (y.toUInt32 &&& Int32.toUInt32 31)).toInt32) :: r)
    | _ => none
  | .idiv => match st with
    | .int y :: .int x :: r => some (¬ y = 0, nx, lv, .int (x / y) :: r)
    | _ => none
  | .irem => match st with
    | .int y :: .int x :: r => some (¬ y = 0, nx, lv, .int (x - x / y * y) :: r)
    | _ => none
  | .ladd => match st with
    | .long y :: .long x :: r => some (True, nx, lv, .long (x + y) :: r)
    | _ => none
  | .lsub => match st with
    | .long y :: .long x :: r => some (True, nx, lv, .long (x - y) :: r)
    | _ => none
  | .lmul => match st with
    | .long y :: .long x :: r => some (True, nx, lv, .long (x * y) :: r)
    | _ => none
  | .land => match st with
    | .long y :: .long x :: r => some (True, nx, lv, .long (x &&& y) :: r)
    | _ => none
  | .lor => match st with
    | .long y :: .long x :: r => some (True, nx, lv, .long (x ||| y) :: r)
    | _ => none
  | .lxor => match st with
    | .long y :: .long x :: r => some (True, nx, lv, .long (x ^^^ y) :: r)
    | _ => none
  | .ldiv => match st with
    | .long y :: .long x :: r => some (¬ y = 0, nx, lv, .long (x / y) :: r)
    | _ => none
  | .lshl => match st with
    | .int y :: .long x :: r => some (True, nx, lv, .long (x <<< (y.toInt64 &&& 63)) :: r)
    | _ => none
  | .lshr => match st with
    | .int y :: .long x :: r => some (True, nx, lv, .long (x >>> (y.toInt64 &&& 63)) :: r)
    | _ => none
  | .lushr => match st with
    | .int y :: .long x :: r => some (True, nx, lv, .long ((x.toUInt64 >>> (y.toInt64.toUInt64 &&& Int64.toUInt64 63)).toInt64) :: r)
    | _ => none
  | .lcmp => match st with
    | .long y :: .long x :: r => some (True, nx, lv, .int (lg_cmp x y) :: r)
    | _ => none
  | .i2l => match st with
    | .int x :: r => some (True, nx, lv, .long x.toInt64 :: r)
    | _ => none
  | .l2i => match st with
    | .long x :: r => some (True, nx, lv, .int x.toInt32 :: r)
    | _ => none
  | .i2b => match st with
    | .int x :: r => some (True, nx, lv, .int x.toInt8.toInt32 :: r)
    | _ => none
  | .dup => match st with
    | .int x :: r => some (True, nx, lv, .int x :: .int x :: r)
    | .ref x :: r => some (True, nx, lv, .ref x :: .ref x :: r)
    | _ => none
  | .dup2 => match st with
    | .int x :: .ref y :: r => some (True, nx, lv, .int x :: .ref y :: .int x :: .ref y :: r)
    | _ => none
  | .goto _ => some (True, tg, lv, st)
  | .ifCond c _ => match st with
    | .int x :: r => (match c with
      | .eq => some (True, if x = 0 then tg else nx, lv, r)
      | .ne => some (True, if x = 0 then nx else tg, lv, r)
      | .lt => some (True, if x < 0 then tg else nx, lv, r)
      | .ge => some (True, if 0 ≤ x then tg else nx, lv, r)
      | .gt => some (True, if 0 < x then tg else nx, lv, r)
      | .le => some (True, if x ≤ 0 then tg else nx, lv, r))
    | _ => none
  | .if_icmp c _ => match st with
    | .int y :: .int x :: r => (match c with
      | .eq => some (True, if x = y then tg else nx, lv, r)
      | .ne => some (True, if x = y then nx else tg, lv, r)
      | .lt => some (True, if x < y then tg else nx, lv, r)
      | .ge => some (True, if y ≤ x then tg else nx, lv, r)
      | .gt => some (True, if y < x then tg else nx, lv, r)
      | .le => some (True, if x ≤ y then tg else nx, lv, r))
    | _ => none
  | .ifnull _ => match st with
    | .ref _ :: r => some (True, nx, lv, r)
    | .null :: r => some (True, tg, lv, r)
    | _ => none
  | .ifnonnull _ => match st with
    | .ref _ :: r => some (True, tg, lv, r)
    | .null :: r => some (True, nx, lv, r)
    | _ => none
  | .tableswitch dflt lo hi offs => match st with
    | .int x :: r => bif sn_swok pc dflt lo hi offs then some (True, sn_sw pc dflt lo hi offs x, lv, r) else none
    | _ => none
  | _ => none
theorem sn_bi1 : ∀ k, k < 128 → (Int8.ofInt (Int.ofNat k)).toInt32 = nI k := by decide +kernel
theorem sn_bi2 : ∀ k, k < 128 → (Int8.ofInt (Int.negSucc k)).toInt32 = - nI (k + 1) := by decide +kernel
theorem sn_si1 : ∀ k, k < 1024 → (Int16.ofInt (Int.ofNat k)).toInt32 = nI k := by decide +kernel
theorem sn_si2 : (Int16.ofInt (Int.ofNat 4096)).toInt32 = nI 4096 := by decide +kernel
theorem sn_ic1 (k : Nat) : Int32.ofInt (Int.ofNat k) = nI k := by
  show Int32.ofInt (k : Int) = Int32.ofNat k
  exact Int32.ofInt_eq_ofNat
theorem sn_ic2 (k : Nat) : Int32.ofInt (Int.negSucc k) = - nI (k + 1) := by
  have : Int.negSucc k = - ((k + 1 : Nat) : Int) := rfl
  rw [this, Int32.ofInt_neg]
  exact congrArg Neg.neg (sn_ic1 (k + 1))
theorem sn_ic3 (x : Int32) (k : Nat) : x + Int32.ofInt (Int.negSucc k) = x - nI (k + 1) := by
  rw [sn_ic2, Int32.sub_eq_add_neg]
set_option maxHeartbeats 4000000 in
theorem sn_psok {γ : sn_G} {κ : sn_K} {o : Nat} {tab : sn_Tb} {M : sn_Md} {d mc ms : Nat} {Q : State → Prop} {h : sn_H} {pc : Nat} {lv : List Value} {st : List Value} {n k : Nat} (kf : sn_KF γ κ o tab M d mc ms) {i : Instr} {len nx tg : Nat} (hi : (pc, i, len, nx, tg) ∈ tab) {φ : Prop} {pc' : Nat} {lv' : List Value} {st' : List Value} (h1 : sn_ps o M.2.2.1 i nx tg pc lv st = some (φ, pc', lv', st')) (hφ : φ)
    (K : sn_AW γ κ M.2.2.1 Q h pc' lv' st' n k) : sn_AW γ κ M.2.2.1 Q h pc lv st n k := by
  intro H locs ls hR hl hS
  obtain ⟨hx, hb, hml, hown, hts, hGK, hsz, hlk, hrt, hT, hrm, hnm⟩ := kf
  obtain ⟨p, l, e, R, s, m, args, below, meth, c⟩ := κ
  obtain ⟨hd, hj⟩ := hT _ hi
  clear hi
  have hnx := sn_jok_nx hj
  dsimp only at *
  cases i with
  | iconst c =>
    have hn := sn_jok_len hj (by simp [sn_len])
    have htg := sn_jok_con hj rfl
    subst htg
    subst hn; subst hnx
    simp only [sn_ps] at h1
    cases c with
    | ofNat k => cases h1; exact lv_iconst hx hb hd (sn_ic1 k) (K H locs ls hR hl hS)
    | negSucc k => cases h1; exact lv_iconst hx hb hd (sn_ic2 k) (K H locs ls hR hl hS)
  | bipush c =>
    have hn := sn_jok_len hj (by simp [sn_len])
    have htg := sn_jok_con hj rfl
    subst htg
    subst hn; subst hnx
    simp only [sn_ps] at h1
    cases c with
    | ofNat k =>
      cases hq : Nat.blt k 128 with
      | true => simp only [hq, cond_true] at h1; cases h1; exact lv_bipush hx hb hd (sn_bi1 k (Nat.blt_eq.mp hq)) (K H locs ls hR hl hS)
      | false => simp only [hq, cond_false] at h1; cases h1
    | negSucc k =>
      cases hq : Nat.blt k 128 with
      | true => simp only [hq, cond_true] at h1; cases h1; exact lv_bipush hx hb hd (sn_bi2 k (Nat.blt_eq.mp hq)) (K H locs ls hR hl hS)
      | false => simp only [hq, cond_false] at h1; cases h1
  | sipush c =>
    have hn := sn_jok_len hj (by simp [sn_len])
    have htg := sn_jok_con hj rfl
    subst htg
    subst hn; subst hnx
    simp only [sn_ps] at h1
    cases c with
    | ofNat k =>
      cases hq2 : Nat.beq k 4096 with
      | true =>
        simp only [hq2, cond_true] at h1
        have e := Nat.eq_of_beq_eq_true hq2
        subst e
        cases h1
        exact lv_sipush hx hb hd sn_si2 (K H locs ls hR hl hS)
      | false =>
        simp only [hq2, cond_false] at h1
        cases hq : Nat.blt k 1024 with
        | true => simp only [hq, cond_true] at h1; cases h1; exact lv_sipush hx hb hd (sn_si1 k (Nat.blt_eq.mp hq)) (K H locs ls hR hl hS)
        | false => simp only [hq, cond_false] at h1; cases h1
    | negSucc k => cases h1
  | lconst c =>
    have hn := sn_jok_len hj (by simp [sn_len])
    subst hn; subst hnx
    simp only [sn_ps] at h1
    cases hq : Nat.beq c.val 0 with
    | true =>
      simp only [hq, cond_true] at h1
      have e := Nat.eq_of_beq_eq_true hq
      cases h1
      exact lv_lconst hx hb hd (by rw [e]; rfl) (K H locs ls hR hl hS)
    | false =>
      simp only [hq, cond_false] at h1
      have e : c.val = 1 := by
        have := c.isLt
        have : c.val ≠ 0 := fun q => by rw [q] at hq; cases hq
        omega
      cases h1
      exact lv_lconst hx hb hd (by rw [e]; rfl) (K H locs ls hR hl hS)
  | ldc2_w k =>
    have hn := sn_jok_len hj (by simp [sn_len])
    subst hn; subst hnx
    simp only [sn_ps] at h1
    split at h1 <;> first | (cases h1; done) | skip
    rename_i v hv
    cases h1
    exact lv_ldc2 hx hb hown (hts _ (sn_cl_ok hv)) hd (K H locs ls hR hl hS)
  | ldc k =>
    have hn := sn_jok_len hj (by simp [sn_len])
    subst hn; subst hnx
    simp only [sn_ps] at h1
    split at h1 <;> first | (cases h1; done) | skip
    rename_i v hv
    cases h1
    exact lv_ldc hx hb hown (hts _ (sn_ci_ok hv)) hd (K H locs ls hR hl hS)
  | ldc_w k =>
    have hn := sn_jok_len hj (by simp [sn_len])
    subst hn; subst hnx
    simp only [sn_ps] at h1
    split at h1 <;> first | (cases h1; done) | skip
    rename_i v hv
    cases h1
    exact lv_ldcw hx hb hown (hts _ (sn_ci_ok hv)) hd (K H locs ls hR hl hS)
  | aconst_null =>
    have hn := sn_jok_len hj (by simp [sn_len])
    subst hn; subst hnx
    simp only [sn_ps] at h1
    cases h1
    exact lv_null hx hb hd (K H locs ls hR hl hS)
  | iload_n k =>
    have hn := sn_jok_len hj (by simp [sn_len])
    subst hn; subst hnx
    simp only [sn_ps] at h1
    split at h1 <;> first | (cases h1; done) | skip
    rename_i v hv
    cases h1
    exact lv_iload_n hx hb hd rfl (sn_lv hl hv rfl) (K H locs ls hR hl hS)
  | iload k =>
    have hn := sn_jok_len hj (by simp [sn_len])
    subst hn; subst hnx
    simp only [sn_ps] at h1
    split at h1 <;> first | (cases h1; done) | skip
    rename_i v hv
    cases h1
    exact lv_iload hx hb hd (sn_lv hl hv rfl) (K H locs ls hR hl hS)
  | lload_n k =>
    have hn := sn_jok_len hj (by simp [sn_len])
    subst hn; subst hnx
    simp only [sn_ps] at h1
    split at h1 <;> first | (cases h1; done) | skip
    rename_i v hv
    cases h1
    exact lv_lload_n hx hb hd rfl (sn_lv hl hv rfl) (K H locs ls hR hl hS)
  | lload k =>
    have hn := sn_jok_len hj (by simp [sn_len])
    subst hn; subst hnx
    simp only [sn_ps] at h1
    split at h1 <;> first | (cases h1; done) | skip
    rename_i v hv
    cases h1
    exact lv_lload hx hb hd (sn_lv hl hv rfl) (K H locs ls hR hl hS)
  | aload_n k =>
    have hn := sn_jok_len hj (by simp [sn_len])
    subst hn; subst hnx
    simp only [sn_ps] at h1
    split at h1
    · rename_i v hv; cases h1; exact lv_aload_n hx hb hd rfl (sn_lv hl hv rfl) (K H locs ls hR hl hS)
    · rename_i hv; cases h1; exact lv_aload_nN hx hb hd rfl (sn_lv hl hv rfl) (K H locs ls hR hl hS)
    · cases h1
  | aload k =>
    have hn := sn_jok_len hj (by simp [sn_len])
    subst hn; subst hnx
    simp only [sn_ps] at h1
    split at h1
    · rename_i v hv; cases h1; exact lv_aload hx hb hd (sn_lv hl hv rfl) (K H locs ls hR hl hS)
    · rename_i hv; cases h1; exact lv_aloadN hx hb hd (sn_lv hl hv rfl) (K H locs ls hR hl hS)
    · cases h1
  | istore_n k =>
    have hn := sn_jok_len hj (by simp [sn_len])
    subst hn; subst hnx
    simp only [sn_ps] at h1
    split at h1 <;> first | (cases h1; done) | skip
    rename_i x r
    cases hq : Nat.blt k.val M.2.2.1 with
    | true => simp only [hq, cond_true] at h1; cases h1; exact lv_istore_n hx hb hd rfl hl (Nat.blt_eq.mp hq) rfl (fun ls2 hl2 => K H locs ls2 hR (sn_L1 hl2) hS)
    | false => simp only [hq, cond_false] at h1; cases h1
  | istore k =>
    have hn := sn_jok_len hj (by simp [sn_len])
    subst hn; subst hnx
    simp only [sn_ps] at h1
    split at h1 <;> first | (cases h1; done) | skip
    rename_i x r
    cases hq : Nat.blt k M.2.2.1 with
    | true => simp only [hq, cond_true] at h1; cases h1; exact lv_istore hx hb hd hl (Nat.blt_eq.mp hq) rfl (fun ls2 hl2 => K H locs ls2 hR (sn_L1 hl2) hS)
    | false => simp only [hq, cond_false] at h1; cases h1
  | lstore_n k =>
    have hn := sn_jok_len hj (by simp [sn_len])
    subst hn; subst hnx
    simp only [sn_ps] at h1
    split at h1 <;> first | (cases h1; done) | skip
    rename_i x r
    cases hq : Nat.blt (k.val + 1) M.2.2.1 with
    | true => simp only [hq, cond_true] at h1; cases h1; exact lv_lstore_n hx hb hd rfl hl (Nat.blt_eq.mp hq) rfl (fun ls2 hl2 => K H locs ls2 hR (sn_L2 hl2) hS)
    | false => simp only [hq, cond_false] at h1; cases h1
  | lstore k =>
    have hn := sn_jok_len hj (by simp [sn_len])
    subst hn; subst hnx
    simp only [sn_ps] at h1
    split at h1 <;> first | (cases h1; done) | skip
    rename_i x r
    cases hq : Nat.blt (k + 1) M.2.2.1 with
    | true => simp only [hq, cond_true] at h1; cases h1; exact lv_lstore hx hb hd hl (Nat.blt_eq.mp hq) rfl (fun ls2 hl2 => K H locs ls2 hR (sn_L2 hl2) hS)
    | false => simp only [hq, cond_false] at h1; cases h1
  | astore_n k =>
    have hn := sn_jok_len hj (by simp [sn_len])
    subst hn; subst hnx
    simp only [sn_ps] at h1
    split at h1
    · rename_i x r
      cases hq : Nat.blt k.val M.2.2.1 with
      | true => simp only [hq, cond_true] at h1; cases h1; exact lv_astore_n hx hb hd rfl hl (Nat.blt_eq.mp hq) rfl (fun ls2 hl2 => K H locs ls2 hR (sn_L1 hl2) hS)
      | false => simp only [hq, cond_false] at h1; cases h1
    · rename_i r
      cases hq : Nat.blt k.val M.2.2.1 with
      | true => simp only [hq, cond_true] at h1; cases h1; exact lv_astore_nN hx hb hd rfl hl (Nat.blt_eq.mp hq) rfl (fun ls2 hl2 => K H locs ls2 hR (sn_L1 hl2) hS)
      | false => simp only [hq, cond_false] at h1; cases h1
    · cases h1
  | astore k =>
    have hn := sn_jok_len hj (by simp [sn_len])
    subst hn; subst hnx
    simp only [sn_ps] at h1
    split at h1
    · rename_i x r
      cases hq : Nat.blt k M.2.2.1 with
      | true => simp only [hq, cond_true] at h1; cases h1; exact lv_astore hx hb hd hl (Nat.blt_eq.mp hq) rfl (fun ls2 hl2 => K H locs ls2 hR (sn_L1 hl2) hS)
      | false => simp only [hq, cond_false] at h1; cases h1
    · rename_i r
      cases hq : Nat.blt k M.2.2.1 with
      | true => simp only [hq, cond_true] at h1; cases h1; exact lv_astoreN hx hb hd hl (Nat.blt_eq.mp hq) rfl (fun ls2 hl2 => K H locs ls2 hR (sn_L1 hl2) hS)
      | false => simp only [hq, cond_false] at h1; cases h1
    · cases h1
  | iinc k c =>
    have hn := sn_jok_len hj (by simp [sn_len])
    have htg := sn_jok_con hj rfl
    subst htg
    subst hn; subst hnx
    simp only [sn_ps] at h1
    split at h1 <;> first | (cases h1; done) | skip
    rename_i x hv
    cases hq : Nat.blt k M.2.2.1 with
    | true =>
      simp only [hq, cond_true] at h1
      obtain ⟨j, hj2⟩ := List.getElem?_of_mem (sn_gl_mem (γ := γ) hv rfl)
      cases c with
      | ofNat j2 => cases h1; exact lv_iinc hx hb hd hl hj2 (by rw [sn_ic1]; rfl) (Nat.blt_eq.mp hq) rfl (fun ls2 hl2 => K H locs ls2 hR (sn_L1 hl2) hS)
      | negSucc j2 => cases h1; exact lv_iinc hx hb hd hl hj2 (by rw [sn_ic3]; rfl) (Nat.blt_eq.mp hq) rfl (fun ls2 hl2 => K H locs ls2 hR (sn_L1 hl2) hS)
    | false => simp only [hq, cond_false] at h1; cases h1
  | iadd =>
    have hn := sn_jok_len hj (by simp [sn_len])
    subst hn; subst hnx
    simp only [sn_ps] at h1
    split at h1 <;> first | (cases h1; done) | skip
    cases h1
    exact lv_iadd hx hb hd (K H locs ls hR hl hS)
  | isub =>
    have hn := sn_jok_len hj (by simp [sn_len])
    subst hn; subst hnx
    simp only [sn_ps] at h1
    split at h1 <;> first | (cases h1; done) | skip
    cases h1
    exact lv_isub hx hb hd (K H locs ls hR hl hS)
  | imul =>
    have hn := sn_jok_len hj (by simp [sn_len])
    subst hn; subst hnx
    simp only [sn_ps] at h1
    split at h1 <;> first | (cases h1; done) | skip
    cases h1
    exact lv_imul hx hb hd (K H locs ls hR hl hS)
  | iand =>
    have hn := sn_jok_len hj (by simp [sn_len])
    subst hn; subst hnx
    simp only [sn_ps] at h1
    split at h1 <;> first | (cases h1; done) | skip
    cases h1
    exact lv_iand hx hb hd (K H locs ls hR hl hS)
  | ior =>
    have hn := sn_jok_len hj (by simp [sn_len])
    subst hn; subst hnx
    simp only [sn_ps] at h1
    split at h1 <;> first | (cases h1; done) | skip
    cases h1
    exact lv_ior hx hb hd (K H locs ls hR hl hS)
  | ixor =>
    have hn := sn_jok_len hj (by simp [sn_len])
    subst hn; subst hnx
    simp only [sn_ps] at h1
    split at h1 <;> first | (cases h1; done) | skip
    cases h1
    exact lv_ixor hx hb hd (K H locs ls hR hl hS)
  | ishl =>
    have hn := sn_jok_len hj (by simp [sn_len])
    subst hn; subst hnx
    simp only [sn_ps] at h1
    split at h1 <;> first | (cases h1; done) | skip
    cases h1
    exact lv_ishl hx hb hd (K H locs ls hR hl hS)
  | ishr =>
    have hn := sn_jok_len hj (by simp [sn_len])
    subst hn; subst hnx
    simp only [sn_ps] at h1
    split at h1 <;> first | (cases h1; done) | skip
    cases h1
    exact lv_ishr hx hb hd (K H locs ls hR hl hS)
  | ladd =>
    have hn := sn_jok_len hj (by simp [sn_len])
    subst hn; subst hnx
    simp only [sn_ps] at h1
    split at h1 <;> first | (cases h1; done) | skip
    cases h1
    exact lv_ladd hx hb hd (K H locs ls hR hl hS)
  | lsub =>
    have hn := sn_jok_len hj (by simp [sn_len])
    subst hn; subst hnx
    simp only [sn_ps] at h1
    split at h1 <;> first | (cases h1; done) | skip
    cases h1
    exact lv_lsub hx hb hd (K H locs ls hR hl hS)
  | lmul =>
    have hn := sn_jok_len hj (by simp [sn_len])
    subst hn; subst hnx
    simp only [sn_ps] at h1
    split at h1 <;> first | (cases h1; done) | skip
    cases h1
    exact lv_lmul hx hb hd (K H locs ls hR hl hS)
  | land =>
    have hn := sn_jok_len hj (by simp [sn_len])
    subst hn; subst hnx
    simp only [sn_ps] at h1
    split at h1 <;> first | (cases h1; done) | skip
    cases h1
    exact lv_land hx hb hd (K H locs ls hR hl hS)
  | lor =>
    have hn := sn_jok_len hj (by simp [sn_len])
    subst hn; subst hnx
    simp only [sn_ps] at h1
    split at h1 <;> first | (cases h1; done) | skip
    cases h1
    exact lv_lor hx hb hd (K H locs ls hR hl hS)
  | lxor =>
    have hn := sn_jok_len hj (by simp [sn_len])
    subst hn; subst hnx
    simp only [sn_ps] at h1
    split at h1 <;> first | (cases h1; done) | skip
    cases h1
    exact lv_lxor hx hb hd (K H locs ls hR hl hS)
  | iushr =>
    have hn := sn_jok_len hj (by simp [sn_len])
    subst hn; subst hnx
    simp only [sn_ps] at h1
    split at h1 <;> first | (cases h1; done) | skip
    cases h1
    exact lv_iushr hx hb hd rfl (K H locs ls hR hl hS)
  | lshl =>
    have hn := sn_jok_len hj (by simp [sn_len])
    subst hn; subst hnx
    simp only [sn_ps] at h1
    split at h1 <;> first | (cases h1; done) | skip
    cases h1
    exact lv_lshl hx hb hd rfl (K H locs ls hR hl hS)
  | lshr =>
    have hn := sn_jok_len hj (by simp [sn_len])
    subst hn; subst hnx
    simp only [sn_ps] at h1
    split at h1 <;> first | (cases h1; done) | skip
    cases h1
    exact lv_lshr hx hb hd rfl (K H locs ls hR hl hS)
  | lushr =>
    have hn := sn_jok_len hj (by simp [sn_len])
    subst hn; subst hnx
    simp only [sn_ps] at h1
    split at h1 <;> first | (cases h1; done) | skip
    cases h1
    exact lv_lushr hx hb hd rfl (K H locs ls hR hl hS)
  | i2l =>
    have hn := sn_jok_len hj (by simp [sn_len])
    subst hn; subst hnx
    simp only [sn_ps] at h1
    split at h1 <;> first | (cases h1; done) | skip
    cases h1
    exact lv_i2l hx hb hd rfl (K H locs ls hR hl hS)
  | l2i =>
    have hn := sn_jok_len hj (by simp [sn_len])
    subst hn; subst hnx
    simp only [sn_ps] at h1
    split at h1 <;> first | (cases h1; done) | skip
    cases h1
    exact lv_l2i hx hb hd rfl (K H locs ls hR hl hS)
  | i2b =>
    have hn := sn_jok_len hj (by simp [sn_len])
    subst hn; subst hnx
    simp only [sn_ps] at h1
    split at h1 <;> first | (cases h1; done) | skip
    cases h1
    exact lv_i2b hx hb hd rfl (K H locs ls hR hl hS)
  | idiv =>
    have hn := sn_jok_len hj (by simp [sn_len])
    subst hn; subst hnx
    simp only [sn_ps] at h1
    split at h1 <;> first | (cases h1; done) | skip
    cases h1
    exact lv_idiv hx hb hd hφ (K H locs ls hR hl hS)
  | irem =>
    have hn := sn_jok_len hj (by simp [sn_len])
    subst hn; subst hnx
    simp only [sn_ps] at h1
    split at h1 <;> first | (cases h1; done) | skip
    cases h1
    exact lv_irem hx hb hd hφ (K H locs ls hR hl hS)
  | ldiv =>
    have hn := sn_jok_len hj (by simp [sn_len])
    subst hn; subst hnx
    simp only [sn_ps] at h1
    split at h1 <;> first | (cases h1; done) | skip
    cases h1
    exact lv_ldiv hx hb hd hφ (K H locs ls hR hl hS)
  | lcmp =>
    have hn := sn_jok_len hj (by simp [sn_len])
    subst hn; subst hnx
    simp only [sn_ps] at h1
    split at h1 <;> first | (cases h1; done) | skip
    cases h1
    exact W.lcmp hx hb hd (K H locs ls hR hl hS)
  | dup =>
    have hn := sn_jok_len hj (by simp [sn_len])
    subst hn; subst hnx
    simp only [sn_ps] at h1
    split at h1
    · cases h1; exact lv_dup hx hb hd rfl (K H locs ls hR hl hS)
    · cases h1; exact lv_dup hx hb hd rfl (K H locs ls hR hl hS)
    · cases h1
  | dup2 =>
    have hn := sn_jok_len hj (by simp [sn_len])
    subst hn; subst hnx
    simp only [sn_ps] at h1
    split at h1 <;> first | (cases h1; done) | skip
    cases h1
    exact lv_dup2_11 hx hb hd rfl rfl (K H locs ls hR hl hS)
  | goto off =>
    have hn := sn_jok_len hj (by simp [sn_len])
    subst hn; subst hnx
    simp only [sn_ps] at h1
    have ht := sn_jok_tg hj (o := off) rfl
    cases h1
    exact lv_goto hx hb hd ht (K H locs ls hR hl hS)
  | ifCond cd off =>
    have hn := sn_jok_len hj (by simp [sn_len])
    subst hn; subst hnx
    simp only [sn_ps] at h1
    have ht := sn_jok_tg hj (o := off) rfl
    split at h1 <;> first | (cases h1; done) | skip
    rename_i x r
    cases cd with
    | eq =>
      cases h1
      exact lv_if_eq hx hb hd ht (fun q => by rw [if_pos q] at K; exact K H locs ls hR hl hS) (fun q => by rw [if_neg q] at K; exact K H locs ls hR hl hS)
    | ne =>
      cases h1
      exact lv_if_ne hx hb hd ht (fun q => by rw [if_neg q] at K; exact K H locs ls hR hl hS) (fun q => by rw [if_pos q] at K; exact K H locs ls hR hl hS)
    | lt =>
      cases h1
      exact lv_if_lt hx hb hd ht (fun q => by rw [if_pos q] at K; exact K H locs ls hR hl hS) (fun q => by rw [if_neg q] at K; exact K H locs ls hR hl hS)
    | ge =>
      cases h1
      exact lv_if_ge hx hb hd ht (fun q => by rw [if_pos q] at K; exact K H locs ls hR hl hS) (fun q => by rw [if_neg q] at K; exact K H locs ls hR hl hS)
    | gt =>
      cases h1
      exact lv_if_gt hx hb hd ht (fun q => by rw [if_pos q] at K; exact K H locs ls hR hl hS) (fun q => by rw [if_neg q] at K; exact K H locs ls hR hl hS)
    | le =>
      cases h1
      exact lv_if_le hx hb hd ht (fun q => by rw [if_pos q] at K; exact K H locs ls hR hl hS) (fun q => by rw [if_neg q] at K; exact K H locs ls hR hl hS)
  | if_icmp cd off =>
    have hn := sn_jok_len hj (by simp [sn_len])
    subst hn; subst hnx
    simp only [sn_ps] at h1
    have ht := sn_jok_tg hj (o := off) rfl
    split at h1 <;> first | (cases h1; done) | skip
    rename_i y x r
    cases cd with
    | eq =>
      cases h1
      exact lv_icmp_eq hx hb hd ht (fun q => by rw [if_pos q] at K; exact K H locs ls hR hl hS) (fun q => by rw [if_neg q] at K; exact K H locs ls hR hl hS)
    | ne =>
      cases h1
      exact lv_icmp_ne hx hb hd ht (fun q => by rw [if_neg q] at K; exact K H locs ls hR hl hS) (fun q => by rw [if_pos q] at K; exact K H locs ls hR hl hS)
    | lt =>
      cases h1
      exact lv_icmp_lt hx hb hd ht (fun q => by rw [if_pos q] at K; exact K H locs ls hR hl hS) (fun q => by rw [if_neg q] at K; exact K H locs ls hR hl hS)
    | ge =>
      cases h1
      exact lv_icmp_ge hx hb hd ht (fun q => by rw [if_pos q] at K; exact K H locs ls hR hl hS) (fun q => by rw [if_neg q] at K; exact K H locs ls hR hl hS)
    | gt =>
      cases h1
      exact lv_icmp_gt hx hb hd ht (fun q => by rw [if_pos q] at K; exact K H locs ls hR hl hS) (fun q => by rw [if_neg q] at K; exact K H locs ls hR hl hS)
    | le =>
      cases h1
      exact lv_icmp_le hx hb hd ht (fun q => by rw [if_pos q] at K; exact K H locs ls hR hl hS) (fun q => by rw [if_neg q] at K; exact K H locs ls hR hl hS)
  | ifnull off =>
    have hn := sn_jok_len hj (by simp [sn_len])
    subst hn; subst hnx
    simp only [sn_ps] at h1
    have ht := sn_jok_tg hj (o := off) rfl
    split at h1
    · cases h1; exact lv_ifnull hx hb hd (K H locs ls hR hl hS)
    · cases h1; exact lv_ifnullN hx hb hd ht (K H locs ls hR hl hS)
    · cases h1
  | ifnonnull off =>
    have hn := sn_jok_len hj (by simp [sn_len])
    subst hn; subst hnx
    simp only [sn_ps] at h1
    have ht := sn_jok_tg hj (o := off) rfl
    split at h1
    · cases h1; exact lv_ifnonnull hx hb hd ht (K H locs ls hR hl hS)
    · cases h1; exact lv_ifnonnullN hx hb hd (K H locs ls hR hl hS)
    · cases h1
  | tableswitch dflt lo hi offs =>
    simp only [sn_ps] at h1
    split at h1 <;> first | (cases h1; done) | skip
    rename_i x r
    cases hq : sn_swok pc dflt lo hi offs with
    | false => simp only [hq, cond_false] at h1; cases h1
    | true =>
      simp only [hq, cond_true] at h1
      cases h1
      simp only [sn_swok, Bool.and_eq_true, decide_eq_true_eq] at hq
      obtain ⟨⟨q1, q2⟩, q3⟩ := hq
      unfold sn_sw at K
      by_cases hc : x.toInt < lo ∨ hi < x.toInt
      · rw [if_pos hc] at K
        exact lv_tableOut hx hb hd hc (by omega) (K H locs ls hR hl hS)
      · rw [if_neg hc] at K
        have hlt : (x.toInt - lo).toNat < offs.size := by omega
        have hget : offs[(x.toInt - lo).toNat]? = some offs[(x.toInt - lo).toNat] := Array.getElem?_eq_getElem hlt
        rw [hget] at K
        have q4 := List.all_eq_true.mp q2 offs[(x.toInt - lo).toNat] (Array.mem_toList_iff.mpr (Array.getElem_mem hlt))
        simp only [decide_eq_true_eq] at q4
        exact lv_tableIn hx hb hd (fun q => hc (Or.inl q)) (fun q => hc (Or.inr q)) hget (by rw [Option.getD_some]; omega) (K H locs ls hR hl hS)
  | _ => exact absurd h1 (by simp [sn_ps])
