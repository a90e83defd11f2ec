/-! MADE, AS NUMBERS -/
theorem bit_add : ∀ (x u : Nat), u.testBit x = false → (∀ i, (u + 2 ^ x).testBit i = (u.testBit i || decide (i = x))) ∧ pcnt (u + 2 ^ x) = pcnt u + 1
  | 0, u, h => by
    rw [Nat.testBit_zero] at h
    have h2 : u % 2 = 0 := by have := of_decide_eq_false h; omega
    have e1 : (u + 1) / 2 = u / 2 := by omega
    constructor
    · intro i
      cases i with
      | zero =>
        rw [Nat.testBit_zero, Nat.testBit_zero, decide_eq_true (show (u + 2 ^ 0) % 2 = 1 by omega)]
        simp
      | succ i =>
        rw [Nat.testBit_succ, Nat.testBit_succ, Nat.pow_zero, e1]
        simp
    · rw [pcnt_eq (u + 2 ^ 0), pcnt_eq u, Nat.pow_zero, e1]
      omega
  | x + 1, u, h => by
    rw [Nat.testBit_succ] at h
    obtain ⟨h1, h2⟩ := bit_add x (u / 2) h
    have e1 : (u + 2 ^ (x + 1)) / 2 = u / 2 + 2 ^ x := by rw [Nat.pow_succ]; omega
    have e2 : (u + 2 ^ (x + 1)) % 2 = u % 2 := by rw [Nat.pow_succ]; omega
    constructor
    · intro i
      cases i with
      | zero =>
        rw [Nat.testBit_zero, Nat.testBit_zero, e2]
        simp
      | succ i =>
        rw [Nat.testBit_succ, Nat.testBit_succ, e1, h1 i]
        congr 1
        by_cases e : i = x
        · rw [decide_eq_true e, decide_eq_true (by omega)]
        · rw [decide_eq_false e, decide_eq_false (by omega)]
    · rw [pcnt_eq (u + 2 ^ (x + 1)), pcnt_eq u, e1, e2, h2]
      omega
theorem bit_sub {x u : Nat} (h : u.testBit x = true) : ∃ u', u = u' + 2 ^ x ∧ u'.testBit x = false := by
  have h0 : (u ^^^ 2 ^ x).testBit x = false := by rw [Nat.testBit_xor, h, Nat.testBit_two_pow_self]; rfl
  refine ⟨u ^^^ 2 ^ x, Nat.eq_of_testBit_eq (fun i => ?_), h0⟩
  rw [(bit_add x _ h0).1 i, Nat.testBit_xor, Nat.testBit_two_pow]
  by_cases e : i = x
  · subst e; rw [h]; simp
  · rw [decide_eq_false e, decide_eq_false (fun z => e z.symm)]; simp
theorem bit_or {x u : Nat} (h : u.testBit x = false) : u ||| 2 ^ x = u + 2 ^ x := by
  refine Nat.eq_of_testBit_eq (fun i => ?_)
  rw [(bit_add x u h).1 i, Nat.testBit_or, Nat.testBit_two_pow]
  by_cases e : i = x
  · rw [decide_eq_true e, decide_eq_true e.symm]
  · rw [decide_eq_false e, decide_eq_false (fun z => e z.symm)]
def vlu (u : Nat) : Nat := pcnt u * 2 ^ 32 + u
theorem vl_add {x u : Nat} (h : u.testBit x = false) : vlu (u + 2 ^ x) = vlu u + 2 ^ 32 + 2 ^ x := by
  unfold vlu
  rw [(bit_add x u h).2]
  omega
/-- u is a set of keys of F below 2^k that covers c -/
def cov (s : Nat → Nat) (F k c u : Nat) : Prop := u < 2 ^ k ∧ (∀ y, u.testBit y = true → F.testBit y = true) ∧ ∀ r, c.testBit r = true → ∃ y, u.testBit y = true ∧ (s y).testBit r = true
theorem cov.le32 {s : Nat → Nat} {F k c u : Nat} (h : cov s F k c u) (hk : k ≤ 32) : vlu u < 33 * 2 ^ 32 := by
  have h1 : u < 2 ^ 32 := Nat.lt_of_lt_of_le h.1 (Nat.pow_le_pow_right (by omega) hk)
  have h2 := pcnt_le h1
  unfold vlu
  omega
theorem cov.add {s : Nat → Nat} {F k c u x : Nat} (h : cov s F k (andn c (s x)) u) (hx : x < k) (hF : F.testBit x = true) (hu : u.testBit x = false) : cov s F k c (u + 2 ^ x) := by
  refine ⟨?_, fun y hy => ?_, fun r hr => ?_⟩
  · rw [← bit_or hu]
    exact Nat.or_lt_two_pow h.1 (wb_lt2 hx)
  · rw [(bit_add x u hu).1 y, Bool.or_eq_true] at hy
    rcases hy with q | q
    · exact h.2.1 y q
    · rw [of_decide_eq_true q]; exact hF
  · by_cases e : (s x).testBit r = true
    · exact ⟨x, by rw [(bit_add x u hu).1 x]; simp, e⟩
    · obtain ⟨y, h1, h2⟩ := h.2.2 r (andn_tt.mpr ⟨hr, e⟩)
      exact ⟨y, by rw [(bit_add x u hu).1 y, h1]; rfl, h2⟩
theorem cov.sub {s : Nat → Nat} {F k c u x : Nat} (hu : u.testBit x = false) (h : cov s F k c (u + 2 ^ x)) : cov s F k (andn c (s x)) u := by
  refine ⟨by have := h.1; have := Nat.two_pow_pos x; omega, fun y hy => h.2.1 y (by rw [(bit_add x u hu).1 y, hy]; rfl), fun r hr => ?_⟩
  obtain ⟨h1, h2⟩ := andn_tt.mp hr
  obtain ⟨y, h3, h4⟩ := h.2.2 r h1
  rw [(bit_add x u hu).1 y, Bool.or_eq_true] at h3
  rcases h3 with q | q
  · exact ⟨y, q, h4⟩
  · rw [of_decide_eq_true q] at h4; exact absurd h4 h2
def sNO : Nat := 33 * 2 ^ 32
/-- the class's table: the least set of keys below x -/
def dp (s : Nat → Nat) (F : Nat) : Nat → Nat → Nat
  | 0, c => if c = 0 then 0 else sNO
  | x + 1, c => if F.testBit x then min (dp s F x c) (dp s F x (andn c (s x)) + 2 ^ 32 + 2 ^ x) else dp s F x c
theorem tb_big {u x y : Nat} (h : u < 2 ^ x) (hy : x ≤ y) : u.testBit y = false := Nat.testBit_lt_two_pow (Nat.lt_of_lt_of_le h (Nat.pow_le_pow_right (by omega) hy))
theorem dp_ok (s : Nat → Nat) (F : Nat) : ∀ k, k ≤ 32 → ∀ c, dp s F k c ≤ sNO ∧ (dp s F k c < sNO → ∃ u, dp s F k c = vlu u ∧ cov s F k c u) ∧ ∀ u, cov s F k c u → dp s F k c ≤ vlu u
  | 0, _, c => by
    show (if c = 0 then 0 else sNO) ≤ sNO ∧ ((if c = 0 then 0 else sNO) < sNO → ∃ u, (if c = 0 then 0 else sNO) = vlu u ∧ _) ∧ ∀ u, _ → (if c = 0 then 0 else sNO) ≤ vlu u
    by_cases e : c = 0
    · simp only [if_pos e]
      refine ⟨Nat.zero_le _, fun _ => ⟨0, by unfold vlu; rw [pcnt_0], by omega, fun y hy => ?_, fun r hr => ?_⟩, fun u _ => Nat.zero_le _⟩
      · rw [Nat.zero_testBit] at hy; cases hy
      · rw [e, Nat.zero_testBit] at hr; cases hr
    · simp only [if_neg e]
      refine ⟨Nat.le_refl _, fun h => absurd h (Nat.lt_irrefl _), fun u hu => absurd ?_ e⟩
      have h0 : u = 0 := by have := hu.1; omega
      refine Nat.eq_of_testBit_eq (fun i => ?_)
      rw [Nat.zero_testBit]
      cases hi : c.testBit i with
      | false => rfl
      | true =>
        obtain ⟨y, h1, _⟩ := hu.2.2 i hi
        rw [h0, Nat.zero_testBit] at h1; cases h1
  | k + 1, hk, c => by
    obtain ⟨a1, a2, a3⟩ := dp_ok s F k (by omega) c
    obtain ⟨b1, b2, b3⟩ := dp_ok s F k (by omega) (andn c (s k))
    have up : ∀ u, cov s F k c u → cov s F (k + 1) c u := fun u h => ⟨Nat.lt_of_lt_of_le h.1 (Nat.pow_le_pow_right (by omega) (by omega)), h.2⟩
    have dn : ∀ u c', cov s F (k + 1) c' u → u.testBit k = false → cov s F k c' u := fun u c' h h0 => by
      refine ⟨?_, h.2⟩
      apply Classical.byContradiction
      intro hn
      have h1 := h.1
      rw [Nat.pow_succ] at h1
      rw [Nat.testBit_eq_decide_div_mod_eq] at h0
      have h2 := of_decide_eq_false h0
      have h3 : u / 2 ^ k = 1 := by
        apply Nat.le_antisymm
        · exact Nat.le_of_lt_succ (Nat.div_lt_of_lt_mul (by omega))
        · exact (Nat.le_div_iff_mul_le (Nat.two_pow_pos k)).mpr (by omega)
      rw [h3] at h2
      exact h2 rfl
    unfold dp
    cases hF : F.testBit k with
    | false =>
      rw [if_neg (by decide)]
      refine ⟨a1, fun h => ?_, fun u hu => a3 u (dn u c hu ?_)⟩
      · obtain ⟨u, h1, h2⟩ := a2 h
        exact ⟨u, h1, up u h2⟩
      · cases h : u.testBit k with
        | false => rfl
        | true => have := hu.2.1 k h; rw [hF] at this; cases this
    | true =>
      rw [if_pos rfl]
      refine ⟨by omega, fun h => ?_, fun u hu => ?_⟩
      · by_cases e : dp s F k c ≤ dp s F k (andn c (s k)) + 2 ^ 32 + 2 ^ k
        · rw [Nat.min_eq_left e]
          obtain ⟨u, h1, h2⟩ := a2 (by omega)
          exact ⟨u, h1, up u h2⟩
        · rw [Nat.min_eq_right (by omega)]
          obtain ⟨u, h1, h2⟩ := b2 (by have := Nat.two_pow_pos k; omega)
          have hu := tb_big h2.1 (Nat.le_refl k)
          refine ⟨u + 2 ^ k, by rw [h1, vl_add hu], cov.add ⟨Nat.lt_of_lt_of_le h2.1 (Nat.pow_le_pow_right (by omega) (by omega)), h2.2⟩ (by omega) hF hu⟩
      · cases h : u.testBit k with
        | false => have := a3 u (dn u c hu h); omega
        | true =>
          obtain ⟨u', rfl, h0⟩ := bit_sub h
          have h1 := dn u' _ (hu.sub h0) h0
          have := b3 u' h1
          rw [vl_add h0]
          omega
/-- the reference's step: a bit r of c is covered by one of the keys -/
def rmn (s : Nat → Nat) (F c r : Nat) : Nat → Nat
  | 0 => sNO
  | x + 1 => if F.testBit x && (s x).testBit r then min (rmn s F c r x) (dp s F 32 (andn c (s x)) + 2 ^ 32 + 2 ^ x) else rmn s F c r x
theorem rmn_le (s : Nat → Nat) (F c r : Nat) : ∀ n, rmn s F c r n ≤ sNO
  | 0 => Nat.le_refl _
  | n + 1 => by
    have := rmn_le s F c r n
    unfold rmn
    split <;> omega
theorem rmn_lb {s : Nat → Nat} {F c r : Nat} {x : Nat} (hF : F.testBit x = true) (hr : (s x).testBit r = true) : ∀ n, x < n → rmn s F c r n ≤ dp s F 32 (andn c (s x)) + 2 ^ 32 + 2 ^ x
  | 0, h => absurd h (Nat.not_lt_zero _)
  | n + 1, h => by
    unfold rmn
    by_cases e : x = n
    · subst e
      rw [hF, hr, Bool.and_self, if_pos rfl]
      omega
    · have := rmn_lb (c := c) hF hr n (by omega)
      split <;> omega
theorem rmn_ex {s : Nat → Nat} {F c r : Nat} : ∀ n, rmn s F c r n < sNO → ∃ x, x < n ∧ F.testBit x = true ∧ (s x).testBit r = true ∧ rmn s F c r n = dp s F 32 (andn c (s x)) + 2 ^ 32 + 2 ^ x
  | 0, h => absurd h (Nat.lt_irrefl _)
  | n + 1, h => by
    unfold rmn at h ⊢
    cases hb : F.testBit n && (s n).testBit r with
    | false =>
      rw [hb, if_neg (by decide)] at h
      rw [if_neg (by decide)]
      obtain ⟨x, h1, h2⟩ := rmn_ex n h
      exact ⟨x, by omega, h2⟩
    | true =>
      rw [hb, if_pos rfl] at h
      rw [if_pos rfl]
      rw [Bool.and_eq_true] at hb
      by_cases e : rmn s F c r n ≤ dp s F 32 (andn c (s n)) + 2 ^ 32 + 2 ^ n
      · rw [Nat.min_eq_left e] at h ⊢
        obtain ⟨x, h1, h2⟩ := rmn_ex n h
        exact ⟨x, by omega, h2⟩
      · rw [Nat.min_eq_right (by omega)]
        exact ⟨n, by omega, hb.1, hb.2, rfl⟩
/-- a least set for c has no key that covers nothing of c -/
theorem dp_no {s : Nat → Nat} {F c x u : Nat} (h : dp s F 32 c = vlu u) (hc : cov s F 32 c u) (hd : ∀ r, c.testBit r = true → (s x).testBit r = false) : u.testBit x = false := by
  cases hb : u.testBit x with
  | false => rfl
  | true =>
    obtain ⟨u', rfl, h0⟩ := bit_sub hb
    have e : andn c (s x) = c := Nat.eq_of_testBit_eq (fun i => by
      rw [andn_tb]
      cases hi : c.testBit i with
      | false => rfl
      | true => rw [hd i hi]; rfl)
    have h1 := hc.sub h0
    rw [e] at h1
    have h2 := (dp_ok s F 32 (Nat.le_refl _) c).2.2 u' h1
    rw [h, vl_add h0] at h2
    have := Nat.two_pow_pos x
    omega
theorem dp_rmn {s : Nat → Nat} {F c r : Nat} (hF : F < 2 ^ 32) (hr : c.testBit r = true) : dp s F 32 c = rmn s F c r 32 := by
  obtain ⟨a1, a2, a3⟩ := dp_ok s F 32 (Nat.le_refl _) c
  have hle : rmn s F c r 32 ≤ dp s F 32 c := by
    by_cases e : dp s F 32 c = sNO
    · rw [e]; exact rmn_le ..
    · obtain ⟨u, h1, h2⟩ := a2 (by omega)
      obtain ⟨x, h3, h4⟩ := h2.2.2 r hr
      have h5 := h2.2.1 x h3
      have hx : x < 32 := by
        apply Classical.byContradiction
        intro hn
        rw [tb_big hF (by omega)] at h5; cases h5
      obtain ⟨u', rfl, h0⟩ := bit_sub h3
      have h6 := (dp_ok s F 32 (Nat.le_refl _) (andn c (s x))).2.2 u' (h2.sub h0)
      have h7 := rmn_lb (c := c) h5 h4 32 hx
      rw [h1, vl_add h0]
      omega
  refine Nat.le_antisymm ?_ hle
  by_cases e : rmn s F c r 32 = sNO
  · rw [e]; exact a1
  · obtain ⟨x, h1, h2, h3, h4⟩ := rmn_ex 32 (Nat.lt_of_le_of_ne (rmn_le ..) e)
    obtain ⟨u, h5, h6⟩ := (dp_ok s F 32 (Nat.le_refl _) (andn c (s x))).2.1 (by have := rmn_le s F c r 32; have := Nat.two_pow_pos x; omega)
    have h0 := dp_no (x := x) h5 h6 (fun i hi => by
      have := (andn_tt.mp hi).2
      cases hb : (s x).testBit i with
      | false => rfl
      | true => exact absurd hb this)
    have h7 := a3 _ (h6.add h1 h2 h0)
    rw [vl_add h0] at h7
    omega
/-- what a value of the table says -/
theorem dp_val {s : Nat → Nat} {F c : Nat} (h : dp s F 32 c ≠ sNO) : ∃ u, dp s F 32 c = vlu u ∧ cov s F 32 c u := by
  obtain ⟨a1, a2, _⟩ := dp_ok s F 32 (Nat.le_refl _) c
  exact a2 (by omega)
theorem vl_div {u : Nat} (h : u < 2 ^ 32) : vlu u / 2 ^ 32 = pcnt u ∧ vlu u % 2 ^ 32 = u := by
  unfold vlu
  omega
theorem dp_0 (s : Nat → Nat) (F : Nat) : ∀ k, dp s F k 0 = 0
  | 0 => rfl
  | k + 1 => by
    unfold dp
    rw [dp_0 s F k]
    split
    · exact Nat.zero_min _
    · rfl
/-- folding -/
def sqF (p S : Nat) : Nat → Nat × Nat
  | 0 => (0, 0)
  | i + 1 => if S.testBit i then ((sqF p S i).1 ||| (if p.testBit i then 2 ^ (sqF p S i).2 else 0), (sqF p S i).2 + 1) else sqF p S i
def sq (p S : Nat) : Nat := (sqF p S 32).1
theorem sqF_ct (p S : Nat) : ∀ n, (sqF p S n).2 = ctf (fun i => S.testBit i) n
  | 0 => rfl
  | n + 1 => by
    unfold sqF ctf
    cases h : S.testBit n with
    | false => simpa using sqF_ct p S n
    | true => simpa using sqF_ct p S n
theorem sqF_tb (p S r : Nat) : ∀ n, (sqF p S n).1.testBit r = true ↔ ∃ i, i < n ∧ S.testBit i = true ∧ p.testBit i = true ∧ ctf (fun i => S.testBit i) i = r
  | 0 => by
    refine ⟨fun h => ?_, fun ⟨i, h, _⟩ => absurd h (Nat.not_lt_zero _)⟩
    have h : (0 : Nat).testBit r = true := h
    rw [Nat.zero_testBit] at h; cases h
  | n + 1 => by
    have ih := sqF_tb p S r n
    unfold sqF
    cases hS : S.testBit n with
    | false =>
      rw [if_neg (by decide), ih]
      constructor
      · rintro ⟨i, h1, h2⟩
        exact ⟨i, by omega, h2⟩
      · rintro ⟨i, h1, h2, h3⟩
        by_cases e : i = n
        · subst e; rw [hS] at h2; cases h2
        · exact ⟨i, by omega, h2, h3⟩
    | true =>
      rw [if_pos rfl]
      show ((sqF p S n).1 ||| _).testBit r = true ↔ _
      rw [or_tb, ih, sqF_ct]
      constructor
      · rintro (⟨i, h1, h2⟩ | h)
        · exact ⟨i, by omega, h2⟩
        · cases hp : p.testBit n with
          | false => rw [hp, if_neg (by decide), Nat.zero_testBit] at h; cases h
          | true =>
            rw [hp, if_pos rfl] at h
            exact ⟨n, by omega, hS, hp, pw_key.mp h⟩
      · rintro ⟨i, h1, h2, h3, h4⟩
        by_cases e : i = n
        · subst e
          right
          rw [if_pos h3]
          exact pw_key.mpr h4
        · exact Or.inl ⟨i, by omega, h2, h3, h4⟩
theorem ctf_mn (f : Nat → Bool) : ∀ {a b : Nat}, a ≤ b → ctf f a ≤ ctf f b := by
  intro a b h
  induction b with
  | zero => have : a = 0 := by omega
            subst this; exact Nat.le_refl _
  | succ b ih =>
    by_cases e : a = b + 1
    · subst e; exact Nat.le_refl _
    · have := ih (by omega)
      show _ ≤ ctf f b + (if f b = true then 1 else 0)
      omega
theorem ctf_s {f : Nat → Bool} {i : Nat} (h : f i = true) : ctf f (i + 1) = ctf f i + 1 := by
  show ctf f i + (if f i = true then 1 else 0) = _
  rw [if_pos h]
theorem sq_tb {p S r : Nat} : (sq p S).testBit r = true ↔ ∃ i, i < 32 ∧ S.testBit i = true ∧ p.testBit i = true ∧ ctf (fun i => S.testBit i) i = r := sqF_tb p S r 32
theorem sq_lt {p S : Nat} (hS : S < 2 ^ 32) : sq p S < 2 ^ pcnt S := by
  refine Nat.lt_pow_two_of_testBit _ (fun i hi => ?_)
  cases h : (sq p S).testBit i with
  | false => rfl
  | true =>
    obtain ⟨j, h1, h2, _, h3⟩ := sq_tb.mp h
    have h4 := ctf_s (f := fun i => S.testBit i) h2
    have h5 := ctf_mn (fun i => S.testBit i) (show j + 1 ≤ 32 by omega)
    rw [pcnt_ct hS] at hi
    omega
theorem ctf_hit {f : Nat → Bool} : ∀ {n r : Nat}, r < ctf f n → ∃ i, i < n ∧ f i = true ∧ ctf f i = r
  | 0, r, h => absurd h (Nat.not_lt_zero _)
  | n + 1, r, h => by
    by_cases e : r < ctf f n
    · obtain ⟨i, h1, h2⟩ := ctf_hit e
      exact ⟨i, by omega, h2⟩
    · cases hf : f n with
      | false =>
        have h : r < ctf f n + (if f n = true then 1 else 0) := h
        rw [hf, if_neg (by decide)] at h
        omega
      | true =>
        have h2 := ctf_s hf
        exact ⟨n, by omega, hf, by omega⟩
def fits (P : Nat → Nat) (S n : Nat) : Nat := orf (fun x => if andn (P x) S = 0 then 2 ^ x else 0) n
def uno (P : Nat → Nat) (F : Nat) (z : Int) (n : Nat) : Nat := orf (fun x => if F.testBit x ∧ ¬ (x : Int) = z then P x else 0) n
theorem fits_tb {P : Nat → Nat} {S n x : Nat} : (fits P S n).testBit x = true ↔ x < n ∧ andn (P x) S = 0 := by
  unfold fits
  rw [orf_tb]
  constructor
  · rintro ⟨i, h1, h2⟩
    by_cases e : andn (P i) S = 0
    · rw [if_pos e] at h2
      have := pw_key.mp h2
      subst this
      exact ⟨h1, e⟩
    · rw [if_neg e, Nat.zero_testBit] at h2; cases h2
  · rintro ⟨h1, h2⟩
    exact ⟨x, h1, by rw [if_pos h2]; exact pw_key.mpr rfl⟩
theorem fits_lt (P : Nat → Nat) (S : Nat) {n : Nat} (hn : n ≤ 32) : fits P S n < 2 ^ 32 := orf_lt' n (fun i hi => by split; exact wb_lt2 (by omega); omega)
theorem uno_tb {P : Nat → Nat} {F n r : Nat} {z : Int} : (uno P F z n).testBit r = true ↔ ∃ x, x < n ∧ F.testBit x = true ∧ ¬ (x : Int) = z ∧ (P x).testBit r = true := by
  unfold uno
  rw [orf_tb]
  constructor
  · rintro ⟨i, h1, h2⟩
    by_cases e : F.testBit i = true ∧ ¬ (i : Int) = z
    · rw [if_pos e] at h2
      exact ⟨i, h1, e.1, e.2, h2⟩
    · rw [if_neg e, Nat.zero_testBit] at h2; cases h2
  · rintro ⟨i, h1, h2, h3, h4⟩
    exact ⟨i, h1, by rw [if_pos ⟨h2, h3⟩]; exact h4⟩
theorem uno_lt {P : Nat → Nat} {F n : Nat} {z : Int} (hP : ∀ x, P x < 2 ^ 32) : uno P F z n < 2 ^ 32 := orf_lt (fun i => by split; exact hP i; omega) n
theorem mask_tb {n r : Nat} : (2 ^ n - 1).testBit r = true ↔ r < n := by rw [Nat.testBit_two_pow_sub_one, decide_eq_true_eq]
/-- all sought places can be had: as the reference sees it, as the class sees it -/
theorem can_iff {P : Nat → Nat} {S : Nat} (hS : S < 2 ^ 32) : uno P (fits P S 32) (-1) 32 = S ↔ dp (fun x => sq (P x) S) (fits P S 32) 32 (2 ^ pcnt S - 1) ≠ sNO := by
  have sub : ∀ r, (uno P (fits P S 32) (-1) 32).testBit r = true → S.testBit r = true := fun r h => by
    obtain ⟨x, _, h2, _, h3⟩ := uno_tb.mp h
    exact andn_0.mp (fits_tb.mp h2).2 r h3
  constructor
  · intro e
    have hF := fits_lt P S (Nat.le_refl 32)
    have hc : cov (fun x => sq (P x) S) (fits P S 32) 32 (2 ^ pcnt S - 1) (fits P S 32) := by
      refine ⟨hF, fun y hy => hy, fun r hr => ?_⟩
      have hr := mask_tb.mp hr
      rw [pcnt_ct hS] at hr
      obtain ⟨i, h1, h2, h3⟩ := ctf_hit hr
      have h4 : (uno P (fits P S 32) (-1) 32).testBit i = true := by rw [e]; exact h2
      obtain ⟨x, h5, h6, _, h7⟩ := uno_tb.mp h4
      exact ⟨x, h6, sq_tb.mpr ⟨i, h1, h2, h7, h3⟩⟩
    have h1 := (dp_ok _ _ 32 (Nat.le_refl _) _).2.2 _ hc
    have h2 := hc.le32 (Nat.le_refl _)
    unfold sNO
    omega
  · intro h
    obtain ⟨u, h1, h2⟩ := dp_val h
    refine Nat.eq_of_testBit_eq (fun i => ?_)
    cases hi : S.testBit i with
    | false =>
      cases hj : (uno P (fits P S 32) (-1) 32).testBit i with
      | false => rfl
      | true => rw [sub i hj] at hi; cases hi
    | true =>
      have hi32 : i < 32 := by
        apply Classical.byContradiction
        intro hn
        rw [tb_big hS (by omega)] at hi; cases hi
      have h3 := ctf_s (f := fun i => S.testBit i) hi
      have h4 := ctf_mn (fun i => S.testBit i) (show i + 1 ≤ 32 by omega)
      rw [← pcnt_ct hS] at h4
      obtain ⟨y, h5, h6⟩ := h2.2.2 (ctf (fun i => S.testBit i) i) (mask_tb.mpr (by omega))
      obtain ⟨j, h7, h8, h9, h10⟩ := sq_tb.mp h6
      have ej : j = i := by
        have h11 := ctf_s (f := fun i => S.testBit i) h8
        rcases Nat.lt_trichotomy j i with q | q | q
        · have := ctf_mn (fun i => S.testBit i) (show j + 1 ≤ i by omega)
          omega
        · exact q
        · have := ctf_mn (fun i => S.testBit i) (show i + 1 ≤ j by omega)
          omega
      subst ej
      exact uno_tb.mpr ⟨y, (fits_tb.mp (h2.2.1 y h5)).1, h2.2.1 y h5, by omega, h9⟩
/-- the keys that every making has -/
def sure (P : Nat → Nat) (F S n : Nat) : Nat := orf (fun x => if F.testBit x ∧ ¬ uno P F x 32 = S then 2 ^ x else 0) n
def surX (P : Nat → Nat) (F n : Nat) : Nat := orf (fun x => if F.testBit x ∧ ¬ andn (P x &&& orf (fun x => if F.testBit x then P x else 0) 32) (twc (fun x => F.testBit x) P 32) = 0 then 2 ^ x else 0) n
theorem ctf_pos {f : Nat → Bool} : ∀ {n x : Nat}, x < n → f x = true → 1 ≤ ctf f n := fun {n x} h1 h2 => by
  have := ctf_s h2
  have := ctf_mn f (show x + 1 ≤ n by omega)
  omega
theorem ctf_ex {f : Nat → Bool} {n : Nat} (h : 1 ≤ ctf f n) : ∃ x, x < n ∧ f x = true := by
  obtain ⟨i, h1, h2, _⟩ := ctf_hit (show 0 < ctf f n by omega)
  exact ⟨i, h1, h2⟩
theorem ctf_two {f : Nat → Bool} {n a b : Nat} (ha : a < n) (hb : b < n) (fa : f a = true) (fb : f b = true) (hab : a ≠ b) : 2 ≤ ctf f n := by
  apply Classical.byContradiction
  intro hn
  have := ctf_pos ha fa
  exact hab (ctf_uniq (by omega) ha hb fa fb)
theorem ctf_two' {f : Nat → Bool} {n a : Nat} (h : 2 ≤ ctf f n) : ∃ b, b < n ∧ b ≠ a ∧ f b = true := by
  obtain ⟨i, h1, h2, h3⟩ := ctf_hit (show 0 < ctf f n by omega)
  obtain ⟨j, h4, h5, h6⟩ := ctf_hit (show 1 < ctf f n by omega)
  by_cases e : i = a
  · refine ⟨j, h4, fun e2 => ?_, h5⟩
    subst e; subst e2
    omega
  · exact ⟨i, h1, e, h2⟩
theorem sur_eq {P : Nat → Nat} {F S : Nat} (hc : uno P F (-1) 32 = S) : surX P F 32 = sure P F S 32 := by
  unfold surX sure
  refine orf_cong (fun x hx => ?_)
  have key : (¬ andn (P x &&& orf (fun x => if F.testBit x then P x else 0) 32) (twc (fun x => F.testBit x) P 32) = 0) ↔ ((∃ i, (P x).testBit i = true ∧ ctf (fun y => F.testBit y && (P y).testBit i) 32 = 1)) := by
    rw [andn_0]
    constructor
    · intro h
      apply Classical.byContradiction
      intro hn
      refine h (fun i hi => ?_)
      rw [Nat.testBit_and, Bool.and_eq_true, one_tb] at hi
      rw [two_tb, decide_eq_true_eq]
      have h2 := of_decide_eq_true hi.2
      apply Classical.byContradiction
      intro h3
      exact hn ⟨i, hi.1, by omega⟩
    · rintro ⟨i, h1, h2⟩ h
      have h3 := h i (by rw [Nat.testBit_and, h1, one_tb, decide_eq_true (by omega)]; rfl)
      rw [two_tb, decide_eq_true_eq] at h3
      omega
  by_cases hF : F.testBit x = true
  · have : (¬ andn (P x &&& orf (fun x => if F.testBit x then P x else 0) 32) (twc (fun x => F.testBit x) P 32) = 0) ↔ ¬ uno P F x 32 = S := by
      rw [key]
      constructor
      · rintro ⟨i, h1, h2⟩ e
        have h3 : (uno P F (-1) 32).testBit i = true := uno_tb.mpr ⟨x, hx, hF, by omega, h1⟩
        rw [hc, ← e] at h3
        obtain ⟨y, h4, h5, h6, h7⟩ := uno_tb.mp h3
        have := ctf_uniq h2 hx h4 (by rw [hF, h1]; rfl) (by rw [h5, h7]; rfl)
        exact h6 (by omega)
      · intro hn
        apply Classical.byContradiction
        intro h
        refine hn (Nat.eq_of_testBit_eq (fun i => ?_))
        rw [← hc]
        cases h1 : (uno P F (-1) 32).testBit i with
        | false =>
          cases h2 : (uno P F x 32).testBit i with
          | false => rfl
          | true =>
            obtain ⟨y, h4, h5, h6, h7⟩ := uno_tb.mp h2
            have : (uno P F (-1) 32).testBit i = true := uno_tb.mpr ⟨y, h4, h5, by omega, h7⟩
            rw [h1] at this; cases this
        | true =>
          obtain ⟨y, h4, h5, h6, h7⟩ := uno_tb.mp h1
          by_cases e : y = x
          · subst e
            have h8 : 1 ≤ ctf (fun y => F.testBit y && (P y).testBit i) 32 := ctf_pos h4 (by rw [h5, h7]; rfl)
            have h9 : ¬ ctf (fun y => F.testBit y && (P y).testBit i) 32 = 1 := fun z => h ⟨i, h7, z⟩
            obtain ⟨b, hb1, hb2, hb3⟩ := ctf_two' (a := y) (show 2 ≤ ctf (fun y => F.testBit y && (P y).testBit i) 32 by omega)
            rw [Bool.and_eq_true] at hb3
            exact uno_tb.mpr ⟨b, hb1, hb3.1, by omega, hb3.2⟩
          · exact uno_tb.mpr ⟨y, h4, h5, by omega, h7⟩
    simp only [hF, true_and, this]
  · rw [if_neg (fun z => hF z.1), if_neg (fun z => hF z.1)]
theorem sure_lt (P : Nat → Nat) (F S : Nat) {n : Nat} (hn : n ≤ 32) : sure P F S n < 2 ^ 32 := orf_lt' n (fun i hi => by split; exact wb_lt2 (by omega); omega)
/-- the answers -/
def mdv (P : Nat → Nat) (S : Nat) : Nat := dp (fun x => sq (P x) S) (fits P S 32) 32 (2 ^ pcnt S - 1)
def mda (P : Nat → Nat) (S w : Nat) : Int64 :=
  if w < 2 then
    (if 12 < pcnt S then -2
    else if ¬ uno P (fits P S 32) (-1) 32 = S then -1
    else if w = 0 then lN (mdv P S / 2 ^ 32)
    else lN (mdv P S % 2 ^ 32))
  else if ¬ uno P (fits P S 32) (-1) 32 = S then 0
  else if w = 2 then lN (sure P (fits P S 32) S 32)
  else lN (fits P S 32)
def an_made (μ : sn_S) (k wh : Int32) : Int64 :=
  if ¬ rg k (snb μ) then -101
  else if ¬ rg wh 4 then -102
  else if ¬ (bk (sbk μ (tn k)) = 0 ∨ bk (sbk μ (tn k)) = 2) then -103
  else mda (pls (sw μ) (sbk μ (tn k))) (fil (sbk μ (tn k))) (tn wh)
