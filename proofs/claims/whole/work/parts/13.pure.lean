/-! THE WORLD OF THE DOCUMENT, AS NUMBERS -/
/-- or, and counts over the first n -/
def orf (f : Nat → Nat) : Nat → Nat
  | 0 => 0
  | n + 1 => orf f n ||| f n
def ctf (f : Nat → Bool) : Nat → Nat
  | 0 => 0
  | n + 1 => ctf f n + (if f n then 1 else 0)
theorem ctf_le (f : Nat → Bool) : ∀ n, ctf f n ≤ n
  | 0 => Nat.le_refl _
  | n + 1 => by have := ctf_le f n; simp only [ctf]; split <;> omega
theorem orf_lt {f : Nat → Nat} {k : Nat} (hf : ∀ i, f i < 2 ^ k) : ∀ n, orf f n < 2 ^ k
  | 0 => Nat.two_pow_pos k
  | n + 1 => Nat.or_lt_two_pow (orf_lt hf n) (hf n)
theorem orf_lt' {f : Nat → Nat} {k : Nat} : ∀ n, (∀ i, i < n → f i < 2 ^ k) → orf f n < 2 ^ k
  | 0, _ => Nat.two_pow_pos k
  | n + 1, hf => Nat.or_lt_two_pow (orf_lt' n (fun i hi => hf i (by omega))) (hf n (by omega))
theorem orf_cong {f g : Nat → Nat} : ∀ {n : Nat}, (∀ i, i < n → f i = g i) → orf f n = orf g n
  | 0, _ => rfl
  | n + 1, h => by rw [orf, orf, orf_cong (fun i hi => h i (by omega)), h n (by omega)]
theorem ctf_cong {f g : Nat → Bool} : ∀ {n : Nat}, (∀ i, i < n → f i = g i) → ctf f n = ctf g n
  | 0, _ => rfl
  | n + 1, h => by rw [ctf, ctf, ctf_cong (fun i hi => h i (by omega)), h n (by omega)]
theorem orf_tb (f : Nat → Nat) (k : Nat) : ∀ n, (orf f n).testBit k = true ↔ ∃ i, i < n ∧ (f i).testBit k = true
  | 0 => by simp [orf]
  | n + 1 => by
    rw [orf, Nat.testBit_or, Bool.or_eq_true, orf_tb f k n]
    constructor
    · rintro (⟨i, h1, h2⟩ | h)
      · exact ⟨i, by omega, h2⟩
      · exact ⟨n, by omega, h⟩
    · rintro ⟨i, h1, h2⟩
      by_cases e : i = n
      · subst e; exact Or.inr h2
      · exact Or.inl ⟨i, by omega, h2⟩
/-- a without b -/
def andn (a b : Nat) : Nat := a ^^^ (a &&& b)
theorem andn_tb (a b i : Nat) : (andn a b).testBit i = (a.testBit i && !b.testBit i) := by
  unfold andn
  rw [Nat.testBit_xor, Nat.testBit_and]
  cases a.testBit i <;> cases b.testBit i <;> rfl
theorem andn_lt {a b k : Nat} (h : a < 2 ^ k) : andn a b < 2 ^ k := Nat.xor_lt_two_pow h (Nat.lt_of_le_of_lt Nat.and_le_left h)
theorem lN_andn (a b : Nat) : lN a &&& (lN b ^^^ (-1)) = lN (andn a b) := by
  rw [lN_m1, fb_xorL, fb_andL]
  apply wb_inj
  show BitVec.ofNat 64 _ = BitVec.ofNat 64 _
  apply BitVec.eq_of_getLsbD_eq
  intro i hi
  simp only [BitVec.getLsbD_ofNat, hi, decide_true, Bool.true_and, Nat.testBit_and, Nat.testBit_xor, andn_tb, Nat.testBit_two_pow_sub_one]
  cases a.testBit i <;> cases b.testBit i <;> rfl
/-- how many bits -/
def pcnt (n : Nat) : Nat := if h : n = 0 then 0 else n % 2 + pcnt (n / 2)
termination_by n
decreasing_by omega
theorem pcnt_0 : pcnt 0 = 0 := by unfold pcnt; simp
theorem pcnt_eq (n : Nat) : pcnt n = n % 2 + pcnt (n / 2) := by
  by_cases h : n = 0
  · subst h; simp [pcnt_0]
  · rw [pcnt]; simp [h]
theorem pcnt_dbl (n : Nat) : pcnt (2 * n) = pcnt n := by
  rw [pcnt_eq]
  rw [show 2 * n % 2 = 0 by omega, show 2 * n / 2 = n by omega, Nat.zero_add]
theorem pcnt_odd (n : Nat) : pcnt (2 * n + 1) = pcnt n + 1 := by
  rw [pcnt_eq]
  rw [show (2 * n + 1) % 2 = 1 by omega, show (2 * n + 1) / 2 = n by omega, Nat.add_comm]
theorem pcnt_pos {n : Nat} (h : n ≠ 0) : 0 < pcnt n := by
  induction n using Nat.strongRecOn with
  | _ n ih =>
    rcases Nat.mod_two_eq_zero_or_one n with e | e
    · obtain ⟨m, rfl⟩ : ∃ m, n = 2 * m := ⟨n / 2, by omega⟩
      rw [pcnt_dbl]
      exact ih m (by omega) (by omega)
    · obtain ⟨m, rfl⟩ : ∃ m, n = 2 * m + 1 := ⟨n / 2, by omega⟩
      rw [pcnt_odd]; omega
theorem and_dbl (a b x y : Nat) (hx : x < 2) (hy : y < 2) : (2 * a + x) &&& (2 * b + y) = 2 * (a &&& b) + x * y := by
  have hx : x = 0 ∨ x = 1 := by omega
  have hy : y = 0 ∨ y = 1 := by omega
  apply Nat.eq_of_testBit_eq
  intro i
  rw [Nat.testBit_and]
  cases i with
  | zero =>
    simp only [Nat.testBit_zero]
    rcases hx with rfl | rfl <;> rcases hy with rfl | rfl <;> simp <;> omega
  | succ j =>
    simp only [Nat.testBit_succ]
    rw [show (2 * a + x) / 2 = a by omega, show (2 * b + y) / 2 = b by omega, ← Nat.testBit_and]
    congr 1
    rcases hx with rfl | rfl <;> rcases hy with rfl | rfl <;> omega
theorem pcnt_drop {n : Nat} (h : n ≠ 0) : pcnt (n &&& (n - 1)) + 1 = pcnt n := by
  induction n using Nat.strongRecOn with
  | _ n ih =>
    rcases Nat.mod_two_eq_zero_or_one n with e | e
    · obtain ⟨m, rfl⟩ : ∃ m, n = 2 * m := ⟨n / 2, by omega⟩
      have hm : m ≠ 0 := by omega
      have h1 := and_dbl m (m - 1) 0 1 (by omega) (by omega)
      rw [show 2 * m - 1 = 2 * (m - 1) + 1 by omega, show 2 * m = 2 * m + 0 by omega, h1]
      rw [show 2 * (m &&& (m - 1)) + 0 * 1 = 2 * (m &&& (m - 1)) by omega, show 2 * m + 0 = 2 * m by omega, pcnt_dbl, pcnt_dbl]
      exact ih m (by omega) hm
    · obtain ⟨m, rfl⟩ : ∃ m, n = 2 * m + 1 := ⟨n / 2, by omega⟩
      have h1 := and_dbl m m 1 0 (by omega) (by omega)
      rw [show 2 * m + 1 - 1 = 2 * m + 0 by omega, h1]
      rw [show 2 * (m &&& m) + 1 * 0 = 2 * (m &&& m) by omega, Nat.and_self, pcnt_dbl, pcnt_odd]
theorem and_pred_lt {n : Nat} (h : n ≠ 0) : n &&& (n - 1) < n := Nat.lt_of_le_of_lt Nat.and_le_right (by omega)
theorem pcnt_le {n k : Nat} (h : n < 2 ^ k) : pcnt n ≤ k := by
  induction k generalizing n with
  | zero => have : n = 0 := by omega
            subst this; rw [pcnt_0]; omega
  | succ k ih =>
    rw [pcnt_eq]
    have := ih (n := n / 2) (by rw [Nat.pow_succ] at h; omega)
    omega
def val (a b x : Nat) : Nat := (a * x + b) % 37
theorem val_lt (a b x : Nat) : val a b x < 37 := Nat.mod_lt _ (by omega)
/-- places of a set by a law -/
def plBy (a b m s : Nat) : Nat := orf (fun x => if s.testBit x then 2 ^ (val a b x % m) else 0) 32
/-- how many keys not of the set have places of it -/
def flBy (a b m s : Nat) : Nat := ctf (fun x => !s.testBit x && (plBy a b m s).testBit (val a b x % m)) 32
theorem pl_lt {m : Nat} (v : Nat) (hm : 0 < m) (hm2 : m ≤ 32) : 2 ^ (v % m) < 2 ^ 32 := wb_lt2 (by have := Nat.mod_lt v hm; omega)
theorem plBy_lt {a b m s : Nat} (hm : 0 < m) (hm2 : m ≤ 32) : plBy a b m s < 2 ^ 32 := orf_lt (fun i => by split; exact pl_lt _ hm hm2; omega) 32
theorem flBy_le (a b m s : Nat) : flBy a b m s ≤ 32 := ctf_le _ _
