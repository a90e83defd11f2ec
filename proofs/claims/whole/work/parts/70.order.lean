/-! ORDER, AS NUMBERS -/
/-- the j-th key of a set -/
def kyF (s : Nat) : Nat → Nat → Nat
  | 0, _ => 0
  | n + 1, j => if s.testBit n = true ∧ ctf (fun i => s.testBit i) n = j then n else kyF s n j
def ky (s j : Nat) : Nat := kyF s 32 j
theorem ctf_inj {f : Nat → Bool} {a b : Nat} (ha : f a = true) (hb : f b = true) (e : ctf f a = ctf f b) : a = b := by
  have h1 := ctf_s ha
  have h2 := ctf_s hb
  rcases Nat.lt_trichotomy a b with q | q | q
  · have := ctf_mn f (show a + 1 ≤ b by omega)
    omega
  · exact q
  · have := ctf_mn f (show b + 1 ≤ a by omega)
    omega
theorem kyF_eq {s x : Nat} (h : s.testBit x = true) : ∀ n, x < n → kyF s n (ctf (fun i => s.testBit i) x) = x
  | 0, hx => absurd hx (Nat.not_lt_zero _)
  | n + 1, hx => by
    unfold kyF
    by_cases e : s.testBit n = true ∧ ctf (fun i => s.testBit i) n = ctf (fun i => s.testBit i) x
    · rw [if_pos e]
      exact ctf_inj (f := fun i => s.testBit i) e.1 h e.2
    · rw [if_neg e]
      by_cases e2 : x = n
      · subst e2; exact absurd ⟨h, rfl⟩ e
      · exact kyF_eq h n (by omega)
theorem ky_eq {s x : Nat} (h : s.testBit x = true) (hx : x < 32) : ky s (ctf (fun i => s.testBit i) x) = x := kyF_eq h 32 hx
theorem ky_ok {s j : Nat} (hs : s < 2 ^ 32) (hj : j < pcnt s) : ky s j < 32 ∧ s.testBit (ky s j) = true ∧ ctf (fun i => s.testBit i) (ky s j) = j := by
  rw [pcnt_ct hs] at hj
  obtain ⟨x, h1, h2, h3⟩ := ctf_hit hj
  have := ky_eq h2 h1
  rw [h3] at this
  rw [this]
  exact ⟨h1, h2, h3⟩
theorem ky_lt {s i j : Nat} (hs : s < 2 ^ 32) (hi : i < pcnt s) (hj : j < pcnt s) : ky s i < ky s j ↔ i < j := by
  have h1 := ky_ok hs hi
  have h2 := ky_ok hs hj
  constructor
  · intro h
    have h3 := ctf_s (f := fun i => s.testBit i) h1.2.1
    have h4 := ctf_mn (fun i => s.testBit i) (show ky s i + 1 ≤ ky s j by omega)
    omega
  · intro h
    apply Classical.byContradiction
    intro hn
    have h4 := ctf_mn (fun i => s.testBit i) (show ky s j ≤ ky s i by omega)
    omega
theorem ky_le {s i j : Nat} (hs : s < 2 ^ 32) (hi : i < pcnt s) (hj : j < pcnt s) : ky s i ≤ ky s j ↔ i ≤ j := by
  have := ky_lt hs hj hi
  omega
/-- orders by number -/
def fct : Nat → Nat
  | 0 => 1
  | n + 1 => (n + 1) * fct n
def fspF (used : Nat) : Nat → Nat → Nat → Nat
  | 0, _, j => j
  | f + 1, s, j => if used.testBit j then fspF used f s (j + 1) else if s = 0 then j else fspF used f (s - 1) (j + 1)
def fsp (used m s : Nat) : Nat := fspF used m s 0
def pofF (m : Nat) : Nat → Nat → Nat → List Nat
  | 0, _, _ => []
  | k + 1, rest, used => fsp used m (rest / fct k) :: pofF m k (rest % fct k) (used ||| 2 ^ fsp used m (rest / fct k))
def pof (m n : Nat) : List Nat := pofF m m n 0
/-- the next order -/
def gD (L : List Nat) (i : Nat) : Nat := L.getD i 0
def swp (L : List Nat) (a b : Nat) : List Nat := (L.set a (gD L b)).set b (gD L a)
def pvF (L : List Nat) : Nat → Option Nat
  | 0 => none
  | i + 1 => if gD L i ≤ gD L (i + 1) then some i else pvF L i
def njF (L : List Nat) (i : Nat) : Nat → Nat
  | 0 => 0
  | j + 1 => if i < j + 1 ∧ gD L (j + 1) < gD L i then njF L i j else j + 1
def rvF : Nat → List Nat → Nat → Nat → List Nat
  | 0, L, _, _ => L
  | f + 1, L, a, b => if a < b then rvF f (swp L a b) (a + 1) (b - 1) else L
def nxt (L : List Nat) : Option (List Nat) := match pvF L (L.length - 1) with
  | none => none
  | some i => some (rvF 6 (swp L i (njF L i (L.length - 1))) (i + 1) (L.length - 1))
def pgd (m n : Nat) : Bool := (pof m n).length == m && (pof m n).all (fun x => Nat.blt x m) && (if n + 1 = fct m then nxt (pof m n) == none else nxt (pof m n) == some (pof m (n + 1)))
theorem pgd_all : ∀ m, m < 7 → ∀ n, n < fct m → pgd m n = true := by decide +kernel
theorem pof_len {m n : Nat} (hm : m < 7) (hn : n < fct m) : (pof m n).length = m := by
  have := pgd_all m hm n hn
  unfold pgd at this
  rw [Bool.and_eq_true, Bool.and_eq_true] at this
  exact of_decide_eq_true this.1.1
theorem pof_lt {m n i : Nat} (hm : m < 7) (hn : n < fct m) (hi : i < m) : gD (pof m n) i < m := by
  have h0 := pgd_all m hm n hn
  unfold pgd at h0
  rw [Bool.and_eq_true, Bool.and_eq_true] at h0
  have hl := pof_len hm hn
  have h1 := List.all_eq_true.mp h0.1.2
  unfold gD
  rw [List.getD_eq_getElem?_getD, List.getElem?_eq_getElem (by omega)]
  exact Nat.le_of_ble_eq_true (h1 _ (List.getElem_mem _))
theorem pof_nxt {m n : Nat} (hm : m < 7) (hn : n + 1 < fct m) : nxt (pof m n) = some (pof m (n + 1)) := by
  have h0 := pgd_all m hm n (by omega)
  unfold pgd at h0
  rw [Bool.and_eq_true, if_neg (by omega)] at h0
  exact eq_of_beq h0.2
theorem pof_last {m n : Nat} (hm : m < 7) (hn : n + 1 = fct m) : nxt (pof m n) = none := by
  have h0 := pgd_all m hm n (by omega)
  unfold pgd at h0
  rw [Bool.and_eq_true, if_pos hn] at h0
  exact eq_of_beq h0.2
def pid (m : Nat) : Bool := (List.range m) == pof m 0
theorem pof_0 : ∀ m, m < 7 → ∀ i, i < m → gD (pof m 0) i = i := by decide +kernel
theorem fct_le : ∀ m, m < 7 → fct m ≤ 720 := by decide +kernel
theorem fct_pos : ∀ n, 0 < fct n
  | 0 => Nat.one_pos
  | n + 1 => Nat.mul_pos (by omega) (fct_pos n)
/-- do all keys of an order find places -/
def goA (w : sn_Lw) (b : sn_Bk) : List Nat → (Nat → Nat) → Bool
  | [], _ => true
  | y :: ys, g => match psh (bm b) g (frs w b y) (mrk w b 1 y) with
    | none => false
    | some g' => goA w b ys g'
def goO (w : sn_Lw) (b : sn_Bk) (s n : Nat) : Bool := goA w b ((pof (pcnt s) n).map (ky s)) (fun _ => 0)
/-- the first order that goes, from number n on -/
def fso (w : sn_Lw) (b : sn_Bk) (s : Nat) : Nat → Nat → Option Nat
  | 0, _ => none
  | f + 1, n => if goO w b s n then some n else fso w b s f (n + 1)
def orv (w : sn_Lw) (b : sn_Bk) (s i : Nat) : Int32 := match fso w b s (fct (pcnt s)) 0 with
  | none => - nI 1
  | some n => if i < pcnt s then nI (ky s (gD (pof (pcnt s) n) i)) else - nI 1
def an_order (μ : sn_S) (k : Int32) (s : Int64) (i : Int32) : Int32 :=
  if ¬ rg k (snb μ) then - nI 101
  else if ¬ (sg s ∧ pcnt (ts s) ≤ 6 ∧ rg i 6) then - nI 102
  else if ¬ bk (sbk μ (tn k)) = 3 then - nI 103
  else orv (sw μ) (sbk μ (tn k)) (ts s) (tn i)
