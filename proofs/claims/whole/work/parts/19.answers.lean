/-! WHAT THE CALLS ANSWER -/
abbrev rg (x : Int32) (n : Nat) : Prop := 0 ≤ x.toInt ∧ x.toInt < (n : Int)
def tn (x : Int32) : Nat := x.toInt.toNat
theorem rg_ex {x : Int32} {n : Nat} (h : rg x n) : ∃ k, k < n ∧ k < 2 ^ 31 ∧ x = nI k := by
  obtain ⟨k, h1, h2⟩ := nI_of (x := x) (fun q => by have h3 := (fa_lt x 0).mp q; have h0 := h.1; simp at h3; omega)
  refine ⟨k, ?_, h1, h2⟩
  have := h.2
  rw [h2, nI_toInt h1] at this
  omega
theorem rg_nI {k n : Nat} (hk : k < 2 ^ 31) : rg (nI k) n ↔ k < n := by
  unfold rg
  rw [nI_toInt hk]
  omega
theorem tn_nI {k : Nat} (hk : k < 2 ^ 31) : tn (nI k) = k := by unfold tn; rw [nI_toInt hk]; rfl
abbrev sg (s : Int64) : Prop := 0 ≤ s.toInt ∧ s.toInt < 4294967296
def ts (s : Int64) : Nat := s.toInt.toNat
theorem sg_ex {s : Int64} (h : sg s) : ∃ n, n < 2 ^ 32 ∧ s = lN n := by
  obtain ⟨k, h1, h2⟩ := pk_lOf (x := s) (fun q => by have h3 := (fa_lt64 s 0).mp q; have h0 := h.1; simp at h3; omega)
  refine ⟨k, ?_, h2⟩
  have := h.2
  rw [h2, pk_lT h1] at this
  omega
theorem sg_lN {n : Nat} (h : n < 2 ^ 32) : sg (lN n) := by
  unfold sg
  rw [pk_lT (by omega)]
  omega
theorem ts_lN {n : Nat} (h : n < 2 ^ 32) : ts (lN n) = n := by unfold ts; rw [pk_lT (by omega)]; rfl
/-- the laws and books of a state -/
abbrev sw (μ : sn_S) : sn_Lw := μ.1
abbrev snb (μ : sn_S) : Nat := μ.2.1
abbrev sbk (μ : sn_S) : Nat → sn_Bk := μ.2.2
def WS (μ : sn_S) : Prop := WL (sw μ) ∧ snb μ ≤ 8 ∧ ∀ k, k < snb μ → WB (sw μ).1 (sbk μ k)
def MS (A : sn_A2) (B : sn_B2) (μ : sn_S) : Prop := WS μ ∧ ML A (sw μ) ∧ A 0 1 = nI (snb μ) ∧ ∀ k, k < snb μ → MB A B k (sbk μ k)
theorem MS.mk {A : sn_A2} {B : sn_B2} {μ : sn_S} (h : MS A B μ) {k : Nat} (hk : k < snb μ) : MK A B (sw μ) k (sbk μ k) := ⟨h.1.1, h.2.1, h.1.2.2 k hk, h.2.2.2 k hk, by have := h.1.2.1; omega⟩
def an_value (μ : sn_S) (l y : Int32) : Int32 := if rg l (sw μ).1 ∧ rg y 32 then nI (val ((sw μ).2.1 (tn l)) ((sw μ).2.2 (tn l)) (tn y)) else - nI 101
def an_as (μ : sn_S) (k c : Int32) : Int32 := if ¬ rg k (snb μ) then - nI 101 else if ¬ rg c 6 then - nI 102 else if bk (sbk μ (tn k)) = tn c ∨ (tn c = 0 ∧ bk (sbk μ (tn k)) ≠ 3) ∨ (tn c = 2 ∧ bk (sbk μ (tn k)) = 4) then k else - nI 1
def an_about (μ : sn_S) (k c : Int32) : Int32 := if ¬ rg k (snb μ) then - nI 101 else if rg c 6 then nI (abt (sbk μ (tn k)) (tn c)) else - nI 102
def an_at (μ : sn_S) (k i : Int32) : Int32 := if rg k (snb μ) ∧ rg i (bm (sbk μ (tn k))) then nI (bn (sbk μ (tn k)) (tn i)) else - nI 101
def an_row (μ : sn_S) (k i : Int32) : Int64 := if rg k (snb μ) ∧ rg i (bc (sbk μ (tn k))) then lN (br (sbk μ (tn k)) (tn i)) else -101
def an_places (μ : sn_S) (k y : Int32) : Int64 := if rg k (snb μ) ∧ rg y 32 then lN (pls (sw μ) (sbk μ (tn k)) (tn y)) else -101
def an_real (μ : sn_S) (k y : Int32) : Int32 := if rg k (snb μ) ∧ rg y 32 then nI (bt (sbk μ (tn k)) (tn y)) else - nI 101
def an_keys (μ : sn_S) (k c : Int32) : Int64 := if ¬ rg k (snb μ) then -101 else if rg c 4 then lN (kof (sw μ) (sbk μ (tn k)) (tn c)) else -102
/-- the first size by which e keys at most are met -/
def fwF (a b s e : Nat) : Nat → Nat → Option Nat
  | 0, _ => none
  | n + 1, m => if flBy a b m s ≤ e then some m else fwF a b s e n (m + 1)
def onI (o : Option Nat) : Int32 := match o with
  | some m => nI m
  | none => - nI 1
def an_fewest (μ : sn_S) (s : Int64) (l e : Int32) : Int32 := if ¬ rg l (sw μ).1 then - nI 101 else if ¬ (sg s ∧ rg e 32) then - nI 102 else onI (fwF ((sw μ).2.1 (tn l)) ((sw μ).2.2 (tn l)) (ts s) (tn e) 31 2)
/-- over all laws: fewest, A, B; row by row -/
def bsB (s m a : Nat) : Nat → Nat × Nat × Nat → Nat × Nat × Nat
  | 0, z => z
  | n + 1, z => let z := bsB s m a n z; if flBy a n m s < z.1 then (flBy a n m s, a, n) else z
def bsA (s m : Nat) (z0 : Nat) : Nat → Nat × Nat × Nat
  | 0 => (z0, 0, 0)
  | n + 1 => bsB s m (n + 1) 37 (bsA s m z0 n)
def an_best (s : Int64) (m c : Int32) : Int32 := if ¬ (sg s ∧ (2 ≤ m.toInt ∧ m.toInt ≤ 32) ∧ rg c 3) then - nI 102 else if tn c = 0 then nI (bsA (ts s) (tn m) 99 36).1 else if tn c = 1 then nI (bsA (ts s) (tn m) 99 36).2.1 else nI (bsA (ts s) (tn m) 99 36).2.2
/-- over all laws: how many meet -/
def odB (s y m a : Nat) : Nat → Nat := ctf (fun b => (plBy a b m s).testBit (val a b y % m))
def odA (s y m : Nat) : Nat → Nat
  | 0 => 0
  | n + 1 => odA s y m n + odB s y m (n + 1) 37
def an_odds (s : Int64) (y m c : Int32) : Int32 := if ¬ (sg s ∧ (2 ≤ m.toInt ∧ m.toInt ≤ 32) ∧ rg c 2) then - nI 102 else if ¬ (rg y 32 ∧ (ts s).testBit (tn y) = false) then - nI 101 else nI ((if tn c = 0 then odA (ts s) (tn y) (tn m) 36 else 1332) / Nat.gcd (odA (ts s) (tn y) (tn m) 36) 1332)
theorem odA_le (s y m : Nat) : ∀ n, odA s y m n ≤ 37 * n
  | 0 => Nat.le_refl _
  | n + 1 => by have h1 := odA_le s y m n; have h2 := ctf_le (fun b => (plBy (n + 1) b m s).testBit (val (n + 1) b y % m)) 37; simp only [odA, odB]; omega
