/-! THE CLASS'S STATE -/
def CV (h : sn_H) (v : Value) : Prop := v = .null ∨ ∃ c, v = .ref c ∧ 27 ≤ c ∧ h[c]? = some (.inr (9, [.ref (c + 1)])) ∧ JR h (c + 1) 4096
/-- how many cells a book has -/
def bln (b : sn_Bk) : Nat := if bk b = 3 then 7 else if bk b = 4 then 6 else if bk b = 5 then 5 else 3
/-- laws and books lie in the class's cells -/
def XO (h : sn_H) (μ : sn_S) (fl fb : Nat → Option Nat) (ad ru : Nat → Nat) (cv : Value) : Prop :=
  h[1]? = some (.inr (0, [.ref 2, .int (nI (sw μ).1), .ref 3, .int (nI (snb μ)), .ref 4, cv])) ∧ h[2]? = some (.inl (3, 8, .inr (.inr (.inr (.inr fl))))) ∧ h[3]? = some (.inl (4, 8, .inr (.inr (.inr (.inr fb))))) ∧ JR h 4 32 ∧ CV h cv
  ∧ (∀ l, l < (sw μ).1 → ∃ a, fl l = some a ∧ h[a]? = some (.inr (2, [.int (nI ((sw μ).2.1 l)), .int (nI ((sw μ).2.2 l))])))
  ∧ (∀ k, k < snb μ → fb k = some (ad k) ∧ 27 ≤ ad k ∧ BR h (sw μ) (sbk μ k) (ad k) (ru k))
  ∧ (∀ j k, j < k → k < snb μ → ad j + bln (sbk μ j) ≤ ad k)
def XR (h : sn_H) (μ : sn_S) : Prop := WS μ ∧ ∃ fl fb ad ru cv, XO h μ fl fb ad ru cv
