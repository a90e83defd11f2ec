/-! THE CLASS'S CELLS -/
/-- the laws of a book, as its ruling row holds them -/
def RU (h : sn_H) (w : sn_Lw) (l ru : Nat) : Prop := ∃ fr : Nat → Option Nat, h[ru]? = some (.inl (3, pcnt l, .inr (.inr (.inr (.inr fr))))) ∧ ∀ j, j < pcnt l → ∃ a, fr j = some a ∧ h[a]? = some (.inr (2, [.int (nI (w.2.1 (nth l j))), .int (nI (w.2.2 (nth l j)))]))
/-- a book's own fields, behind them those of its kind -/
def bfs (b : sn_Bk) (ad ru : Nat) (ex : List Value) : List Value := .int (nI (bk b)) :: .int (nI (bm b)) :: .int (nI (bl b)) :: .ref ru :: .ref (ad + 1) :: .ref (ad + 2) :: ex
def BO (h : sn_H) (w : sn_Lw) (b : sn_Bk) (ad ru : Nat) (ex : List Value) : Prop := h[ad]? = some (.inr (bk b + 3, bfs b ad ru ex)) ∧ RU h w (bl b) ru
def NU (h : sn_H) (b : sn_Bk) (ad : Nat) : Prop := ∃ f : Nat → Int32, h[ad + 1]? = some (.inl (0, 32, .inl f)) ∧ ∀ i, i < 32 → f i = nI (bn b i)
def TI (h : sn_H) (b : sn_Bk) (ad : Nat) : Prop := ∃ f : Nat → Int32, h[ad + 2]? = some (.inl (0, 32, .inl f)) ∧ ∀ i, i < 32 → f i = nI (bt b i)
