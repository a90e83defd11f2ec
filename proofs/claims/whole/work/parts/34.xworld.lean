/-! THE CLASS'S CELLS -/
/-- the laws of a book, as its ruling row holds them -/
def RU (h : sn_H) (w : sn_Lw) (l ru : Nat) : Prop := ∃ fr : Nat → Option Nat, h[ru]? = some (.inl (3, pcnt l, .inr (.inr (.inr (.inr fr))))) ∧ ∀ j, j < pcnt l → ∃ a, fr j = some a ∧ h[a]? = some (.inr (2, [.int (nI (w.2.1 (nth l j))), .int (nI (w.2.2 (nth l j)))]))
/-- a book's own fields, behind them those of its kind -/
def bfs (b : sn_Bk) (ad ru : Nat) (ex : List Value) : List Value := .int (nI (bk b)) :: .int (nI (bm b)) :: .int (nI (bl b)) :: .ref ru :: .ref (ad + 1) :: .ref (ad + 2) :: ex
def BO (h : sn_H) (w : sn_Lw) (b : sn_Bk) (ad ru : Nat) (ex : List Value) : Prop := h[ad]? = some (.inr (bk b + 3, bfs b ad ru ex)) ∧ RU h w (bl b) ru
def NU (h : sn_H) (b : sn_Bk) (ad : Nat) : Prop := ∃ f : Nat → Int32, h[ad + 1]? = some (.inl (0, 32, .inl f)) ∧ ∀ i, i < 32 → f i = nI (bn b i)
def TI (h : sn_H) (b : sn_Bk) (ad : Nat) : Prop := ∃ f : Nat → Int32, h[ad + 2]? = some (.inl (0, 32, .inl f)) ∧ ∀ i, i < 32 → f i = nI (bt b i)
/-- the fields of its kind, and their rows -/
def bex (b : sn_Bk) (ad : Nat) : List Value := if bk b = 3 then [.ref (ad + 3), .ref (ad + 4), .ref (ad + 5), .ref (ad + 6)] else if bk b = 4 then [.ref (ad + 3), .ref (ad + 4), .ref (ad + 5)] else if bk b = 5 then [.ref (ad + 3), .ref (ad + 4), .int (nI (bc b))] else []
def IR (h : sn_H) (a n : Nat) : Prop := ∃ f : Nat → Int32, h[a]? = some (.inl (0, n, .inl f))
def JR (h : sn_H) (a n : Nat) : Prop := ∃ f : Nat → Int64, h[a]? = some (.inl (1, n, .inr (.inl f)))
def RW (h : sn_H) (b : sn_Bk) (ad : Nat) : Prop := ∃ f : Nat → Int64, h[ad + 3]? = some (.inl (1, 6, .inr (.inl f))) ∧ ∀ i, i < bc b → f i = lN (br b i)
def EX (h : sn_H) (b : sn_Bk) (ad : Nat) : Prop := (bk b = 3 → IR h (ad + 3) 32 ∧ IR h (ad + 4) 32 ∧ IR h (ad + 5) 6 ∧ IR h (ad + 6) 32) ∧ (bk b = 4 → JR h (ad + 3) 32 ∧ IR h (ad + 4) 32 ∧ IR h (ad + 5) 32) ∧ (bk b = 5 → RW h b ad ∧ JR h (ad + 4) 6) ∧ (bk b ≠ 5 → bc b = 0)
/-- a book, whole -/
def BR (h : sn_H) (w : sn_Lw) (b : sn_Bk) (ad ru : Nat) : Prop := BO h w b ad ru (bex b ad) ∧ NU h b ad ∧ TI h b ad ∧ EX h b ad
