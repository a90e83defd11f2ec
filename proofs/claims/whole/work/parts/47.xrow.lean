/-! A ROW OF A BOOK IS WRITTEN ANEW -/
theorem BR.row1 {h h' : sn_H} {w : sn_Lw} {b : sn_Bk} {ad ru : Nat} (q : BR h w b ad ru) (g : AG h h' (ad + 1) 1) {f' : Nat → Int32} {g' : Nat → Nat} (hf : h'[ad + 1]? = some (.inl (0, 32, .inl f'))) (hg : ∀ i, i < 32 → f' i = nI (g' i)) : BR h' w (bnu b g') ad ru := by
  have h3 := bln_3 b
  have ne : ∀ c, c ≠ ad + 1 → h'[c]? = h[c]? := fun c hc => g.2 c (by omega)
  have q0 := q
  obtain ⟨_, _, hr⟩ := q.1.2.cell
  obtain ⟨⟨hB, hRU⟩, _, ⟨f2, hT, ht⟩, hE⟩ := q
  exact ⟨⟨by rw [ne ad (by omega)]; exact hB, hRU.ag (g.mono (a' := ad) (n' := bln b) (by omega) (by omega)) (q0.out3 hr) (fun c f hc => q0.out2 hc)⟩, ⟨f', hf, hg⟩, ⟨f2, by rw [ne _ (by omega)]; exact hT, ht⟩, EX.ne (b := bnu b g') hE (fun c hc => ne c (by omega))⟩
/-- a Pushed's own rows: what they hold is free -/
theorem BR.rowU {h h' : sn_H} {w : sn_Lw} {b : sn_Bk} {ad ru : Nat} (q : BR h w b ad ru) (h3 : bk b = 3) (g : AG h h' (ad + 3) 4) (k3 : IR h' (ad + 3) 32) (k4 : IR h' (ad + 4) 32) (k5 : IR h' (ad + 5) 6) (k6 : IR h' (ad + 6) 32) : BR h' w b ad ru := by
  have e7 : bln b = 7 := if_pos h3
  have ne : ∀ c, c < ad + 3 → h'[c]? = h[c]? := fun c hc => g.2 c (by omega)
  have q0 := q
  obtain ⟨_, _, hr⟩ := q.1.2.cell
  obtain ⟨⟨hB, hRU⟩, ⟨f1, hN, hn⟩, ⟨f2, hT, ht⟩, hU, hF, hL, h0⟩ := q
  exact ⟨⟨by rw [ne ad (by omega)]; exact hB, hRU.ag (g.mono (a' := ad) (n' := bln b) (by omega) (by omega)) (q0.out3 hr) (fun c f hc => q0.out2 hc)⟩, ⟨f1, by rw [ne _ (by omega)]; exact hN, hn⟩, ⟨f2, by rw [ne _ (by omega)]; exact hT, ht⟩, fun _ => ⟨k3, k4, k5, k6⟩, fun e => absurd e (by omega), fun e => absurd e (by omega), h0⟩
theorem IR.ne {h h' : sn_H} {a n : Nat} (q : IR h a n) (e : h'[a]? = h[a]?) : IR h' a n := by
  obtain ⟨f, k⟩ := q
  exact ⟨f, by rw [e]; exact k⟩
theorem BR.before {h : sn_H} {w : sn_Lw} {b : sn_Bk} {ad ru : Nat} (q : BR h w b ad ru) (h3 : bk b = 3) (f : Nat → Int32) : BR (h.set (ad + 3) (.inl (0, 32, .inl f))) w b ad ru := by
  obtain ⟨⟨_, k3⟩, k4, k5, k6⟩ := q.2.2.2.1 h3
  exact q.rowU h3 (AG.set h _ (by omega) (by omega)) ⟨_, List.getElem?_set_self (cell_lt k3)⟩ (k4.ne (List.getElem?_set_ne (by omega))) (k5.ne (List.getElem?_set_ne (by omega))) (k6.ne (List.getElem?_set_ne (by omega)))
theorem BR.trial {h : sn_H} {w : sn_Lw} {b : sn_Bk} {ad ru : Nat} (q : BR h w b ad ru) (h3 : bk b = 3) (f : Nat → Int32) : BR (h.set (ad + 4) (.inl (0, 32, .inl f))) w b ad ru := by
  obtain ⟨k3, ⟨_, k4⟩, k5, k6⟩ := q.2.2.2.1 h3
  exact q.rowU h3 (AG.set h _ (by omega) (by omega)) (k3.ne (List.getElem?_set_ne (by omega))) ⟨_, List.getElem?_set_self (cell_lt k4)⟩ (k5.ne (List.getElem?_set_ne (by omega))) (k6.ne (List.getElem?_set_ne (by omega)))
theorem BR.line {h : sn_H} {w : sn_Lw} {b : sn_Bk} {ad ru : Nat} (q : BR h w b ad ru) (h3 : bk b = 3) (f : Nat → Int32) : BR (h.set (ad + 5) (.inl (0, 6, .inl f))) w b ad ru := by
  obtain ⟨k3, k4, ⟨_, k5⟩, k6⟩ := q.2.2.2.1 h3
  exact q.rowU h3 (AG.set h _ (by omega) (by omega)) (k3.ne (List.getElem?_set_ne (by omega))) (k4.ne (List.getElem?_set_ne (by omega))) ⟨_, List.getElem?_set_self (cell_lt k5)⟩ (k6.ne (List.getElem?_set_ne (by omega)))
theorem BR.group {h : sn_H} {w : sn_Lw} {b : sn_Bk} {ad ru : Nat} (q : BR h w b ad ru) (h3 : bk b = 3) (f : Nat → Int32) : BR (h.set (ad + 6) (.inl (0, 32, .inl f))) w b ad ru := by
  obtain ⟨k3, k4, k5, ⟨_, k6⟩⟩ := q.2.2.2.1 h3
  exact q.rowU h3 (AG.set h _ (by omega) (by omega)) (k3.ne (List.getElem?_set_ne (by omega))) (k4.ne (List.getElem?_set_ne (by omega))) (k5.ne (List.getElem?_set_ne (by omega))) ⟨_, List.getElem?_set_self (cell_lt k6)⟩
