/-! A NUMBER OR A TIME OF A BOOK CHANGES -/
theorem bln_3 (b : sn_Bk) : 3 ≤ bln b := by unfold bln; split; omega; split; omega; split <;> omega
theorem EX.ne {h h' : sn_H} {b : sn_Bk} {ad : Nat} (q : EX h b ad) (g : ∀ c, ad + 3 ≤ c → h'[c]? = h[c]?) : EX h' b ad := by
  obtain ⟨hU, hF, hL, h0⟩ := q
  refine ⟨fun e => ?_, fun e => ?_, fun e => ?_, h0⟩
  · obtain ⟨⟨g3, k3⟩, ⟨g4, k4⟩, ⟨g5, k5⟩, ⟨g6, k6⟩⟩ := hU e
    exact ⟨⟨g3, by rw [g _ (by omega)]; exact k3⟩, ⟨g4, by rw [g _ (by omega)]; exact k4⟩, ⟨g5, by rw [g _ (by omega)]; exact k5⟩, ⟨g6, by rw [g _ (by omega)]; exact k6⟩⟩
  · obtain ⟨⟨g3, k3⟩, ⟨g4, k4⟩, ⟨g5, k5⟩⟩ := hF e
    exact ⟨⟨g3, by rw [g _ (by omega)]; exact k3⟩, ⟨g4, by rw [g _ (by omega)]; exact k4⟩, ⟨g5, by rw [g _ (by omega)]; exact k5⟩⟩
  · obtain ⟨⟨g3, k3, k⟩, ⟨g4, k4⟩⟩ := hL e
    exact ⟨⟨g3, by rw [g _ (by omega)]; exact k3, k⟩, ⟨g4, by rw [g _ (by omega)]; exact k4⟩⟩
theorem cell_lt {h : sn_H} {c : Nat} {z : _} (e : h[c]? = some z) : c < h.length := by
  by_cases q : c < h.length
  · exact q
  · rw [List.getElem?_eq_none (by omega)] at e; cases e
theorem BR.num {h : sn_H} {w : sn_Lw} {b : sn_Bk} {ad ru : Nat} (q : BR h w b ad ru) {f : Nat → Int32} (hf : h[ad + 1]? = some (.inl (0, 32, .inl f))) {i v : Nat} {x : Int32} (ex : x = nI v) : BR (h.set (ad + 1) (.inl (0, 32, .inl (upd f i x)))) w (bnu b (uN (bn b) i v)) ad ru := by
  subst ex
  have h3 := bln_3 b
  have ne : ∀ c, c ≠ ad + 1 → (h.set (ad + 1) (.inl (0, 32, .inl (upd f i (nI v)))))[c]? = h[c]? := fun c hc => List.getElem?_set_ne (by omega)
  have q0 := q
  obtain ⟨_, _, hr⟩ := q.1.2.cell
  obtain ⟨⟨hB, hRU⟩, ⟨f1, hN, hn⟩, ⟨f2, hT, ht⟩, hE⟩ := q
  have ef : f = f1 := by rw [hf] at hN; cases hN; rfl
  refine ⟨⟨by rw [ne ad (by omega)]; exact hB, hRU.ag (AG.set h (a := ad) (n := bln b) _ (by omega) (by omega)) (q0.out3 hr) (fun c f hc => q0.out2 hc)⟩, ⟨upd f i (nI v), List.getElem?_set_self (cell_lt hf), fun j hj => ?_⟩, ⟨f2, by rw [ne _ (by omega)]; exact hT, ht⟩, EX.ne (b := bnu b (uN (bn b) i v)) hE (fun c hc => ne c (by omega))⟩
  show upd f i (nI v) j = nI (uN (bn b) i v j)
  unfold uN
  by_cases e : j = i
  · subst e; rw [if_pos rfl]; exact pk_us
  · rw [if_neg e, pk_un e, ef]; exact hn j hj
theorem BR.tim {h : sn_H} {w : sn_Lw} {b : sn_Bk} {ad ru : Nat} (q : BR h w b ad ru) {f : Nat → Int32} (hf : h[ad + 2]? = some (.inl (0, 32, .inl f))) {i v : Nat} {x : Int32} (ex : x = nI v) : BR (h.set (ad + 2) (.inl (0, 32, .inl (upd f i x)))) w (btu b (uN (bt b) i v)) ad ru := by
  subst ex
  have h3 := bln_3 b
  have ne : ∀ c, c ≠ ad + 2 → (h.set (ad + 2) (.inl (0, 32, .inl (upd f i (nI v)))))[c]? = h[c]? := fun c hc => List.getElem?_set_ne (by omega)
  have q0 := q
  obtain ⟨_, _, hr⟩ := q.1.2.cell
  obtain ⟨⟨hB, hRU⟩, ⟨f1, hN, hn⟩, ⟨f2, hT, ht⟩, hE⟩ := q
  have ef : f = f2 := by rw [hf] at hT; cases hT; rfl
  refine ⟨⟨by rw [ne ad (by omega)]; exact hB, hRU.ag (AG.set h (a := ad) (n := bln b) _ (by omega) (by omega)) (q0.out3 hr) (fun c f hc => q0.out2 hc)⟩, ⟨f1, by rw [ne _ (by omega)]; exact hN, hn⟩, ⟨upd f i (nI v), List.getElem?_set_self (cell_lt hf), fun j hj => ?_⟩, EX.ne (b := btu b (uN (bt b) i v)) hE (fun c hc => ne c (by omega))⟩
  show upd f i (nI v) j = nI (uN (bt b) i v j)
  unfold uN
  by_cases e : j = i
  · subst e; rw [if_pos rfl]; exact pk_us
  · rw [if_neg e, pk_un e, ef]; exact ht j hj
