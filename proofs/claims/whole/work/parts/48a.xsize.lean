/-! HOW MUCH THE CELLS GROW -/
def GB (h h' : sn_H) : Prop := h'.length ≤ h.length + 10 ∧ sn_hs h' ≤ sn_hs h + 5000
theorem GB.refl (h : sn_H) : GB h h := ⟨by omega, by omega⟩
theorem sn_hs_eq {h h' : sn_H} (hl : ∀ i : Nat, (h'[i]?).map sn_sl = (h[i]?).map sn_sl) : sn_hs h' = sn_hs h := by
  unfold sn_hs
  congr 1
  apply List.ext_getElem?
  intro i
  rw [List.getElem?_map, List.getElem?_map]
  exact hl i
theorem sn_hs_appL (h L : sn_H) : sn_hs (h ++ L) = sn_hs h + sn_hs L := by simp [sn_hs]
theorem bex_len {b b' : sn_Bk} {ad ad' : Nat} (hk : bk b' = bk b) : (bex b' ad').length = (bex b ad).length := by
  unfold bex
  rw [hk]
  by_cases e3 : bk b = 3
  · rw [if_pos e3, if_pos e3]; rfl
  · rw [if_neg e3, if_neg e3]
    by_cases e4 : bk b = 4
    · rw [if_pos e4, if_pos e4]; rfl
    · rw [if_neg e4, if_neg e4]
      by_cases e5 : bk b = 5
      · rw [if_pos e5, if_pos e5]; rfl
      · rw [if_neg e5, if_neg e5]
theorem BR.sl {h h' : sn_H} {w w' : sn_Lw} {b b' : sn_Bk} {ad ru ru' c : Nat} (q : BR h w b ad ru) (q' : BR h' w' b' ad ru') (hk : bk b' = bk b) (h1 : ad ≤ c) (h2 : c < ad + bln b) : (h'[c]?).map sn_sl = (h[c]?).map sn_sl := by
  obtain ⟨⟨hB, _⟩, ⟨f1, hN, _⟩, ⟨f2, hT, _⟩, hU, hF, hL, _⟩ := q
  obtain ⟨⟨hB', _⟩, ⟨f1', hN', _⟩, ⟨f2', hT', _⟩, hU', hF', hL', _⟩ := q'
  have hc : c = ad ∨ c = ad + 1 ∨ c = ad + 2 ∨ (ad + 3 ≤ c ∧ c < ad + bln b) := by omega
  rcases hc with rfl | rfl | rfl | ⟨h3, h4⟩
  · rw [hB, hB']
    show some ((bex b' c).length + 6) = some ((bex b c).length + 6)
    rw [bex_len hk]
  · rw [hN, hN']; rfl
  · rw [hT, hT']; rfl
  · unfold bln at h4
    by_cases e3 : bk b = 3
    · rw [if_pos e3] at h4
      obtain ⟨⟨g3, k3⟩, ⟨g4, k4⟩, ⟨g5, k5⟩, ⟨g6, k6⟩⟩ := hU e3
      obtain ⟨⟨g3', k3'⟩, ⟨g4', k4'⟩, ⟨g5', k5'⟩, ⟨g6', k6'⟩⟩ := hU' (hk.trans e3)
      have hc : c = ad + 3 ∨ c = ad + 4 ∨ c = ad + 5 ∨ c = ad + 6 := by omega
      rcases hc with rfl | rfl | rfl | rfl
      · rw [k3, k3']; rfl
      · rw [k4, k4']; rfl
      · rw [k5, k5']; rfl
      · rw [k6, k6']; rfl
    · rw [if_neg e3] at h4
      by_cases e4 : bk b = 4
      · rw [if_pos e4] at h4
        obtain ⟨⟨g3, k3⟩, ⟨g4, k4⟩, ⟨g5, k5⟩⟩ := hF e4
        obtain ⟨⟨g3', k3'⟩, ⟨g4', k4'⟩, ⟨g5', k5'⟩⟩ := hF' (hk.trans e4)
        have hc : c = ad + 3 ∨ c = ad + 4 ∨ c = ad + 5 := by omega
        rcases hc with rfl | rfl | rfl
        · rw [k3, k3']; rfl
        · rw [k4, k4']; rfl
        · rw [k5, k5']; rfl
      · rw [if_neg e4] at h4
        by_cases e5 : bk b = 5
        · rw [if_pos e5] at h4
          obtain ⟨⟨g3, k3, _⟩, ⟨g4, k4⟩⟩ := hL e5
          obtain ⟨⟨g3', k3', _⟩, ⟨g4', k4'⟩⟩ := hL' (hk.trans e5)
          have hc : c = ad + 3 ∨ c = ad + 4 := by omega
          rcases hc with rfl | rfl
          · rw [k3, k3']; rfl
          · rw [k4, k4']; rfl
        · rw [if_neg e5] at h4; omega
theorem GB.ag {h h' : sn_H} {w w' : sn_Lw} {b b' : sn_Bk} {ad ru ru' : Nat} (q : BR h w b ad ru) (q' : BR h' w' b' ad ru') (hk : bk b' = bk b) (g : AG h h' ad (bln b)) : GB h h' := by
  refine ⟨by rw [g.1]; omega, ?_⟩
  rw [sn_hs_eq (h := h) (h' := h') (fun i => ?_)]
  · omega
  · by_cases e : i < ad ∨ ad + bln b ≤ i
    · rw [g.2 i e]
    · exact q.sl q' hk (by omega) (by omega)
theorem BR.len {h : sn_H} {w : sn_Lw} {b : sn_Bk} {ad ru : Nat} (q : BR h w b ad ru) : ad + bln b ≤ h.length := by
  have h3 := bln_3 b
  have key : ad + (bln b - 1) < h.length := by
    rcases q.cells (c := ad + (bln b - 1)) (by omega) (by omega) with ⟨_, k⟩ | ⟨_, _, _, k⟩ | ⟨_, _, _, k⟩ <;> exact cell_lt k
  omega
