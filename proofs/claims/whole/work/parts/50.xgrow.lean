/-! THE CELLS GROW -/
/-- old cells stay, but for the class's own object and its rows of laws and books -/
def GR (h h' : sn_H) : Prop := ∀ i, (i = 0 ∨ 4 ≤ i) → i < h.length → h'[i]? = h[i]?
theorem GR.at {h h' : sn_H} (g : GR h h') {i : Nat} {z : _} (hi : 4 ≤ i) (e : h[i]? = some z) : h'[i]? = some z := by rw [g i (Or.inr hi) (cell_lt e)]; exact e
theorem IR.gr {h h' : sn_H} (g : GR h h') {a n : Nat} (ha : 4 ≤ a) (q : IR h a n) : IR h' a n := by
  obtain ⟨f, e⟩ := q; exact ⟨f, g.at ha e⟩
theorem JR.gr {h h' : sn_H} (g : GR h h') {a n : Nat} (ha : 4 ≤ a) (q : JR h a n) : JR h' a n := by
  obtain ⟨f, e⟩ := q; exact ⟨f, g.at ha e⟩
theorem CV.gr {h h' : sn_H} (g : GR h h') {v : Value} (q : CV h v) : CV h' v := by
  rcases q with e | ⟨c, e1, e2, e3, e4⟩
  · exact Or.inl e
  · exact Or.inr ⟨c, e1, e2, g.at (Nat.le_trans (by decide) e2) e3, e4.gr g (Nat.le_trans (by decide) (Nat.le_succ_of_le e2))⟩
/-- the class's first cells, by their contents -/
def C3 (h : sn_H) : Prop := (∃ fs, h[1]? = some (.inr (0, fs))) ∧ (∃ f, h[2]? = some (.inl (3, 8, f))) ∧ ∃ f, h[3]? = some (.inl (4, 8, f))
theorem GR.law {h h' : sn_H} (g : GR h h') (c : C3 h) {a : Nat} {fs} (e : h[a]? = some (.inr (2, fs))) : h'[a]? = some (.inr (2, fs)) := by
  obtain ⟨⟨f1, e1⟩, ⟨f2, e2⟩, ⟨f3, e3⟩⟩ := c
  have k1 : a ≠ 1 := fun q => by
    rw [q, e1] at e
    have := congrArg (fun z => match z with | some (.inr (i, _)) => i | _ => 0) e
    simp at this
  have k2 : a ≠ 2 := fun q => by rw [q, e2] at e; cases e
  have k3 : a ≠ 3 := fun q => by rw [q, e3] at e; cases e
  rw [g a (by omega) (cell_lt e)]; exact e
theorem GR.rul {h h' : sn_H} (g : GR h h') (c : C3 h) {a n : Nat} {f} (hn : n ≠ 8) (e : h[a]? = some (.inl (3, n, f))) : h'[a]? = some (.inl (3, n, f)) := by
  obtain ⟨⟨f1, e1⟩, ⟨f2, e2⟩, ⟨f3, e3⟩⟩ := c
  have k1 : a ≠ 1 := fun q => by rw [q, e1] at e; cases e
  have k2 : a ≠ 2 := fun q => by
    rw [q, e2] at e
    have := congrArg (fun z => match z with | some (.inl (_, i, _)) => i | _ => 0) e
    simp at this
    omega
  have k3 : a ≠ 3 := fun q => by
    rw [q, e3] at e
    have := congrArg (fun z => match z with | some (.inl (i, _, _)) => i | _ => 0) e
    simp at this
  rw [g a (by omega) (cell_lt e)]; exact e
theorem BR.gr {h h' : sn_H} {w w' : sn_Lw} {b : sn_Bk} {ad ru nl : Nat} (q : BR h w b ad ru) (hb : WB nl b) (h27 : 27 ≤ ad) (c : C3 h) (g : GR h h') (hw : ∀ j, j < pcnt (bl b) → w'.2.1 (nth (bl b) j) = w.2.1 (nth (bl b) j) ∧ w'.2.2 (nth (bl b) j) = w.2.2 (nth (bl b) j)) : BR h' w' b ad ru := by
  obtain ⟨⟨hB, fr, hF, hfr⟩, ⟨f1, hN, hn⟩, ⟨f2, hT, ht⟩, hU, hFo, hL, h0⟩ := q
  have hp := hb.2.2.2.2.1
  refine ⟨⟨g.at (by omega) hB, fr, g.rul c (by omega) hF, fun j hj => ?_⟩, ⟨f1, g.at (by omega) hN, hn⟩, ⟨f2, g.at (by omega) hT, ht⟩, fun e => ?_, fun e => ?_, fun e => ?_, h0⟩
  · obtain ⟨a, e1, e2⟩ := hfr j hj
    obtain ⟨x1, x2⟩ := hw j hj
    exact ⟨a, e1, by rw [x1, x2]; exact g.law c e2⟩
  · obtain ⟨k3, k4, k5, k6⟩ := hU e
    exact ⟨k3.gr g (by omega), k4.gr g (by omega), k5.gr g (by omega), k6.gr g (by omega)⟩
  · obtain ⟨k3, k4, k5⟩ := hFo e
    exact ⟨k3.gr g (by omega), k4.gr g (by omega), k5.gr g (by omega)⟩
  · obtain ⟨⟨g3, k3, k⟩, k4⟩ := hL e
    exact ⟨⟨g3, g.at (by omega) k3, k⟩, k4.gr g (by omega)⟩
