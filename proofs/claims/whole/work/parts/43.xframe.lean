/-! WHAT STAYS WHEN A BOOK CHANGES -/
/-- alike outside of n cells from a on -/
def AG (h h' : sn_H) (a n : Nat) : Prop := h'.length = h.length ∧ ∀ i, (i < a ∨ a + n ≤ i) → h'[i]? = h[i]?
theorem AG.refl (h : sn_H) (a n : Nat) : AG h h a n := ⟨rfl, fun _ _ => rfl⟩
theorem AG.trans {h h1 h2 : sn_H} {a n : Nat} (p : AG h h1 a n) (q : AG h1 h2 a n) : AG h h2 a n := ⟨q.1.trans p.1, fun i hi => (q.2 i hi).trans (p.2 i hi)⟩
theorem AG.mono {h h' : sn_H} {a n a' n' : Nat} (p : AG h h' a n) (h1 : a' ≤ a) (h2 : a + n ≤ a' + n') : AG h h' a' n' := ⟨p.1, fun i hi => p.2 i (by omega)⟩
theorem AG.set (h : sn_H) {a n i : Nat} (c : _) (h1 : a ≤ i) (h2 : i < a + n) : AG h (h.set i c) a n := ⟨by simp, fun j hj => by rw [List.getElem?_set_ne (by omega)]⟩
/-- what lies in the cells of a book -/
theorem BR.cells {h : sn_H} {w : sn_Lw} {b : sn_Bk} {ad ru c : Nat} (q : BR h w b ad ru) (h1 : ad ≤ c) (h2 : c < ad + bln b) : (∃ fs, h[c]? = some (.inr (bk b + 3, fs))) ∨ (∃ n f, n ≤ 32 ∧ h[c]? = some (.inl (0, n, .inl f))) ∨ ∃ n f, n ≤ 32 ∧ h[c]? = some (.inl (1, n, .inr (.inl f))) := by
  obtain ⟨⟨hB, _⟩, ⟨f1, hN, _⟩, ⟨f2, hT, _⟩, hU, hF, hL, _⟩ := q
  have hc : c = ad ∨ c = ad + 1 ∨ c = ad + 2 ∨ (ad + 3 ≤ c ∧ c < ad + bln b) := by omega
  rcases hc with rfl | rfl | rfl | ⟨h3, h4⟩
  · exact Or.inl ⟨_, hB⟩
  · exact Or.inr (Or.inl ⟨_, _, by omega, hN⟩)
  · exact Or.inr (Or.inl ⟨_, _, by omega, hT⟩)
  · unfold bln at h4
    by_cases e3 : bk b = 3
    · rw [if_pos e3] at h4
      obtain ⟨⟨g3, k3⟩, ⟨g4, k4⟩, ⟨g5, k5⟩, ⟨g6, k6⟩⟩ := hU e3
      have hc : c = ad + 3 ∨ c = ad + 4 ∨ c = ad + 5 ∨ c = ad + 6 := by omega
      rcases hc with rfl | rfl | rfl | rfl
      · exact Or.inr (Or.inl ⟨_, _, by omega, k3⟩)
      · exact Or.inr (Or.inl ⟨_, _, by omega, k4⟩)
      · exact Or.inr (Or.inl ⟨_, _, by omega, k5⟩)
      · exact Or.inr (Or.inl ⟨_, _, by omega, k6⟩)
    · rw [if_neg e3] at h4
      by_cases e4 : bk b = 4
      · rw [if_pos e4] at h4
        obtain ⟨⟨g3, k3⟩, ⟨g4, k4⟩, ⟨g5, k5⟩⟩ := hF e4
        have hc : c = ad + 3 ∨ c = ad + 4 ∨ c = ad + 5 := by omega
        rcases hc with rfl | rfl | rfl
        · exact Or.inr (Or.inr ⟨_, _, by omega, k3⟩)
        · exact Or.inr (Or.inl ⟨_, _, by omega, k4⟩)
        · exact Or.inr (Or.inl ⟨_, _, by omega, k5⟩)
      · rw [if_neg e4] at h4
        by_cases e5 : bk b = 5
        · rw [if_pos e5] at h4
          obtain ⟨⟨g3, k3, _⟩, ⟨g4, k4⟩⟩ := hL e5
          have hc : c = ad + 3 ∨ c = ad + 4 := by omega
          rcases hc with rfl | rfl
          · exact Or.inr (Or.inr ⟨_, _, by omega, k3⟩)
          · exact Or.inr (Or.inr ⟨_, _, by omega, k4⟩)
        · rw [if_neg e5] at h4; omega
/-- rows of laws and laws are no cells of a book -/
theorem BR.out3 {h : sn_H} {w : sn_Lw} {b : sn_Bk} {ad ru c n : Nat} {f} (q : BR h w b ad ru) (hc : h[c]? = some (.inl (3, n, f))) : c < ad ∨ ad + bln b ≤ c := by
  by_cases e : c < ad ∨ ad + bln b ≤ c
  · exact e
  · rcases q.cells (c := c) (by omega) (by omega) with ⟨_, k⟩ | ⟨_, _, _, k⟩ | ⟨_, _, _, k⟩ <;> (rw [hc] at k; cases k)
theorem BR.out2 {h : sn_H} {w : sn_Lw} {b : sn_Bk} {ad ru c : Nat} {f} (q : BR h w b ad ru) (hc : h[c]? = some (.inr (2, f))) : c < ad ∨ ad + bln b ≤ c := by
  by_cases e : c < ad ∨ ad + bln b ≤ c
  · exact e
  · rcases q.cells (c := c) (by omega) (by omega) with ⟨_, k⟩ | ⟨_, _, _, k⟩ | ⟨_, _, _, k⟩
    · rw [hc] at k
      have k2 := congrArg (fun z => match z with | some (.inr (i, _)) => i | _ => 0) k
      simp at k2
    · rw [hc] at k; cases k
    · rw [hc] at k; cases k
theorem RU.ag {h h' : sn_H} {w : sn_Lw} {l ru a n : Nat} (q : RU h w l ru) (g : AG h h' a n) (h3 : ru < a ∨ a + n ≤ ru) (h2 : ∀ c f, h[c]? = some (.inr (2, f)) → c < a ∨ a + n ≤ c) : RU h' w l ru := by
  obtain ⟨fr, q1, q2⟩ := q
  refine ⟨fr, by rw [g.2 _ h3]; exact q1, fun j hj => ?_⟩
  obtain ⟨c, e1, e2⟩ := q2 j hj
  exact ⟨c, e1, by rw [g.2 _ (h2 c _ e2)]; exact e2⟩
theorem RU.cell {h : sn_H} {w : sn_Lw} {l ru : Nat} (q : RU h w l ru) : ∃ n f, h[ru]? = some (.inl (3, n, f)) := by
  obtain ⟨fr, q1, _⟩ := q
  exact ⟨_, _, q1⟩
/-- another book stays -/
theorem BR.ag {h h' : sn_H} {w : sn_Lw} {b b' : sn_Bk} {ad ru ad' ru' : Nat} (q : BR h w b ad ru) (q' : BR h w b' ad' ru') (g : AG h h' ad' (bln b')) (hd : ad + bln b ≤ ad' ∨ ad' + bln b' ≤ ad) : BR h' w b ad ru := by
  have hl : 3 ≤ bln b := by unfold bln; split; omega; split; omega; split <;> omega
  have key : ∀ c, ad ≤ c → c < ad + bln b → h'[c]? = h[c]? := fun c h1 h2 => g.2 c (by omega)
  obtain ⟨_, _, hr⟩ := q.1.2.cell
  obtain ⟨⟨hB, hRU⟩, ⟨f1, hN, hn⟩, ⟨f2, hT, ht⟩, hU, hF, hL, h0⟩ := q
  refine ⟨⟨by rw [key ad (by omega) (by omega)]; exact hB, hRU.ag g (q'.out3 hr) (fun c f hc => q'.out2 hc)⟩, ⟨f1, by rw [key _ (by omega) (by omega)]; exact hN, hn⟩, ⟨f2, by rw [key _ (by omega) (by omega)]; exact hT, ht⟩, fun e => ?_, fun e => ?_, fun e => ?_, h0⟩
  · have e7 : bln b = 7 := by unfold bln; rw [if_pos e]
    obtain ⟨⟨g3, k3⟩, ⟨g4, k4⟩, ⟨g5, k5⟩, ⟨g6, k6⟩⟩ := hU e
    exact ⟨⟨g3, by rw [key _ (by omega) (by omega)]; exact k3⟩, ⟨g4, by rw [key _ (by omega) (by omega)]; exact k4⟩, ⟨g5, by rw [key _ (by omega) (by omega)]; exact k5⟩, ⟨g6, by rw [key _ (by omega) (by omega)]; exact k6⟩⟩
  · have e7 : bln b = 6 := by unfold bln; rw [if_neg (by omega), if_pos e]
    obtain ⟨⟨g3, k3⟩, ⟨g4, k4⟩, ⟨g5, k5⟩⟩ := hF e
    exact ⟨⟨g3, by rw [key _ (by omega) (by omega)]; exact k3⟩, ⟨g4, by rw [key _ (by omega) (by omega)]; exact k4⟩, ⟨g5, by rw [key _ (by omega) (by omega)]; exact k5⟩⟩
  · have e7 : bln b = 5 := by unfold bln; rw [if_neg (by omega), if_neg (by omega), if_pos e]
    obtain ⟨⟨g3, k3, k⟩, ⟨g4, k4⟩⟩ := hL e
    exact ⟨⟨g3, by rw [key _ (by omega) (by omega)]; exact k3, k⟩, ⟨g4, by rw [key _ (by omega) (by omega)]; exact k4⟩⟩
theorem BR.out9 {h : sn_H} {w : sn_Lw} {b : sn_Bk} {nl ad ru c : Nat} {f} (q : BR h w b ad ru) (hb : WB nl b) (hc : h[c]? = some (.inr (9, f))) : c < ad ∨ ad + bln b ≤ c := by
  have h5 := hb.1
  by_cases e : c < ad ∨ ad + bln b ≤ c
  · exact e
  · rcases q.cells (c := c) (by omega) (by omega) with ⟨_, k⟩ | ⟨_, _, _, k⟩ | ⟨_, _, _, k⟩
    · rw [hc] at k
      have k2 := congrArg (fun z => match z with | some (.inr (i, _)) => i | _ => 0) k
      simp at k2
      omega
    · rw [hc] at k; cases k
    · rw [hc] at k; cases k
theorem BR.outJ {h : sn_H} {w : sn_Lw} {b : sn_Bk} {ad ru c : Nat} (q : BR h w b ad ru) (hc : JR h c 4096) : c < ad ∨ ad + bln b ≤ c := by
  obtain ⟨f, hc⟩ := hc
  by_cases e : c < ad ∨ ad + bln b ≤ c
  · exact e
  · rcases q.cells (c := c) (by omega) (by omega) with ⟨_, k⟩ | ⟨_, _, hn, k⟩ | ⟨_, _, hn, k⟩
    · rw [hc] at k; cases k
    · rw [hc] at k; cases k
    · rw [hc] at k
      have k2 := congrArg (fun z => match z with | some (.inl (_, i, _)) => i | _ => 0) k
      simp at k2
      omega
/-- one book changes, the others stay -/
theorem XO.chg {h h' : sn_H} {μ : sn_S} {fl fb : Nat → Option Nat} {ad ru : Nat → Nat} {cv : Value} (ws : WS μ) (o : XO h μ fl fb ad ru cv) {k : Nat} (hk : k < snb μ) {b' : sn_Bk} (hkd : bk b' = bk (sbk μ k)) (g : AG h h' (ad k) (bln (sbk μ k))) (q : BR h' (sw μ) b' (ad k) (ru k)) : XO h' (setB μ k b') fl fb ad ru cv := by
  obtain ⟨o1, o2, o3, o4, o5, o6, o7, o8⟩ := o
  obtain ⟨_, h27, qk⟩ := o7 k hk
  have low : ∀ i, i < 27 → h'[i]? = h[i]? := fun i hi => g.2 i (by omega)
  have hbl : ∀ j, bln (sbk (setB μ k b') j) = bln (sbk μ j) := by
    intro j
    by_cases e : j = k
    · subst e
      have : sbk (setB μ j b') j = b' := if_pos rfl
      rw [this]; unfold bln; rw [hkd]
    · have : sbk (setB μ k b') j = sbk μ j := if_neg e
      rw [this]
  refine ⟨by rw [low 1 (by omega)]; exact o1, by rw [low 2 (by omega)]; exact o2, by rw [low 3 (by omega)]; exact o3, ?_, ?_, ?_, ?_, ?_⟩
  · obtain ⟨f, e⟩ := o4
    exact ⟨f, by rw [low 4 (by omega)]; exact e⟩
  · rcases o5 with e | ⟨c, e1, e2, e3, e4⟩
    · exact Or.inl e
    · refine Or.inr ⟨c, e1, e2, by rw [g.2 _ (qk.out9 (ws.2.2 k hk) e3)]; exact e3, ?_⟩
      have e5 := qk.outJ e4
      obtain ⟨f, e6⟩ := e4
      exact ⟨f, by rw [g.2 _ e5]; exact e6⟩
  · intro l hl
    obtain ⟨a, e1, e2⟩ := o6 l hl
    exact ⟨a, e1, by rw [g.2 _ (qk.out2 e2)]; exact e2⟩
  · intro j hj
    obtain ⟨e1, e2, e3⟩ := o7 j hj
    refine ⟨e1, e2, ?_⟩
    by_cases e : j = k
    · subst e
      have : sbk (setB μ j b') j = b' := if_pos rfl
      rw [this]; exact q
    · have : sbk (setB μ k b') j = sbk μ j := if_neg e
      rw [this]
      refine e3.ag qk g ?_
      rcases Nat.lt_or_gt_of_ne e with x | x
      · exact Or.inl (o8 j k x hk)
      · exact Or.inr (o8 k j x hj)
  · intro i j hij hj
    rw [hbl i]
    exact o8 i j hij hj
